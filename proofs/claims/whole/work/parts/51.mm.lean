noncomputable def mm_find_L28 (S : md_S) : Option (Int32) :=
  some (-1)
noncomputable def mm_find_L20 (S : md_S) (x2 : Int32) : Option (Int32) :=
  some x2
noncomputable def mm_find_b2 (S : md_S) (x1 : Int32) (x2 : Int32) : Option ((Int32) ⊕ ((Int32) ⊕ (Unit))) :=
  if x2 < (S.1 87) then ((dc_ix x2 257).bind fun j1 => if (S.2.1 88 j1) = x1 then (some (.inr (.inl x2))) else (some (.inl (x2 + 1)))) else (some (.inr (.inr ())))
noncomputable def mm_find_s2 (S : md_S) (x1 : Int32) (q : Int32) : Option ((Int32) ⊕ ((Int32) ⊕ (Unit))) :=
  mm_find_b2 S x1 q
noncomputable def mm_find_L2 (S : md_S) (x1 : Int32) (x2 : Int32) : Option (Int32) :=
  (dc_it (mm_find_s2 S x1) x2).bind (Sum.elim (fun (z : Int32) => mm_find_L20 S z) (fun (z : Unit) => mm_find_L28 S))
noncomputable def mm_find (S : md_S) (p1 : Int32) : Option (Int32) :=
  mm_find_L2 S p1 0
set_option maxHeartbeats 4000000 in
set_option maxRecDepth 100000 in
/-- find(I)I -/
theorem mm_find_ok (l : Launch) (D : va_G) (ad : Nat → Nat) (de : Nat) (o : Nat) (a : Nat → Nat) (ca : Nat → ClassId) (S : md_S) (p1 : Int32) (F : Int32 → Prop) (h : dc_wp (mm_find S p1) F) : dc_Ci l ⟨"SignalEngineModel", "find", "(I)I"⟩ prog_15_method_84_code 3 (some (.int)) 0 0 D (md_T ca) ad de [.ref o, .int p1] (md_W o a ca S) (fun r w => ∃ q, F q ∧ r = q ∧ w = (md_W o a ca S)) 0 0 := by
  refine dc_enteri (by decide +kernel) (Nat.le_of_ble_eq_true rfl) ?_
  intro X hC hR
  have lab_28 : dc_wp (mm_find_L28 S) F → dc_G X l { frames := 0, cells := 0, slots := 0, locals := 0 } D 3 0 0 (md_W o a ca S) 28 [(0, .ref o)] [] := by
    intro  h
    delta mm_find_L28 at h
    refine dc_iconst (pc := 28) (v := (-1)) hC (show decode prog_15_method_84_code 28 = .ok (.iconst (-1), 1) by decide +kernel) (by decide +kernel) ?_
    exact dc_iret (pc := 29) hC hR ⟨_, dc_some h, rfl, rfl⟩ (show decode prog_15_method_84_code 29 = .ok (.ireturn, 1) by decide +kernel)
  have lab_20 : ∀ (x2 : Int32), dc_wp (mm_find_L20 S x2) F → dc_G X l { frames := 0, cells := 0, slots := 0, locals := 0 } D 3 0 0 (md_W o a ca S) 20 [(0, .ref o), (2, .int x2)] [] := by
    intro x2 h
    delta mm_find_L20 at h
    refine dc_iloadn (pc := 20) (j := 2) (i := 2) hC 1 rfl rfl (show decode prog_15_method_84_code 20 = .ok (.iload_n 2, 1) by decide +kernel) ?_
    exact dc_iret (pc := 21) hC hR ⟨_, dc_some h, rfl, rfl⟩ (show decode prog_15_method_84_code 21 = .ok (.ireturn, 1) by decide +kernel)
  have loop_2 : ∀ (x1 : Int32) (q : Int32), dc_wp (dc_it (mm_find_s2 S x1) q) (fun z => dc_wp ((Sum.elim (fun (z : Int32) => mm_find_L20 S z) (fun (z : Unit) => mm_find_L28 S)) z) F) → dc_G X l { frames := 0, cells := 0, slots := 0, locals := 0 } D 3 0 0 (md_W o a ca S) 2 [(0, .ref o), (1, .int x1), (2, .int q)] [] := by
    intro x1
    refine dc_loopF ?_
    intro F_2 hl_2 hr_2
    rintro x2 h
    have h : dc_wp (mm_find_b2 S x1 x2) F_2 := h
    delta mm_find_b2 at h
    refine dc_iloadn (pc := 2) (j := 2) (i := 2) hC 2 rfl rfl (show decode prog_15_method_84_code 2 = .ok (.iload_n 2, 1) by decide +kernel) ?_
    refine dc_aloadn (pc := 3) (j := 0) (i := 0) hC 0 rfl rfl (show decode prog_15_method_84_code 3 = .ok (.aload_n 0, 1) by decide +kernel) ?_
    refine md_g87 (pc := 4) hC (show decode prog_15_method_84_code 4 = .ok (.getfield 527, 3) by decide +kernel) ?_
    refine dc_icmp_ge (pc := 7) (tgt := 28) hC (show decode prog_15_method_84_code 7 = .ok (.if_icmp .ge 21, 3) by decide +kernel) (by decide +kernel) h ?_ ?_
    · intro h
      refine dc_aloadn (pc := 10) (j := 0) (i := 0) hC 0 rfl rfl (show decode prog_15_method_84_code 10 = .ok (.aload_n 0, 1) by decide +kernel) ?_
      refine md_g88 (pc := 11) hC (show decode prog_15_method_84_code 11 = .ok (.getfield 148, 3) by decide +kernel) ?_
      refine dc_iloadn (pc := 14) (j := 2) (i := 2) hC 2 rfl rfl (show decode prog_15_method_84_code 14 = .ok (.iload_n 2, 1) by decide +kernel) ?_
      refine md_l88 (pc := 15) hC (show decode prog_15_method_84_code 15 = .ok (.iaload, 1) by decide +kernel) h ?_
      intro j1 h
      refine dc_iloadn (pc := 16) (j := 1) (i := 1) hC 1 rfl rfl (show decode prog_15_method_84_code 16 = .ok (.iload_n 1, 1) by decide +kernel) ?_
      refine dc_icmp_ne (pc := 17) (tgt := 22) hC (show decode prog_15_method_84_code 17 = .ok (.if_icmp .ne 5, 3) by decide +kernel) (by decide +kernel) h ?_ ?_
      · intro h
        have h : dc_wp (mm_find_L20 S x2) F := hr_2 (.inl x2) (dc_some h)
        exact dc_sub [0, 2] rfl (lab_20 x2 h)
      · intro h
        refine dc_iinc (pc := 22) (i := 2) (v := (x2 + 1)) (lv' := [(2, .int (x2 + 1)), (0, .ref o), (1, .int x1)]) hC 2 rfl rfl (Nat.le_of_ble_eq_true rfl) rfl (show decode prog_15_method_84_code 22 = .ok (.iinc 2 1, 3) by decide +kernel) ?_
        refine dc_goto (pc := 25) (tgt := 2) hC (show decode prog_15_method_84_code 25 = .ok (.goto (-23), 3) by decide +kernel) (by decide +kernel) ?_
        exact dc_sub [1, 2, 0] rfl (hl_2 (x2 + 1) (dc_some h))
    · intro h
      have h : dc_wp (mm_find_L28 S) F := hr_2 (.inr ()) (dc_some h)
      exact dc_sub [0] rfl (lab_28 h)
  have lab_2 : ∀ (x1 : Int32) (x2 : Int32), dc_wp (mm_find_L2 S x1 x2) F → dc_G X l { frames := 0, cells := 0, slots := 0, locals := 0 } D 3 0 0 (md_W o a ca S) 2 [(0, .ref o), (1, .int x1), (2, .int x2)] [] := fun x1 x2 h => loop_2 x1 x2 (dc_bind h)
  show dc_G X l { frames := 0, cells := 0, slots := 0, locals := 0 } D 3 0 0 (md_W o a ca S) 0 [(0, .ref o), (1, .int p1)] []
  delta mm_find at h
  refine dc_iconst (pc := 0) (v := 0) hC (show decode prog_15_method_84_code 0 = .ok (.iconst 0, 1) by decide +kernel) (by decide +kernel) ?_
  refine dc_istoren (pc := 1) (j := 2) (i := 2) (lv' := [(2, .int 0), (0, .ref o), (1, .int p1)]) hC rfl (Nat.le_of_ble_eq_true rfl) rfl (show decode prog_15_method_84_code 1 = .ok (.istore_n 2, 1) by decide +kernel) ?_
  exact dc_sub [1, 2, 0] rfl (lab_2 p1 0 h)
noncomputable def mm_go_L34 (S : md_S) (x1 : Int32) (y0 : Int32) (y1 : Int32) : Option (md_S) :=
  (mm_fails S y1 y0).bind fun q1 => if q1.2 = 0 then ((mm_rest q1.1).bind fun q2 => (mm_place q2 x1).bind fun q3 => dc_let (md_i q3 82 1) fun S4 => some S4) else (some q1.1)
noncomputable def mm_go_L33 (S : md_S) (x1 : Int32) (y0 : Int32) : Option (md_S) :=
  mm_go_L34 S x1 0 y0
noncomputable def mm_go_L13 (S : md_S) (x1 : Int32) (y0 : Int32) : Option (md_S) :=
  if (S.1 85) = 0 then (mm_go_L33 S x1 y0) else ((mm_find S x1).bind fun q5 => if q5 = (-1) then (mm_go_L34 S x1 1 y0) else (mm_go_L33 S x1 y0))
noncomputable def mm_go (S : md_S) (p1 : Int32) : Option (md_S) :=
  if (S.1 85) = 0 then (mm_go_L13 S p1 1) else (mm_go_L13 S p1 0)
set_option maxHeartbeats 4000000 in
set_option maxRecDepth 100000 in
/-- go(I)V -/
theorem mm_go_ok (l : Launch) (D : va_G) (ad : Nat → Nat) (de : Nat) (o : Nat) (a : Nat → Nat) (ca : Nat → ClassId) (S : md_S) (p1 : Int32) (F : md_S → Prop) (h : dc_wp (mm_go S p1) F) : dc_Cv l ⟨"SignalEngineModel", "go", "(I)V"⟩ prog_15_method_86_code 2 none 1 22 D (md_T ca) ad de [.ref o, .int p1] (md_W o a ca S) (fun w => ∃ q, F q ∧ w = md_W o a ca q) 0 0 := by
  refine dc_enterv (by decide +kernel) (Nat.le_of_ble_eq_true rfl) ?_
  intro X hC hR
  have lab_34 : ∀ (S : md_S) (x1 : Int32) (y0 : Int32) (y1 : Int32), dc_wp (mm_go_L34 S x1 y0 y1) F → dc_G X l { frames := 1, cells := 0, slots := 0, locals := 22 } D 2 0 0 (md_W o a ca S) 34 [(0, .ref o), (1, .int x1)] [.int y0, .int y1, .ref o] := by
    intro S x1 y0 y1 h
    delta mm_go_L34 at h
    refine mc_Vmi (pc := 34) (As := [.int y1, .int y0]) (rest := []) hC vw_fails_615 (mm_fails_ok l D ad de o a ca S y1 y0) (Nat.le_of_ble_eq_true rfl) (Nat.le_of_ble_eq_true rfl) rfl (Nat.le_of_ble_eq_true rfl) (show decode prog_15_method_86_code 34 = .ok (.invokevirtual 615, 3) by decide +kernel) h ?_
    intro q1 h
    refine dc_if_eq (pc := 37) (tgt := 41) hC (show decode prog_15_method_86_code 37 = .ok (.ifCond .eq 4, 3) by decide +kernel) (by decide +kernel) h ?_ ?_
    · intro h
      refine dc_aloadn (pc := 41) (j := 0) (i := 0) hC 0 rfl rfl (show decode prog_15_method_86_code 41 = .ok (.aload_n 0, 1) by decide +kernel) ?_
      refine mc_Vmv (pc := 42) (As := []) (rest := []) hC vw_rest_619 (mm_rest_ok l D ad de o a ca q1.1) (Nat.le_of_ble_eq_true rfl) (Nat.le_of_ble_eq_true rfl) rfl (Nat.le_of_ble_eq_true rfl) (show decode prog_15_method_86_code 42 = .ok (.invokevirtual 619, 3) by decide +kernel) h ?_
      intro q2 h
      refine dc_aloadn (pc := 45) (j := 0) (i := 0) hC 0 rfl rfl (show decode prog_15_method_86_code 45 = .ok (.aload_n 0, 1) by decide +kernel) ?_
      refine dc_iloadn (pc := 46) (j := 1) (i := 1) hC 1 rfl rfl (show decode prog_15_method_86_code 46 = .ok (.iload_n 1, 1) by decide +kernel) ?_
      refine mc_Vmv (pc := 47) (As := [.int x1]) (rest := []) hC vw_place_622 (mm_place_ok l D ad de o a ca q2 x1) (Nat.le_of_ble_eq_true rfl) (Nat.le_of_ble_eq_true rfl) rfl (Nat.le_of_ble_eq_true rfl) (show decode prog_15_method_86_code 47 = .ok (.invokevirtual 622, 3) by decide +kernel) h ?_
      intro q3 h
      refine dc_aloadn (pc := 50) (j := 0) (i := 0) hC 0 rfl rfl (show decode prog_15_method_86_code 50 = .ok (.aload_n 0, 1) by decide +kernel) ?_
      refine dc_iconst (pc := 51) (v := 1) hC (show decode prog_15_method_86_code 51 = .ok (.iconst 1, 1) by decide +kernel) (by decide +kernel) ?_
      refine md_p82 (pc := 52) hC (show decode prog_15_method_86_code 52 = .ok (.putfield 545, 3) by decide +kernel) ?_
      refine dc_letS h ?_
      intro S4 h
      exact dc_vret (pc := 55) hC hR ⟨_, dc_some h, rfl⟩ (show decode prog_15_method_86_code 55 = .ok (.return_, 1) by decide +kernel)
    · intro h
      exact dc_vret (pc := 40) hC hR ⟨_, dc_some h, rfl⟩ (show decode prog_15_method_86_code 40 = .ok (.return_, 1) by decide +kernel)
  have lab_33 : ∀ (S : md_S) (x1 : Int32) (y0 : Int32), dc_wp (mm_go_L33 S x1 y0) F → dc_G X l { frames := 1, cells := 0, slots := 0, locals := 22 } D 2 0 0 (md_W o a ca S) 33 [(0, .ref o), (1, .int x1)] [.int y0, .ref o] := by
    intro S x1 y0 h
    delta mm_go_L33 at h
    refine dc_iconst (pc := 33) (v := 0) hC (show decode prog_15_method_86_code 33 = .ok (.iconst 0, 1) by decide +kernel) (by decide +kernel) ?_
    exact lab_34 S x1 0 y0 h
  have lab_13 : ∀ (S : md_S) (x1 : Int32) (y0 : Int32), dc_wp (mm_go_L13 S x1 y0) F → dc_G X l { frames := 1, cells := 0, slots := 0, locals := 22 } D 2 0 0 (md_W o a ca S) 13 [(0, .ref o), (1, .int x1)] [.int y0, .ref o] := by
    intro S x1 y0 h
    delta mm_go_L13 at h
    refine dc_aloadn (pc := 13) (j := 0) (i := 0) hC 0 rfl rfl (show decode prog_15_method_86_code 13 = .ok (.aload_n 0, 1) by decide +kernel) ?_
    refine md_g85 (pc := 14) hC (show decode prog_15_method_86_code 14 = .ok (.getfield 518, 3) by decide +kernel) ?_
    refine dc_if_eq (pc := 17) (tgt := 33) hC (show decode prog_15_method_86_code 17 = .ok (.ifCond .eq 16, 3) by decide +kernel) (by decide +kernel) h ?_ ?_
    · intro h
      exact lab_33 S x1 y0 h
    · intro h
      refine dc_aloadn (pc := 20) (j := 0) (i := 0) hC 0 rfl rfl (show decode prog_15_method_86_code 20 = .ok (.aload_n 0, 1) by decide +kernel) ?_
      refine dc_iloadn (pc := 21) (j := 1) (i := 1) hC 1 rfl rfl (show decode prog_15_method_86_code 21 = .ok (.iload_n 1, 1) by decide +kernel) ?_
      refine mc_Vpi (pc := 22) (As := [.int x1]) (rest := [.int y0, .ref o]) hC vw_find_631 (mm_find_ok l D ad de o a ca S x1) (Nat.le_of_ble_eq_true rfl) (Nat.le_of_ble_eq_true rfl) rfl (Nat.le_of_ble_eq_true rfl) (show decode prog_15_method_86_code 22 = .ok (.invokevirtual 631, 3) by decide +kernel) h ?_
      intro q5 h
      refine dc_iconst (pc := 25) (v := (-1)) hC (show decode prog_15_method_86_code 25 = .ok (.iconst (-1), 1) by decide +kernel) (by decide +kernel) ?_
      refine dc_icmp_ne (pc := 26) (tgt := 33) hC (show decode prog_15_method_86_code 26 = .ok (.if_icmp .ne 7, 3) by decide +kernel) (by decide +kernel) h ?_ ?_
      · intro h
        refine dc_iconst (pc := 29) (v := 1) hC (show decode prog_15_method_86_code 29 = .ok (.iconst 1, 1) by decide +kernel) (by decide +kernel) ?_
        refine dc_goto (pc := 30) (tgt := 34) hC (show decode prog_15_method_86_code 30 = .ok (.goto 4, 3) by decide +kernel) (by decide +kernel) ?_
        exact lab_34 S x1 1 y0 h
      · intro h
        exact lab_33 S x1 y0 h
  show dc_G X l { frames := 1, cells := 0, slots := 0, locals := 22 } D 2 0 0 (md_W o a ca S) 0 [(0, .ref o), (1, .int p1)] []
  delta mm_go at h
  refine dc_aloadn (pc := 0) (j := 0) (i := 0) hC 0 rfl rfl (show decode prog_15_method_86_code 0 = .ok (.aload_n 0, 1) by decide +kernel) ?_
  refine dc_aloadn (pc := 1) (j := 0) (i := 0) hC 0 rfl rfl (show decode prog_15_method_86_code 1 = .ok (.aload_n 0, 1) by decide +kernel) ?_
  refine md_g85 (pc := 2) hC (show decode prog_15_method_86_code 2 = .ok (.getfield 518, 3) by decide +kernel) ?_
  refine dc_if_ne (pc := 5) (tgt := 12) hC (show decode prog_15_method_86_code 5 = .ok (.ifCond .ne 7, 3) by decide +kernel) (by decide +kernel) h ?_ ?_
  · intro h
    refine dc_iconst (pc := 8) (v := 1) hC (show decode prog_15_method_86_code 8 = .ok (.iconst 1, 1) by decide +kernel) (by decide +kernel) ?_
    refine dc_goto (pc := 9) (tgt := 13) hC (show decode prog_15_method_86_code 9 = .ok (.goto 4, 3) by decide +kernel) (by decide +kernel) ?_
    exact lab_13 S p1 1 h
  · intro h
    refine dc_iconst (pc := 12) (v := 0) hC (show decode prog_15_method_86_code 12 = .ok (.iconst 0, 1) by decide +kernel) (by decide +kernel) ?_
    exact lab_13 S p1 0 h
noncomputable def mm_meet_L65 (S : md_S) (y0 : Int32) (y1 : Int32) : Option (md_S) :=
  (dc_ix y1 257).bind fun j1 => dc_let (md_a S 89 j1 y0) fun S2 => dc_let (md_i S2 87 ((S2.1 87) + 1)) fun S3 => some S3
noncomputable def mm_meet (S : md_S) (p1 : Int32) (p2 : Int32) (p3 : Int32) : Option (md_S) :=
  (mm_find S p1).bind fun q4 => if q4 = (-1) then ((dc_ix (S.1 87) 257).bind fun j5 => dc_let (md_a S 88 j5 p1) fun S6 => (dc_ix (S6.1 87) 257).bind fun j7 => dc_let (md_a S6 90 j7 p2) fun S8 => (dc_ix (S8.1 87) 257).bind fun j9 => dc_let (md_a S8 91 j9 p3) fun S10 => if p2 = (-1) then (mm_meet_L65 S10 0 (S10.1 87)) else ((dc_ix p2 257).bind fun j11 => mm_meet_L65 S10 ((S10.2.1 89 j11) + 1) (S10.1 87))) else (some S)
set_option maxHeartbeats 4000000 in
set_option maxRecDepth 100000 in
/-- meet(III)V -/
theorem mm_meet_ok (l : Launch) (D : va_G) (ad : Nat → Nat) (de : Nat) (o : Nat) (a : Nat → Nat) (ca : Nat → ClassId) (S : md_S) (p1 : Int32) (p2 : Int32) (p3 : Int32) (F : md_S → Prop) (h : dc_wp (mm_meet S p1 p2 p3) F) : dc_Cv l ⟨"SignalEngineModel", "meet", "(III)V"⟩ prog_15_method_87_code 4 none 1 22 D (md_T ca) ad de [.ref o, .int p1, .int p2, .int p3] (md_W o a ca S) (fun w => ∃ q, F q ∧ w = md_W o a ca q) 0 0 := by
  refine dc_enterv (by decide +kernel) (Nat.le_of_ble_eq_true rfl) ?_
  intro X hC hR
  have lab_65 : ∀ (S : md_S) (y0 : Int32) (y1 : Int32), dc_wp (mm_meet_L65 S y0 y1) F → dc_G X l { frames := 1, cells := 0, slots := 0, locals := 22 } D 4 0 0 (md_W o a ca S) 65 [(0, .ref o)] [.int y0, .int y1, .ref (a 89)] := by
    intro S y0 y1 h
    delta mm_meet_L65 at h
    refine md_s89 (pc := 65) hC (show decode prog_15_method_87_code 65 = .ok (.iastore, 1) by decide +kernel) h ?_
    intro j1 h
    refine dc_letS h ?_
    intro S2 h
    refine dc_aloadn (pc := 66) (j := 0) (i := 0) hC 0 rfl rfl (show decode prog_15_method_87_code 66 = .ok (.aload_n 0, 1) by decide +kernel) ?_
    refine dc_dup (pc := 67) hC (show decode prog_15_method_87_code 67 = .ok (.dup, 1) by decide +kernel) rfl ?_
    refine md_g87 (pc := 68) hC (show decode prog_15_method_87_code 68 = .ok (.getfield 527, 3) by decide +kernel) ?_
    refine dc_iconst (pc := 71) (v := 1) hC (show decode prog_15_method_87_code 71 = .ok (.iconst 1, 1) by decide +kernel) (by decide +kernel) ?_
    refine dc_iadd (pc := 72) hC (show decode prog_15_method_87_code 72 = .ok (.iadd, 1) by decide +kernel) ?_
    refine md_p87 (pc := 73) hC (show decode prog_15_method_87_code 73 = .ok (.putfield 527, 3) by decide +kernel) ?_
    refine dc_letS h ?_
    intro S3 h
    exact dc_vret (pc := 76) hC hR ⟨_, dc_some h, rfl⟩ (show decode prog_15_method_87_code 76 = .ok (.return_, 1) by decide +kernel)
  show dc_G X l { frames := 1, cells := 0, slots := 0, locals := 22 } D 4 0 0 (md_W o a ca S) 0 [(0, .ref o), (1, .int p1), (2, .int p2), (3, .int p3)] []
  delta mm_meet at h
  refine dc_aloadn (pc := 0) (j := 0) (i := 0) hC 0 rfl rfl (show decode prog_15_method_87_code 0 = .ok (.aload_n 0, 1) by decide +kernel) ?_
  refine dc_iloadn (pc := 1) (j := 1) (i := 1) hC 1 rfl rfl (show decode prog_15_method_87_code 1 = .ok (.iload_n 1, 1) by decide +kernel) ?_
  refine mc_Vpi (pc := 2) (As := [.int p1]) (rest := []) hC vw_find_631 (mm_find_ok l D ad de o a ca S p1) (Nat.le_of_ble_eq_true rfl) (Nat.le_of_ble_eq_true rfl) rfl (Nat.le_of_ble_eq_true rfl) (show decode prog_15_method_87_code 2 = .ok (.invokevirtual 631, 3) by decide +kernel) h ?_
  intro q4 h
  refine dc_iconst (pc := 5) (v := (-1)) hC (show decode prog_15_method_87_code 5 = .ok (.iconst (-1), 1) by decide +kernel) (by decide +kernel) ?_
  refine dc_icmp_eq (pc := 6) (tgt := 10) hC (show decode prog_15_method_87_code 6 = .ok (.if_icmp .eq 4, 3) by decide +kernel) (by decide +kernel) h ?_ ?_
  · intro h
    refine dc_aloadn (pc := 10) (j := 0) (i := 0) hC 0 rfl rfl (show decode prog_15_method_87_code 10 = .ok (.aload_n 0, 1) by decide +kernel) ?_
    refine md_g88 (pc := 11) hC (show decode prog_15_method_87_code 11 = .ok (.getfield 148, 3) by decide +kernel) ?_
    refine dc_aloadn (pc := 14) (j := 0) (i := 0) hC 0 rfl rfl (show decode prog_15_method_87_code 14 = .ok (.aload_n 0, 1) by decide +kernel) ?_
    refine md_g87 (pc := 15) hC (show decode prog_15_method_87_code 15 = .ok (.getfield 527, 3) by decide +kernel) ?_
    refine dc_iloadn (pc := 18) (j := 1) (i := 1) hC 1 rfl rfl (show decode prog_15_method_87_code 18 = .ok (.iload_n 1, 1) by decide +kernel) ?_
    refine md_s88 (pc := 19) hC (show decode prog_15_method_87_code 19 = .ok (.iastore, 1) by decide +kernel) h ?_
    intro j5 h
    refine dc_letS h ?_
    intro S6 h
    refine dc_aloadn (pc := 20) (j := 0) (i := 0) hC 0 rfl rfl (show decode prog_15_method_87_code 20 = .ok (.aload_n 0, 1) by decide +kernel) ?_
    refine md_g90 (pc := 21) hC (show decode prog_15_method_87_code 21 = .ok (.getfield 154, 3) by decide +kernel) ?_
    refine dc_aloadn (pc := 24) (j := 0) (i := 0) hC 0 rfl rfl (show decode prog_15_method_87_code 24 = .ok (.aload_n 0, 1) by decide +kernel) ?_
    refine md_g87 (pc := 25) hC (show decode prog_15_method_87_code 25 = .ok (.getfield 527, 3) by decide +kernel) ?_
    refine dc_iloadn (pc := 28) (j := 2) (i := 2) hC 2 rfl rfl (show decode prog_15_method_87_code 28 = .ok (.iload_n 2, 1) by decide +kernel) ?_
    refine md_s90 (pc := 29) hC (show decode prog_15_method_87_code 29 = .ok (.iastore, 1) by decide +kernel) h ?_
    intro j7 h
    refine dc_letS h ?_
    intro S8 h
    refine dc_aloadn (pc := 30) (j := 0) (i := 0) hC 0 rfl rfl (show decode prog_15_method_87_code 30 = .ok (.aload_n 0, 1) by decide +kernel) ?_
    refine md_g91 (pc := 31) hC (show decode prog_15_method_87_code 31 = .ok (.getfield 157, 3) by decide +kernel) ?_
    refine dc_aloadn (pc := 34) (j := 0) (i := 0) hC 0 rfl rfl (show decode prog_15_method_87_code 34 = .ok (.aload_n 0, 1) by decide +kernel) ?_
    refine md_g87 (pc := 35) hC (show decode prog_15_method_87_code 35 = .ok (.getfield 527, 3) by decide +kernel) ?_
    refine dc_iloadn (pc := 38) (j := 3) (i := 3) hC 3 rfl rfl (show decode prog_15_method_87_code 38 = .ok (.iload_n 3, 1) by decide +kernel) ?_
    refine md_s91 (pc := 39) hC (show decode prog_15_method_87_code 39 = .ok (.iastore, 1) by decide +kernel) h ?_
    intro j9 h
    refine dc_letS h ?_
    intro S10 h
    refine dc_aloadn (pc := 40) (j := 0) (i := 0) hC 0 rfl rfl (show decode prog_15_method_87_code 40 = .ok (.aload_n 0, 1) by decide +kernel) ?_
    refine md_g89 (pc := 41) hC (show decode prog_15_method_87_code 41 = .ok (.getfield 151, 3) by decide +kernel) ?_
    refine dc_aloadn (pc := 44) (j := 0) (i := 0) hC 0 rfl rfl (show decode prog_15_method_87_code 44 = .ok (.aload_n 0, 1) by decide +kernel) ?_
    refine md_g87 (pc := 45) hC (show decode prog_15_method_87_code 45 = .ok (.getfield 527, 3) by decide +kernel) ?_
    refine dc_iloadn (pc := 48) (j := 2) (i := 2) hC 2 rfl rfl (show decode prog_15_method_87_code 48 = .ok (.iload_n 2, 1) by decide +kernel) ?_
    refine dc_iconst (pc := 49) (v := (-1)) hC (show decode prog_15_method_87_code 49 = .ok (.iconst (-1), 1) by decide +kernel) (by decide +kernel) ?_
    refine dc_icmp_ne (pc := 50) (tgt := 57) hC (show decode prog_15_method_87_code 50 = .ok (.if_icmp .ne 7, 3) by decide +kernel) (by decide +kernel) h ?_ ?_
    · intro h
      refine dc_iconst (pc := 53) (v := 0) hC (show decode prog_15_method_87_code 53 = .ok (.iconst 0, 1) by decide +kernel) (by decide +kernel) ?_
      refine dc_goto (pc := 54) (tgt := 65) hC (show decode prog_15_method_87_code 54 = .ok (.goto 11, 3) by decide +kernel) (by decide +kernel) ?_
      exact dc_sub [0] rfl (lab_65 S10 0 (S10.1 87) h)
    · intro h
      refine dc_aloadn (pc := 57) (j := 0) (i := 0) hC 0 rfl rfl (show decode prog_15_method_87_code 57 = .ok (.aload_n 0, 1) by decide +kernel) ?_
      refine md_g89 (pc := 58) hC (show decode prog_15_method_87_code 58 = .ok (.getfield 151, 3) by decide +kernel) ?_
      refine dc_iloadn (pc := 61) (j := 2) (i := 2) hC 2 rfl rfl (show decode prog_15_method_87_code 61 = .ok (.iload_n 2, 1) by decide +kernel) ?_
      refine md_l89 (pc := 62) hC (show decode prog_15_method_87_code 62 = .ok (.iaload, 1) by decide +kernel) h ?_
      intro j11 h
      refine dc_iconst (pc := 63) (v := 1) hC (show decode prog_15_method_87_code 63 = .ok (.iconst 1, 1) by decide +kernel) (by decide +kernel) ?_
      refine dc_iadd (pc := 64) hC (show decode prog_15_method_87_code 64 = .ok (.iadd, 1) by decide +kernel) ?_
      exact dc_sub [0] rfl (lab_65 S10 ((S10.2.1 89 j11) + 1) (S10.1 87) h)
  · intro h
    exact dc_vret (pc := 9) hC hR ⟨_, dc_some h, rfl⟩ (show decode prog_15_method_87_code 9 = .ok (.return_, 1) by decide +kernel)
noncomputable def mm_differ_L128 (S : md_S) : Option (Int32) :=
  some 0
noncomputable def mm_differ_L120 (S : md_S) : Option (Int32) :=
  some 1
noncomputable def mm_differ_L122 (S : md_S) (x1 : Int32) (x2 : Int32) (x3 : Int32) : Option ((Int32) ⊕ ((Unit) ⊕ (Unit))) :=
  some (.inl (x3 + 1))
noncomputable def mm_differ_L87 (S : md_S) (x1 : Int32) (x2 : Int32) (x3 : Int32) (x4 : Int32) (y0 : Int32) (y1 : Int32) : Option ((Int32) ⊕ ((Unit) ⊕ (Unit))) :=
  if y1 = y0 then (if x4 < 0 then (mm_differ_L122 S x1 x2 x3) else ((dc_ix ((16 * x1) + x3) 4112).bind fun j1 => (dc_ix ((16 * x2) + x3) 4112).bind fun j2 => if (S.2.1 93 j1) = (S.2.1 93 j2) then (mm_differ_L122 S x1 x2 x3) else (some (.inr (.inl ()))))) else (some (.inr (.inl ())))
noncomputable def mm_differ_L74 (S : md_S) (x1 : Int32) (x2 : Int32) (x3 : Int32) (x4 : Int32) (x5 : Int32) (y0 : Int32) : Option ((Int32) ⊕ ((Unit) ⊕ (Unit))) :=
  if x5 = 257 then (mm_differ_L87 S x1 x2 x3 x4 1 y0) else (mm_differ_L87 S x1 x2 x3 x4 0 y0)
noncomputable def mm_differ_L58 (S : md_S) (x1 : Int32) (x2 : Int32) (x3 : Int32) (x4 : Int32) (x5 : Int32) (y0 : Int32) (y1 : Int32) : Option ((Int32) ⊕ ((Unit) ⊕ (Unit))) :=
  if y1 = y0 then (if x4 = 257 then (mm_differ_L74 S x1 x2 x3 x4 x5 1) else (mm_differ_L74 S x1 x2 x3 x4 x5 0)) else (some (.inr (.inl ())))
noncomputable def mm_differ_L48 (S : md_S) (x1 : Int32) (x2 : Int32) (x3 : Int32) (x4 : Int32) (x5 : Int32) (y0 : Int32) : Option ((Int32) ⊕ ((Unit) ⊕ (Unit))) :=
  if x5 < 0 then (mm_differ_L58 S x1 x2 x3 x4 x5 1 y0) else (mm_differ_L58 S x1 x2 x3 x4 x5 0 y0)
noncomputable def mm_differ_b2 (S : md_S) (x1 : Int32) (x2 : Int32) (x3 : Int32) : Option ((Int32) ⊕ ((Unit) ⊕ (Unit))) :=
  if x3 < ((1 : Int32) <<< ((S.1 45) &&& (31 : Int32))) then ((dc_ix ((16 * x1) + x3) 4112).bind fun j3 => dc_let ((S.2.1 92 j3) : Int32) fun v4 => (dc_ix ((16 * x2) + x3) 4112).bind fun j5 => dc_let ((S.2.1 92 j5) : Int32) fun v6 => if v4 < 0 then (mm_differ_L48 S x1 x2 x3 v4 v6 1) else (mm_differ_L48 S x1 x2 x3 v4 v6 0)) else (some (.inr (.inr ())))
noncomputable def mm_differ_s2 (S : md_S) (x1 : Int32) (x2 : Int32) (q : Int32) : Option ((Int32) ⊕ ((Unit) ⊕ (Unit))) :=
  mm_differ_b2 S x1 x2 q
noncomputable def mm_differ_L2 (S : md_S) (x1 : Int32) (x2 : Int32) (x3 : Int32) : Option (Int32) :=
  (dc_it (mm_differ_s2 S x1 x2) x3).bind (Sum.elim (fun (z : Unit) => mm_differ_L120 S) (fun (z : Unit) => mm_differ_L128 S))
noncomputable def mm_differ (S : md_S) (p1 : Int32) (p2 : Int32) : Option (Int32) :=
  mm_differ_L2 S p1 p2 0
set_option maxHeartbeats 4000000 in
set_option maxRecDepth 100000 in
/-- differ(II)Z -/
theorem mm_differ_ok (l : Launch) (D : va_G) (ad : Nat → Nat) (de : Nat) (o : Nat) (a : Nat → Nat) (ca : Nat → ClassId) (S : md_S) (p1 : Int32) (p2 : Int32) (F : Int32 → Prop) (h : dc_wp (mm_differ S p1 p2) F) : dc_Ci l ⟨"SignalEngineModel", "differ", "(II)Z"⟩ prog_15_method_91_code 6 (some (.boolean)) 0 0 D (md_T ca) ad de [.ref o, .int p1, .int p2] (md_W o a ca S) (fun r w => ∃ q, F q ∧ r = q ∧ w = (md_W o a ca S)) 0 0 := by
  refine dc_enteri (by decide +kernel) (Nat.le_of_ble_eq_true rfl) ?_
  intro X hC hR
  have lab_128 : dc_wp (mm_differ_L128 S) F → dc_G X l { frames := 0, cells := 0, slots := 0, locals := 0 } D 6 0 0 (md_W o a ca S) 128 [(0, .ref o)] [] := by
    intro  h
    delta mm_differ_L128 at h
    refine dc_iconst (pc := 128) (v := 0) hC (show decode prog_15_method_91_code 128 = .ok (.iconst 0, 1) by decide +kernel) (by decide +kernel) ?_
    exact dc_zret (pc := 129) hC hR (Or.inl rfl) ⟨_, dc_some h, rfl, rfl⟩ (show decode prog_15_method_91_code 129 = .ok (.ireturn, 1) by decide +kernel)
  have lab_120 : dc_wp (mm_differ_L120 S) F → dc_G X l { frames := 0, cells := 0, slots := 0, locals := 0 } D 6 0 0 (md_W o a ca S) 120 [(0, .ref o)] [] := by
    intro  h
    delta mm_differ_L120 at h
    refine dc_iconst (pc := 120) (v := 1) hC (show decode prog_15_method_91_code 120 = .ok (.iconst 1, 1) by decide +kernel) (by decide +kernel) ?_
    exact dc_zret (pc := 121) hC hR (Or.inr rfl) ⟨_, dc_some h, rfl, rfl⟩ (show decode prog_15_method_91_code 121 = .ok (.ireturn, 1) by decide +kernel)
  have loop_2 : ∀ (x1 : Int32) (x2 : Int32) (q : Int32), dc_wp (dc_it (mm_differ_s2 S x1 x2) q) (fun z => dc_wp ((Sum.elim (fun (z : Unit) => mm_differ_L120 S) (fun (z : Unit) => mm_differ_L128 S)) z) F) → dc_G X l { frames := 0, cells := 0, slots := 0, locals := 0 } D 6 0 0 (md_W o a ca S) 2 [(0, .ref o), (1, .int x1), (2, .int x2), (3, .int q)] [] := by
    intro x1 x2
    refine dc_loopF ?_
    intro F_2 hl_2 hr_2
    have lab_122 : ∀ (x3 : Int32), dc_wp (mm_differ_L122 S x1 x2 x3) F_2 → dc_G X l { frames := 0, cells := 0, slots := 0, locals := 0 } D 6 0 0 (md_W o a ca S) 122 [(0, .ref o), (1, .int x1), (2, .int x2), (3, .int x3)] [] := by
      intro x3 h
      delta mm_differ_L122 at h
      refine dc_iinc (pc := 122) (i := 3) (v := (x3 + 1)) (lv' := [(3, .int (x3 + 1)), (0, .ref o), (1, .int x1), (2, .int x2)]) hC 3 rfl rfl (Nat.le_of_ble_eq_true rfl) rfl (show decode prog_15_method_91_code 122 = .ok (.iinc 3 1, 3) by decide +kernel) ?_
      refine dc_goto (pc := 125) (tgt := 2) hC (show decode prog_15_method_91_code 125 = .ok (.goto (-123), 3) by decide +kernel) (by decide +kernel) ?_
      exact dc_sub [1, 2, 3, 0] rfl (hl_2 (x3 + 1) (dc_some h))
    have lab_87 : ∀ (x3 : Int32) (x4 : Int32) (y0 : Int32) (y1 : Int32), dc_wp (mm_differ_L87 S x1 x2 x3 x4 y0 y1) F_2 → dc_G X l { frames := 0, cells := 0, slots := 0, locals := 0 } D 6 0 0 (md_W o a ca S) 87 [(0, .ref o), (1, .int x1), (2, .int x2), (3, .int x3), (4, .int x4)] [.int y0, .int y1] := by
      intro x3 x4 y0 y1 h
      delta mm_differ_L87 at h
      refine dc_icmp_ne (pc := 87) (tgt := 120) hC (show decode prog_15_method_91_code 87 = .ok (.if_icmp .ne 33, 3) by decide +kernel) (by decide +kernel) h ?_ ?_
      · intro h
        refine dc_iload (pc := 90) (i := 4) hC 4 rfl (show decode prog_15_method_91_code 90 = .ok (.iload 4, 2) by decide +kernel) ?_
        refine dc_if_lt (pc := 92) (tgt := 122) hC (show decode prog_15_method_91_code 92 = .ok (.ifCond .lt 30, 3) by decide +kernel) (by decide +kernel) h ?_ ?_
        · intro h
          exact dc_sub [0, 1, 2, 3] rfl (lab_122 x3 h)
        · intro h
          refine dc_aloadn (pc := 95) (j := 0) (i := 0) hC 0 rfl rfl (show decode prog_15_method_91_code 95 = .ok (.aload_n 0, 1) by decide +kernel) ?_
          refine md_g93 (pc := 96) hC (show decode prog_15_method_91_code 96 = .ok (.getfield 163, 3) by decide +kernel) ?_
          refine dc_bipush (pc := 99) (v := 16) hC (show decode prog_15_method_91_code 99 = .ok (.bipush 16, 2) by decide +kernel) (by decide +kernel) ?_
          refine dc_iloadn (pc := 101) (j := 1) (i := 1) hC 1 rfl rfl (show decode prog_15_method_91_code 101 = .ok (.iload_n 1, 1) by decide +kernel) ?_
          refine dc_imul (pc := 102) hC (show decode prog_15_method_91_code 102 = .ok (.imul, 1) by decide +kernel) ?_
          refine dc_iloadn (pc := 103) (j := 3) (i := 3) hC 3 rfl rfl (show decode prog_15_method_91_code 103 = .ok (.iload_n 3, 1) by decide +kernel) ?_
          refine dc_iadd (pc := 104) hC (show decode prog_15_method_91_code 104 = .ok (.iadd, 1) by decide +kernel) ?_
          refine md_l93 (pc := 105) hC (show decode prog_15_method_91_code 105 = .ok (.iaload, 1) by decide +kernel) h ?_
          intro j1 h
          refine dc_aloadn (pc := 106) (j := 0) (i := 0) hC 0 rfl rfl (show decode prog_15_method_91_code 106 = .ok (.aload_n 0, 1) by decide +kernel) ?_
          refine md_g93 (pc := 107) hC (show decode prog_15_method_91_code 107 = .ok (.getfield 163, 3) by decide +kernel) ?_
          refine dc_bipush (pc := 110) (v := 16) hC (show decode prog_15_method_91_code 110 = .ok (.bipush 16, 2) by decide +kernel) (by decide +kernel) ?_
          refine dc_iloadn (pc := 112) (j := 2) (i := 2) hC 2 rfl rfl (show decode prog_15_method_91_code 112 = .ok (.iload_n 2, 1) by decide +kernel) ?_
          refine dc_imul (pc := 113) hC (show decode prog_15_method_91_code 113 = .ok (.imul, 1) by decide +kernel) ?_
          refine dc_iloadn (pc := 114) (j := 3) (i := 3) hC 3 rfl rfl (show decode prog_15_method_91_code 114 = .ok (.iload_n 3, 1) by decide +kernel) ?_
          refine dc_iadd (pc := 115) hC (show decode prog_15_method_91_code 115 = .ok (.iadd, 1) by decide +kernel) ?_
          refine md_l93 (pc := 116) hC (show decode prog_15_method_91_code 116 = .ok (.iaload, 1) by decide +kernel) h ?_
          intro j2 h
          refine dc_icmp_eq (pc := 117) (tgt := 122) hC (show decode prog_15_method_91_code 117 = .ok (.if_icmp .eq 5, 3) by decide +kernel) (by decide +kernel) h ?_ ?_
          · intro h
            exact dc_sub [0, 1, 2, 3] rfl (lab_122 x3 h)
          · intro h
            have h : dc_wp (mm_differ_L120 S) F := hr_2 (.inl ()) (dc_some h)
            exact dc_sub [0] rfl (lab_120 h)
      · intro h
        have h : dc_wp (mm_differ_L120 S) F := hr_2 (.inl ()) (dc_some h)
        exact dc_sub [0] rfl (lab_120 h)
    have lab_74 : ∀ (x3 : Int32) (x4 : Int32) (x5 : Int32) (y0 : Int32), dc_wp (mm_differ_L74 S x1 x2 x3 x4 x5 y0) F_2 → dc_G X l { frames := 0, cells := 0, slots := 0, locals := 0 } D 6 0 0 (md_W o a ca S) 74 [(0, .ref o), (1, .int x1), (2, .int x2), (3, .int x3), (4, .int x4), (5, .int x5)] [.int y0] := by
      intro x3 x4 x5 y0 h
      delta mm_differ_L74 at h
      refine dc_iload (pc := 74) (i := 5) hC 5 rfl (show decode prog_15_method_91_code 74 = .ok (.iload 5, 2) by decide +kernel) ?_
      refine dc_sipush (pc := 76) (v := 257) hC (show decode prog_15_method_91_code 76 = .ok (.sipush 257, 3) by decide +kernel) (by decide +kernel) ?_
      refine dc_icmp_ne (pc := 79) (tgt := 86) hC (show decode prog_15_method_91_code 79 = .ok (.if_icmp .ne 7, 3) by decide +kernel) (by decide +kernel) h ?_ ?_
      · intro h
        refine dc_iconst (pc := 82) (v := 1) hC (show decode prog_15_method_91_code 82 = .ok (.iconst 1, 1) by decide +kernel) (by decide +kernel) ?_
        refine dc_goto (pc := 83) (tgt := 87) hC (show decode prog_15_method_91_code 83 = .ok (.goto 4, 3) by decide +kernel) (by decide +kernel) ?_
        exact dc_sub [0, 1, 2, 3, 4] rfl (lab_87 x3 x4 1 y0 h)
      · intro h
        refine dc_iconst (pc := 86) (v := 0) hC (show decode prog_15_method_91_code 86 = .ok (.iconst 0, 1) by decide +kernel) (by decide +kernel) ?_
        exact dc_sub [0, 1, 2, 3, 4] rfl (lab_87 x3 x4 0 y0 h)
    have lab_58 : ∀ (x3 : Int32) (x4 : Int32) (x5 : Int32) (y0 : Int32) (y1 : Int32), dc_wp (mm_differ_L58 S x1 x2 x3 x4 x5 y0 y1) F_2 → dc_G X l { frames := 0, cells := 0, slots := 0, locals := 0 } D 6 0 0 (md_W o a ca S) 58 [(0, .ref o), (1, .int x1), (2, .int x2), (3, .int x3), (4, .int x4), (5, .int x5)] [.int y0, .int y1] := by
      intro x3 x4 x5 y0 y1 h
      delta mm_differ_L58 at h
      refine dc_icmp_ne (pc := 58) (tgt := 120) hC (show decode prog_15_method_91_code 58 = .ok (.if_icmp .ne 62, 3) by decide +kernel) (by decide +kernel) h ?_ ?_
      · intro h
        refine dc_iload (pc := 61) (i := 4) hC 4 rfl (show decode prog_15_method_91_code 61 = .ok (.iload 4, 2) by decide +kernel) ?_
        refine dc_sipush (pc := 63) (v := 257) hC (show decode prog_15_method_91_code 63 = .ok (.sipush 257, 3) by decide +kernel) (by decide +kernel) ?_
        refine dc_icmp_ne (pc := 66) (tgt := 73) hC (show decode prog_15_method_91_code 66 = .ok (.if_icmp .ne 7, 3) by decide +kernel) (by decide +kernel) h ?_ ?_
        · intro h
          refine dc_iconst (pc := 69) (v := 1) hC (show decode prog_15_method_91_code 69 = .ok (.iconst 1, 1) by decide +kernel) (by decide +kernel) ?_
          refine dc_goto (pc := 70) (tgt := 74) hC (show decode prog_15_method_91_code 70 = .ok (.goto 4, 3) by decide +kernel) (by decide +kernel) ?_
          exact lab_74 x3 x4 x5 1 h
        · intro h
          refine dc_iconst (pc := 73) (v := 0) hC (show decode prog_15_method_91_code 73 = .ok (.iconst 0, 1) by decide +kernel) (by decide +kernel) ?_
          exact lab_74 x3 x4 x5 0 h
      · intro h
        have h : dc_wp (mm_differ_L120 S) F := hr_2 (.inl ()) (dc_some h)
        exact dc_sub [0] rfl (lab_120 h)
    have lab_48 : ∀ (x3 : Int32) (x4 : Int32) (x5 : Int32) (y0 : Int32), dc_wp (mm_differ_L48 S x1 x2 x3 x4 x5 y0) F_2 → dc_G X l { frames := 0, cells := 0, slots := 0, locals := 0 } D 6 0 0 (md_W o a ca S) 48 [(0, .ref o), (1, .int x1), (2, .int x2), (3, .int x3), (4, .int x4), (5, .int x5)] [.int y0] := by
      intro x3 x4 x5 y0 h
      delta mm_differ_L48 at h
      refine dc_iload (pc := 48) (i := 5) hC 5 rfl (show decode prog_15_method_91_code 48 = .ok (.iload 5, 2) by decide +kernel) ?_
      refine dc_if_ge (pc := 50) (tgt := 57) hC (show decode prog_15_method_91_code 50 = .ok (.ifCond .ge 7, 3) by decide +kernel) (by decide +kernel) h ?_ ?_
      · intro h
        refine dc_iconst (pc := 53) (v := 1) hC (show decode prog_15_method_91_code 53 = .ok (.iconst 1, 1) by decide +kernel) (by decide +kernel) ?_
        refine dc_goto (pc := 54) (tgt := 58) hC (show decode prog_15_method_91_code 54 = .ok (.goto 4, 3) by decide +kernel) (by decide +kernel) ?_
        exact lab_58 x3 x4 x5 1 y0 h
      · intro h
        refine dc_iconst (pc := 57) (v := 0) hC (show decode prog_15_method_91_code 57 = .ok (.iconst 0, 1) by decide +kernel) (by decide +kernel) ?_
        exact lab_58 x3 x4 x5 0 y0 h
    rintro x3 h
    have h : dc_wp (mm_differ_b2 S x1 x2 x3) F_2 := h
    delta mm_differ_b2 at h
    refine dc_iloadn (pc := 2) (j := 3) (i := 3) hC 3 rfl rfl (show decode prog_15_method_91_code 2 = .ok (.iload_n 3, 1) by decide +kernel) ?_
    refine dc_iconst (pc := 3) (v := 1) hC (show decode prog_15_method_91_code 3 = .ok (.iconst 1, 1) by decide +kernel) (by decide +kernel) ?_
    refine dc_aloadn (pc := 4) (j := 0) (i := 0) hC 0 rfl rfl (show decode prog_15_method_91_code 4 = .ok (.aload_n 0, 1) by decide +kernel) ?_
    refine md_g45 (pc := 5) hC (show decode prog_15_method_91_code 5 = .ok (.getfield 533, 3) by decide +kernel) ?_
    refine dc_ishl (pc := 8) hC (show decode prog_15_method_91_code 8 = .ok (.ishl, 1) by decide +kernel) ?_
    refine dc_icmp_ge (pc := 9) (tgt := 128) hC (show decode prog_15_method_91_code 9 = .ok (.if_icmp .ge 119, 3) by decide +kernel) (by decide +kernel) h ?_ ?_
    · intro h
      refine dc_aloadn (pc := 12) (j := 0) (i := 0) hC 0 rfl rfl (show decode prog_15_method_91_code 12 = .ok (.aload_n 0, 1) by decide +kernel) ?_
      refine md_g92 (pc := 13) hC (show decode prog_15_method_91_code 13 = .ok (.getfield 160, 3) by decide +kernel) ?_
      refine dc_bipush (pc := 16) (v := 16) hC (show decode prog_15_method_91_code 16 = .ok (.bipush 16, 2) by decide +kernel) (by decide +kernel) ?_
      refine dc_iloadn (pc := 18) (j := 1) (i := 1) hC 1 rfl rfl (show decode prog_15_method_91_code 18 = .ok (.iload_n 1, 1) by decide +kernel) ?_
      refine dc_imul (pc := 19) hC (show decode prog_15_method_91_code 19 = .ok (.imul, 1) by decide +kernel) ?_
      refine dc_iloadn (pc := 20) (j := 3) (i := 3) hC 3 rfl rfl (show decode prog_15_method_91_code 20 = .ok (.iload_n 3, 1) by decide +kernel) ?_
      refine dc_iadd (pc := 21) hC (show decode prog_15_method_91_code 21 = .ok (.iadd, 1) by decide +kernel) ?_
      refine md_l92 (pc := 22) hC (show decode prog_15_method_91_code 22 = .ok (.iaload, 1) by decide +kernel) h ?_
      intro j3 h
      refine dc_letI h ?_
      intro v4 h
      refine dc_istore (pc := 23) (i := 4) (lv' := [(4, .int v4), (0, .ref o), (1, .int x1), (2, .int x2), (3, .int x3)]) hC (Nat.le_of_ble_eq_true rfl) rfl (show decode prog_15_method_91_code 23 = .ok (.istore 4, 2) by decide +kernel) ?_
      refine dc_aloadn (pc := 25) (j := 0) (i := 0) hC 1 rfl rfl (show decode prog_15_method_91_code 25 = .ok (.aload_n 0, 1) by decide +kernel) ?_
      refine md_g92 (pc := 26) hC (show decode prog_15_method_91_code 26 = .ok (.getfield 160, 3) by decide +kernel) ?_
      refine dc_bipush (pc := 29) (v := 16) hC (show decode prog_15_method_91_code 29 = .ok (.bipush 16, 2) by decide +kernel) (by decide +kernel) ?_
      refine dc_iloadn (pc := 31) (j := 2) (i := 2) hC 3 rfl rfl (show decode prog_15_method_91_code 31 = .ok (.iload_n 2, 1) by decide +kernel) ?_
      refine dc_imul (pc := 32) hC (show decode prog_15_method_91_code 32 = .ok (.imul, 1) by decide +kernel) ?_
      refine dc_iloadn (pc := 33) (j := 3) (i := 3) hC 4 rfl rfl (show decode prog_15_method_91_code 33 = .ok (.iload_n 3, 1) by decide +kernel) ?_
      refine dc_iadd (pc := 34) hC (show decode prog_15_method_91_code 34 = .ok (.iadd, 1) by decide +kernel) ?_
      refine md_l92 (pc := 35) hC (show decode prog_15_method_91_code 35 = .ok (.iaload, 1) by decide +kernel) h ?_
      intro j5 h
      refine dc_letI h ?_
      intro v6 h
      refine dc_istore (pc := 36) (i := 5) (lv' := [(5, .int v6), (4, .int v4), (0, .ref o), (1, .int x1), (2, .int x2), (3, .int x3)]) hC (Nat.le_of_ble_eq_true rfl) rfl (show decode prog_15_method_91_code 36 = .ok (.istore 5, 2) by decide +kernel) ?_
      refine dc_iload (pc := 38) (i := 4) hC 1 rfl (show decode prog_15_method_91_code 38 = .ok (.iload 4, 2) by decide +kernel) ?_
      refine dc_if_ge (pc := 40) (tgt := 47) hC (show decode prog_15_method_91_code 40 = .ok (.ifCond .ge 7, 3) by decide +kernel) (by decide +kernel) h ?_ ?_
      · intro h
        refine dc_iconst (pc := 43) (v := 1) hC (show decode prog_15_method_91_code 43 = .ok (.iconst 1, 1) by decide +kernel) (by decide +kernel) ?_
        refine dc_goto (pc := 44) (tgt := 48) hC (show decode prog_15_method_91_code 44 = .ok (.goto 4, 3) by decide +kernel) (by decide +kernel) ?_
        exact dc_sub [2, 3, 4, 5, 1, 0] rfl (lab_48 x3 v4 v6 1 h)
      · intro h
        refine dc_iconst (pc := 47) (v := 0) hC (show decode prog_15_method_91_code 47 = .ok (.iconst 0, 1) by decide +kernel) (by decide +kernel) ?_
        exact dc_sub [2, 3, 4, 5, 1, 0] rfl (lab_48 x3 v4 v6 0 h)
    · intro h
      have h : dc_wp (mm_differ_L128 S) F := hr_2 (.inr ()) (dc_some h)
      exact dc_sub [0] rfl (lab_128 h)
  have lab_2 : ∀ (x1 : Int32) (x2 : Int32) (x3 : Int32), dc_wp (mm_differ_L2 S x1 x2 x3) F → dc_G X l { frames := 0, cells := 0, slots := 0, locals := 0 } D 6 0 0 (md_W o a ca S) 2 [(0, .ref o), (1, .int x1), (2, .int x2), (3, .int x3)] [] := fun x1 x2 x3 h => loop_2 x1 x2 x3 (dc_bind h)
  show dc_G X l { frames := 0, cells := 0, slots := 0, locals := 0 } D 6 0 0 (md_W o a ca S) 0 [(0, .ref o), (1, .int p1), (2, .int p2)] []
  delta mm_differ at h
  refine dc_iconst (pc := 0) (v := 0) hC (show decode prog_15_method_91_code 0 = .ok (.iconst 0, 1) by decide +kernel) (by decide +kernel) ?_
  refine dc_istoren (pc := 1) (j := 3) (i := 3) (lv' := [(3, .int 0), (0, .ref o), (1, .int p1), (2, .int p2)]) hC rfl (Nat.le_of_ble_eq_true rfl) rfl (show decode prog_15_method_91_code 1 = .ok (.istore_n 3, 1) by decide +kernel) ?_
  exact dc_sub [1, 2, 3, 0] rfl (lab_2 p1 p2 0 h)
noncomputable def mm_ahead_L124 (S : md_S) : Option (md_S) :=
  some S
noncomputable def mm_ahead_L118 (S : md_S) (x1 : Int32) : Option ((md_S × Int32) ⊕ ((md_S))) :=
  some (.inl (S, (x1 + 1)))
noncomputable def mm_ahead_L112 (S : md_S) (x1 : Int32) (x2 : Int32) : Option ((md_S × Int32) ⊕ ((md_S))) :=
  some (.inl (S, (x2 + 1)))
noncomputable def mm_ahead_b38 (S : md_S) (x1 : Int32) (x2 : Int32) : Option ((md_S × Int32) ⊕ ((md_S))) :=
  if x2 < ((1 : Int32) <<< ((S.1 45) &&& (31 : Int32))) then ((dc_ix ((16 * x1) + x2) 4112).bind fun j1 => dc_let ((S.2.1 92 j1) : Int32) fun v2 => if v2 < 0 then (mm_ahead_L112 S x1 x2) else (if v2 = 257 then (mm_ahead_L112 S x1 x2) else ((mm_find S v2).bind fun q3 => dc_let (((16 * q3) + x2) : Int32) fun v4 => (dc_ix v4 4112).bind fun j5 => (dc_ix ((16 * x1) + x2) 4112).bind fun j6 => dc_let (md_a S 97 j6 (S.2.1 96 j5)) fun S7 => (dc_ix v4 4112).bind fun j8 => dc_let (md_a S7 96 j8 x1) fun S9 => mm_ahead_L112 S9 x1 x2))) else (some (.inr S))
noncomputable def mm_ahead_s38 (x1 : Int32) (q : md_S × Int32) : Option ((md_S × Int32) ⊕ ((md_S))) :=
  mm_ahead_b38 q.1 x1 q.2
noncomputable def mm_ahead_L38 (S : md_S) (x1 : Int32) (x2 : Int32) : Option ((md_S × Int32) ⊕ ((md_S))) :=
  (dc_it (mm_ahead_s38 x1) (S, x2)).bind (fun (z : md_S) => mm_ahead_L118 z x1)
noncomputable def mm_ahead_b28 (S : md_S) (x1 : Int32) : Option ((md_S × Int32) ⊕ ((md_S))) :=
  if x1 < (S.1 87) then (mm_ahead_L38 S x1 0) else (some (.inr S))
noncomputable def mm_ahead_s28 (q : md_S × Int32) : Option ((md_S × Int32) ⊕ ((md_S))) :=
  mm_ahead_b28 q.1 q.2
noncomputable def mm_ahead_L28 (S : md_S) (x1 : Int32) : Option (md_S) :=
  (dc_it (mm_ahead_s28) (S, x1)).bind (fun (z : md_S) => mm_ahead_L124 z)
noncomputable def mm_ahead_L26 (S : md_S) : Option (md_S) :=
  mm_ahead_L28 S 0
noncomputable def mm_ahead_b2 (S : md_S) (x1 : Int32) : Option ((md_S × Int32) ⊕ ((md_S))) :=
  if x1 < (16 * (S.1 87)) then ((dc_ix x1 4112).bind fun j10 => dc_let (md_a S 96 j10 (-1)) fun S11 => some (.inl (S11, (x1 + 1)))) else (some (.inr S))
noncomputable def mm_ahead_s2 (q : md_S × Int32) : Option ((md_S × Int32) ⊕ ((md_S))) :=
  mm_ahead_b2 q.1 q.2
noncomputable def mm_ahead_L2 (S : md_S) (x1 : Int32) : Option (md_S) :=
  (dc_it (mm_ahead_s2) (S, x1)).bind (fun (z : md_S) => mm_ahead_L26 z)
noncomputable def mm_ahead (S : md_S) : Option (md_S) :=
  mm_ahead_L2 S 0
set_option maxHeartbeats 4000000 in
set_option maxRecDepth 100000 in
/-- ahead()V -/
theorem mm_ahead_ok (l : Launch) (D : va_G) (ad : Nat → Nat) (de : Nat) (o : Nat) (a : Nat → Nat) (ca : Nat → ClassId) (S : md_S) (F : md_S → Prop) (h : dc_wp (mm_ahead S) F) : dc_Cv l ⟨"SignalEngineModel", "ahead", "()V"⟩ prog_15_method_90_code 5 none 1 22 D (md_T ca) ad de [.ref o] (md_W o a ca S) (fun w => ∃ q, F q ∧ w = md_W o a ca q) 0 0 := by
  refine dc_enterv (by decide +kernel) (Nat.le_of_ble_eq_true rfl) ?_
  intro X hC hR
  have lab_124 : ∀ (S : md_S), dc_wp (mm_ahead_L124 S) F → dc_G X l { frames := 1, cells := 0, slots := 0, locals := 22 } D 5 0 0 (md_W o a ca S) 124 [(0, .ref o)] [] := by
    intro S  h
    delta mm_ahead_L124 at h
    exact dc_vret (pc := 124) hC hR ⟨_, dc_some h, rfl⟩ (show decode prog_15_method_90_code 124 = .ok (.return_, 1) by decide +kernel)
  have loop_28 : ∀ (q : md_S × Int32), dc_wp (dc_it (mm_ahead_s28) q) (fun z => dc_wp ((fun (z : md_S) => mm_ahead_L124 z) z) F) → dc_G X l { frames := 1, cells := 0, slots := 0, locals := 22 } D 5 0 0 (md_W o a ca q.1) 28 [(0, .ref o), (1, .int q.2)] [] := by
    refine dc_loopF ?_
    intro F_28 hl_28 hr_28
    have lab_118 : ∀ (S : md_S) (x1 : Int32), dc_wp (mm_ahead_L118 S x1) F_28 → dc_G X l { frames := 1, cells := 0, slots := 0, locals := 22 } D 5 0 0 (md_W o a ca S) 118 [(0, .ref o), (1, .int x1)] [] := by
      intro S x1 h
      delta mm_ahead_L118 at h
      refine dc_iinc (pc := 118) (i := 1) (v := (x1 + 1)) (lv' := [(1, .int (x1 + 1)), (0, .ref o)]) hC 1 rfl rfl (Nat.le_of_ble_eq_true rfl) rfl (show decode prog_15_method_90_code 118 = .ok (.iinc 1 1, 3) by decide +kernel) ?_
      refine dc_goto (pc := 121) (tgt := 28) hC (show decode prog_15_method_90_code 121 = .ok (.goto (-93), 3) by decide +kernel) (by decide +kernel) ?_
      exact dc_sub [1, 0] rfl (hl_28 (S, (x1 + 1)) (dc_some h))
    have loop_38 : ∀ (x1 : Int32) (q : md_S × Int32), dc_wp (dc_it (mm_ahead_s38 x1) q) (fun z => dc_wp ((fun (z : md_S) => mm_ahead_L118 z x1) z) F_28) → dc_G X l { frames := 1, cells := 0, slots := 0, locals := 22 } D 5 0 0 (md_W o a ca q.1) 38 [(0, .ref o), (1, .int x1), (2, .int q.2)] [] := by
      intro x1
      refine dc_loopF ?_
      intro F_38 hl_38 hr_38
      have lab_112 : ∀ (S : md_S) (x2 : Int32), dc_wp (mm_ahead_L112 S x1 x2) F_38 → dc_G X l { frames := 1, cells := 0, slots := 0, locals := 22 } D 5 0 0 (md_W o a ca S) 112 [(0, .ref o), (1, .int x1), (2, .int x2)] [] := by
        intro S x2 h
        delta mm_ahead_L112 at h
        refine dc_iinc (pc := 112) (i := 2) (v := (x2 + 1)) (lv' := [(2, .int (x2 + 1)), (0, .ref o), (1, .int x1)]) hC 2 rfl rfl (Nat.le_of_ble_eq_true rfl) rfl (show decode prog_15_method_90_code 112 = .ok (.iinc 2 1, 3) by decide +kernel) ?_
        refine dc_goto (pc := 115) (tgt := 38) hC (show decode prog_15_method_90_code 115 = .ok (.goto (-77), 3) by decide +kernel) (by decide +kernel) ?_
        exact dc_sub [1, 2, 0] rfl (hl_38 (S, (x2 + 1)) (dc_some h))
      rintro ⟨S, x2⟩ h
      have h : dc_wp (mm_ahead_b38 S x1 x2) F_38 := h
      delta mm_ahead_b38 at h
      refine dc_iloadn (pc := 38) (j := 2) (i := 2) hC 2 rfl rfl (show decode prog_15_method_90_code 38 = .ok (.iload_n 2, 1) by decide +kernel) ?_
      refine dc_iconst (pc := 39) (v := 1) hC (show decode prog_15_method_90_code 39 = .ok (.iconst 1, 1) by decide +kernel) (by decide +kernel) ?_
      refine dc_aloadn (pc := 40) (j := 0) (i := 0) hC 0 rfl rfl (show decode prog_15_method_90_code 40 = .ok (.aload_n 0, 1) by decide +kernel) ?_
      refine md_g45 (pc := 41) hC (show decode prog_15_method_90_code 41 = .ok (.getfield 533, 3) by decide +kernel) ?_
      refine dc_ishl (pc := 44) hC (show decode prog_15_method_90_code 44 = .ok (.ishl, 1) by decide +kernel) ?_
      refine dc_icmp_ge (pc := 45) (tgt := 118) hC (show decode prog_15_method_90_code 45 = .ok (.if_icmp .ge 73, 3) by decide +kernel) (by decide +kernel) h ?_ ?_
      · intro h
        refine dc_aloadn (pc := 48) (j := 0) (i := 0) hC 0 rfl rfl (show decode prog_15_method_90_code 48 = .ok (.aload_n 0, 1) by decide +kernel) ?_
        refine md_g92 (pc := 49) hC (show decode prog_15_method_90_code 49 = .ok (.getfield 160, 3) by decide +kernel) ?_
        refine dc_bipush (pc := 52) (v := 16) hC (show decode prog_15_method_90_code 52 = .ok (.bipush 16, 2) by decide +kernel) (by decide +kernel) ?_
        refine dc_iloadn (pc := 54) (j := 1) (i := 1) hC 1 rfl rfl (show decode prog_15_method_90_code 54 = .ok (.iload_n 1, 1) by decide +kernel) ?_
        refine dc_imul (pc := 55) hC (show decode prog_15_method_90_code 55 = .ok (.imul, 1) by decide +kernel) ?_
        refine dc_iloadn (pc := 56) (j := 2) (i := 2) hC 2 rfl rfl (show decode prog_15_method_90_code 56 = .ok (.iload_n 2, 1) by decide +kernel) ?_
        refine dc_iadd (pc := 57) hC (show decode prog_15_method_90_code 57 = .ok (.iadd, 1) by decide +kernel) ?_
        refine md_l92 (pc := 58) hC (show decode prog_15_method_90_code 58 = .ok (.iaload, 1) by decide +kernel) h ?_
        intro j1 h
        refine dc_letI h ?_
        intro v2 h
        refine dc_istoren (pc := 59) (j := 3) (i := 3) (lv' := [(3, .int v2), (0, .ref o), (1, .int x1), (2, .int x2)]) hC rfl (Nat.le_of_ble_eq_true rfl) rfl (show decode prog_15_method_90_code 59 = .ok (.istore_n 3, 1) by decide +kernel) ?_
        refine dc_iloadn (pc := 60) (j := 3) (i := 3) hC 0 rfl rfl (show decode prog_15_method_90_code 60 = .ok (.iload_n 3, 1) by decide +kernel) ?_
        refine dc_if_lt (pc := 61) (tgt := 112) hC (show decode prog_15_method_90_code 61 = .ok (.ifCond .lt 51, 3) by decide +kernel) (by decide +kernel) h ?_ ?_
        · intro h
          exact dc_sub [1, 2, 3] rfl (lab_112 S x2 h)
        · intro h
          refine dc_iloadn (pc := 64) (j := 3) (i := 3) hC 0 rfl rfl (show decode prog_15_method_90_code 64 = .ok (.iload_n 3, 1) by decide +kernel) ?_
          refine dc_sipush (pc := 65) (v := 257) hC (show decode prog_15_method_90_code 65 = .ok (.sipush 257, 3) by decide +kernel) (by decide +kernel) ?_
          refine dc_icmp_ne (pc := 68) (tgt := 74) hC (show decode prog_15_method_90_code 68 = .ok (.if_icmp .ne 6, 3) by decide +kernel) (by decide +kernel) h ?_ ?_
          · intro h
            refine dc_goto (pc := 71) (tgt := 112) hC (show decode prog_15_method_90_code 71 = .ok (.goto 41, 3) by decide +kernel) (by decide +kernel) ?_
            exact dc_sub [1, 2, 3] rfl (lab_112 S x2 h)
          · intro h
            refine dc_bipush (pc := 74) (v := 16) hC (show decode prog_15_method_90_code 74 = .ok (.bipush 16, 2) by decide +kernel) (by decide +kernel) ?_
            refine dc_aloadn (pc := 76) (j := 0) (i := 0) hC 1 rfl rfl (show decode prog_15_method_90_code 76 = .ok (.aload_n 0, 1) by decide +kernel) ?_
            refine dc_iloadn (pc := 77) (j := 3) (i := 3) hC 0 rfl rfl (show decode prog_15_method_90_code 77 = .ok (.iload_n 3, 1) by decide +kernel) ?_
            refine mc_Vpi (pc := 78) (As := [.int v2]) (rest := [.int 16]) hC vw_find_631 (mm_find_ok l D ad de o a ca S v2) (Nat.le_of_ble_eq_true rfl) (Nat.le_of_ble_eq_true rfl) rfl (Nat.le_of_ble_eq_true rfl) (show decode prog_15_method_90_code 78 = .ok (.invokevirtual 631, 3) by decide +kernel) h ?_
            intro q3 h
            refine dc_imul (pc := 81) hC (show decode prog_15_method_90_code 81 = .ok (.imul, 1) by decide +kernel) ?_
            refine dc_iloadn (pc := 82) (j := 2) (i := 2) hC 3 rfl rfl (show decode prog_15_method_90_code 82 = .ok (.iload_n 2, 1) by decide +kernel) ?_
            refine dc_iadd (pc := 83) hC (show decode prog_15_method_90_code 83 = .ok (.iadd, 1) by decide +kernel) ?_
            refine dc_letI h ?_
            intro v4 h
            refine dc_istore (pc := 84) (i := 4) (lv' := [(4, .int v4), (3, .int v2), (0, .ref o), (1, .int x1), (2, .int x2)]) hC (Nat.le_of_ble_eq_true rfl) rfl (show decode prog_15_method_90_code 84 = .ok (.istore 4, 2) by decide +kernel) ?_
            refine dc_aloadn (pc := 86) (j := 0) (i := 0) hC 2 rfl rfl (show decode prog_15_method_90_code 86 = .ok (.aload_n 0, 1) by decide +kernel) ?_
            refine md_g97 (pc := 87) hC (show decode prog_15_method_90_code 87 = .ok (.getfield 177, 3) by decide +kernel) ?_
            refine dc_bipush (pc := 90) (v := 16) hC (show decode prog_15_method_90_code 90 = .ok (.bipush 16, 2) by decide +kernel) (by decide +kernel) ?_
            refine dc_iloadn (pc := 92) (j := 1) (i := 1) hC 3 rfl rfl (show decode prog_15_method_90_code 92 = .ok (.iload_n 1, 1) by decide +kernel) ?_
            refine dc_imul (pc := 93) hC (show decode prog_15_method_90_code 93 = .ok (.imul, 1) by decide +kernel) ?_
            refine dc_iloadn (pc := 94) (j := 2) (i := 2) hC 4 rfl rfl (show decode prog_15_method_90_code 94 = .ok (.iload_n 2, 1) by decide +kernel) ?_
            refine dc_iadd (pc := 95) hC (show decode prog_15_method_90_code 95 = .ok (.iadd, 1) by decide +kernel) ?_
            refine dc_aloadn (pc := 96) (j := 0) (i := 0) hC 2 rfl rfl (show decode prog_15_method_90_code 96 = .ok (.aload_n 0, 1) by decide +kernel) ?_
            refine md_g96 (pc := 97) hC (show decode prog_15_method_90_code 97 = .ok (.getfield 174, 3) by decide +kernel) ?_
            refine dc_iload (pc := 100) (i := 4) hC 0 rfl (show decode prog_15_method_90_code 100 = .ok (.iload 4, 2) by decide +kernel) ?_
            refine md_l96 (pc := 102) hC (show decode prog_15_method_90_code 102 = .ok (.iaload, 1) by decide +kernel) h ?_
            intro j5 h
            refine md_s97 (pc := 103) hC (show decode prog_15_method_90_code 103 = .ok (.iastore, 1) by decide +kernel) h ?_
            intro j6 h
            refine dc_letS h ?_
            intro S7 h
            refine dc_aloadn (pc := 104) (j := 0) (i := 0) hC 2 rfl rfl (show decode prog_15_method_90_code 104 = .ok (.aload_n 0, 1) by decide +kernel) ?_
            refine md_g96 (pc := 105) hC (show decode prog_15_method_90_code 105 = .ok (.getfield 174, 3) by decide +kernel) ?_
            refine dc_iload (pc := 108) (i := 4) hC 0 rfl (show decode prog_15_method_90_code 108 = .ok (.iload 4, 2) by decide +kernel) ?_
            refine dc_iloadn (pc := 110) (j := 1) (i := 1) hC 3 rfl rfl (show decode prog_15_method_90_code 110 = .ok (.iload_n 1, 1) by decide +kernel) ?_
            refine md_s96 (pc := 111) hC (show decode prog_15_method_90_code 111 = .ok (.iastore, 1) by decide +kernel) h ?_
            intro j8 h
            refine dc_letS h ?_
            intro S9 h
            exact dc_sub [2, 3, 4] rfl (lab_112 S9 x2 h)
      · intro h
        have h : dc_wp (mm_ahead_L118 S x1) F_28 := hr_38 S (dc_some h)
        exact dc_sub [0, 1] rfl (lab_118 S x1 h)
    have lab_38 : ∀ (S : md_S) (x1 : Int32) (x2 : Int32), dc_wp (mm_ahead_L38 S x1 x2) F_28 → dc_G X l { frames := 1, cells := 0, slots := 0, locals := 22 } D 5 0 0 (md_W o a ca S) 38 [(0, .ref o), (1, .int x1), (2, .int x2)] [] := fun S x1 x2 h => loop_38 x1 (S, x2) (dc_bind h)
    rintro ⟨S, x1⟩ h
    have h : dc_wp (mm_ahead_b28 S x1) F_28 := h
    delta mm_ahead_b28 at h
    refine dc_iloadn (pc := 28) (j := 1) (i := 1) hC 1 rfl rfl (show decode prog_15_method_90_code 28 = .ok (.iload_n 1, 1) by decide +kernel) ?_
    refine dc_aloadn (pc := 29) (j := 0) (i := 0) hC 0 rfl rfl (show decode prog_15_method_90_code 29 = .ok (.aload_n 0, 1) by decide +kernel) ?_
    refine md_g87 (pc := 30) hC (show decode prog_15_method_90_code 30 = .ok (.getfield 527, 3) by decide +kernel) ?_
    refine dc_icmp_ge (pc := 33) (tgt := 124) hC (show decode prog_15_method_90_code 33 = .ok (.if_icmp .ge 91, 3) by decide +kernel) (by decide +kernel) h ?_ ?_
    · intro h
      refine dc_iconst (pc := 36) (v := 0) hC (show decode prog_15_method_90_code 36 = .ok (.iconst 0, 1) by decide +kernel) (by decide +kernel) ?_
      refine dc_istoren (pc := 37) (j := 2) (i := 2) (lv' := [(2, .int 0), (0, .ref o), (1, .int x1)]) hC rfl (Nat.le_of_ble_eq_true rfl) rfl (show decode prog_15_method_90_code 37 = .ok (.istore_n 2, 1) by decide +kernel) ?_
      exact dc_sub [1, 2, 0] rfl (lab_38 S x1 0 h)
    · intro h
      have h : dc_wp (mm_ahead_L124 S) F := hr_28 S (dc_some h)
      exact dc_sub [0] rfl (lab_124 S h)
  have lab_28 : ∀ (S : md_S) (x1 : Int32), dc_wp (mm_ahead_L28 S x1) F → dc_G X l { frames := 1, cells := 0, slots := 0, locals := 22 } D 5 0 0 (md_W o a ca S) 28 [(0, .ref o), (1, .int x1)] [] := fun S x1 h => loop_28  (S, x1) (dc_bind h)
  have lab_26 : ∀ (S : md_S), dc_wp (mm_ahead_L26 S) F → dc_G X l { frames := 1, cells := 0, slots := 0, locals := 22 } D 5 0 0 (md_W o a ca S) 26 [(0, .ref o)] [] := by
    intro S  h
    delta mm_ahead_L26 at h
    refine dc_iconst (pc := 26) (v := 0) hC (show decode prog_15_method_90_code 26 = .ok (.iconst 0, 1) by decide +kernel) (by decide +kernel) ?_
    refine dc_istoren (pc := 27) (j := 1) (i := 1) (lv' := [(1, .int 0), (0, .ref o)]) hC rfl (Nat.le_of_ble_eq_true rfl) rfl (show decode prog_15_method_90_code 27 = .ok (.istore_n 1, 1) by decide +kernel) ?_
    exact dc_sub [1, 0] rfl (lab_28 S 0 h)
  have loop_2 : ∀ (q : md_S × Int32), dc_wp (dc_it (mm_ahead_s2) q) (fun z => dc_wp ((fun (z : md_S) => mm_ahead_L26 z) z) F) → dc_G X l { frames := 1, cells := 0, slots := 0, locals := 22 } D 5 0 0 (md_W o a ca q.1) 2 [(0, .ref o), (1, .int q.2)] [] := by
    refine dc_loopF ?_
    intro F_2 hl_2 hr_2
    rintro ⟨S, x1⟩ h
    have h : dc_wp (mm_ahead_b2 S x1) F_2 := h
    delta mm_ahead_b2 at h
    refine dc_iloadn (pc := 2) (j := 1) (i := 1) hC 1 rfl rfl (show decode prog_15_method_90_code 2 = .ok (.iload_n 1, 1) by decide +kernel) ?_
    refine dc_bipush (pc := 3) (v := 16) hC (show decode prog_15_method_90_code 3 = .ok (.bipush 16, 2) by decide +kernel) (by decide +kernel) ?_
    refine dc_aloadn (pc := 5) (j := 0) (i := 0) hC 0 rfl rfl (show decode prog_15_method_90_code 5 = .ok (.aload_n 0, 1) by decide +kernel) ?_
    refine md_g87 (pc := 6) hC (show decode prog_15_method_90_code 6 = .ok (.getfield 527, 3) by decide +kernel) ?_
    refine dc_imul (pc := 9) hC (show decode prog_15_method_90_code 9 = .ok (.imul, 1) by decide +kernel) ?_
    refine dc_icmp_ge (pc := 10) (tgt := 26) hC (show decode prog_15_method_90_code 10 = .ok (.if_icmp .ge 16, 3) by decide +kernel) (by decide +kernel) h ?_ ?_
    · intro h
      refine dc_aloadn (pc := 13) (j := 0) (i := 0) hC 0 rfl rfl (show decode prog_15_method_90_code 13 = .ok (.aload_n 0, 1) by decide +kernel) ?_
      refine md_g96 (pc := 14) hC (show decode prog_15_method_90_code 14 = .ok (.getfield 174, 3) by decide +kernel) ?_
      refine dc_iloadn (pc := 17) (j := 1) (i := 1) hC 1 rfl rfl (show decode prog_15_method_90_code 17 = .ok (.iload_n 1, 1) by decide +kernel) ?_
      refine dc_iconst (pc := 18) (v := (-1)) hC (show decode prog_15_method_90_code 18 = .ok (.iconst (-1), 1) by decide +kernel) (by decide +kernel) ?_
      refine md_s96 (pc := 19) hC (show decode prog_15_method_90_code 19 = .ok (.iastore, 1) by decide +kernel) h ?_
      intro j10 h
      refine dc_letS h ?_
      intro S11 h
      refine dc_iinc (pc := 20) (i := 1) (v := (x1 + 1)) (lv' := [(1, .int (x1 + 1)), (0, .ref o)]) hC 1 rfl rfl (Nat.le_of_ble_eq_true rfl) rfl (show decode prog_15_method_90_code 20 = .ok (.iinc 1 1, 3) by decide +kernel) ?_
      refine dc_goto (pc := 23) (tgt := 2) hC (show decode prog_15_method_90_code 23 = .ok (.goto (-21), 3) by decide +kernel) (by decide +kernel) ?_
      exact dc_sub [1, 0] rfl (hl_2 (S11, (x1 + 1)) (dc_some h))
    · intro h
      have h : dc_wp (mm_ahead_L26 S) F := hr_2 S (dc_some h)
      exact dc_sub [0] rfl (lab_26 S h)
  have lab_2 : ∀ (S : md_S) (x1 : Int32), dc_wp (mm_ahead_L2 S x1) F → dc_G X l { frames := 1, cells := 0, slots := 0, locals := 22 } D 5 0 0 (md_W o a ca S) 2 [(0, .ref o), (1, .int x1)] [] := fun S x1 h => loop_2  (S, x1) (dc_bind h)
  show dc_G X l { frames := 1, cells := 0, slots := 0, locals := 22 } D 5 0 0 (md_W o a ca S) 0 [(0, .ref o)] []
  delta mm_ahead at h
  refine dc_iconst (pc := 0) (v := 0) hC (show decode prog_15_method_90_code 0 = .ok (.iconst 0, 1) by decide +kernel) (by decide +kernel) ?_
  refine dc_istoren (pc := 1) (j := 1) (i := 1) (lv' := [(1, .int 0), (0, .ref o)]) hC rfl (Nat.le_of_ble_eq_true rfl) rfl (show decode prog_15_method_90_code 1 = .ok (.istore_n 1, 1) by decide +kernel) ?_
  exact dc_sub [1, 0] rfl (lab_2 S 0 h)
noncomputable def mm_markPairs_L330 (S : md_S) : Option (md_S) :=
  some S
noncomputable def mm_markPairs_L327 (S : md_S) (x1 : Int32) : Option ((md_S × Int32) ⊕ ((md_S))) :=
  some (.inl (S, x1))
noncomputable def mm_markPairs_L321 (S : md_S) (x1 : Int32) (x2 : Int32) (x3 : Int32) (x4 : Int32) : Option ((md_S × Int32 × Int32) ⊕ ((md_S × Int32))) :=
  some (.inl (S, x1, (x4 + 1)))
noncomputable def mm_markPairs_L303 (S : md_S) (x1 : Int32) (x2 : Int32) (x3 : Int32) (x4 : Int32) (x5 : Int32) : Option ((md_S × Int32 × Int32) ⊕ ((md_S × Int32))) :=
  (dc_ix ((16 * x5) + x4) 4112).bind fun j1 => dc_let ((S.2.1 97 j1) : Int32) fun v2 => some (.inl (S, x1, v2))
noncomputable def mm_markPairs_L285 (S : md_S) (x1 : Int32) (x2 : Int32) (x3 : Int32) (x4 : Int32) (x5 : Int32) (x6 : Int32) : Option ((md_S × Int32 × Int32) ⊕ ((md_S × Int32))) :=
  (dc_ix ((16 * x6) + x4) 4112).bind fun j3 => dc_let ((S.2.1 97 j3) : Int32) fun v4 => some (.inl (S, x1, v4))
noncomputable def mm_markPairs_b211 (S : md_S) (x1 : Int32) (x2 : Int32) (x3 : Int32) (x4 : Int32) (x5 : Int32) (x6 : Int32) : Option ((md_S × Int32 × Int32) ⊕ ((md_S × Int32))) :=
  if x6 = (-1) then (some (.inr (S, x1))) else ((dc_ix ((257 * x5) + x6) 66049).bind fun j5 => if (S.2.1 94 j5) = 0 then ((dc_ix ((257 * x6) + x5) 66049).bind fun j6 => dc_let (md_a S 94 j6 1) fun S7 => (dc_ix ((257 * x5) + x6) 66049).bind fun j8 => dc_let (md_a S7 94 j8 1) fun S9 => (dc_ix x1 33000).bind fun j10 => dc_let (md_a S9 95 j10 ((257 * x5) + x6)) fun S11 => mm_markPairs_L285 S11 (x1 + 1) x2 x3 x4 x5 x6) else (mm_markPairs_L285 S x1 x2 x3 x4 x5 x6))
noncomputable def mm_markPairs_s211 (x2 : Int32) (x3 : Int32) (x4 : Int32) (x5 : Int32) (q : md_S × Int32 × Int32) : Option ((md_S × Int32 × Int32) ⊕ ((md_S × Int32))) :=
  mm_markPairs_b211 q.1 q.2.1 x2 x3 x4 x5 q.2.2
noncomputable def mm_markPairs_L211 (S : md_S) (x1 : Int32) (x2 : Int32) (x3 : Int32) (x4 : Int32) (x5 : Int32) (x6 : Int32) : Option ((md_S × Int32 × Int32) ⊕ ((md_S × Int32))) :=
  (dc_it (mm_markPairs_s211 x2 x3 x4 x5) (S, x1, x6)).bind (fun (z : md_S × Int32) => mm_markPairs_L303 z.1 z.2 x2 x3 x4 x5)
noncomputable def mm_markPairs_b191 (S : md_S) (x1 : Int32) (x2 : Int32) (x3 : Int32) (x4 : Int32) (x5 : Int32) : Option ((md_S × Int32 × Int32) ⊕ ((md_S × Int32))) :=
  if x5 = (-1) then (some (.inr (S, x1))) else ((dc_ix ((16 * x3) + x4) 4112).bind fun j12 => dc_let ((S.2.1 96 j12) : Int32) fun v13 => mm_markPairs_L211 S x1 x2 x3 x4 x5 v13)
noncomputable def mm_markPairs_s191 (x2 : Int32) (x3 : Int32) (x4 : Int32) (q : md_S × Int32 × Int32) : Option ((md_S × Int32 × Int32) ⊕ ((md_S × Int32))) :=
  mm_markPairs_b191 q.1 q.2.1 x2 x3 x4 q.2.2
noncomputable def mm_markPairs_L191 (S : md_S) (x1 : Int32) (x2 : Int32) (x3 : Int32) (x4 : Int32) (x5 : Int32) : Option ((md_S × Int32 × Int32) ⊕ ((md_S × Int32))) :=
  (dc_it (mm_markPairs_s191 x2 x3 x4) (S, x1, x5)).bind (fun (z : md_S × Int32) => mm_markPairs_L321 z.1 z.2 x2 x3 x4)
noncomputable def mm_markPairs_b166 (S : md_S) (x1 : Int32) (x2 : Int32) (x3 : Int32) (x4 : Int32) : Option ((md_S × Int32 × Int32) ⊕ ((md_S × Int32))) :=
  if x4 < ((1 : Int32) <<< ((S.1 45) &&& (31 : Int32))) then ((dc_ix ((16 * x2) + x4) 4112).bind fun j14 => dc_let ((S.2.1 96 j14) : Int32) fun v15 => mm_markPairs_L191 S x1 x2 x3 x4 v15) else (some (.inr (S, x1)))
noncomputable def mm_markPairs_s166 (x2 : Int32) (x3 : Int32) (q : md_S × Int32 × Int32) : Option ((md_S × Int32 × Int32) ⊕ ((md_S × Int32))) :=
  mm_markPairs_b166 q.1 q.2.1 x2 x3 q.2.2
noncomputable def mm_markPairs_L166 (S : md_S) (x1 : Int32) (x2 : Int32) (x3 : Int32) (x4 : Int32) : Option ((md_S × Int32) ⊕ ((md_S))) :=
  (dc_it (mm_markPairs_s166 x2 x3) (S, x1, x4)).bind (fun (z : md_S × Int32) => mm_markPairs_L327 z.1 z.2)
noncomputable def mm_markPairs_b134 (S : md_S) (x1 : Int32) : Option ((md_S × Int32) ⊕ ((md_S))) :=
  if (0 : Int32) < x1 then ((dc_ix (x1 + (-1)) 33000).bind fun j16 => dc_let (((S.2.1 95 j16) / 257) : Int32) fun v17 => (dc_ix (x1 + (-1)) 33000).bind fun j18 => dc_let (((S.2.1 95 j18) - (S.2.1 95 j18) / 257 * 257) : Int32) fun v19 => mm_markPairs_L166 S (x1 + (-1)) v17 v19 0) else (some (.inr S))
noncomputable def mm_markPairs_s134 (q : md_S × Int32) : Option ((md_S × Int32) ⊕ ((md_S))) :=
  mm_markPairs_b134 q.1 q.2
noncomputable def mm_markPairs_L134 (S : md_S) (x1 : Int32) : Option (md_S) :=
  (dc_it (mm_markPairs_s134) (S, x1)).bind (fun (z : md_S) => mm_markPairs_L330 z)
noncomputable def mm_markPairs_L130 (S : md_S) (x1 : Int32) : Option (md_S) :=
  (mm_ahead S).bind fun q20 => mm_markPairs_L134 q20 x1
noncomputable def mm_markPairs_L124 (S : md_S) (x1 : Int32) (x2 : Int32) : Option ((md_S × Int32 × Int32) ⊕ ((md_S × Int32))) :=
  some (.inl (S, x1, (x2 + 1)))
noncomputable def mm_markPairs_L118 (S : md_S) (x1 : Int32) (x2 : Int32) (x3 : Int32) : Option ((md_S × Int32 × Int32) ⊕ ((md_S × Int32))) :=
  some (.inl (S, x1, (x3 + 1)))
noncomputable def mm_markPairs_b59 (S : md_S) (x1 : Int32) (x2 : Int32) (x3 : Int32) : Option ((md_S × Int32 × Int32) ⊕ ((md_S × Int32))) :=
  if x3 < x2 then ((mm_differ S x2 x3).bind fun q21 => if q21 = 0 then (mm_markPairs_L118 S x1 x2 x3) else ((dc_ix ((257 * x3) + x2) 66049).bind fun j22 => dc_let (md_a S 94 j22 1) fun S23 => (dc_ix ((257 * x2) + x3) 66049).bind fun j24 => dc_let (md_a S23 94 j24 1) fun S25 => (dc_ix x1 33000).bind fun j26 => dc_let (md_a S25 95 j26 ((257 * x2) + x3)) fun S27 => mm_markPairs_L118 S27 (x1 + 1) x2 x3)) else (some (.inr (S, x1)))
noncomputable def mm_markPairs_s59 (x2 : Int32) (q : md_S × Int32 × Int32) : Option ((md_S × Int32 × Int32) ⊕ ((md_S × Int32))) :=
  mm_markPairs_b59 q.1 q.2.1 x2 q.2.2
noncomputable def mm_markPairs_L59 (S : md_S) (x1 : Int32) (x2 : Int32) (x3 : Int32) : Option ((md_S × Int32 × Int32) ⊕ ((md_S × Int32))) :=
  (dc_it (mm_markPairs_s59 x2) (S, x1, x3)).bind (fun (z : md_S × Int32) => mm_markPairs_L124 z.1 z.2 x2)
noncomputable def mm_markPairs_b49 (S : md_S) (x1 : Int32) (x2 : Int32) : Option ((md_S × Int32 × Int32) ⊕ ((md_S × Int32))) :=
  if x2 < (S.1 87) then (mm_markPairs_L59 S x1 x2 0) else (some (.inr (S, x1)))
noncomputable def mm_markPairs_s49 (q : md_S × Int32 × Int32) : Option ((md_S × Int32 × Int32) ⊕ ((md_S × Int32))) :=
  mm_markPairs_b49 q.1 q.2.1 q.2.2
noncomputable def mm_markPairs_L49 (S : md_S) (x1 : Int32) (x2 : Int32) : Option (md_S) :=
  (dc_it (mm_markPairs_s49) (S, x1, x2)).bind (fun (z : md_S × Int32) => mm_markPairs_L130 z.1 z.2)
noncomputable def mm_markPairs_L47 (S : md_S) (x1 : Int32) : Option (md_S) :=
  mm_markPairs_L49 S x1 0
noncomputable def mm_markPairs_L41 (S : md_S) (x1 : Int32) (x2 : Int32) : Option ((md_S × Int32) ⊕ ((md_S))) :=
  some (.inl (S, (x2 + 1)))
noncomputable def mm_markPairs_b14 (S : md_S) (x1 : Int32) (x2 : Int32) (x3 : Int32) : Option ((md_S × Int32) ⊕ ((md_S))) :=
  if x3 < (S.1 87) then ((dc_ix ((257 * x2) + x3) 66049).bind fun j28 => dc_let (md_a S 94 j28 0) fun S29 => some (.inl (S29, (x3 + 1)))) else (some (.inr S))
noncomputable def mm_markPairs_s14 (x1 : Int32) (x2 : Int32) (q : md_S × Int32) : Option ((md_S × Int32) ⊕ ((md_S))) :=
  mm_markPairs_b14 q.1 x1 x2 q.2
noncomputable def mm_markPairs_L14 (S : md_S) (x1 : Int32) (x2 : Int32) (x3 : Int32) : Option ((md_S × Int32) ⊕ ((md_S))) :=
  (dc_it (mm_markPairs_s14 x1 x2) (S, x3)).bind (fun (z : md_S) => mm_markPairs_L41 z x1 x2)
noncomputable def mm_markPairs_b4 (S : md_S) (x1 : Int32) (x2 : Int32) : Option ((md_S × Int32) ⊕ ((md_S))) :=
  if x2 < (S.1 87) then (mm_markPairs_L14 S x1 x2 0) else (some (.inr S))
noncomputable def mm_markPairs_s4 (x1 : Int32) (q : md_S × Int32) : Option ((md_S × Int32) ⊕ ((md_S))) :=
  mm_markPairs_b4 q.1 x1 q.2
noncomputable def mm_markPairs_L4 (S : md_S) (x1 : Int32) (x2 : Int32) : Option (md_S) :=
  (dc_it (mm_markPairs_s4 x1) (S, x2)).bind (fun (z : md_S) => mm_markPairs_L47 z x1)
noncomputable def mm_markPairs (S : md_S) : Option (md_S) :=
  mm_markPairs_L4 S 0 0
set_option maxHeartbeats 4000000 in
set_option maxRecDepth 100000 in
/-- markPairs()V -/
theorem mm_markPairs_ok (l : Launch) (D : va_G) (ad : Nat → Nat) (de : Nat) (o : Nat) (a : Nat → Nat) (ca : Nat → ClassId) (S : md_S) (F : md_S → Prop) (h : dc_wp (mm_markPairs S) F) : dc_Cv l ⟨"SignalEngineModel", "markPairs", "()V"⟩ prog_15_method_89_code 7 none 2 46 D (md_T ca) ad de [.ref o] (md_W o a ca S) (fun w => ∃ q, F q ∧ w = md_W o a ca q) 0 0 := by
  refine dc_enterv (by decide +kernel) (Nat.le_of_ble_eq_true rfl) ?_
  intro X hC hR
  have lab_330 : ∀ (S : md_S), dc_wp (mm_markPairs_L330 S) F → dc_G X l { frames := 2, cells := 0, slots := 0, locals := 46 } D 7 0 0 (md_W o a ca S) 330 [(0, .ref o)] [] := by
    intro S  h
    delta mm_markPairs_L330 at h
    exact dc_vret (pc := 330) hC hR ⟨_, dc_some h, rfl⟩ (show decode prog_15_method_89_code 330 = .ok (.return_, 1) by decide +kernel)
  have loop_134 : ∀ (q : md_S × Int32), dc_wp (dc_it (mm_markPairs_s134) q) (fun z => dc_wp ((fun (z : md_S) => mm_markPairs_L330 z) z) F) → dc_G X l { frames := 2, cells := 0, slots := 0, locals := 46 } D 7 0 0 (md_W o a ca q.1) 134 [(0, .ref o), (1, .int q.2)] [] := by
    refine dc_loopF ?_
    intro F_134 hl_134 hr_134
    have lab_327 : ∀ (S : md_S) (x1 : Int32), dc_wp (mm_markPairs_L327 S x1) F_134 → dc_G X l { frames := 2, cells := 0, slots := 0, locals := 46 } D 7 0 0 (md_W o a ca S) 327 [(0, .ref o), (1, .int x1)] [] := by
      intro S x1 h
      delta mm_markPairs_L327 at h
      refine dc_goto (pc := 327) (tgt := 134) hC (show decode prog_15_method_89_code 327 = .ok (.goto (-193), 3) by decide +kernel) (by decide +kernel) ?_
      exact hl_134 (S, x1) (dc_some h)
    have loop_166 : ∀ (x2 : Int32) (x3 : Int32) (q : md_S × Int32 × Int32), dc_wp (dc_it (mm_markPairs_s166 x2 x3) q) (fun z => dc_wp ((fun (z : md_S × Int32) => mm_markPairs_L327 z.1 z.2) z) F_134) → dc_G X l { frames := 2, cells := 0, slots := 0, locals := 46 } D 7 0 0 (md_W o a ca q.1) 166 [(0, .ref o), (1, .int q.2.1), (2, .int x2), (3, .int x3), (4, .int q.2.2)] [] := by
      intro x2 x3
      refine dc_loopF ?_
      intro F_166 hl_166 hr_166
      have lab_321 : ∀ (S : md_S) (x1 : Int32) (x4 : Int32), dc_wp (mm_markPairs_L321 S x1 x2 x3 x4) F_166 → dc_G X l { frames := 2, cells := 0, slots := 0, locals := 46 } D 7 0 0 (md_W o a ca S) 321 [(0, .ref o), (1, .int x1), (2, .int x2), (3, .int x3), (4, .int x4)] [] := by
        intro S x1 x4 h
        delta mm_markPairs_L321 at h
        refine dc_iinc (pc := 321) (i := 4) (v := (x4 + 1)) (lv' := [(4, .int (x4 + 1)), (0, .ref o), (1, .int x1), (2, .int x2), (3, .int x3)]) hC 4 rfl rfl (Nat.le_of_ble_eq_true rfl) rfl (show decode prog_15_method_89_code 321 = .ok (.iinc 4 1, 3) by decide +kernel) ?_
        refine dc_goto (pc := 324) (tgt := 166) hC (show decode prog_15_method_89_code 324 = .ok (.goto (-158), 3) by decide +kernel) (by decide +kernel) ?_
        exact dc_sub [1, 2, 3, 4, 0] rfl (hl_166 (S, x1, (x4 + 1)) (dc_some h))
      have loop_191 : ∀ (x4 : Int32) (q : md_S × Int32 × Int32), dc_wp (dc_it (mm_markPairs_s191 x2 x3 x4) q) (fun z => dc_wp ((fun (z : md_S × Int32) => mm_markPairs_L321 z.1 z.2 x2 x3 x4) z) F_166) → dc_G X l { frames := 2, cells := 0, slots := 0, locals := 46 } D 7 0 0 (md_W o a ca q.1) 191 [(0, .ref o), (1, .int q.2.1), (2, .int x2), (3, .int x3), (4, .int x4), (5, .int q.2.2)] [] := by
        intro x4
        refine dc_loopF ?_
        intro F_191 hl_191 hr_191
        have lab_303 : ∀ (S : md_S) (x1 : Int32) (x5 : Int32), dc_wp (mm_markPairs_L303 S x1 x2 x3 x4 x5) F_191 → dc_G X l { frames := 2, cells := 0, slots := 0, locals := 46 } D 7 0 0 (md_W o a ca S) 303 [(0, .ref o), (1, .int x1), (2, .int x2), (3, .int x3), (4, .int x4), (5, .int x5)] [] := by
          intro S x1 x5 h
          delta mm_markPairs_L303 at h
          refine dc_aloadn (pc := 303) (j := 0) (i := 0) hC 0 rfl rfl (show decode prog_15_method_89_code 303 = .ok (.aload_n 0, 1) by decide +kernel) ?_
          refine md_g97 (pc := 304) hC (show decode prog_15_method_89_code 304 = .ok (.getfield 177, 3) by decide +kernel) ?_
          refine dc_bipush (pc := 307) (v := 16) hC (show decode prog_15_method_89_code 307 = .ok (.bipush 16, 2) by decide +kernel) (by decide +kernel) ?_
          refine dc_iload (pc := 309) (i := 5) hC 5 rfl (show decode prog_15_method_89_code 309 = .ok (.iload 5, 2) by decide +kernel) ?_
          refine dc_imul (pc := 311) hC (show decode prog_15_method_89_code 311 = .ok (.imul, 1) by decide +kernel) ?_
          refine dc_iload (pc := 312) (i := 4) hC 4 rfl (show decode prog_15_method_89_code 312 = .ok (.iload 4, 2) by decide +kernel) ?_
          refine dc_iadd (pc := 314) hC (show decode prog_15_method_89_code 314 = .ok (.iadd, 1) by decide +kernel) ?_
          refine md_l97 (pc := 315) hC (show decode prog_15_method_89_code 315 = .ok (.iaload, 1) by decide +kernel) h ?_
          intro j1 h
          refine dc_letI h ?_
          intro v2 h
          refine dc_istore (pc := 316) (i := 5) (lv' := [(5, .int v2), (0, .ref o), (1, .int x1), (2, .int x2), (3, .int x3), (4, .int x4)]) hC (Nat.le_of_ble_eq_true rfl) rfl (show decode prog_15_method_89_code 316 = .ok (.istore 5, 2) by decide +kernel) ?_
          refine dc_goto (pc := 318) (tgt := 191) hC (show decode prog_15_method_89_code 318 = .ok (.goto (-127), 3) by decide +kernel) (by decide +kernel) ?_
          exact dc_sub [1, 2, 3, 4, 5, 0] rfl (hl_191 (S, x1, v2) (dc_some h))
        have loop_211 : ∀ (x5 : Int32) (q : md_S × Int32 × Int32), dc_wp (dc_it (mm_markPairs_s211 x2 x3 x4 x5) q) (fun z => dc_wp ((fun (z : md_S × Int32) => mm_markPairs_L303 z.1 z.2 x2 x3 x4 x5) z) F_191) → dc_G X l { frames := 2, cells := 0, slots := 0, locals := 46 } D 7 0 0 (md_W o a ca q.1) 211 [(0, .ref o), (1, .int q.2.1), (2, .int x2), (3, .int x3), (4, .int x4), (5, .int x5), (6, .int q.2.2)] [] := by
          intro x5
          refine dc_loopF ?_
          intro F_211 hl_211 hr_211
          have lab_285 : ∀ (S : md_S) (x1 : Int32) (x6 : Int32), dc_wp (mm_markPairs_L285 S x1 x2 x3 x4 x5 x6) F_211 → dc_G X l { frames := 2, cells := 0, slots := 0, locals := 46 } D 7 0 0 (md_W o a ca S) 285 [(0, .ref o), (1, .int x1), (2, .int x2), (3, .int x3), (4, .int x4), (5, .int x5), (6, .int x6)] [] := by
            intro S x1 x6 h
            delta mm_markPairs_L285 at h
            refine dc_aloadn (pc := 285) (j := 0) (i := 0) hC 0 rfl rfl (show decode prog_15_method_89_code 285 = .ok (.aload_n 0, 1) by decide +kernel) ?_
            refine md_g97 (pc := 286) hC (show decode prog_15_method_89_code 286 = .ok (.getfield 177, 3) by decide +kernel) ?_
            refine dc_bipush (pc := 289) (v := 16) hC (show decode prog_15_method_89_code 289 = .ok (.bipush 16, 2) by decide +kernel) (by decide +kernel) ?_
            refine dc_iload (pc := 291) (i := 6) hC 6 rfl (show decode prog_15_method_89_code 291 = .ok (.iload 6, 2) by decide +kernel) ?_
            refine dc_imul (pc := 293) hC (show decode prog_15_method_89_code 293 = .ok (.imul, 1) by decide +kernel) ?_
            refine dc_iload (pc := 294) (i := 4) hC 4 rfl (show decode prog_15_method_89_code 294 = .ok (.iload 4, 2) by decide +kernel) ?_
            refine dc_iadd (pc := 296) hC (show decode prog_15_method_89_code 296 = .ok (.iadd, 1) by decide +kernel) ?_
            refine md_l97 (pc := 297) hC (show decode prog_15_method_89_code 297 = .ok (.iaload, 1) by decide +kernel) h ?_
            intro j3 h
            refine dc_letI h ?_
            intro v4 h
            refine dc_istore (pc := 298) (i := 6) (lv' := [(6, .int v4), (0, .ref o), (1, .int x1), (2, .int x2), (3, .int x3), (4, .int x4), (5, .int x5)]) hC (Nat.le_of_ble_eq_true rfl) rfl (show decode prog_15_method_89_code 298 = .ok (.istore 6, 2) by decide +kernel) ?_
            refine dc_goto (pc := 300) (tgt := 211) hC (show decode prog_15_method_89_code 300 = .ok (.goto (-89), 3) by decide +kernel) (by decide +kernel) ?_
            exact dc_sub [1, 2, 3, 4, 5, 6, 0] rfl (hl_211 (S, x1, v4) (dc_some h))
          rintro ⟨S, x1, x6⟩ h
          have h : dc_wp (mm_markPairs_b211 S x1 x2 x3 x4 x5 x6) F_211 := h
          delta mm_markPairs_b211 at h
          refine dc_iload (pc := 211) (i := 6) hC 6 rfl (show decode prog_15_method_89_code 211 = .ok (.iload 6, 2) by decide +kernel) ?_
          refine dc_iconst (pc := 213) (v := (-1)) hC (show decode prog_15_method_89_code 213 = .ok (.iconst (-1), 1) by decide +kernel) (by decide +kernel) ?_
          refine dc_icmp_eq (pc := 214) (tgt := 303) hC (show decode prog_15_method_89_code 214 = .ok (.if_icmp .eq 89, 3) by decide +kernel) (by decide +kernel) h ?_ ?_
          · intro h
            have h : dc_wp (mm_markPairs_L303 S x1 x2 x3 x4 x5) F_191 := hr_211 (S, x1) (dc_some h)
            exact dc_sub [0, 1, 2, 3, 4, 5] rfl (lab_303 S x1 x5 h)
          · intro h
            refine dc_aloadn (pc := 217) (j := 0) (i := 0) hC 0 rfl rfl (show decode prog_15_method_89_code 217 = .ok (.aload_n 0, 1) by decide +kernel) ?_
            refine md_g94 (pc := 218) hC (show decode prog_15_method_89_code 218 = .ok (.getfield 167, 3) by decide +kernel) ?_
            refine dc_sipush (pc := 221) (v := 257) hC (show decode prog_15_method_89_code 221 = .ok (.sipush 257, 3) by decide +kernel) (by decide +kernel) ?_
            refine dc_iload (pc := 224) (i := 5) hC 5 rfl (show decode prog_15_method_89_code 224 = .ok (.iload 5, 2) by decide +kernel) ?_
            refine dc_imul (pc := 226) hC (show decode prog_15_method_89_code 226 = .ok (.imul, 1) by decide +kernel) ?_
            refine dc_iload (pc := 227) (i := 6) hC 6 rfl (show decode prog_15_method_89_code 227 = .ok (.iload 6, 2) by decide +kernel) ?_
            refine dc_iadd (pc := 229) hC (show decode prog_15_method_89_code 229 = .ok (.iadd, 1) by decide +kernel) ?_
            refine md_l94 (pc := 230) hC (show decode prog_15_method_89_code 230 = .ok (.baload, 1) by decide +kernel) h ?_
            intro j5 h
            refine dc_if_eq (pc := 231) (tgt := 237) hC (show decode prog_15_method_89_code 231 = .ok (.ifCond .eq 6, 3) by decide +kernel) (by decide +kernel) h ?_ ?_
            · intro h
              refine dc_aloadn (pc := 237) (j := 0) (i := 0) hC 0 rfl rfl (show decode prog_15_method_89_code 237 = .ok (.aload_n 0, 1) by decide +kernel) ?_
              refine md_g94 (pc := 238) hC (show decode prog_15_method_89_code 238 = .ok (.getfield 167, 3) by decide +kernel) ?_
              refine dc_sipush (pc := 241) (v := 257) hC (show decode prog_15_method_89_code 241 = .ok (.sipush 257, 3) by decide +kernel) (by decide +kernel) ?_
              refine dc_iload (pc := 244) (i := 5) hC 5 rfl (show decode prog_15_method_89_code 244 = .ok (.iload 5, 2) by decide +kernel) ?_
              refine dc_imul (pc := 246) hC (show decode prog_15_method_89_code 246 = .ok (.imul, 1) by decide +kernel) ?_
              refine dc_iload (pc := 247) (i := 6) hC 6 rfl (show decode prog_15_method_89_code 247 = .ok (.iload 6, 2) by decide +kernel) ?_
              refine dc_iadd (pc := 249) hC (show decode prog_15_method_89_code 249 = .ok (.iadd, 1) by decide +kernel) ?_
              refine dc_aloadn (pc := 250) (j := 0) (i := 0) hC 0 rfl rfl (show decode prog_15_method_89_code 250 = .ok (.aload_n 0, 1) by decide +kernel) ?_
              refine md_g94 (pc := 251) hC (show decode prog_15_method_89_code 251 = .ok (.getfield 167, 3) by decide +kernel) ?_
              refine dc_sipush (pc := 254) (v := 257) hC (show decode prog_15_method_89_code 254 = .ok (.sipush 257, 3) by decide +kernel) (by decide +kernel) ?_
              refine dc_iload (pc := 257) (i := 6) hC 6 rfl (show decode prog_15_method_89_code 257 = .ok (.iload 6, 2) by decide +kernel) ?_
              refine dc_imul (pc := 259) hC (show decode prog_15_method_89_code 259 = .ok (.imul, 1) by decide +kernel) ?_
              refine dc_iload (pc := 260) (i := 5) hC 5 rfl (show decode prog_15_method_89_code 260 = .ok (.iload 5, 2) by decide +kernel) ?_
              refine dc_iadd (pc := 262) hC (show decode prog_15_method_89_code 262 = .ok (.iadd, 1) by decide +kernel) ?_
              refine dc_iconst (pc := 263) (v := 1) hC (show decode prog_15_method_89_code 263 = .ok (.iconst 1, 1) by decide +kernel) (by decide +kernel) ?_
              refine dc_dup_x2 (pc := 264) hC (show decode prog_15_method_89_code 264 = .ok (.dup_x2, 1) by decide +kernel) rfl rfl rfl ?_
              refine md_s94 (pc := 265) hC (Or.inr rfl) (show decode prog_15_method_89_code 265 = .ok (.bastore, 1) by decide +kernel) h ?_
              intro j6 h
              refine dc_letS h ?_
              intro S7 h
              refine md_s94 (pc := 266) hC (Or.inr rfl) (show decode prog_15_method_89_code 266 = .ok (.bastore, 1) by decide +kernel) h ?_
              intro j8 h
              refine dc_letS h ?_
              intro S9 h
              refine dc_aloadn (pc := 267) (j := 0) (i := 0) hC 0 rfl rfl (show decode prog_15_method_89_code 267 = .ok (.aload_n 0, 1) by decide +kernel) ?_
              refine md_g95 (pc := 268) hC (show decode prog_15_method_89_code 268 = .ok (.getfield 171, 3) by decide +kernel) ?_
              refine dc_iloadn (pc := 271) (j := 1) (i := 1) hC 1 rfl rfl (show decode prog_15_method_89_code 271 = .ok (.iload_n 1, 1) by decide +kernel) ?_
              refine dc_sipush (pc := 272) (v := 257) hC (show decode prog_15_method_89_code 272 = .ok (.sipush 257, 3) by decide +kernel) (by decide +kernel) ?_
              refine dc_iload (pc := 275) (i := 5) hC 5 rfl (show decode prog_15_method_89_code 275 = .ok (.iload 5, 2) by decide +kernel) ?_
              refine dc_imul (pc := 277) hC (show decode prog_15_method_89_code 277 = .ok (.imul, 1) by decide +kernel) ?_
              refine dc_iload (pc := 278) (i := 6) hC 6 rfl (show decode prog_15_method_89_code 278 = .ok (.iload 6, 2) by decide +kernel) ?_
              refine dc_iadd (pc := 280) hC (show decode prog_15_method_89_code 280 = .ok (.iadd, 1) by decide +kernel) ?_
              refine md_s95 (pc := 281) hC (show decode prog_15_method_89_code 281 = .ok (.iastore, 1) by decide +kernel) h ?_
              intro j10 h
              refine dc_letS h ?_
              intro S11 h
              refine dc_iinc (pc := 282) (i := 1) (v := (x1 + 1)) (lv' := [(1, .int (x1 + 1)), (0, .ref o), (2, .int x2), (3, .int x3), (4, .int x4), (5, .int x5), (6, .int x6)]) hC 1 rfl rfl (Nat.le_of_ble_eq_true rfl) rfl (show decode prog_15_method_89_code 282 = .ok (.iinc 1 1, 3) by decide +kernel) ?_
              exact dc_sub [1, 0, 2, 3, 4, 5, 6] rfl (lab_285 S11 (x1 + 1) x6 h)
            · intro h
              refine dc_goto (pc := 234) (tgt := 285) hC (show decode prog_15_method_89_code 234 = .ok (.goto 51, 3) by decide +kernel) (by decide +kernel) ?_
              exact lab_285 S x1 x6 h
        have lab_211 : ∀ (S : md_S) (x1 : Int32) (x5 : Int32) (x6 : Int32), dc_wp (mm_markPairs_L211 S x1 x2 x3 x4 x5 x6) F_191 → dc_G X l { frames := 2, cells := 0, slots := 0, locals := 46 } D 7 0 0 (md_W o a ca S) 211 [(0, .ref o), (1, .int x1), (2, .int x2), (3, .int x3), (4, .int x4), (5, .int x5), (6, .int x6)] [] := fun S x1 x5 x6 h => loop_211 x5 (S, x1, x6) (dc_bind h)
        rintro ⟨S, x1, x5⟩ h
        have h : dc_wp (mm_markPairs_b191 S x1 x2 x3 x4 x5) F_191 := h
        delta mm_markPairs_b191 at h
        refine dc_iload (pc := 191) (i := 5) hC 5 rfl (show decode prog_15_method_89_code 191 = .ok (.iload 5, 2) by decide +kernel) ?_
        refine dc_iconst (pc := 193) (v := (-1)) hC (show decode prog_15_method_89_code 193 = .ok (.iconst (-1), 1) by decide +kernel) (by decide +kernel) ?_
        refine dc_icmp_eq (pc := 194) (tgt := 321) hC (show decode prog_15_method_89_code 194 = .ok (.if_icmp .eq 127, 3) by decide +kernel) (by decide +kernel) h ?_ ?_
        · intro h
          have h : dc_wp (mm_markPairs_L321 S x1 x2 x3 x4) F_166 := hr_191 (S, x1) (dc_some h)
          exact dc_sub [0, 1, 2, 3, 4] rfl (lab_321 S x1 x4 h)
        · intro h
          refine dc_aloadn (pc := 197) (j := 0) (i := 0) hC 0 rfl rfl (show decode prog_15_method_89_code 197 = .ok (.aload_n 0, 1) by decide +kernel) ?_
          refine md_g96 (pc := 198) hC (show decode prog_15_method_89_code 198 = .ok (.getfield 174, 3) by decide +kernel) ?_
          refine dc_bipush (pc := 201) (v := 16) hC (show decode prog_15_method_89_code 201 = .ok (.bipush 16, 2) by decide +kernel) (by decide +kernel) ?_
          refine dc_iloadn (pc := 203) (j := 3) (i := 3) hC 3 rfl rfl (show decode prog_15_method_89_code 203 = .ok (.iload_n 3, 1) by decide +kernel) ?_
          refine dc_imul (pc := 204) hC (show decode prog_15_method_89_code 204 = .ok (.imul, 1) by decide +kernel) ?_
          refine dc_iload (pc := 205) (i := 4) hC 4 rfl (show decode prog_15_method_89_code 205 = .ok (.iload 4, 2) by decide +kernel) ?_
          refine dc_iadd (pc := 207) hC (show decode prog_15_method_89_code 207 = .ok (.iadd, 1) by decide +kernel) ?_
          refine md_l96 (pc := 208) hC (show decode prog_15_method_89_code 208 = .ok (.iaload, 1) by decide +kernel) h ?_
          intro j12 h
          refine dc_letI h ?_
          intro v13 h
          refine dc_istore (pc := 209) (i := 6) (lv' := [(6, .int v13), (0, .ref o), (1, .int x1), (2, .int x2), (3, .int x3), (4, .int x4), (5, .int x5)]) hC (Nat.le_of_ble_eq_true rfl) rfl (show decode prog_15_method_89_code 209 = .ok (.istore 6, 2) by decide +kernel) ?_
          exact dc_sub [1, 2, 3, 4, 5, 6, 0] rfl (lab_211 S x1 x5 v13 h)
      have lab_191 : ∀ (S : md_S) (x1 : Int32) (x4 : Int32) (x5 : Int32), dc_wp (mm_markPairs_L191 S x1 x2 x3 x4 x5) F_166 → dc_G X l { frames := 2, cells := 0, slots := 0, locals := 46 } D 7 0 0 (md_W o a ca S) 191 [(0, .ref o), (1, .int x1), (2, .int x2), (3, .int x3), (4, .int x4), (5, .int x5)] [] := fun S x1 x4 x5 h => loop_191 x4 (S, x1, x5) (dc_bind h)
      rintro ⟨S, x1, x4⟩ h
      have h : dc_wp (mm_markPairs_b166 S x1 x2 x3 x4) F_166 := h
      delta mm_markPairs_b166 at h
      refine dc_iload (pc := 166) (i := 4) hC 4 rfl (show decode prog_15_method_89_code 166 = .ok (.iload 4, 2) by decide +kernel) ?_
      refine dc_iconst (pc := 168) (v := 1) hC (show decode prog_15_method_89_code 168 = .ok (.iconst 1, 1) by decide +kernel) (by decide +kernel) ?_
      refine dc_aloadn (pc := 169) (j := 0) (i := 0) hC 0 rfl rfl (show decode prog_15_method_89_code 169 = .ok (.aload_n 0, 1) by decide +kernel) ?_
      refine md_g45 (pc := 170) hC (show decode prog_15_method_89_code 170 = .ok (.getfield 533, 3) by decide +kernel) ?_
      refine dc_ishl (pc := 173) hC (show decode prog_15_method_89_code 173 = .ok (.ishl, 1) by decide +kernel) ?_
      refine dc_icmp_ge (pc := 174) (tgt := 327) hC (show decode prog_15_method_89_code 174 = .ok (.if_icmp .ge 153, 3) by decide +kernel) (by decide +kernel) h ?_ ?_
      · intro h
        refine dc_aloadn (pc := 177) (j := 0) (i := 0) hC 0 rfl rfl (show decode prog_15_method_89_code 177 = .ok (.aload_n 0, 1) by decide +kernel) ?_
        refine md_g96 (pc := 178) hC (show decode prog_15_method_89_code 178 = .ok (.getfield 174, 3) by decide +kernel) ?_
        refine dc_bipush (pc := 181) (v := 16) hC (show decode prog_15_method_89_code 181 = .ok (.bipush 16, 2) by decide +kernel) (by decide +kernel) ?_
        refine dc_iloadn (pc := 183) (j := 2) (i := 2) hC 2 rfl rfl (show decode prog_15_method_89_code 183 = .ok (.iload_n 2, 1) by decide +kernel) ?_
        refine dc_imul (pc := 184) hC (show decode prog_15_method_89_code 184 = .ok (.imul, 1) by decide +kernel) ?_
        refine dc_iload (pc := 185) (i := 4) hC 4 rfl (show decode prog_15_method_89_code 185 = .ok (.iload 4, 2) by decide +kernel) ?_
        refine dc_iadd (pc := 187) hC (show decode prog_15_method_89_code 187 = .ok (.iadd, 1) by decide +kernel) ?_
        refine md_l96 (pc := 188) hC (show decode prog_15_method_89_code 188 = .ok (.iaload, 1) by decide +kernel) h ?_
        intro j14 h
        refine dc_letI h ?_
        intro v15 h
        refine dc_istore (pc := 189) (i := 5) (lv' := [(5, .int v15), (0, .ref o), (1, .int x1), (2, .int x2), (3, .int x3), (4, .int x4)]) hC (Nat.le_of_ble_eq_true rfl) rfl (show decode prog_15_method_89_code 189 = .ok (.istore 5, 2) by decide +kernel) ?_
        exact dc_sub [1, 2, 3, 4, 5, 0] rfl (lab_191 S x1 x4 v15 h)
      · intro h
        have h : dc_wp (mm_markPairs_L327 S x1) F_134 := hr_166 (S, x1) (dc_some h)
        exact dc_sub [0, 1] rfl (lab_327 S x1 h)
    have lab_166 : ∀ (S : md_S) (x1 : Int32) (x2 : Int32) (x3 : Int32) (x4 : Int32), dc_wp (mm_markPairs_L166 S x1 x2 x3 x4) F_134 → dc_G X l { frames := 2, cells := 0, slots := 0, locals := 46 } D 7 0 0 (md_W o a ca S) 166 [(0, .ref o), (1, .int x1), (2, .int x2), (3, .int x3), (4, .int x4)] [] := fun S x1 x2 x3 x4 h => loop_166 x2 x3 (S, x1, x4) (dc_bind h)
    rintro ⟨S, x1⟩ h
    have h : dc_wp (mm_markPairs_b134 S x1) F_134 := h
    delta mm_markPairs_b134 at h
    refine dc_iloadn (pc := 134) (j := 1) (i := 1) hC 1 rfl rfl (show decode prog_15_method_89_code 134 = .ok (.iload_n 1, 1) by decide +kernel) ?_
    refine dc_if_le (pc := 135) (tgt := 330) hC (show decode prog_15_method_89_code 135 = .ok (.ifCond .le 195, 3) by decide +kernel) (by decide +kernel) h ?_ ?_
    · intro h
      refine dc_iinc (pc := 138) (i := 1) (v := (x1 + (-1))) (lv' := [(1, .int (x1 + (-1))), (0, .ref o)]) hC 1 rfl (congrArg (fun z => x1 + z) (show Int32.ofInt (-1) = (-1 : Int32) by decide +kernel)) (Nat.le_of_ble_eq_true rfl) rfl (show decode prog_15_method_89_code 138 = .ok (.iinc 1 (-1), 3) by decide +kernel) ?_
      refine dc_aloadn (pc := 141) (j := 0) (i := 0) hC 1 rfl rfl (show decode prog_15_method_89_code 141 = .ok (.aload_n 0, 1) by decide +kernel) ?_
      refine md_g95 (pc := 142) hC (show decode prog_15_method_89_code 142 = .ok (.getfield 171, 3) by decide +kernel) ?_
      refine dc_iloadn (pc := 145) (j := 1) (i := 1) hC 0 rfl rfl (show decode prog_15_method_89_code 145 = .ok (.iload_n 1, 1) by decide +kernel) ?_
      refine md_l95 (pc := 146) hC (show decode prog_15_method_89_code 146 = .ok (.iaload, 1) by decide +kernel) h ?_
      intro j16 h
      refine dc_sipush (pc := 147) (v := 257) hC (show decode prog_15_method_89_code 147 = .ok (.sipush 257, 3) by decide +kernel) (by decide +kernel) ?_
      refine dc_idiv (pc := 150) hC (show decode prog_15_method_89_code 150 = .ok (.idiv, 1) by decide +kernel) (by decide +kernel) ?_
      refine dc_letI h ?_
      intro v17 h
      refine dc_istoren (pc := 151) (j := 2) (i := 2) (lv' := [(2, .int v17), (1, .int (x1 + (-1))), (0, .ref o)]) hC rfl (Nat.le_of_ble_eq_true rfl) rfl (show decode prog_15_method_89_code 151 = .ok (.istore_n 2, 1) by decide +kernel) ?_
      refine dc_aloadn (pc := 152) (j := 0) (i := 0) hC 2 rfl rfl (show decode prog_15_method_89_code 152 = .ok (.aload_n 0, 1) by decide +kernel) ?_
      refine md_g95 (pc := 153) hC (show decode prog_15_method_89_code 153 = .ok (.getfield 171, 3) by decide +kernel) ?_
      refine dc_iloadn (pc := 156) (j := 1) (i := 1) hC 1 rfl rfl (show decode prog_15_method_89_code 156 = .ok (.iload_n 1, 1) by decide +kernel) ?_
      refine md_l95 (pc := 157) hC (show decode prog_15_method_89_code 157 = .ok (.iaload, 1) by decide +kernel) h ?_
      intro j18 h
      refine dc_sipush (pc := 158) (v := 257) hC (show decode prog_15_method_89_code 158 = .ok (.sipush 257, 3) by decide +kernel) (by decide +kernel) ?_
      refine dc_irem (pc := 161) hC (show decode prog_15_method_89_code 161 = .ok (.irem, 1) by decide +kernel) (by decide +kernel) ?_
      refine dc_letI h ?_
      intro v19 h
      refine dc_istoren (pc := 162) (j := 3) (i := 3) (lv' := [(3, .int v19), (2, .int v17), (1, .int (x1 + (-1))), (0, .ref o)]) hC rfl (Nat.le_of_ble_eq_true rfl) rfl (show decode prog_15_method_89_code 162 = .ok (.istore_n 3, 1) by decide +kernel) ?_
      refine dc_iconst (pc := 163) (v := 0) hC (show decode prog_15_method_89_code 163 = .ok (.iconst 0, 1) by decide +kernel) (by decide +kernel) ?_
      refine dc_istore (pc := 164) (i := 4) (lv' := [(4, .int 0), (3, .int v19), (2, .int v17), (1, .int (x1 + (-1))), (0, .ref o)]) hC (Nat.le_of_ble_eq_true rfl) rfl (show decode prog_15_method_89_code 164 = .ok (.istore 4, 2) by decide +kernel) ?_
      exact dc_sub [4, 3, 2, 1, 0] rfl (lab_166 S (x1 + (-1)) v17 v19 0 h)
    · intro h
      have h : dc_wp (mm_markPairs_L330 S) F := hr_134 S (dc_some h)
      exact dc_sub [0] rfl (lab_330 S h)
  have lab_134 : ∀ (S : md_S) (x1 : Int32), dc_wp (mm_markPairs_L134 S x1) F → dc_G X l { frames := 2, cells := 0, slots := 0, locals := 46 } D 7 0 0 (md_W o a ca S) 134 [(0, .ref o), (1, .int x1)] [] := fun S x1 h => loop_134  (S, x1) (dc_bind h)
  have lab_130 : ∀ (S : md_S) (x1 : Int32), dc_wp (mm_markPairs_L130 S x1) F → dc_G X l { frames := 2, cells := 0, slots := 0, locals := 46 } D 7 0 0 (md_W o a ca S) 130 [(0, .ref o), (1, .int x1)] [] := by
    intro S x1 h
    delta mm_markPairs_L130 at h
    refine dc_aloadn (pc := 130) (j := 0) (i := 0) hC 0 rfl rfl (show decode prog_15_method_89_code 130 = .ok (.aload_n 0, 1) by decide +kernel) ?_
    refine mc_Vmv (pc := 131) (As := []) (rest := []) hC vw_ahead_645 (mm_ahead_ok l D ad de o a ca S) (Nat.le_of_ble_eq_true rfl) (Nat.le_of_ble_eq_true rfl) rfl (Nat.le_of_ble_eq_true rfl) (show decode prog_15_method_89_code 131 = .ok (.invokevirtual 645, 3) by decide +kernel) h ?_
    intro q20 h
    exact lab_134 q20 x1 h
  have loop_49 : ∀ (q : md_S × Int32 × Int32), dc_wp (dc_it (mm_markPairs_s49) q) (fun z => dc_wp ((fun (z : md_S × Int32) => mm_markPairs_L130 z.1 z.2) z) F) → dc_G X l { frames := 2, cells := 0, slots := 0, locals := 46 } D 7 0 0 (md_W o a ca q.1) 49 [(0, .ref o), (1, .int q.2.1), (2, .int q.2.2)] [] := by
    refine dc_loopF ?_
    intro F_49 hl_49 hr_49
    have lab_124 : ∀ (S : md_S) (x1 : Int32) (x2 : Int32), dc_wp (mm_markPairs_L124 S x1 x2) F_49 → dc_G X l { frames := 2, cells := 0, slots := 0, locals := 46 } D 7 0 0 (md_W o a ca S) 124 [(0, .ref o), (1, .int x1), (2, .int x2)] [] := by
      intro S x1 x2 h
      delta mm_markPairs_L124 at h
      refine dc_iinc (pc := 124) (i := 2) (v := (x2 + 1)) (lv' := [(2, .int (x2 + 1)), (0, .ref o), (1, .int x1)]) hC 2 rfl rfl (Nat.le_of_ble_eq_true rfl) rfl (show decode prog_15_method_89_code 124 = .ok (.iinc 2 1, 3) by decide +kernel) ?_
      refine dc_goto (pc := 127) (tgt := 49) hC (show decode prog_15_method_89_code 127 = .ok (.goto (-78), 3) by decide +kernel) (by decide +kernel) ?_
      exact dc_sub [1, 2, 0] rfl (hl_49 (S, x1, (x2 + 1)) (dc_some h))
    have loop_59 : ∀ (x2 : Int32) (q : md_S × Int32 × Int32), dc_wp (dc_it (mm_markPairs_s59 x2) q) (fun z => dc_wp ((fun (z : md_S × Int32) => mm_markPairs_L124 z.1 z.2 x2) z) F_49) → dc_G X l { frames := 2, cells := 0, slots := 0, locals := 46 } D 7 0 0 (md_W o a ca q.1) 59 [(0, .ref o), (1, .int q.2.1), (2, .int x2), (3, .int q.2.2)] [] := by
      intro x2
      refine dc_loopF ?_
      intro F_59 hl_59 hr_59
      have lab_118 : ∀ (S : md_S) (x1 : Int32) (x3 : Int32), dc_wp (mm_markPairs_L118 S x1 x2 x3) F_59 → dc_G X l { frames := 2, cells := 0, slots := 0, locals := 46 } D 7 0 0 (md_W o a ca S) 118 [(0, .ref o), (1, .int x1), (2, .int x2), (3, .int x3)] [] := by
        intro S x1 x3 h
        delta mm_markPairs_L118 at h
        refine dc_iinc (pc := 118) (i := 3) (v := (x3 + 1)) (lv' := [(3, .int (x3 + 1)), (0, .ref o), (1, .int x1), (2, .int x2)]) hC 3 rfl rfl (Nat.le_of_ble_eq_true rfl) rfl (show decode prog_15_method_89_code 118 = .ok (.iinc 3 1, 3) by decide +kernel) ?_
        refine dc_goto (pc := 121) (tgt := 59) hC (show decode prog_15_method_89_code 121 = .ok (.goto (-62), 3) by decide +kernel) (by decide +kernel) ?_
        exact dc_sub [1, 2, 3, 0] rfl (hl_59 (S, x1, (x3 + 1)) (dc_some h))
      rintro ⟨S, x1, x3⟩ h
      have h : dc_wp (mm_markPairs_b59 S x1 x2 x3) F_59 := h
      delta mm_markPairs_b59 at h
      refine dc_iloadn (pc := 59) (j := 3) (i := 3) hC 3 rfl rfl (show decode prog_15_method_89_code 59 = .ok (.iload_n 3, 1) by decide +kernel) ?_
      refine dc_iloadn (pc := 60) (j := 2) (i := 2) hC 2 rfl rfl (show decode prog_15_method_89_code 60 = .ok (.iload_n 2, 1) by decide +kernel) ?_
      refine dc_icmp_ge (pc := 61) (tgt := 124) hC (show decode prog_15_method_89_code 61 = .ok (.if_icmp .ge 63, 3) by decide +kernel) (by decide +kernel) h ?_ ?_
      · intro h
        refine dc_aloadn (pc := 64) (j := 0) (i := 0) hC 0 rfl rfl (show decode prog_15_method_89_code 64 = .ok (.aload_n 0, 1) by decide +kernel) ?_
        refine dc_iloadn (pc := 65) (j := 2) (i := 2) hC 2 rfl rfl (show decode prog_15_method_89_code 65 = .ok (.iload_n 2, 1) by decide +kernel) ?_
        refine dc_iloadn (pc := 66) (j := 3) (i := 3) hC 3 rfl rfl (show decode prog_15_method_89_code 66 = .ok (.iload_n 3, 1) by decide +kernel) ?_
        refine mc_Vpi (pc := 67) (As := [.int x2, .int x3]) (rest := []) hC vw_differ_641 (mm_differ_ok l D ad de o a ca S x2 x3) (Nat.le_of_ble_eq_true rfl) (Nat.le_of_ble_eq_true rfl) rfl (Nat.le_of_ble_eq_true rfl) (show decode prog_15_method_89_code 67 = .ok (.invokevirtual 641, 3) by decide +kernel) h ?_
        intro q21 h
        refine dc_if_ne (pc := 70) (tgt := 76) hC (show decode prog_15_method_89_code 70 = .ok (.ifCond .ne 6, 3) by decide +kernel) (by decide +kernel) h ?_ ?_
        · intro h
          refine dc_goto (pc := 73) (tgt := 118) hC (show decode prog_15_method_89_code 73 = .ok (.goto 45, 3) by decide +kernel) (by decide +kernel) ?_
          exact lab_118 S x1 x3 h
        · intro h
          refine dc_aloadn (pc := 76) (j := 0) (i := 0) hC 0 rfl rfl (show decode prog_15_method_89_code 76 = .ok (.aload_n 0, 1) by decide +kernel) ?_
          refine md_g94 (pc := 77) hC (show decode prog_15_method_89_code 77 = .ok (.getfield 167, 3) by decide +kernel) ?_
          refine dc_sipush (pc := 80) (v := 257) hC (show decode prog_15_method_89_code 80 = .ok (.sipush 257, 3) by decide +kernel) (by decide +kernel) ?_
          refine dc_iloadn (pc := 83) (j := 2) (i := 2) hC 2 rfl rfl (show decode prog_15_method_89_code 83 = .ok (.iload_n 2, 1) by decide +kernel) ?_
          refine dc_imul (pc := 84) hC (show decode prog_15_method_89_code 84 = .ok (.imul, 1) by decide +kernel) ?_
          refine dc_iloadn (pc := 85) (j := 3) (i := 3) hC 3 rfl rfl (show decode prog_15_method_89_code 85 = .ok (.iload_n 3, 1) by decide +kernel) ?_
          refine dc_iadd (pc := 86) hC (show decode prog_15_method_89_code 86 = .ok (.iadd, 1) by decide +kernel) ?_
          refine dc_aloadn (pc := 87) (j := 0) (i := 0) hC 0 rfl rfl (show decode prog_15_method_89_code 87 = .ok (.aload_n 0, 1) by decide +kernel) ?_
          refine md_g94 (pc := 88) hC (show decode prog_15_method_89_code 88 = .ok (.getfield 167, 3) by decide +kernel) ?_
          refine dc_sipush (pc := 91) (v := 257) hC (show decode prog_15_method_89_code 91 = .ok (.sipush 257, 3) by decide +kernel) (by decide +kernel) ?_
          refine dc_iloadn (pc := 94) (j := 3) (i := 3) hC 3 rfl rfl (show decode prog_15_method_89_code 94 = .ok (.iload_n 3, 1) by decide +kernel) ?_
          refine dc_imul (pc := 95) hC (show decode prog_15_method_89_code 95 = .ok (.imul, 1) by decide +kernel) ?_
          refine dc_iloadn (pc := 96) (j := 2) (i := 2) hC 2 rfl rfl (show decode prog_15_method_89_code 96 = .ok (.iload_n 2, 1) by decide +kernel) ?_
          refine dc_iadd (pc := 97) hC (show decode prog_15_method_89_code 97 = .ok (.iadd, 1) by decide +kernel) ?_
          refine dc_iconst (pc := 98) (v := 1) hC (show decode prog_15_method_89_code 98 = .ok (.iconst 1, 1) by decide +kernel) (by decide +kernel) ?_
          refine dc_dup_x2 (pc := 99) hC (show decode prog_15_method_89_code 99 = .ok (.dup_x2, 1) by decide +kernel) rfl rfl rfl ?_
          refine md_s94 (pc := 100) hC (Or.inr rfl) (show decode prog_15_method_89_code 100 = .ok (.bastore, 1) by decide +kernel) h ?_
          intro j22 h
          refine dc_letS h ?_
          intro S23 h
          refine md_s94 (pc := 101) hC (Or.inr rfl) (show decode prog_15_method_89_code 101 = .ok (.bastore, 1) by decide +kernel) h ?_
          intro j24 h
          refine dc_letS h ?_
          intro S25 h
          refine dc_aloadn (pc := 102) (j := 0) (i := 0) hC 0 rfl rfl (show decode prog_15_method_89_code 102 = .ok (.aload_n 0, 1) by decide +kernel) ?_
          refine md_g95 (pc := 103) hC (show decode prog_15_method_89_code 103 = .ok (.getfield 171, 3) by decide +kernel) ?_
          refine dc_iloadn (pc := 106) (j := 1) (i := 1) hC 1 rfl rfl (show decode prog_15_method_89_code 106 = .ok (.iload_n 1, 1) by decide +kernel) ?_
          refine dc_sipush (pc := 107) (v := 257) hC (show decode prog_15_method_89_code 107 = .ok (.sipush 257, 3) by decide +kernel) (by decide +kernel) ?_
          refine dc_iloadn (pc := 110) (j := 2) (i := 2) hC 2 rfl rfl (show decode prog_15_method_89_code 110 = .ok (.iload_n 2, 1) by decide +kernel) ?_
          refine dc_imul (pc := 111) hC (show decode prog_15_method_89_code 111 = .ok (.imul, 1) by decide +kernel) ?_
          refine dc_iloadn (pc := 112) (j := 3) (i := 3) hC 3 rfl rfl (show decode prog_15_method_89_code 112 = .ok (.iload_n 3, 1) by decide +kernel) ?_
          refine dc_iadd (pc := 113) hC (show decode prog_15_method_89_code 113 = .ok (.iadd, 1) by decide +kernel) ?_
          refine md_s95 (pc := 114) hC (show decode prog_15_method_89_code 114 = .ok (.iastore, 1) by decide +kernel) h ?_
          intro j26 h
          refine dc_letS h ?_
          intro S27 h
          refine dc_iinc (pc := 115) (i := 1) (v := (x1 + 1)) (lv' := [(1, .int (x1 + 1)), (0, .ref o), (2, .int x2), (3, .int x3)]) hC 1 rfl rfl (Nat.le_of_ble_eq_true rfl) rfl (show decode prog_15_method_89_code 115 = .ok (.iinc 1 1, 3) by decide +kernel) ?_
          exact dc_sub [1, 0, 2, 3] rfl (lab_118 S27 (x1 + 1) x3 h)
      · intro h
        have h : dc_wp (mm_markPairs_L124 S x1 x2) F_49 := hr_59 (S, x1) (dc_some h)
        exact dc_sub [0, 1, 2] rfl (lab_124 S x1 x2 h)
    have lab_59 : ∀ (S : md_S) (x1 : Int32) (x2 : Int32) (x3 : Int32), dc_wp (mm_markPairs_L59 S x1 x2 x3) F_49 → dc_G X l { frames := 2, cells := 0, slots := 0, locals := 46 } D 7 0 0 (md_W o a ca S) 59 [(0, .ref o), (1, .int x1), (2, .int x2), (3, .int x3)] [] := fun S x1 x2 x3 h => loop_59 x2 (S, x1, x3) (dc_bind h)
    rintro ⟨S, x1, x2⟩ h
    have h : dc_wp (mm_markPairs_b49 S x1 x2) F_49 := h
    delta mm_markPairs_b49 at h
    refine dc_iloadn (pc := 49) (j := 2) (i := 2) hC 2 rfl rfl (show decode prog_15_method_89_code 49 = .ok (.iload_n 2, 1) by decide +kernel) ?_
    refine dc_aloadn (pc := 50) (j := 0) (i := 0) hC 0 rfl rfl (show decode prog_15_method_89_code 50 = .ok (.aload_n 0, 1) by decide +kernel) ?_
    refine md_g87 (pc := 51) hC (show decode prog_15_method_89_code 51 = .ok (.getfield 527, 3) by decide +kernel) ?_
    refine dc_icmp_ge (pc := 54) (tgt := 130) hC (show decode prog_15_method_89_code 54 = .ok (.if_icmp .ge 76, 3) by decide +kernel) (by decide +kernel) h ?_ ?_
    · intro h
      refine dc_iconst (pc := 57) (v := 0) hC (show decode prog_15_method_89_code 57 = .ok (.iconst 0, 1) by decide +kernel) (by decide +kernel) ?_
      refine dc_istoren (pc := 58) (j := 3) (i := 3) (lv' := [(3, .int 0), (0, .ref o), (1, .int x1), (2, .int x2)]) hC rfl (Nat.le_of_ble_eq_true rfl) rfl (show decode prog_15_method_89_code 58 = .ok (.istore_n 3, 1) by decide +kernel) ?_
      exact dc_sub [1, 2, 3, 0] rfl (lab_59 S x1 x2 0 h)
    · intro h
      have h : dc_wp (mm_markPairs_L130 S x1) F := hr_49 (S, x1) (dc_some h)
      exact dc_sub [0, 1] rfl (lab_130 S x1 h)
  have lab_49 : ∀ (S : md_S) (x1 : Int32) (x2 : Int32), dc_wp (mm_markPairs_L49 S x1 x2) F → dc_G X l { frames := 2, cells := 0, slots := 0, locals := 46 } D 7 0 0 (md_W o a ca S) 49 [(0, .ref o), (1, .int x1), (2, .int x2)] [] := fun S x1 x2 h => loop_49  (S, x1, x2) (dc_bind h)
  have lab_47 : ∀ (S : md_S) (x1 : Int32), dc_wp (mm_markPairs_L47 S x1) F → dc_G X l { frames := 2, cells := 0, slots := 0, locals := 46 } D 7 0 0 (md_W o a ca S) 47 [(0, .ref o), (1, .int x1)] [] := by
    intro S x1 h
    delta mm_markPairs_L47 at h
    refine dc_iconst (pc := 47) (v := 0) hC (show decode prog_15_method_89_code 47 = .ok (.iconst 0, 1) by decide +kernel) (by decide +kernel) ?_
    refine dc_istoren (pc := 48) (j := 2) (i := 2) (lv' := [(2, .int 0), (0, .ref o), (1, .int x1)]) hC rfl (Nat.le_of_ble_eq_true rfl) rfl (show decode prog_15_method_89_code 48 = .ok (.istore_n 2, 1) by decide +kernel) ?_
    exact dc_sub [1, 2, 0] rfl (lab_49 S x1 0 h)
  have loop_4 : ∀ (x1 : Int32) (q : md_S × Int32), dc_wp (dc_it (mm_markPairs_s4 x1) q) (fun z => dc_wp ((fun (z : md_S) => mm_markPairs_L47 z x1) z) F) → dc_G X l { frames := 2, cells := 0, slots := 0, locals := 46 } D 7 0 0 (md_W o a ca q.1) 4 [(0, .ref o), (1, .int x1), (2, .int q.2)] [] := by
    intro x1
    refine dc_loopF ?_
    intro F_4 hl_4 hr_4
    have lab_41 : ∀ (S : md_S) (x2 : Int32), dc_wp (mm_markPairs_L41 S x1 x2) F_4 → dc_G X l { frames := 2, cells := 0, slots := 0, locals := 46 } D 7 0 0 (md_W o a ca S) 41 [(0, .ref o), (1, .int x1), (2, .int x2)] [] := by
      intro S x2 h
      delta mm_markPairs_L41 at h
      refine dc_iinc (pc := 41) (i := 2) (v := (x2 + 1)) (lv' := [(2, .int (x2 + 1)), (0, .ref o), (1, .int x1)]) hC 2 rfl rfl (Nat.le_of_ble_eq_true rfl) rfl (show decode prog_15_method_89_code 41 = .ok (.iinc 2 1, 3) by decide +kernel) ?_
      refine dc_goto (pc := 44) (tgt := 4) hC (show decode prog_15_method_89_code 44 = .ok (.goto (-40), 3) by decide +kernel) (by decide +kernel) ?_
      exact dc_sub [1, 2, 0] rfl (hl_4 (S, (x2 + 1)) (dc_some h))
    have loop_14 : ∀ (x2 : Int32) (q : md_S × Int32), dc_wp (dc_it (mm_markPairs_s14 x1 x2) q) (fun z => dc_wp ((fun (z : md_S) => mm_markPairs_L41 z x1 x2) z) F_4) → dc_G X l { frames := 2, cells := 0, slots := 0, locals := 46 } D 7 0 0 (md_W o a ca q.1) 14 [(0, .ref o), (1, .int x1), (2, .int x2), (3, .int q.2)] [] := by
      intro x2
      refine dc_loopF ?_
      intro F_14 hl_14 hr_14
      rintro ⟨S, x3⟩ h
      have h : dc_wp (mm_markPairs_b14 S x1 x2 x3) F_14 := h
      delta mm_markPairs_b14 at h
      refine dc_iloadn (pc := 14) (j := 3) (i := 3) hC 3 rfl rfl (show decode prog_15_method_89_code 14 = .ok (.iload_n 3, 1) by decide +kernel) ?_
      refine dc_aloadn (pc := 15) (j := 0) (i := 0) hC 0 rfl rfl (show decode prog_15_method_89_code 15 = .ok (.aload_n 0, 1) by decide +kernel) ?_
      refine md_g87 (pc := 16) hC (show decode prog_15_method_89_code 16 = .ok (.getfield 527, 3) by decide +kernel) ?_
      refine dc_icmp_ge (pc := 19) (tgt := 41) hC (show decode prog_15_method_89_code 19 = .ok (.if_icmp .ge 22, 3) by decide +kernel) (by decide +kernel) h ?_ ?_
      · intro h
        refine dc_aloadn (pc := 22) (j := 0) (i := 0) hC 0 rfl rfl (show decode prog_15_method_89_code 22 = .ok (.aload_n 0, 1) by decide +kernel) ?_
        refine md_g94 (pc := 23) hC (show decode prog_15_method_89_code 23 = .ok (.getfield 167, 3) by decide +kernel) ?_
        refine dc_sipush (pc := 26) (v := 257) hC (show decode prog_15_method_89_code 26 = .ok (.sipush 257, 3) by decide +kernel) (by decide +kernel) ?_
        refine dc_iloadn (pc := 29) (j := 2) (i := 2) hC 2 rfl rfl (show decode prog_15_method_89_code 29 = .ok (.iload_n 2, 1) by decide +kernel) ?_
        refine dc_imul (pc := 30) hC (show decode prog_15_method_89_code 30 = .ok (.imul, 1) by decide +kernel) ?_
        refine dc_iloadn (pc := 31) (j := 3) (i := 3) hC 3 rfl rfl (show decode prog_15_method_89_code 31 = .ok (.iload_n 3, 1) by decide +kernel) ?_
        refine dc_iadd (pc := 32) hC (show decode prog_15_method_89_code 32 = .ok (.iadd, 1) by decide +kernel) ?_
        refine dc_iconst (pc := 33) (v := 0) hC (show decode prog_15_method_89_code 33 = .ok (.iconst 0, 1) by decide +kernel) (by decide +kernel) ?_
        refine md_s94 (pc := 34) hC (Or.inl rfl) (show decode prog_15_method_89_code 34 = .ok (.bastore, 1) by decide +kernel) h ?_
        intro j28 h
        refine dc_letS h ?_
        intro S29 h
        refine dc_iinc (pc := 35) (i := 3) (v := (x3 + 1)) (lv' := [(3, .int (x3 + 1)), (0, .ref o), (1, .int x1), (2, .int x2)]) hC 3 rfl rfl (Nat.le_of_ble_eq_true rfl) rfl (show decode prog_15_method_89_code 35 = .ok (.iinc 3 1, 3) by decide +kernel) ?_
        refine dc_goto (pc := 38) (tgt := 14) hC (show decode prog_15_method_89_code 38 = .ok (.goto (-24), 3) by decide +kernel) (by decide +kernel) ?_
        exact dc_sub [1, 2, 3, 0] rfl (hl_14 (S29, (x3 + 1)) (dc_some h))
      · intro h
        have h : dc_wp (mm_markPairs_L41 S x1 x2) F_4 := hr_14 S (dc_some h)
        exact dc_sub [0, 1, 2] rfl (lab_41 S x2 h)
    have lab_14 : ∀ (S : md_S) (x2 : Int32) (x3 : Int32), dc_wp (mm_markPairs_L14 S x1 x2 x3) F_4 → dc_G X l { frames := 2, cells := 0, slots := 0, locals := 46 } D 7 0 0 (md_W o a ca S) 14 [(0, .ref o), (1, .int x1), (2, .int x2), (3, .int x3)] [] := fun S x2 x3 h => loop_14 x2 (S, x3) (dc_bind h)
    rintro ⟨S, x2⟩ h
    have h : dc_wp (mm_markPairs_b4 S x1 x2) F_4 := h
    delta mm_markPairs_b4 at h
    refine dc_iloadn (pc := 4) (j := 2) (i := 2) hC 2 rfl rfl (show decode prog_15_method_89_code 4 = .ok (.iload_n 2, 1) by decide +kernel) ?_
    refine dc_aloadn (pc := 5) (j := 0) (i := 0) hC 0 rfl rfl (show decode prog_15_method_89_code 5 = .ok (.aload_n 0, 1) by decide +kernel) ?_
    refine md_g87 (pc := 6) hC (show decode prog_15_method_89_code 6 = .ok (.getfield 527, 3) by decide +kernel) ?_
    refine dc_icmp_ge (pc := 9) (tgt := 47) hC (show decode prog_15_method_89_code 9 = .ok (.if_icmp .ge 38, 3) by decide +kernel) (by decide +kernel) h ?_ ?_
    · intro h
      refine dc_iconst (pc := 12) (v := 0) hC (show decode prog_15_method_89_code 12 = .ok (.iconst 0, 1) by decide +kernel) (by decide +kernel) ?_
      refine dc_istoren (pc := 13) (j := 3) (i := 3) (lv' := [(3, .int 0), (0, .ref o), (1, .int x1), (2, .int x2)]) hC rfl (Nat.le_of_ble_eq_true rfl) rfl (show decode prog_15_method_89_code 13 = .ok (.istore_n 3, 1) by decide +kernel) ?_
      exact dc_sub [1, 2, 3, 0] rfl (lab_14 S x2 0 h)
    · intro h
      have h : dc_wp (mm_markPairs_L47 S x1) F := hr_4 S (dc_some h)
      exact dc_sub [0, 1] rfl (lab_47 S x1 h)
  have lab_4 : ∀ (S : md_S) (x1 : Int32) (x2 : Int32), dc_wp (mm_markPairs_L4 S x1 x2) F → dc_G X l { frames := 2, cells := 0, slots := 0, locals := 46 } D 7 0 0 (md_W o a ca S) 4 [(0, .ref o), (1, .int x1), (2, .int x2)] [] := fun S x1 x2 h => loop_4 x1 (S, x2) (dc_bind h)
  show dc_G X l { frames := 2, cells := 0, slots := 0, locals := 46 } D 7 0 0 (md_W o a ca S) 0 [(0, .ref o)] []
  delta mm_markPairs at h
  refine dc_iconst (pc := 0) (v := 0) hC (show decode prog_15_method_89_code 0 = .ok (.iconst 0, 1) by decide +kernel) (by decide +kernel) ?_
  refine dc_istoren (pc := 1) (j := 1) (i := 1) (lv' := [(1, .int 0), (0, .ref o)]) hC rfl (Nat.le_of_ble_eq_true rfl) rfl (show decode prog_15_method_89_code 1 = .ok (.istore_n 1, 1) by decide +kernel) ?_
  refine dc_iconst (pc := 2) (v := 0) hC (show decode prog_15_method_89_code 2 = .ok (.iconst 0, 1) by decide +kernel) (by decide +kernel) ?_
  refine dc_istoren (pc := 3) (j := 2) (i := 2) (lv' := [(2, .int 0), (1, .int 0), (0, .ref o)]) hC rfl (Nat.le_of_ble_eq_true rfl) rfl (show decode prog_15_method_89_code 3 = .ok (.istore_n 2, 1) by decide +kernel) ?_
  exact dc_sub [2, 1, 0] rfl (lab_4 S 0 0 h)
noncomputable def mm_explore_L341 (S : md_S) (x1 : Int32) : Option (md_S × Int32) :=
  (mm_place S x1).bind fun q1 => dc_let (md_i q1 85 1) fun S2 => (mm_markPairs S2).bind fun q3 => some (q3, (q3.1 87))
noncomputable def mm_explore_L335 (S : md_S) (x1 : Int32) (x2 : Int32) : Option ((md_S × Int32) ⊕ ((md_S))) :=
  some (.inl (S, (x2 + 1)))
noncomputable def mm_explore_L329 (S : md_S) (x1 : Int32) (x2 : Int32) (x3 : Int32) : Option ((md_S × Int32) ⊕ ((md_S))) :=
  some (.inl (S, (x3 + 1)))
noncomputable def mm_explore_L321 (S : md_S) (x1 : Int32) (x2 : Int32) (x3 : Int32) (x6 : Int32) (y0 : Int32) (y1 : Int32) (y2 : Int32) : Option ((md_S × Int32) ⊕ ((md_S))) :=
  (dc_ix y2 4112).bind fun j4 => dc_let (md_a S 93 j4 (y1 ||| y0)) fun S5 => some (.inl (S5, (x6 + 1)))
noncomputable def mm_explore_b276 (S : md_S) (x1 : Int32) (x2 : Int32) (x3 : Int32) (x6 : Int32) : Option ((md_S × Int32) ⊕ ((md_S))) :=
  if x6 < (S.1 46) then ((dc_ix ((16 * x2) + x3) 4112).bind fun j6 => (dc_ix ((S.1 45) + x6) 1662).bind fun j7 => if (S.2.1 70 j7) = 1 then (mm_explore_L321 S x1 x2 x3 x6 ((1 : Int32) <<< (x6 &&& (31 : Int32))) (S.2.1 93 j6) ((16 * x2) + x3)) else (mm_explore_L321 S x1 x2 x3 x6 0 (S.2.1 93 j6) ((16 * x2) + x3))) else (some (.inr S))
noncomputable def mm_explore_s276 (x1 : Int32) (x2 : Int32) (x3 : Int32) (q : md_S × Int32) : Option ((md_S × Int32) ⊕ ((md_S))) :=
  mm_explore_b276 q.1 x1 x2 x3 q.2
noncomputable def mm_explore_L276 (S : md_S) (x1 : Int32) (x2 : Int32) (x3 : Int32) (x6 : Int32) : Option ((md_S × Int32) ⊕ ((md_S))) :=
  (dc_it (mm_explore_s276 x1 x2 x3) (S, x6)).bind (fun (z : md_S) => mm_explore_L329 z x1 x2 x3)
noncomputable def mm_explore_L248 (S : md_S) (x1 : Int32) (x2 : Int32) (x3 : Int32) (x5 : Int32) : Option ((md_S × Int32) ⊕ ((md_S))) :=
  (dc_ix ((16 * x2) + x3) 4112).bind fun j8 => dc_let (md_a S 92 j8 x5) fun S9 => (dc_ix ((16 * x2) + x3) 4112).bind fun j10 => dc_let (md_a S9 93 j10 0) fun S11 => mm_explore_L276 S11 x1 x2 x3 0
noncomputable def mm_explore_L240 (S : md_S) (x1 : Int32) (x2 : Int32) (x3 : Int32) (x5 : Int32) : Option ((md_S × Int32) ⊕ ((md_S))) :=
  (mm_meet S x5 x2 x3).bind fun q12 => mm_explore_L248 q12 x1 x2 x3 x5
noncomputable def mm_explore_L231 (S : md_S) (x1 : Int32) (x2 : Int32) (x3 : Int32) (x6 : Int32) (y0 : Int32) (y1 : Int32) : Option ((Int32 × Int32) ⊕ ((Int32))) :=
  dc_let ((y1 ||| y0) : Int32) fun v13 => some (.inl (v13, (x6 + 1)))
noncomputable def mm_explore_b202 (S : md_S) (x1 : Int32) (x2 : Int32) (x3 : Int32) (x5 : Int32) (x6 : Int32) : Option ((Int32 × Int32) ⊕ ((Int32))) :=
  if x6 < (S.1 47) then ((dc_ix x6 200).bind fun j14 => if (S.2.1 75 j14) = 0 then (mm_explore_L231 S x1 x2 x3 x6 0 x5) else (mm_explore_L231 S x1 x2 x3 x6 ((1 : Int32) <<< (x6 &&& (31 : Int32))) x5)) else (some (.inr x5))
noncomputable def mm_explore_s202 (S : md_S) (x1 : Int32) (x2 : Int32) (x3 : Int32) (q : Int32 × Int32) : Option ((Int32 × Int32) ⊕ ((Int32))) :=
  mm_explore_b202 S x1 x2 x3 q.1 q.2
noncomputable def mm_explore_L202 (S : md_S) (x1 : Int32) (x2 : Int32) (x3 : Int32) (x5 : Int32) (x6 : Int32) : Option ((md_S × Int32) ⊕ ((md_S))) :=
  (dc_it (mm_explore_s202 S x1 x2 x3) (x5, x6)).bind (fun (z : Int32) => mm_explore_L240 S x1 x2 x3 z)
noncomputable def mm_explore_L188 (S : md_S) (x1 : Int32) (x2 : Int32) (x3 : Int32) (x4 : Int32) (y0 : Int32) : Option ((md_S × Int32) ⊕ ((md_S))) :=
  if x4 = 1 then (mm_explore_L202 S x1 x2 x3 0 0) else (mm_explore_L248 S x1 x2 x3 y0)
noncomputable def mm_explore_b149 (S : md_S) (x1 : Int32) (x2 : Int32) (x3 : Int32) : Option ((md_S × Int32) ⊕ ((md_S))) :=
  if x3 < ((1 : Int32) <<< ((S.1 45) &&& (31 : Int32))) then ((dc_ix x2 257).bind fun j15 => (mm_place S (S.2.1 88 j15)).bind fun q16 => (mm_react q16 x3).bind fun q17 => if q17.2 = 0 then (mm_explore_L188 q17.1 x1 x2 x3 q17.2 257) else (mm_explore_L188 q17.1 x1 x2 x3 q17.2 (-1))) else (some (.inr S))
noncomputable def mm_explore_s149 (x1 : Int32) (x2 : Int32) (q : md_S × Int32) : Option ((md_S × Int32) ⊕ ((md_S))) :=
  mm_explore_b149 q.1 x1 x2 q.2
noncomputable def mm_explore_L149 (S : md_S) (x1 : Int32) (x2 : Int32) (x3 : Int32) : Option ((md_S × Int32) ⊕ ((md_S))) :=
  (dc_it (mm_explore_s149 x1 x2) (S, x3)).bind (fun (z : md_S) => mm_explore_L335 z x1 x2)
noncomputable def mm_explore_b139 (S : md_S) (x1 : Int32) (x2 : Int32) : Option ((md_S × Int32) ⊕ ((md_S))) :=
  if x2 < (S.1 87) then (mm_explore_L149 S x1 x2 0) else (some (.inr S))
noncomputable def mm_explore_s139 (x1 : Int32) (q : md_S × Int32) : Option ((md_S × Int32) ⊕ ((md_S))) :=
  mm_explore_b139 q.1 x1 q.2
noncomputable def mm_explore_L139 (S : md_S) (x1 : Int32) (x2 : Int32) : Option (md_S × Int32) :=
  (dc_it (mm_explore_s139 x1) (S, x2)).bind (fun (z : md_S) => mm_explore_L341 z x1)
noncomputable def mm_explore_L123 (S : md_S) (x1 : Int32) : Option (md_S × Int32) :=
  dc_let (md_i S 87 0) fun S18 => (mm_meet S18 256 (-1) 0).bind fun q19 => mm_explore_L139 q19 x1 0
noncomputable def mm_explore_L115 (S : md_S) (x2 : Int32) (y0 : Int32) (y1 : Int32) : Option ((Int32 × Int32) ⊕ ((Int32))) :=
  dc_let ((y1 ||| y0) : Int32) fun v20 => some (.inl (v20, (x2 + 1)))
noncomputable def mm_explore_b90 (S : md_S) (x1 : Int32) (x2 : Int32) : Option ((Int32 × Int32) ⊕ ((Int32))) :=
  if x2 < (S.1 47) then ((dc_ix x2 200).bind fun j21 => if (S.2.1 74 j21) = 0 then (mm_explore_L115 S x2 0 x1) else (mm_explore_L115 S x2 ((1 : Int32) <<< (x2 &&& (31 : Int32))) x1)) else (some (.inr x1))
noncomputable def mm_explore_s90 (S : md_S) (q : Int32 × Int32) : Option ((Int32 × Int32) ⊕ ((Int32))) :=
  mm_explore_b90 S q.1 q.2
noncomputable def mm_explore_L90 (S : md_S) (x1 : Int32) (x2 : Int32) : Option (md_S × Int32) :=
  (dc_it (mm_explore_s90 S) (x1, x2)).bind (fun (z : Int32) => mm_explore_L123 S z)
noncomputable def mm_explore_L87 (S : md_S) (y0 : Int32) : Option (md_S × Int32) :=
  mm_explore_L90 S y0 0
noncomputable def mm_explore_L59 (S : md_S) : Option (md_S × Int32) :=
  some (S, (-1))
noncomputable def mm_explore_L13 (S : md_S) (y0 : Int32) : Option (md_S × Int32) :=
  (mm_fails S y0 0).bind fun q22 => if q22.2 = 0 then (if (8 : Int32) < (q22.1.1 47) then (mm_explore_L59 q22.1) else (if (4 : Int32) < (q22.1.1 45) then (mm_explore_L59 q22.1) else (if (300 : Int32) < (q22.1.1 48) then (mm_explore_L59 q22.1) else (if (300 : Int32) < (q22.1.1 43) then (mm_explore_L59 q22.1) else (if (q22.1.1 85) = 0 then (if (q22.1.1 77) = 0 then (mm_explore_L87 q22.1 0) else (mm_explore_L87 q22.1 256)) else (some (q22.1, (q22.1.1 87)))))))) else (some (q22.1, 0))
noncomputable def mm_explore (S : md_S) : Option (md_S × Int32) :=
  if (S.1 41) = 0 then (mm_explore_L13 S 1) else (mm_explore_L13 S 0)
set_option maxHeartbeats 4000000 in
set_option maxRecDepth 100000 in
/-- explore()I -/
theorem mm_explore_ok (l : Launch) (D : va_G) (ad : Nat → Nat) (de : Nat) (o : Nat) (a : Nat → Nat) (ca : Nat → ClassId) (S : md_S) (F : (md_S × Int32) → Prop) (h : dc_wp (mm_explore S) F) : dc_Ci l ⟨"SignalEngineModel", "explore", "()I"⟩ prog_15_method_88_code 7 (some (.int)) 604 16893 D (md_T ca) ad de [.ref o] (md_W o a ca S) (fun r w => ∃ q, F q ∧ r = q.2 ∧ w = md_W o a ca q.1) 0 0 := by
  refine dc_enteri (by decide +kernel) (Nat.le_of_ble_eq_true rfl) ?_
  intro X hC hR
  have lab_341 : ∀ (S : md_S) (x1 : Int32), dc_wp (mm_explore_L341 S x1) F → dc_G X l { frames := 604, cells := 0, slots := 0, locals := 16893 } D 7 0 0 (md_W o a ca S) 341 [(0, .ref o), (1, .int x1)] [] := by
    intro S x1 h
    delta mm_explore_L341 at h
    refine dc_aloadn (pc := 341) (j := 0) (i := 0) hC 0 rfl rfl (show decode prog_15_method_88_code 341 = .ok (.aload_n 0, 1) by decide +kernel) ?_
    refine dc_iloadn (pc := 342) (j := 1) (i := 1) hC 1 rfl rfl (show decode prog_15_method_88_code 342 = .ok (.iload_n 1, 1) by decide +kernel) ?_
    refine mc_Vmv (pc := 343) (As := [.int x1]) (rest := []) hC vw_place_622 (mm_place_ok l D ad de o a ca S x1) (Nat.le_of_ble_eq_true rfl) (Nat.le_of_ble_eq_true rfl) rfl (Nat.le_of_ble_eq_true rfl) (show decode prog_15_method_88_code 343 = .ok (.invokevirtual 622, 3) by decide +kernel) h ?_
    intro q1 h
    refine dc_aloadn (pc := 346) (j := 0) (i := 0) hC 0 rfl rfl (show decode prog_15_method_88_code 346 = .ok (.aload_n 0, 1) by decide +kernel) ?_
    refine dc_iconst (pc := 347) (v := 1) hC (show decode prog_15_method_88_code 347 = .ok (.iconst 1, 1) by decide +kernel) (by decide +kernel) ?_
    refine md_p85 (pc := 348) hC (Or.inr rfl) (show decode prog_15_method_88_code 348 = .ok (.putfield 518, 3) by decide +kernel) ?_
    refine dc_letS h ?_
    intro S2 h
    refine dc_aloadn (pc := 351) (j := 0) (i := 0) hC 0 rfl rfl (show decode prog_15_method_88_code 351 = .ok (.aload_n 0, 1) by decide +kernel) ?_
    refine mc_Vmv (pc := 352) (As := []) (rest := []) hC vw_markPairs_638 (mm_markPairs_ok l D ad de o a ca S2) (Nat.le_of_ble_eq_true rfl) (Nat.le_of_ble_eq_true rfl) rfl (Nat.le_of_ble_eq_true rfl) (show decode prog_15_method_88_code 352 = .ok (.invokevirtual 638, 3) by decide +kernel) h ?_
    intro q3 h
    refine dc_aloadn (pc := 355) (j := 0) (i := 0) hC 0 rfl rfl (show decode prog_15_method_88_code 355 = .ok (.aload_n 0, 1) by decide +kernel) ?_
    refine md_g87 (pc := 356) hC (show decode prog_15_method_88_code 356 = .ok (.getfield 527, 3) by decide +kernel) ?_
    exact dc_iret (pc := 359) hC hR ⟨_, dc_some h, rfl, rfl⟩ (show decode prog_15_method_88_code 359 = .ok (.ireturn, 1) by decide +kernel)
  have loop_139 : ∀ (x1 : Int32) (q : md_S × Int32), dc_wp (dc_it (mm_explore_s139 x1) q) (fun z => dc_wp ((fun (z : md_S) => mm_explore_L341 z x1) z) F) → dc_G X l { frames := 604, cells := 0, slots := 0, locals := 16893 } D 7 0 0 (md_W o a ca q.1) 139 [(0, .ref o), (1, .int x1), (2, .int q.2)] [] := by
    intro x1
    refine dc_loopF ?_
    intro F_139 hl_139 hr_139
    have lab_335 : ∀ (S : md_S) (x2 : Int32), dc_wp (mm_explore_L335 S x1 x2) F_139 → dc_G X l { frames := 604, cells := 0, slots := 0, locals := 16893 } D 7 0 0 (md_W o a ca S) 335 [(0, .ref o), (1, .int x1), (2, .int x2)] [] := by
      intro S x2 h
      delta mm_explore_L335 at h
      refine dc_iinc (pc := 335) (i := 2) (v := (x2 + 1)) (lv' := [(2, .int (x2 + 1)), (0, .ref o), (1, .int x1)]) hC 2 rfl rfl (Nat.le_of_ble_eq_true rfl) rfl (show decode prog_15_method_88_code 335 = .ok (.iinc 2 1, 3) by decide +kernel) ?_
      refine dc_goto (pc := 338) (tgt := 139) hC (show decode prog_15_method_88_code 338 = .ok (.goto (-199), 3) by decide +kernel) (by decide +kernel) ?_
      exact dc_sub [1, 2, 0] rfl (hl_139 (S, (x2 + 1)) (dc_some h))
    have loop_149 : ∀ (x2 : Int32) (q : md_S × Int32), dc_wp (dc_it (mm_explore_s149 x1 x2) q) (fun z => dc_wp ((fun (z : md_S) => mm_explore_L335 z x1 x2) z) F_139) → dc_G X l { frames := 604, cells := 0, slots := 0, locals := 16893 } D 7 0 0 (md_W o a ca q.1) 149 [(0, .ref o), (1, .int x1), (2, .int x2), (3, .int q.2)] [] := by
      intro x2
      refine dc_loopF ?_
      intro F_149 hl_149 hr_149
      have lab_329 : ∀ (S : md_S) (x3 : Int32), dc_wp (mm_explore_L329 S x1 x2 x3) F_149 → dc_G X l { frames := 604, cells := 0, slots := 0, locals := 16893 } D 7 0 0 (md_W o a ca S) 329 [(0, .ref o), (1, .int x1), (2, .int x2), (3, .int x3)] [] := by
        intro S x3 h
        delta mm_explore_L329 at h
        refine dc_iinc (pc := 329) (i := 3) (v := (x3 + 1)) (lv' := [(3, .int (x3 + 1)), (0, .ref o), (1, .int x1), (2, .int x2)]) hC 3 rfl rfl (Nat.le_of_ble_eq_true rfl) rfl (show decode prog_15_method_88_code 329 = .ok (.iinc 3 1, 3) by decide +kernel) ?_
        refine dc_goto (pc := 332) (tgt := 149) hC (show decode prog_15_method_88_code 332 = .ok (.goto (-183), 3) by decide +kernel) (by decide +kernel) ?_
        exact dc_sub [1, 2, 3, 0] rfl (hl_149 (S, (x3 + 1)) (dc_some h))
      have loop_276 : ∀ (x3 : Int32) (q : md_S × Int32), dc_wp (dc_it (mm_explore_s276 x1 x2 x3) q) (fun z => dc_wp ((fun (z : md_S) => mm_explore_L329 z x1 x2 x3) z) F_149) → dc_G X l { frames := 604, cells := 0, slots := 0, locals := 16893 } D 7 0 0 (md_W o a ca q.1) 276 [(0, .ref o), (1, .int x1), (2, .int x2), (3, .int x3), (6, .int q.2)] [] := by
        intro x3
        refine dc_loopF ?_
        intro F_276 hl_276 hr_276
        have lab_321 : ∀ (S : md_S) (x6 : Int32) (y0 : Int32) (y1 : Int32) (y2 : Int32), dc_wp (mm_explore_L321 S x1 x2 x3 x6 y0 y1 y2) F_276 → dc_G X l { frames := 604, cells := 0, slots := 0, locals := 16893 } D 7 0 0 (md_W o a ca S) 321 [(0, .ref o), (1, .int x1), (2, .int x2), (3, .int x3), (6, .int x6)] [.int y0, .int y1, .int y2, .ref (a 93)] := by
          intro S x6 y0 y1 y2 h
          delta mm_explore_L321 at h
          refine dc_ior (pc := 321) hC (show decode prog_15_method_88_code 321 = .ok (.ior, 1) by decide +kernel) ?_
          refine md_s93 (pc := 322) hC (show decode prog_15_method_88_code 322 = .ok (.iastore, 1) by decide +kernel) h ?_
          intro j4 h
          refine dc_letS h ?_
          intro S5 h
          refine dc_iinc (pc := 323) (i := 6) (v := (x6 + 1)) (lv' := [(6, .int (x6 + 1)), (0, .ref o), (1, .int x1), (2, .int x2), (3, .int x3)]) hC 4 rfl rfl (Nat.le_of_ble_eq_true rfl) rfl (show decode prog_15_method_88_code 323 = .ok (.iinc 6 1, 3) by decide +kernel) ?_
          refine dc_goto (pc := 326) (tgt := 276) hC (show decode prog_15_method_88_code 326 = .ok (.goto (-50), 3) by decide +kernel) (by decide +kernel) ?_
          exact dc_sub [1, 2, 3, 4, 0] rfl (hl_276 (S5, (x6 + 1)) (dc_some h))
        rintro ⟨S, x6⟩ h
        have h : dc_wp (mm_explore_b276 S x1 x2 x3 x6) F_276 := h
        delta mm_explore_b276 at h
        refine dc_iload (pc := 276) (i := 6) hC 4 rfl (show decode prog_15_method_88_code 276 = .ok (.iload 6, 2) by decide +kernel) ?_
        refine dc_aloadn (pc := 278) (j := 0) (i := 0) hC 0 rfl rfl (show decode prog_15_method_88_code 278 = .ok (.aload_n 0, 1) by decide +kernel) ?_
        refine md_g46 (pc := 279) hC (show decode prog_15_method_88_code 279 = .ok (.getfield 530, 3) by decide +kernel) ?_
        refine dc_icmp_ge (pc := 282) (tgt := 329) hC (show decode prog_15_method_88_code 282 = .ok (.if_icmp .ge 47, 3) by decide +kernel) (by decide +kernel) h ?_ ?_
        · intro h
          refine dc_aloadn (pc := 285) (j := 0) (i := 0) hC 0 rfl rfl (show decode prog_15_method_88_code 285 = .ok (.aload_n 0, 1) by decide +kernel) ?_
          refine md_g93 (pc := 286) hC (show decode prog_15_method_88_code 286 = .ok (.getfield 163, 3) by decide +kernel) ?_
          refine dc_bipush (pc := 289) (v := 16) hC (show decode prog_15_method_88_code 289 = .ok (.bipush 16, 2) by decide +kernel) (by decide +kernel) ?_
          refine dc_iloadn (pc := 291) (j := 2) (i := 2) hC 2 rfl rfl (show decode prog_15_method_88_code 291 = .ok (.iload_n 2, 1) by decide +kernel) ?_
          refine dc_imul (pc := 292) hC (show decode prog_15_method_88_code 292 = .ok (.imul, 1) by decide +kernel) ?_
          refine dc_iloadn (pc := 293) (j := 3) (i := 3) hC 3 rfl rfl (show decode prog_15_method_88_code 293 = .ok (.iload_n 3, 1) by decide +kernel) ?_
          refine dc_iadd (pc := 294) hC (show decode prog_15_method_88_code 294 = .ok (.iadd, 1) by decide +kernel) ?_
          refine dc_dup2 (pc := 295) hC (show decode prog_15_method_88_code 295 = .ok (.dup2, 1) by decide +kernel) rfl rfl ?_
          refine md_l93 (pc := 296) hC (show decode prog_15_method_88_code 296 = .ok (.iaload, 1) by decide +kernel) h ?_
          intro j6 h
          refine dc_aloadn (pc := 297) (j := 0) (i := 0) hC 0 rfl rfl (show decode prog_15_method_88_code 297 = .ok (.aload_n 0, 1) by decide +kernel) ?_
          refine md_g70 (pc := 298) hC (show decode prog_15_method_88_code 298 = .ok (.getfield 123, 3) by decide +kernel) ?_
          refine dc_aloadn (pc := 301) (j := 0) (i := 0) hC 0 rfl rfl (show decode prog_15_method_88_code 301 = .ok (.aload_n 0, 1) by decide +kernel) ?_
          refine md_g45 (pc := 302) hC (show decode prog_15_method_88_code 302 = .ok (.getfield 533, 3) by decide +kernel) ?_
          refine dc_iload (pc := 305) (i := 6) hC 4 rfl (show decode prog_15_method_88_code 305 = .ok (.iload 6, 2) by decide +kernel) ?_
          refine dc_iadd (pc := 307) hC (show decode prog_15_method_88_code 307 = .ok (.iadd, 1) by decide +kernel) ?_
          refine md_l70 (pc := 308) hC (show decode prog_15_method_88_code 308 = .ok (.iaload, 1) by decide +kernel) h ?_
          intro j7 h
          refine dc_iconst (pc := 309) (v := 1) hC (show decode prog_15_method_88_code 309 = .ok (.iconst 1, 1) by decide +kernel) (by decide +kernel) ?_
          refine dc_icmp_ne (pc := 310) (tgt := 320) hC (show decode prog_15_method_88_code 310 = .ok (.if_icmp .ne 10, 3) by decide +kernel) (by decide +kernel) h ?_ ?_
          · intro h
            refine dc_iconst (pc := 313) (v := 1) hC (show decode prog_15_method_88_code 313 = .ok (.iconst 1, 1) by decide +kernel) (by decide +kernel) ?_
            refine dc_iload (pc := 314) (i := 6) hC 4 rfl (show decode prog_15_method_88_code 314 = .ok (.iload 6, 2) by decide +kernel) ?_
            refine dc_ishl (pc := 316) hC (show decode prog_15_method_88_code 316 = .ok (.ishl, 1) by decide +kernel) ?_
            refine dc_goto (pc := 317) (tgt := 321) hC (show decode prog_15_method_88_code 317 = .ok (.goto 4, 3) by decide +kernel) (by decide +kernel) ?_
            exact lab_321 S x6 ((1 : Int32) <<< (x6 &&& (31 : Int32))) (S.2.1 93 j6) ((16 * x2) + x3) h
          · intro h
            refine dc_iconst (pc := 320) (v := 0) hC (show decode prog_15_method_88_code 320 = .ok (.iconst 0, 1) by decide +kernel) (by decide +kernel) ?_
            exact lab_321 S x6 0 (S.2.1 93 j6) ((16 * x2) + x3) h
        · intro h
          have h : dc_wp (mm_explore_L329 S x1 x2 x3) F_149 := hr_276 S (dc_some h)
          exact dc_sub [0, 1, 2, 3] rfl (lab_329 S x3 h)
      have lab_276 : ∀ (S : md_S) (x3 : Int32) (x6 : Int32), dc_wp (mm_explore_L276 S x1 x2 x3 x6) F_149 → dc_G X l { frames := 604, cells := 0, slots := 0, locals := 16893 } D 7 0 0 (md_W o a ca S) 276 [(0, .ref o), (1, .int x1), (2, .int x2), (3, .int x3), (6, .int x6)] [] := fun S x3 x6 h => loop_276 x3 (S, x6) (dc_bind h)
      have lab_248 : ∀ (S : md_S) (x3 : Int32) (x5 : Int32), dc_wp (mm_explore_L248 S x1 x2 x3 x5) F_149 → dc_G X l { frames := 604, cells := 0, slots := 0, locals := 16893 } D 7 0 0 (md_W o a ca S) 248 [(0, .ref o), (1, .int x1), (2, .int x2), (3, .int x3), (5, .int x5)] [] := by
        intro S x3 x5 h
        delta mm_explore_L248 at h
        refine dc_aloadn (pc := 248) (j := 0) (i := 0) hC 0 rfl rfl (show decode prog_15_method_88_code 248 = .ok (.aload_n 0, 1) by decide +kernel) ?_
        refine md_g92 (pc := 249) hC (show decode prog_15_method_88_code 249 = .ok (.getfield 160, 3) by decide +kernel) ?_
        refine dc_bipush (pc := 252) (v := 16) hC (show decode prog_15_method_88_code 252 = .ok (.bipush 16, 2) by decide +kernel) (by decide +kernel) ?_
        refine dc_iloadn (pc := 254) (j := 2) (i := 2) hC 2 rfl rfl (show decode prog_15_method_88_code 254 = .ok (.iload_n 2, 1) by decide +kernel) ?_
        refine dc_imul (pc := 255) hC (show decode prog_15_method_88_code 255 = .ok (.imul, 1) by decide +kernel) ?_
        refine dc_iloadn (pc := 256) (j := 3) (i := 3) hC 3 rfl rfl (show decode prog_15_method_88_code 256 = .ok (.iload_n 3, 1) by decide +kernel) ?_
        refine dc_iadd (pc := 257) hC (show decode prog_15_method_88_code 257 = .ok (.iadd, 1) by decide +kernel) ?_
        refine dc_iload (pc := 258) (i := 5) hC 4 rfl (show decode prog_15_method_88_code 258 = .ok (.iload 5, 2) by decide +kernel) ?_
        refine md_s92 (pc := 260) hC (show decode prog_15_method_88_code 260 = .ok (.iastore, 1) by decide +kernel) h ?_
        intro j8 h
        refine dc_letS h ?_
        intro S9 h
        refine dc_aloadn (pc := 261) (j := 0) (i := 0) hC 0 rfl rfl (show decode prog_15_method_88_code 261 = .ok (.aload_n 0, 1) by decide +kernel) ?_
        refine md_g93 (pc := 262) hC (show decode prog_15_method_88_code 262 = .ok (.getfield 163, 3) by decide +kernel) ?_
        refine dc_bipush (pc := 265) (v := 16) hC (show decode prog_15_method_88_code 265 = .ok (.bipush 16, 2) by decide +kernel) (by decide +kernel) ?_
        refine dc_iloadn (pc := 267) (j := 2) (i := 2) hC 2 rfl rfl (show decode prog_15_method_88_code 267 = .ok (.iload_n 2, 1) by decide +kernel) ?_
        refine dc_imul (pc := 268) hC (show decode prog_15_method_88_code 268 = .ok (.imul, 1) by decide +kernel) ?_
        refine dc_iloadn (pc := 269) (j := 3) (i := 3) hC 3 rfl rfl (show decode prog_15_method_88_code 269 = .ok (.iload_n 3, 1) by decide +kernel) ?_
        refine dc_iadd (pc := 270) hC (show decode prog_15_method_88_code 270 = .ok (.iadd, 1) by decide +kernel) ?_
        refine dc_iconst (pc := 271) (v := 0) hC (show decode prog_15_method_88_code 271 = .ok (.iconst 0, 1) by decide +kernel) (by decide +kernel) ?_
        refine md_s93 (pc := 272) hC (show decode prog_15_method_88_code 272 = .ok (.iastore, 1) by decide +kernel) h ?_
        intro j10 h
        refine dc_letS h ?_
        intro S11 h
        refine dc_iconst (pc := 273) (v := 0) hC (show decode prog_15_method_88_code 273 = .ok (.iconst 0, 1) by decide +kernel) (by decide +kernel) ?_
        refine dc_istore (pc := 274) (i := 6) (lv' := [(6, .int 0), (0, .ref o), (1, .int x1), (2, .int x2), (3, .int x3), (5, .int x5)]) hC (Nat.le_of_ble_eq_true rfl) rfl (show decode prog_15_method_88_code 274 = .ok (.istore 6, 2) by decide +kernel) ?_
        exact dc_sub [1, 2, 3, 4, 0] rfl (lab_276 S11 x3 0 h)
      have lab_240 : ∀ (S : md_S) (x3 : Int32) (x5 : Int32), dc_wp (mm_explore_L240 S x1 x2 x3 x5) F_149 → dc_G X l { frames := 604, cells := 0, slots := 0, locals := 16893 } D 7 0 0 (md_W o a ca S) 240 [(0, .ref o), (1, .int x1), (2, .int x2), (3, .int x3), (5, .int x5)] [] := by
        intro S x3 x5 h
        delta mm_explore_L240 at h
        refine dc_aloadn (pc := 240) (j := 0) (i := 0) hC 0 rfl rfl (show decode prog_15_method_88_code 240 = .ok (.aload_n 0, 1) by decide +kernel) ?_
        refine dc_iload (pc := 241) (i := 5) hC 4 rfl (show decode prog_15_method_88_code 241 = .ok (.iload 5, 2) by decide +kernel) ?_
        refine dc_iloadn (pc := 243) (j := 2) (i := 2) hC 2 rfl rfl (show decode prog_15_method_88_code 243 = .ok (.iload_n 2, 1) by decide +kernel) ?_
        refine dc_iloadn (pc := 244) (j := 3) (i := 3) hC 3 rfl rfl (show decode prog_15_method_88_code 244 = .ok (.iload_n 3, 1) by decide +kernel) ?_
        refine mc_Vmv (pc := 245) (As := [.int x5, .int x2, .int x3]) (rest := []) hC vw_meet_634 (mm_meet_ok l D ad de o a ca S x5 x2 x3) (Nat.le_of_ble_eq_true rfl) (Nat.le_of_ble_eq_true rfl) rfl (Nat.le_of_ble_eq_true rfl) (show decode prog_15_method_88_code 245 = .ok (.invokevirtual 634, 3) by decide +kernel) h ?_
        intro q12 h
        exact lab_248 q12 x3 x5 h
      have loop_202 : ∀ (S : md_S) (x3 : Int32) (q : Int32 × Int32), dc_wp (dc_it (mm_explore_s202 S x1 x2 x3) q) (fun z => dc_wp ((fun (z : Int32) => mm_explore_L240 S x1 x2 x3 z) z) F_149) → dc_G X l { frames := 604, cells := 0, slots := 0, locals := 16893 } D 7 0 0 (md_W o a ca S) 202 [(0, .ref o), (1, .int x1), (2, .int x2), (3, .int x3), (5, .int q.1), (6, .int q.2)] [] := by
        intro S x3
        refine dc_loopF ?_
        intro F_202 hl_202 hr_202
        have lab_231 : ∀ (x6 : Int32) (y0 : Int32) (y1 : Int32), dc_wp (mm_explore_L231 S x1 x2 x3 x6 y0 y1) F_202 → dc_G X l { frames := 604, cells := 0, slots := 0, locals := 16893 } D 7 0 0 (md_W o a ca S) 231 [(0, .ref o), (1, .int x1), (2, .int x2), (3, .int x3), (6, .int x6)] [.int y0, .int y1] := by
          intro x6 y0 y1 h
          delta mm_explore_L231 at h
          refine dc_ior (pc := 231) hC (show decode prog_15_method_88_code 231 = .ok (.ior, 1) by decide +kernel) ?_
          refine dc_letI h ?_
          intro v13 h
          refine dc_istore (pc := 232) (i := 5) (lv' := [(5, .int v13), (0, .ref o), (1, .int x1), (2, .int x2), (3, .int x3), (6, .int x6)]) hC (Nat.le_of_ble_eq_true rfl) rfl (show decode prog_15_method_88_code 232 = .ok (.istore 5, 2) by decide +kernel) ?_
          refine dc_iinc (pc := 234) (i := 6) (v := (x6 + 1)) (lv' := [(6, .int (x6 + 1)), (5, .int v13), (0, .ref o), (1, .int x1), (2, .int x2), (3, .int x3)]) hC 5 rfl rfl (Nat.le_of_ble_eq_true rfl) rfl (show decode prog_15_method_88_code 234 = .ok (.iinc 6 1, 3) by decide +kernel) ?_
          refine dc_goto (pc := 237) (tgt := 202) hC (show decode prog_15_method_88_code 237 = .ok (.goto (-35), 3) by decide +kernel) (by decide +kernel) ?_
          exact dc_sub [2, 3, 4, 5, 1, 0] rfl (hl_202 (v13, (x6 + 1)) (dc_some h))
        rintro ⟨x5, x6⟩ h
        have h : dc_wp (mm_explore_b202 S x1 x2 x3 x5 x6) F_202 := h
        delta mm_explore_b202 at h
        refine dc_iload (pc := 202) (i := 6) hC 5 rfl (show decode prog_15_method_88_code 202 = .ok (.iload 6, 2) by decide +kernel) ?_
        refine dc_aloadn (pc := 204) (j := 0) (i := 0) hC 0 rfl rfl (show decode prog_15_method_88_code 204 = .ok (.aload_n 0, 1) by decide +kernel) ?_
        refine md_g47 (pc := 205) hC (show decode prog_15_method_88_code 205 = .ok (.getfield 498, 3) by decide +kernel) ?_
        refine dc_icmp_ge (pc := 208) (tgt := 240) hC (show decode prog_15_method_88_code 208 = .ok (.if_icmp .ge 32, 3) by decide +kernel) (by decide +kernel) h ?_ ?_
        · intro h
          refine dc_iload (pc := 211) (i := 5) hC 4 rfl (show decode prog_15_method_88_code 211 = .ok (.iload 5, 2) by decide +kernel) ?_
          refine dc_aloadn (pc := 213) (j := 0) (i := 0) hC 0 rfl rfl (show decode prog_15_method_88_code 213 = .ok (.aload_n 0, 1) by decide +kernel) ?_
          refine md_g75 (pc := 214) hC (show decode prog_15_method_88_code 214 = .ok (.getfield 139, 3) by decide +kernel) ?_
          refine dc_iload (pc := 217) (i := 6) hC 5 rfl (show decode prog_15_method_88_code 217 = .ok (.iload 6, 2) by decide +kernel) ?_
          refine md_l75 (pc := 219) hC (show decode prog_15_method_88_code 219 = .ok (.baload, 1) by decide +kernel) h ?_
          intro j14 h
          refine dc_if_eq (pc := 220) (tgt := 230) hC (show decode prog_15_method_88_code 220 = .ok (.ifCond .eq 10, 3) by decide +kernel) (by decide +kernel) h ?_ ?_
          · intro h
            refine dc_iconst (pc := 230) (v := 0) hC (show decode prog_15_method_88_code 230 = .ok (.iconst 0, 1) by decide +kernel) (by decide +kernel) ?_
            exact dc_sub [0, 1, 2, 3, 5] rfl (lab_231 x6 0 x5 h)
          · intro h
            refine dc_iconst (pc := 223) (v := 1) hC (show decode prog_15_method_88_code 223 = .ok (.iconst 1, 1) by decide +kernel) (by decide +kernel) ?_
            refine dc_iload (pc := 224) (i := 6) hC 5 rfl (show decode prog_15_method_88_code 224 = .ok (.iload 6, 2) by decide +kernel) ?_
            refine dc_ishl (pc := 226) hC (show decode prog_15_method_88_code 226 = .ok (.ishl, 1) by decide +kernel) ?_
            refine dc_goto (pc := 227) (tgt := 231) hC (show decode prog_15_method_88_code 227 = .ok (.goto 4, 3) by decide +kernel) (by decide +kernel) ?_
            exact dc_sub [0, 1, 2, 3, 5] rfl (lab_231 x6 ((1 : Int32) <<< (x6 &&& (31 : Int32))) x5 h)
        · intro h
          have h : dc_wp (mm_explore_L240 S x1 x2 x3 x5) F_149 := hr_202 x5 (dc_some h)
          exact dc_sub [0, 1, 2, 3, 4] rfl (lab_240 S x3 x5 h)
      have lab_202 : ∀ (S : md_S) (x3 : Int32) (x5 : Int32) (x6 : Int32), dc_wp (mm_explore_L202 S x1 x2 x3 x5 x6) F_149 → dc_G X l { frames := 604, cells := 0, slots := 0, locals := 16893 } D 7 0 0 (md_W o a ca S) 202 [(0, .ref o), (1, .int x1), (2, .int x2), (3, .int x3), (5, .int x5), (6, .int x6)] [] := fun S x3 x5 x6 h => loop_202 S x3 (x5, x6) (dc_bind h)
      have lab_188 : ∀ (S : md_S) (x3 : Int32) (x4 : Int32) (y0 : Int32), dc_wp (mm_explore_L188 S x1 x2 x3 x4 y0) F_149 → dc_G X l { frames := 604, cells := 0, slots := 0, locals := 16893 } D 7 0 0 (md_W o a ca S) 188 [(0, .ref o), (1, .int x1), (2, .int x2), (3, .int x3), (4, .int x4)] [.int y0] := by
        intro S x3 x4 y0 h
        delta mm_explore_L188 at h
        refine dc_istore (pc := 188) (i := 5) (lv' := [(5, .int y0), (0, .ref o), (1, .int x1), (2, .int x2), (3, .int x3), (4, .int x4)]) hC (Nat.le_of_ble_eq_true rfl) rfl (show decode prog_15_method_88_code 188 = .ok (.istore 5, 2) by decide +kernel) ?_
        refine dc_iload (pc := 190) (i := 4) hC 5 rfl (show decode prog_15_method_88_code 190 = .ok (.iload 4, 2) by decide +kernel) ?_
        refine dc_iconst (pc := 192) (v := 1) hC (show decode prog_15_method_88_code 192 = .ok (.iconst 1, 1) by decide +kernel) (by decide +kernel) ?_
        refine dc_icmp_ne (pc := 193) (tgt := 248) hC (show decode prog_15_method_88_code 193 = .ok (.if_icmp .ne 55, 3) by decide +kernel) (by decide +kernel) h ?_ ?_
        · intro h
          refine dc_iconst (pc := 196) (v := 0) hC (show decode prog_15_method_88_code 196 = .ok (.iconst 0, 1) by decide +kernel) (by decide +kernel) ?_
          refine dc_istore (pc := 197) (i := 5) (lv' := [(5, .int 0), (0, .ref o), (1, .int x1), (2, .int x2), (3, .int x3), (4, .int x4)]) hC (Nat.le_of_ble_eq_true rfl) rfl (show decode prog_15_method_88_code 197 = .ok (.istore 5, 2) by decide +kernel) ?_
          refine dc_iconst (pc := 199) (v := 0) hC (show decode prog_15_method_88_code 199 = .ok (.iconst 0, 1) by decide +kernel) (by decide +kernel) ?_
          refine dc_istore (pc := 200) (i := 6) (lv' := [(6, .int 0), (5, .int 0), (0, .ref o), (1, .int x1), (2, .int x2), (3, .int x3), (4, .int x4)]) hC (Nat.le_of_ble_eq_true rfl) rfl (show decode prog_15_method_88_code 200 = .ok (.istore 6, 2) by decide +kernel) ?_
          exact dc_sub [2, 3, 4, 5, 1, 0] rfl (lab_202 S x3 0 0 h)
        · intro h
          exact dc_sub [1, 2, 3, 4, 0] rfl (lab_248 S x3 y0 h)
      rintro ⟨S, x3⟩ h
      have h : dc_wp (mm_explore_b149 S x1 x2 x3) F_149 := h
      delta mm_explore_b149 at h
      refine dc_iloadn (pc := 149) (j := 3) (i := 3) hC 3 rfl rfl (show decode prog_15_method_88_code 149 = .ok (.iload_n 3, 1) by decide +kernel) ?_
      refine dc_iconst (pc := 150) (v := 1) hC (show decode prog_15_method_88_code 150 = .ok (.iconst 1, 1) by decide +kernel) (by decide +kernel) ?_
      refine dc_aloadn (pc := 151) (j := 0) (i := 0) hC 0 rfl rfl (show decode prog_15_method_88_code 151 = .ok (.aload_n 0, 1) by decide +kernel) ?_
      refine md_g45 (pc := 152) hC (show decode prog_15_method_88_code 152 = .ok (.getfield 533, 3) by decide +kernel) ?_
      refine dc_ishl (pc := 155) hC (show decode prog_15_method_88_code 155 = .ok (.ishl, 1) by decide +kernel) ?_
      refine dc_icmp_ge (pc := 156) (tgt := 335) hC (show decode prog_15_method_88_code 156 = .ok (.if_icmp .ge 179, 3) by decide +kernel) (by decide +kernel) h ?_ ?_
      · intro h
        refine dc_aloadn (pc := 159) (j := 0) (i := 0) hC 0 rfl rfl (show decode prog_15_method_88_code 159 = .ok (.aload_n 0, 1) by decide +kernel) ?_
        refine dc_aloadn (pc := 160) (j := 0) (i := 0) hC 0 rfl rfl (show decode prog_15_method_88_code 160 = .ok (.aload_n 0, 1) by decide +kernel) ?_
        refine md_g88 (pc := 161) hC (show decode prog_15_method_88_code 161 = .ok (.getfield 148, 3) by decide +kernel) ?_
        refine dc_iloadn (pc := 164) (j := 2) (i := 2) hC 2 rfl rfl (show decode prog_15_method_88_code 164 = .ok (.iload_n 2, 1) by decide +kernel) ?_
        refine md_l88 (pc := 165) hC (show decode prog_15_method_88_code 165 = .ok (.iaload, 1) by decide +kernel) h ?_
        intro j15 h
        refine mc_Vmv (pc := 166) (As := [.int (S.2.1 88 j15)]) (rest := []) hC vw_place_622 (mm_place_ok l D ad de o a ca S (S.2.1 88 j15)) (Nat.le_of_ble_eq_true rfl) (Nat.le_of_ble_eq_true rfl) rfl (Nat.le_of_ble_eq_true rfl) (show decode prog_15_method_88_code 166 = .ok (.invokevirtual 622, 3) by decide +kernel) h ?_
        intro q16 h
        refine dc_aloadn (pc := 169) (j := 0) (i := 0) hC 0 rfl rfl (show decode prog_15_method_88_code 169 = .ok (.aload_n 0, 1) by decide +kernel) ?_
        refine dc_iloadn (pc := 170) (j := 3) (i := 3) hC 3 rfl rfl (show decode prog_15_method_88_code 170 = .ok (.iload_n 3, 1) by decide +kernel) ?_
        refine mc_Vmi (pc := 171) (As := [.int x3]) (rest := []) hC vw_react_628 (mm_react_ok l D ad de o a ca q16 x3) (Nat.le_of_ble_eq_true rfl) (Nat.le_of_ble_eq_true rfl) rfl (Nat.le_of_ble_eq_true rfl) (show decode prog_15_method_88_code 171 = .ok (.invokevirtual 628, 3) by decide +kernel) h ?_
        intro q17 h
        refine dc_istore (pc := 174) (i := 4) (lv' := [(4, .int q17.2), (0, .ref o), (1, .int x1), (2, .int x2), (3, .int x3)]) hC (Nat.le_of_ble_eq_true rfl) rfl (show decode prog_15_method_88_code 174 = .ok (.istore 4, 2) by decide +kernel) ?_
        refine dc_iload (pc := 176) (i := 4) hC 0 rfl (show decode prog_15_method_88_code 176 = .ok (.iload 4, 2) by decide +kernel) ?_
        refine dc_if_ne (pc := 178) (tgt := 187) hC (show decode prog_15_method_88_code 178 = .ok (.ifCond .ne 9, 3) by decide +kernel) (by decide +kernel) h ?_ ?_
        · intro h
          refine dc_sipush (pc := 181) (v := 257) hC (show decode prog_15_method_88_code 181 = .ok (.sipush 257, 3) by decide +kernel) (by decide +kernel) ?_
          refine dc_goto (pc := 184) (tgt := 188) hC (show decode prog_15_method_88_code 184 = .ok (.goto 4, 3) by decide +kernel) (by decide +kernel) ?_
          exact dc_sub [1, 2, 3, 4, 0] rfl (lab_188 q17.1 x3 q17.2 257 h)
        · intro h
          refine dc_iconst (pc := 187) (v := (-1)) hC (show decode prog_15_method_88_code 187 = .ok (.iconst (-1), 1) by decide +kernel) (by decide +kernel) ?_
          exact dc_sub [1, 2, 3, 4, 0] rfl (lab_188 q17.1 x3 q17.2 (-1) h)
      · intro h
        have h : dc_wp (mm_explore_L335 S x1 x2) F_139 := hr_149 S (dc_some h)
        exact dc_sub [0, 1, 2] rfl (lab_335 S x2 h)
    have lab_149 : ∀ (S : md_S) (x2 : Int32) (x3 : Int32), dc_wp (mm_explore_L149 S x1 x2 x3) F_139 → dc_G X l { frames := 604, cells := 0, slots := 0, locals := 16893 } D 7 0 0 (md_W o a ca S) 149 [(0, .ref o), (1, .int x1), (2, .int x2), (3, .int x3)] [] := fun S x2 x3 h => loop_149 x2 (S, x3) (dc_bind h)
    rintro ⟨S, x2⟩ h
    have h : dc_wp (mm_explore_b139 S x1 x2) F_139 := h
    delta mm_explore_b139 at h
    refine dc_iloadn (pc := 139) (j := 2) (i := 2) hC 2 rfl rfl (show decode prog_15_method_88_code 139 = .ok (.iload_n 2, 1) by decide +kernel) ?_
    refine dc_aloadn (pc := 140) (j := 0) (i := 0) hC 0 rfl rfl (show decode prog_15_method_88_code 140 = .ok (.aload_n 0, 1) by decide +kernel) ?_
    refine md_g87 (pc := 141) hC (show decode prog_15_method_88_code 141 = .ok (.getfield 527, 3) by decide +kernel) ?_
    refine dc_icmp_ge (pc := 144) (tgt := 341) hC (show decode prog_15_method_88_code 144 = .ok (.if_icmp .ge 197, 3) by decide +kernel) (by decide +kernel) h ?_ ?_
    · intro h
      refine dc_iconst (pc := 147) (v := 0) hC (show decode prog_15_method_88_code 147 = .ok (.iconst 0, 1) by decide +kernel) (by decide +kernel) ?_
      refine dc_istoren (pc := 148) (j := 3) (i := 3) (lv' := [(3, .int 0), (0, .ref o), (1, .int x1), (2, .int x2)]) hC rfl (Nat.le_of_ble_eq_true rfl) rfl (show decode prog_15_method_88_code 148 = .ok (.istore_n 3, 1) by decide +kernel) ?_
      exact dc_sub [1, 2, 3, 0] rfl (lab_149 S x2 0 h)
    · intro h
      have h : dc_wp (mm_explore_L341 S x1) F := hr_139 S (dc_some h)
      exact dc_sub [0, 1] rfl (lab_341 S x1 h)
  have lab_139 : ∀ (S : md_S) (x1 : Int32) (x2 : Int32), dc_wp (mm_explore_L139 S x1 x2) F → dc_G X l { frames := 604, cells := 0, slots := 0, locals := 16893 } D 7 0 0 (md_W o a ca S) 139 [(0, .ref o), (1, .int x1), (2, .int x2)] [] := fun S x1 x2 h => loop_139 x1 (S, x2) (dc_bind h)
  have lab_123 : ∀ (S : md_S) (x1 : Int32), dc_wp (mm_explore_L123 S x1) F → dc_G X l { frames := 604, cells := 0, slots := 0, locals := 16893 } D 7 0 0 (md_W o a ca S) 123 [(0, .ref o), (1, .int x1)] [] := by
    intro S x1 h
    delta mm_explore_L123 at h
    refine dc_aloadn (pc := 123) (j := 0) (i := 0) hC 0 rfl rfl (show decode prog_15_method_88_code 123 = .ok (.aload_n 0, 1) by decide +kernel) ?_
    refine dc_iconst (pc := 124) (v := 0) hC (show decode prog_15_method_88_code 124 = .ok (.iconst 0, 1) by decide +kernel) (by decide +kernel) ?_
    refine md_p87 (pc := 125) hC (show decode prog_15_method_88_code 125 = .ok (.putfield 527, 3) by decide +kernel) ?_
    refine dc_letS h ?_
    intro S18 h
    refine dc_aloadn (pc := 128) (j := 0) (i := 0) hC 0 rfl rfl (show decode prog_15_method_88_code 128 = .ok (.aload_n 0, 1) by decide +kernel) ?_
    refine dc_sipush (pc := 129) (v := 256) hC (show decode prog_15_method_88_code 129 = .ok (.sipush 256, 3) by decide +kernel) (by decide +kernel) ?_
    refine dc_iconst (pc := 132) (v := (-1)) hC (show decode prog_15_method_88_code 132 = .ok (.iconst (-1), 1) by decide +kernel) (by decide +kernel) ?_
    refine dc_iconst (pc := 133) (v := 0) hC (show decode prog_15_method_88_code 133 = .ok (.iconst 0, 1) by decide +kernel) (by decide +kernel) ?_
    refine mc_Vmv (pc := 134) (As := [.int 256, .int (-1), .int 0]) (rest := []) hC vw_meet_634 (mm_meet_ok l D ad de o a ca S18 256 (-1) 0) (Nat.le_of_ble_eq_true rfl) (Nat.le_of_ble_eq_true rfl) rfl (Nat.le_of_ble_eq_true rfl) (show decode prog_15_method_88_code 134 = .ok (.invokevirtual 634, 3) by decide +kernel) h ?_
    intro q19 h
    refine dc_iconst (pc := 137) (v := 0) hC (show decode prog_15_method_88_code 137 = .ok (.iconst 0, 1) by decide +kernel) (by decide +kernel) ?_
    refine dc_istoren (pc := 138) (j := 2) (i := 2) (lv' := [(2, .int 0), (0, .ref o), (1, .int x1)]) hC rfl (Nat.le_of_ble_eq_true rfl) rfl (show decode prog_15_method_88_code 138 = .ok (.istore_n 2, 1) by decide +kernel) ?_
    exact dc_sub [1, 2, 0] rfl (lab_139 q19 x1 0 h)
  have loop_90 : ∀ (S : md_S) (q : Int32 × Int32), dc_wp (dc_it (mm_explore_s90 S) q) (fun z => dc_wp ((fun (z : Int32) => mm_explore_L123 S z) z) F) → dc_G X l { frames := 604, cells := 0, slots := 0, locals := 16893 } D 7 0 0 (md_W o a ca S) 90 [(0, .ref o), (1, .int q.1), (2, .int q.2)] [] := by
    intro S 
    refine dc_loopF ?_
    intro F_90 hl_90 hr_90
    have lab_115 : ∀ (x2 : Int32) (y0 : Int32) (y1 : Int32), dc_wp (mm_explore_L115 S x2 y0 y1) F_90 → dc_G X l { frames := 604, cells := 0, slots := 0, locals := 16893 } D 7 0 0 (md_W o a ca S) 115 [(0, .ref o), (2, .int x2)] [.int y0, .int y1] := by
      intro x2 y0 y1 h
      delta mm_explore_L115 at h
      refine dc_ior (pc := 115) hC (show decode prog_15_method_88_code 115 = .ok (.ior, 1) by decide +kernel) ?_
      refine dc_letI h ?_
      intro v20 h
      refine dc_istoren (pc := 116) (j := 1) (i := 1) (lv' := [(1, .int v20), (0, .ref o), (2, .int x2)]) hC rfl (Nat.le_of_ble_eq_true rfl) rfl (show decode prog_15_method_88_code 116 = .ok (.istore_n 1, 1) by decide +kernel) ?_
      refine dc_iinc (pc := 117) (i := 2) (v := (x2 + 1)) (lv' := [(2, .int (x2 + 1)), (1, .int v20), (0, .ref o)]) hC 2 rfl rfl (Nat.le_of_ble_eq_true rfl) rfl (show decode prog_15_method_88_code 117 = .ok (.iinc 2 1, 3) by decide +kernel) ?_
      refine dc_goto (pc := 120) (tgt := 90) hC (show decode prog_15_method_88_code 120 = .ok (.goto (-30), 3) by decide +kernel) (by decide +kernel) ?_
      exact dc_sub [2, 1, 0] rfl (hl_90 (v20, (x2 + 1)) (dc_some h))
    rintro ⟨x1, x2⟩ h
    have h : dc_wp (mm_explore_b90 S x1 x2) F_90 := h
    delta mm_explore_b90 at h
    refine dc_iloadn (pc := 90) (j := 2) (i := 2) hC 2 rfl rfl (show decode prog_15_method_88_code 90 = .ok (.iload_n 2, 1) by decide +kernel) ?_
    refine dc_aloadn (pc := 91) (j := 0) (i := 0) hC 0 rfl rfl (show decode prog_15_method_88_code 91 = .ok (.aload_n 0, 1) by decide +kernel) ?_
    refine md_g47 (pc := 92) hC (show decode prog_15_method_88_code 92 = .ok (.getfield 498, 3) by decide +kernel) ?_
    refine dc_icmp_ge (pc := 95) (tgt := 123) hC (show decode prog_15_method_88_code 95 = .ok (.if_icmp .ge 28, 3) by decide +kernel) (by decide +kernel) h ?_ ?_
    · intro h
      refine dc_iloadn (pc := 98) (j := 1) (i := 1) hC 1 rfl rfl (show decode prog_15_method_88_code 98 = .ok (.iload_n 1, 1) by decide +kernel) ?_
      refine dc_aloadn (pc := 99) (j := 0) (i := 0) hC 0 rfl rfl (show decode prog_15_method_88_code 99 = .ok (.aload_n 0, 1) by decide +kernel) ?_
      refine md_g74 (pc := 100) hC (show decode prog_15_method_88_code 100 = .ok (.getfield 136, 3) by decide +kernel) ?_
      refine dc_iloadn (pc := 103) (j := 2) (i := 2) hC 2 rfl rfl (show decode prog_15_method_88_code 103 = .ok (.iload_n 2, 1) by decide +kernel) ?_
      refine md_l74 (pc := 104) hC (show decode prog_15_method_88_code 104 = .ok (.baload, 1) by decide +kernel) h ?_
      intro j21 h
      refine dc_if_eq (pc := 105) (tgt := 114) hC (show decode prog_15_method_88_code 105 = .ok (.ifCond .eq 9, 3) by decide +kernel) (by decide +kernel) h ?_ ?_
      · intro h
        refine dc_iconst (pc := 114) (v := 0) hC (show decode prog_15_method_88_code 114 = .ok (.iconst 0, 1) by decide +kernel) (by decide +kernel) ?_
        exact dc_sub [0, 2] rfl (lab_115 x2 0 x1 h)
      · intro h
        refine dc_iconst (pc := 108) (v := 1) hC (show decode prog_15_method_88_code 108 = .ok (.iconst 1, 1) by decide +kernel) (by decide +kernel) ?_
        refine dc_iloadn (pc := 109) (j := 2) (i := 2) hC 2 rfl rfl (show decode prog_15_method_88_code 109 = .ok (.iload_n 2, 1) by decide +kernel) ?_
        refine dc_ishl (pc := 110) hC (show decode prog_15_method_88_code 110 = .ok (.ishl, 1) by decide +kernel) ?_
        refine dc_goto (pc := 111) (tgt := 115) hC (show decode prog_15_method_88_code 111 = .ok (.goto 4, 3) by decide +kernel) (by decide +kernel) ?_
        exact dc_sub [0, 2] rfl (lab_115 x2 ((1 : Int32) <<< (x2 &&& (31 : Int32))) x1 h)
    · intro h
      have h : dc_wp (mm_explore_L123 S x1) F := hr_90 x1 (dc_some h)
      exact dc_sub [0, 1] rfl (lab_123 S x1 h)
  have lab_90 : ∀ (S : md_S) (x1 : Int32) (x2 : Int32), dc_wp (mm_explore_L90 S x1 x2) F → dc_G X l { frames := 604, cells := 0, slots := 0, locals := 16893 } D 7 0 0 (md_W o a ca S) 90 [(0, .ref o), (1, .int x1), (2, .int x2)] [] := fun S x1 x2 h => loop_90 S  (x1, x2) (dc_bind h)
  have lab_87 : ∀ (S : md_S) (y0 : Int32), dc_wp (mm_explore_L87 S y0) F → dc_G X l { frames := 604, cells := 0, slots := 0, locals := 16893 } D 7 0 0 (md_W o a ca S) 87 [(0, .ref o)] [.int y0] := by
    intro S y0 h
    delta mm_explore_L87 at h
    refine dc_istoren (pc := 87) (j := 1) (i := 1) (lv' := [(1, .int y0), (0, .ref o)]) hC rfl (Nat.le_of_ble_eq_true rfl) rfl (show decode prog_15_method_88_code 87 = .ok (.istore_n 1, 1) by decide +kernel) ?_
    refine dc_iconst (pc := 88) (v := 0) hC (show decode prog_15_method_88_code 88 = .ok (.iconst 0, 1) by decide +kernel) (by decide +kernel) ?_
    refine dc_istoren (pc := 89) (j := 2) (i := 2) (lv' := [(2, .int 0), (1, .int y0), (0, .ref o)]) hC rfl (Nat.le_of_ble_eq_true rfl) rfl (show decode prog_15_method_88_code 89 = .ok (.istore_n 2, 1) by decide +kernel) ?_
    exact dc_sub [2, 1, 0] rfl (lab_90 S y0 0 h)
  have lab_59 : ∀ (S : md_S), dc_wp (mm_explore_L59 S) F → dc_G X l { frames := 604, cells := 0, slots := 0, locals := 16893 } D 7 0 0 (md_W o a ca S) 59 [(0, .ref o)] [] := by
    intro S  h
    delta mm_explore_L59 at h
    refine dc_iconst (pc := 59) (v := (-1)) hC (show decode prog_15_method_88_code 59 = .ok (.iconst (-1), 1) by decide +kernel) (by decide +kernel) ?_
    exact dc_iret (pc := 60) hC hR ⟨_, dc_some h, rfl, rfl⟩ (show decode prog_15_method_88_code 60 = .ok (.ireturn, 1) by decide +kernel)
  have lab_13 : ∀ (S : md_S) (y0 : Int32), dc_wp (mm_explore_L13 S y0) F → dc_G X l { frames := 604, cells := 0, slots := 0, locals := 16893 } D 7 0 0 (md_W o a ca S) 13 [(0, .ref o)] [.int y0, .ref o] := by
    intro S y0 h
    delta mm_explore_L13 at h
    refine dc_iconst (pc := 13) (v := 0) hC (show decode prog_15_method_88_code 13 = .ok (.iconst 0, 1) by decide +kernel) (by decide +kernel) ?_
    refine mc_Vmi (pc := 14) (As := [.int y0, .int 0]) (rest := []) hC vw_fails_615 (mm_fails_ok l D ad de o a ca S y0 0) (Nat.le_of_ble_eq_true rfl) (Nat.le_of_ble_eq_true rfl) rfl (Nat.le_of_ble_eq_true rfl) (show decode prog_15_method_88_code 14 = .ok (.invokevirtual 615, 3) by decide +kernel) h ?_
    intro q22 h
    refine dc_if_eq (pc := 17) (tgt := 22) hC (show decode prog_15_method_88_code 17 = .ok (.ifCond .eq 5, 3) by decide +kernel) (by decide +kernel) h ?_ ?_
    · intro h
      refine dc_aloadn (pc := 22) (j := 0) (i := 0) hC 0 rfl rfl (show decode prog_15_method_88_code 22 = .ok (.aload_n 0, 1) by decide +kernel) ?_
      refine md_g47 (pc := 23) hC (show decode prog_15_method_88_code 23 = .ok (.getfield 498, 3) by decide +kernel) ?_
      refine dc_bipush (pc := 26) (v := 8) hC (show decode prog_15_method_88_code 26 = .ok (.bipush 8, 2) by decide +kernel) (by decide +kernel) ?_
      refine dc_icmp_gt (pc := 28) (tgt := 59) hC (show decode prog_15_method_88_code 28 = .ok (.if_icmp .gt 31, 3) by decide +kernel) (by decide +kernel) h ?_ ?_
      · intro h
        exact lab_59 q22.1 h
      · intro h
        refine dc_aloadn (pc := 31) (j := 0) (i := 0) hC 0 rfl rfl (show decode prog_15_method_88_code 31 = .ok (.aload_n 0, 1) by decide +kernel) ?_
        refine md_g45 (pc := 32) hC (show decode prog_15_method_88_code 32 = .ok (.getfield 533, 3) by decide +kernel) ?_
        refine dc_iconst (pc := 35) (v := 4) hC (show decode prog_15_method_88_code 35 = .ok (.iconst 4, 1) by decide +kernel) (by decide +kernel) ?_
        refine dc_icmp_gt (pc := 36) (tgt := 59) hC (show decode prog_15_method_88_code 36 = .ok (.if_icmp .gt 23, 3) by decide +kernel) (by decide +kernel) h ?_ ?_
        · intro h
          exact lab_59 q22.1 h
        · intro h
          refine dc_aloadn (pc := 39) (j := 0) (i := 0) hC 0 rfl rfl (show decode prog_15_method_88_code 39 = .ok (.aload_n 0, 1) by decide +kernel) ?_
          refine md_g48 (pc := 40) hC (show decode prog_15_method_88_code 40 = .ok (.getfield 507, 3) by decide +kernel) ?_
          refine dc_sipush (pc := 43) (v := 300) hC (show decode prog_15_method_88_code 43 = .ok (.sipush 300, 3) by decide +kernel) (by decide +kernel) ?_
          refine dc_icmp_gt (pc := 46) (tgt := 59) hC (show decode prog_15_method_88_code 46 = .ok (.if_icmp .gt 13, 3) by decide +kernel) (by decide +kernel) h ?_ ?_
          · intro h
            exact lab_59 q22.1 h
          · intro h
            refine dc_aloadn (pc := 49) (j := 0) (i := 0) hC 0 rfl rfl (show decode prog_15_method_88_code 49 = .ok (.aload_n 0, 1) by decide +kernel) ?_
            refine md_g43 (pc := 50) hC (show decode prog_15_method_88_code 50 = .ok (.getfield 501, 3) by decide +kernel) ?_
            refine dc_sipush (pc := 53) (v := 300) hC (show decode prog_15_method_88_code 53 = .ok (.sipush 300, 3) by decide +kernel) (by decide +kernel) ?_
            refine dc_icmp_le (pc := 56) (tgt := 61) hC (show decode prog_15_method_88_code 56 = .ok (.if_icmp .le 5, 3) by decide +kernel) (by decide +kernel) h ?_ ?_
            · intro h
              exact lab_59 q22.1 h
            · intro h
              refine dc_aloadn (pc := 61) (j := 0) (i := 0) hC 0 rfl rfl (show decode prog_15_method_88_code 61 = .ok (.aload_n 0, 1) by decide +kernel) ?_
              refine md_g85 (pc := 62) hC (show decode prog_15_method_88_code 62 = .ok (.getfield 518, 3) by decide +kernel) ?_
              refine dc_if_eq (pc := 65) (tgt := 73) hC (show decode prog_15_method_88_code 65 = .ok (.ifCond .eq 8, 3) by decide +kernel) (by decide +kernel) h ?_ ?_
              · intro h
                refine dc_aloadn (pc := 73) (j := 0) (i := 0) hC 0 rfl rfl (show decode prog_15_method_88_code 73 = .ok (.aload_n 0, 1) by decide +kernel) ?_
                refine md_g77 (pc := 74) hC (show decode prog_15_method_88_code 74 = .ok (.getfield 513, 3) by decide +kernel) ?_
                refine dc_if_eq (pc := 77) (tgt := 86) hC (show decode prog_15_method_88_code 77 = .ok (.ifCond .eq 9, 3) by decide +kernel) (by decide +kernel) h ?_ ?_
                · intro h
                  refine dc_iconst (pc := 86) (v := 0) hC (show decode prog_15_method_88_code 86 = .ok (.iconst 0, 1) by decide +kernel) (by decide +kernel) ?_
                  exact lab_87 q22.1 0 h
                · intro h
                  refine dc_sipush (pc := 80) (v := 256) hC (show decode prog_15_method_88_code 80 = .ok (.sipush 256, 3) by decide +kernel) (by decide +kernel) ?_
                  refine dc_goto (pc := 83) (tgt := 87) hC (show decode prog_15_method_88_code 83 = .ok (.goto 4, 3) by decide +kernel) (by decide +kernel) ?_
                  exact lab_87 q22.1 256 h
              · intro h
                refine dc_aloadn (pc := 68) (j := 0) (i := 0) hC 0 rfl rfl (show decode prog_15_method_88_code 68 = .ok (.aload_n 0, 1) by decide +kernel) ?_
                refine md_g87 (pc := 69) hC (show decode prog_15_method_88_code 69 = .ok (.getfield 527, 3) by decide +kernel) ?_
                exact dc_iret (pc := 72) hC hR ⟨_, dc_some h, rfl, rfl⟩ (show decode prog_15_method_88_code 72 = .ok (.ireturn, 1) by decide +kernel)
    · intro h
      refine dc_iconst (pc := 20) (v := 0) hC (show decode prog_15_method_88_code 20 = .ok (.iconst 0, 1) by decide +kernel) (by decide +kernel) ?_
      exact dc_iret (pc := 21) hC hR ⟨_, dc_some h, rfl, rfl⟩ (show decode prog_15_method_88_code 21 = .ok (.ireturn, 1) by decide +kernel)
  show dc_G X l { frames := 604, cells := 0, slots := 0, locals := 16893 } D 7 0 0 (md_W o a ca S) 0 [(0, .ref o)] []
  delta mm_explore at h
  refine dc_aloadn (pc := 0) (j := 0) (i := 0) hC 0 rfl rfl (show decode prog_15_method_88_code 0 = .ok (.aload_n 0, 1) by decide +kernel) ?_
  refine dc_aloadn (pc := 1) (j := 0) (i := 0) hC 0 rfl rfl (show decode prog_15_method_88_code 1 = .ok (.aload_n 0, 1) by decide +kernel) ?_
  refine md_g41 (pc := 2) hC (show decode prog_15_method_88_code 2 = .ok (.getfield 521, 3) by decide +kernel) ?_
  refine dc_if_ne (pc := 5) (tgt := 12) hC (show decode prog_15_method_88_code 5 = .ok (.ifCond .ne 7, 3) by decide +kernel) (by decide +kernel) h ?_ ?_
  · intro h
    refine dc_iconst (pc := 8) (v := 1) hC (show decode prog_15_method_88_code 8 = .ok (.iconst 1, 1) by decide +kernel) (by decide +kernel) ?_
    refine dc_goto (pc := 9) (tgt := 13) hC (show decode prog_15_method_88_code 9 = .ok (.goto 4, 3) by decide +kernel) (by decide +kernel) ?_
    exact lab_13 S 1 h
  · intro h
    refine dc_iconst (pc := 12) (v := 0) hC (show decode prog_15_method_88_code 12 = .ok (.iconst 0, 1) by decide +kernel) (by decide +kernel) ?_
    exact lab_13 S 0 h
