noncomputable def mm_lay_I_L495 (S : md_S) : Option (md_S) :=
  some S
noncomputable def mm_lay_I_b480 (S : md_S) (x3 : Int32) : Option ((md_S × Int32) ⊕ ((md_S))) :=
  if x3 < 0 then (some (.inr S)) else ((mm_code S x3).bind fun q1 => some (.inl (q1, (x3 + (-1)))))
noncomputable def mm_lay_I_s480 (q : md_S × Int32) : Option ((md_S × Int32) ⊕ ((md_S))) :=
  mm_lay_I_b480 q.1 q.2
noncomputable def mm_lay_I_L480 (S : md_S) (x3 : Int32) : Option (md_S) :=
  (dc_it (mm_lay_I_s480) (S, x3)).bind (fun (z : md_S) => mm_lay_I_L495 z)
noncomputable def mm_lay_I_L460 (S : md_S) : Option (md_S) :=
  (dc_ix (S.1 42) 1201).bind fun j2 => dc_let (md_a S 62 j2 (S.1 47)) fun S3 => dc_let (((S3.1 42) - 1) : Int32) fun v4 => mm_lay_I_L480 S3 v4
noncomputable def mm_lay_I_L457 (S : md_S) (x2 : Int32) : Option ((md_S × Int32) ⊕ ((md_S))) :=
  some (.inl (S, x2))
noncomputable def mm_lay_I_L422 (S : md_S) (x2 : Int32) (x3 : Int32) (x4 : Int32) : Option ((md_S × Int32) ⊕ ((md_S))) :=
  (dc_ix x3 1200).bind fun j5 => if (S.2.1 31 j5) = (-1) then (mm_lay_I_L457 S x2) else ((dc_ix x3 1200).bind fun j6 => (dc_ix x2 1208).bind fun j7 => dc_let (md_a S 39 j7 (S.2.1 31 j6)) fun S8 => (dc_ix x2 1208).bind fun j9 => dc_let (md_a S8 40 j9 (2 * x4)) fun S10 => mm_lay_I_L457 S10 (x2 + 1))
noncomputable def mm_lay_I_L368 (S : md_S) (x2 : Int32) (x3 : Int32) (x4 : Int32) : Option ((md_S × Int32) ⊕ ((md_S))) :=
  (mm_around S x4).bind fun q11 => dc_let (md_i S 49 (dc_max (S.1 49) q11)) fun S12 => (dc_ix x3 1200).bind fun j13 => if (S12.2.1 32 j13) = (-1) then (mm_lay_I_L422 S12 x2 x3 x4) else ((dc_ix x3 1200).bind fun j14 => (dc_ix x2 1208).bind fun j15 => dc_let (md_a S12 39 j15 (S12.2.1 32 j14)) fun S16 => (dc_ix x2 1208).bind fun j17 => dc_let (md_a S16 40 j17 ((2 * x4) + 1)) fun S18 => mm_lay_I_L422 S18 (x2 + 1) x3 x4)
noncomputable def mm_lay_I_L341 (S : md_S) (x2 : Int32) (x3 : Int32) (x4 : Int32) : Option ((md_S × Int32) ⊕ ((md_S))) :=
  (dc_ix x3 1200).bind fun j19 => if (S.2.1 35 j19) = (-1) then (mm_lay_I_L368 S x2 x3 x4) else ((dc_ix x3 1200).bind fun j20 => (mm_ask S (S.2.1 35 j20)).bind fun q21 => (dc_ix x4 1200).bind fun j22 => dc_let (md_a q21.1 54 j22 q21.2) fun S23 => mm_lay_I_L368 S23 x2 x3 x4)
noncomputable def mm_lay_I_L298 (S : md_S) (x2 : Int32) (x3 : Int32) (x4 : Int32) : Option ((md_S × Int32) ⊕ ((md_S))) :=
  (dc_ix x4 1201).bind fun j24 => dc_let (md_a S 62 j24 (S.1 47)) fun S25 => (dc_ix x4 1200).bind fun j26 => if (S25.2.1 51 j26) = 1 then ((dc_ix x4 1200).bind fun j27 => dc_let (md_a S25 54 j27 (S25.1 47)) fun S28 => dc_let (md_i S28 47 ((S28.1 47) + 1)) fun S29 => mm_lay_I_L341 S29 x2 x3 x4) else (mm_lay_I_L341 S25 x2 x3 x4)
noncomputable def mm_lay_I_L283 (S : md_S) (x2 : Int32) (x3 : Int32) (x4 : Int32) (x5 : Int32) : Option ((md_S × Int32) ⊕ ((md_S))) :=
  if x5 = (-1) then (mm_lay_I_L298 S x2 x3 x4) else ((dc_ix x5 1200).bind fun j30 => dc_let (md_a S 52 j30 x4) fun S31 => mm_lay_I_L298 S31 x2 x3 x4)
noncomputable def mm_lay_I_L243 (S : md_S) (x2 : Int32) (x3 : Int32) (x4 : Int32) (x5 : Int32) (x6 : Int32) (y0 : Int32) (y1 : Int32) : Option ((md_S × Int32) ⊕ ((md_S))) :=
  (dc_ix y1 1200).bind fun j32 => dc_let (md_a S 60 j32 y0) fun S33 => (dc_ix x4 1200).bind fun j34 => dc_let (md_i S33 48 ((S33.1 48) + (S33.2.1 57 j34))) fun S35 => if x5 = (-1) then (mm_lay_I_L283 S35 x2 x3 x4 x5) else (if x6 = 0 then (mm_lay_I_L283 S35 x2 x3 x4 x5) else ((dc_ix x5 1200).bind fun j36 => dc_let (md_a S35 53 j36 x4) fun S37 => mm_lay_I_L298 S37 x2 x3 x4))
noncomputable def mm_lay_I_L202 (S : md_S) (x2 : Int32) (x3 : Int32) (x4 : Int32) (x5 : Int32) (x6 : Int32) (y0 : Int32) (y1 : Int32) : Option ((md_S × Int32) ⊕ ((md_S))) :=
  (dc_ix y1 1200).bind fun j38 => dc_let (md_a S 57 j38 y0) fun S39 => if x5 = (-1) then (mm_lay_I_L243 S39 x2 x3 x4 x5 x6 (-1) x4) else ((dc_ix x5 1200).bind fun j40 => if (S39.2.1 51 j40) = 8 then (mm_lay_I_L243 S39 x2 x3 x4 x5 x6 x5 x4) else ((dc_ix x5 1200).bind fun j41 => mm_lay_I_L243 S39 x2 x3 x4 x5 x6 (S39.2.1 60 j41) x4))
noncomputable def mm_lay_I_L201 (S : md_S) (x2 : Int32) (x3 : Int32) (x4 : Int32) (x5 : Int32) (x6 : Int32) (y0 : Int32) (y1 : Int32) (y2 : Int32) : Option ((md_S × Int32) ⊕ ((md_S))) :=
  mm_lay_I_L202 S x2 x3 x4 x5 x6 (y1 + y0) y2
noncomputable def mm_lay_I_L200 (S : md_S) (x2 : Int32) (x3 : Int32) (x4 : Int32) (x5 : Int32) (x6 : Int32) (y0 : Int32) (y1 : Int32) : Option ((md_S × Int32) ⊕ ((md_S))) :=
  mm_lay_I_L201 S x2 x3 x4 x5 x6 0 y0 y1
noncomputable def mm_lay_I_L196 (S : md_S) (x2 : Int32) (x3 : Int32) (x4 : Int32) (x5 : Int32) (x6 : Int32) (y0 : Int32) (y1 : Int32) : Option ((md_S × Int32) ⊕ ((md_S))) :=
  mm_lay_I_L201 S x2 x3 x4 x5 x6 1 y0 y1
noncomputable def mm_lay_I_L69 (S : md_S) (x2 : Int32) (x3 : Int32) (x4 : Int32) (x5 : Int32) (y0 : Int32) : Option ((md_S × Int32) ⊕ ((md_S))) :=
  dc_let (md_i S 42 ((S.1 42) + 1)) fun S42 => (dc_ix x3 1200).bind fun j43 => (dc_ix x4 1200).bind fun j44 => dc_let (md_a S42 51 j44 (S42.2.1 30 j43)) fun S45 => (dc_ix x3 1200).bind fun j46 => (dc_ix x4 1200).bind fun j47 => dc_let (md_a S45 54 j47 (S45.2.1 33 j46)) fun S48 => (dc_ix x3 1200).bind fun j49 => (dc_ix x4 1200).bind fun j50 => dc_let (md_a S48 56 j50 (S48.2.1 34 j49)) fun S51 => (dc_ix x4 1200).bind fun j52 => dc_let (md_a S51 53 j52 (-1)) fun S53 => (dc_ix x4 1200).bind fun j54 => dc_let (md_a S53 52 j54 (-1)) fun S55 => (dc_ix x4 1200).bind fun j56 => dc_let (md_a S55 58 j56 x5) fun S57 => if x5 = (-1) then (mm_lay_I_L202 S57 x2 x3 x4 x5 y0 1 x4) else ((dc_ix x5 1200).bind fun j58 => (dc_ix x5 1200).bind fun j59 => if (S57.2.1 51 j59) = 6 then (mm_lay_I_L196 S57 x2 x3 x4 x5 y0 (S57.2.1 57 j58) x4) else ((dc_ix x5 1200).bind fun j60 => if (S57.2.1 51 j60) = 5 then (if y0 = 0 then (mm_lay_I_L200 S57 x2 x3 x4 x5 y0 (S57.2.1 57 j58) x4) else (mm_lay_I_L196 S57 x2 x3 x4 x5 y0 (S57.2.1 57 j58) x4)) else (mm_lay_I_L200 S57 x2 x3 x4 x5 y0 (S57.2.1 57 j58) x4)))
noncomputable def mm_lay_I_L68 (S : md_S) (x2 : Int32) (x3 : Int32) (x4 : Int32) (x5 : Int32) : Option ((md_S × Int32) ⊕ ((md_S))) :=
  mm_lay_I_L69 S x2 x3 x4 x5 0
noncomputable def mm_lay_I_b16 (S : md_S) (x2 : Int32) : Option ((md_S × Int32) ⊕ ((md_S))) :=
  if (0 : Int32) < x2 then ((dc_ix (x2 + (-1)) 1208).bind fun j61 => dc_let ((S.2.1 39 j61) : Int32) fun v62 => dc_let ((S.1 42) : Int32) fun v63 => (dc_ix (x2 + (-1)) 1208).bind fun j64 => dc_let (((S.2.1 40 j64) >>> (1 &&& (31 : Int32))) : Int32) fun v65 => (dc_ix (x2 + (-1)) 1208).bind fun j66 => if ((S.2.1 40 j66) &&& 1) = 1 then (if v65 = (-1) then (mm_lay_I_L68 S (x2 + (-1)) v62 v63 v65) else (mm_lay_I_L69 S (x2 + (-1)) v62 v63 v65 1)) else (mm_lay_I_L68 S (x2 + (-1)) v62 v63 v65)) else (some (.inr S))
noncomputable def mm_lay_I_s16 (q : md_S × Int32) : Option ((md_S × Int32) ⊕ ((md_S))) :=
  mm_lay_I_b16 q.1 q.2
noncomputable def mm_lay_I_L16 (S : md_S) (x2 : Int32) : Option (md_S) :=
  (dc_it (mm_lay_I_s16) (S, x2)).bind (fun (z : md_S) => mm_lay_I_L460 z)
noncomputable def mm_lay_I (S : md_S) (p1 : Int32) : Option (md_S) :=
  (dc_ix 0 1208).bind fun j67 => dc_let (md_a S 39 j67 p1) fun S68 => (dc_ix 0 1208).bind fun j69 => dc_let (md_a S68 40 j69 (-1)) fun S70 => mm_lay_I_L16 S70 1
set_option maxHeartbeats 4000000 in
set_option maxRecDepth 100000 in
/-- lay(I)V -/
theorem mm_lay_I_ok (l : Launch) (D : va_G) (ad : Nat → Nat) (de : Nat) (o : Nat) (a : Nat → Nat) (ca : Nat → ClassId) (S : md_S) (p1 : Int32) (F : md_S → Prop) (h : dc_wp (mm_lay_I S p1) F) : dc_Cv l ⟨"SignalEngineModel", "lay", "(I)V"⟩ prog_15_method_55_code 7 none 2 49 D (md_T ca) ad de [.ref o, .int p1] (md_W o a ca S) (fun w => ∃ q, F q ∧ w = md_W o a ca q) 0 0 := by
  refine dc_enterv (by decide +kernel) (Nat.le_of_ble_eq_true rfl) ?_
  intro X hC hR
  have lab_495 : ∀ (S : md_S), dc_wp (mm_lay_I_L495 S) F → dc_G X l { frames := 2, cells := 0, slots := 0, locals := 49 } D 7 0 0 (md_W o a ca S) 495 [(0, .ref o)] [] := by
    intro S  h
    delta mm_lay_I_L495 at h
    exact dc_vret (pc := 495) hC hR ⟨_, dc_some h, rfl⟩ (show decode prog_15_method_55_code 495 = .ok (.return_, 1) by decide +kernel)
  have loop_480 : ∀ (q : md_S × Int32), dc_wp (dc_it (mm_lay_I_s480) q) (fun z => dc_wp ((fun (z : md_S) => mm_lay_I_L495 z) z) F) → dc_G X l { frames := 2, cells := 0, slots := 0, locals := 49 } D 7 0 0 (md_W o a ca q.1) 480 [(0, .ref o), (3, .int q.2)] [] := by
    refine dc_loopF ?_
    intro F_480 hl_480 hr_480
    rintro ⟨S, x3⟩ h
    have h : dc_wp (mm_lay_I_b480 S x3) F_480 := h
    delta mm_lay_I_b480 at h
    refine dc_iloadn (pc := 480) (j := 3) (i := 3) hC 1 rfl rfl (show decode prog_15_method_55_code 480 = .ok (.iload_n 3, 1) by decide +kernel) ?_
    refine dc_if_lt (pc := 481) (tgt := 495) hC (show decode prog_15_method_55_code 481 = .ok (.ifCond .lt 14, 3) by decide +kernel) (by decide +kernel) h ?_ ?_
    · intro h
      have h : dc_wp (mm_lay_I_L495 S) F := hr_480 S (dc_some h)
      exact dc_sub [0] rfl (lab_495 S h)
    · intro h
      refine dc_aloadn (pc := 484) (j := 0) (i := 0) hC 0 rfl rfl (show decode prog_15_method_55_code 484 = .ok (.aload_n 0, 1) by decide +kernel) ?_
      refine dc_iloadn (pc := 485) (j := 3) (i := 3) hC 1 rfl rfl (show decode prog_15_method_55_code 485 = .ok (.iload_n 3, 1) by decide +kernel) ?_
      refine mc_Vmv (pc := 486) (As := [.int x3]) (rest := []) hC vw_code_559 (mm_code_ok l D ad de o a ca S x3) (Nat.le_of_ble_eq_true rfl) (Nat.le_of_ble_eq_true rfl) rfl (Nat.le_of_ble_eq_true rfl) (show decode prog_15_method_55_code 486 = .ok (.invokevirtual 559, 3) by decide +kernel) h ?_
      intro q1 h
      refine dc_iinc (pc := 489) (i := 3) (v := (x3 + (-1))) (lv' := [(3, .int (x3 + (-1))), (0, .ref o)]) hC 1 rfl (congrArg (fun z => x3 + z) (show Int32.ofInt (-1) = (-1 : Int32) by decide +kernel)) (Nat.le_of_ble_eq_true rfl) rfl (show decode prog_15_method_55_code 489 = .ok (.iinc 3 (-1), 3) by decide +kernel) ?_
      refine dc_goto (pc := 492) (tgt := 480) hC (show decode prog_15_method_55_code 492 = .ok (.goto (-12), 3) by decide +kernel) (by decide +kernel) ?_
      exact dc_sub [1, 0] rfl (hl_480 (q1, (x3 + (-1))) (dc_some h))
  have lab_480 : ∀ (S : md_S) (x3 : Int32), dc_wp (mm_lay_I_L480 S x3) F → dc_G X l { frames := 2, cells := 0, slots := 0, locals := 49 } D 7 0 0 (md_W o a ca S) 480 [(0, .ref o), (3, .int x3)] [] := fun S x3 h => loop_480  (S, x3) (dc_bind h)
  have lab_460 : ∀ (S : md_S), dc_wp (mm_lay_I_L460 S) F → dc_G X l { frames := 2, cells := 0, slots := 0, locals := 49 } D 7 0 0 (md_W o a ca S) 460 [(0, .ref o)] [] := by
    intro S  h
    delta mm_lay_I_L460 at h
    refine dc_aloadn (pc := 460) (j := 0) (i := 0) hC 0 rfl rfl (show decode prog_15_method_55_code 460 = .ok (.aload_n 0, 1) by decide +kernel) ?_
    refine md_g62 (pc := 461) hC (show decode prog_15_method_55_code 461 = .ok (.getfield 99, 3) by decide +kernel) ?_
    refine dc_aloadn (pc := 464) (j := 0) (i := 0) hC 0 rfl rfl (show decode prog_15_method_55_code 464 = .ok (.aload_n 0, 1) by decide +kernel) ?_
    refine md_g42 (pc := 465) hC (show decode prog_15_method_55_code 465 = .ok (.getfield 539, 3) by decide +kernel) ?_
    refine dc_aloadn (pc := 468) (j := 0) (i := 0) hC 0 rfl rfl (show decode prog_15_method_55_code 468 = .ok (.aload_n 0, 1) by decide +kernel) ?_
    refine md_g47 (pc := 469) hC (show decode prog_15_method_55_code 469 = .ok (.getfield 498, 3) by decide +kernel) ?_
    refine md_s62 (pc := 472) hC (show decode prog_15_method_55_code 472 = .ok (.iastore, 1) by decide +kernel) h ?_
    intro j2 h
    refine dc_letS h ?_
    intro S3 h
    refine dc_aloadn (pc := 473) (j := 0) (i := 0) hC 0 rfl rfl (show decode prog_15_method_55_code 473 = .ok (.aload_n 0, 1) by decide +kernel) ?_
    refine md_g42 (pc := 474) hC (show decode prog_15_method_55_code 474 = .ok (.getfield 539, 3) by decide +kernel) ?_
    refine dc_iconst (pc := 477) (v := 1) hC (show decode prog_15_method_55_code 477 = .ok (.iconst 1, 1) by decide +kernel) (by decide +kernel) ?_
    refine dc_isub (pc := 478) hC (show decode prog_15_method_55_code 478 = .ok (.isub, 1) by decide +kernel) ?_
    refine dc_letI h ?_
    intro v4 h
    refine dc_istoren (pc := 479) (j := 3) (i := 3) (lv' := [(3, .int v4), (0, .ref o)]) hC rfl (Nat.le_of_ble_eq_true rfl) rfl (show decode prog_15_method_55_code 479 = .ok (.istore_n 3, 1) by decide +kernel) ?_
    exact dc_sub [1, 0] rfl (lab_480 S3 v4 h)
  have loop_16 : ∀ (q : md_S × Int32), dc_wp (dc_it (mm_lay_I_s16) q) (fun z => dc_wp ((fun (z : md_S) => mm_lay_I_L460 z) z) F) → dc_G X l { frames := 2, cells := 0, slots := 0, locals := 49 } D 7 0 0 (md_W o a ca q.1) 16 [(0, .ref o), (2, .int q.2)] [] := by
    refine dc_loopF ?_
    intro F_16 hl_16 hr_16
    have lab_457 : ∀ (S : md_S) (x2 : Int32), dc_wp (mm_lay_I_L457 S x2) F_16 → dc_G X l { frames := 2, cells := 0, slots := 0, locals := 49 } D 7 0 0 (md_W o a ca S) 457 [(0, .ref o), (2, .int x2)] [] := by
      intro S x2 h
      delta mm_lay_I_L457 at h
      refine dc_goto (pc := 457) (tgt := 16) hC (show decode prog_15_method_55_code 457 = .ok (.goto (-441), 3) by decide +kernel) (by decide +kernel) ?_
      exact hl_16 (S, x2) (dc_some h)
    have lab_422 : ∀ (S : md_S) (x2 : Int32) (x3 : Int32) (x4 : Int32), dc_wp (mm_lay_I_L422 S x2 x3 x4) F_16 → dc_G X l { frames := 2, cells := 0, slots := 0, locals := 49 } D 7 0 0 (md_W o a ca S) 422 [(0, .ref o), (2, .int x2), (3, .int x3), (4, .int x4)] [] := by
      intro S x2 x3 x4 h
      delta mm_lay_I_L422 at h
      refine dc_aloadn (pc := 422) (j := 0) (i := 0) hC 0 rfl rfl (show decode prog_15_method_55_code 422 = .ok (.aload_n 0, 1) by decide +kernel) ?_
      refine md_g31 (pc := 423) hC (show decode prog_15_method_55_code 423 = .ok (.getfield 36, 3) by decide +kernel) ?_
      refine dc_iloadn (pc := 426) (j := 3) (i := 3) hC 2 rfl rfl (show decode prog_15_method_55_code 426 = .ok (.iload_n 3, 1) by decide +kernel) ?_
      refine md_l31 (pc := 427) hC (show decode prog_15_method_55_code 427 = .ok (.iaload, 1) by decide +kernel) h ?_
      intro j5 h
      refine dc_iconst (pc := 428) (v := (-1)) hC (show decode prog_15_method_55_code 428 = .ok (.iconst (-1), 1) by decide +kernel) (by decide +kernel) ?_
      refine dc_icmp_eq (pc := 429) (tgt := 457) hC (show decode prog_15_method_55_code 429 = .ok (.if_icmp .eq 28, 3) by decide +kernel) (by decide +kernel) h ?_ ?_
      · intro h
        exact dc_sub [0, 1] rfl (lab_457 S x2 h)
      · intro h
        refine dc_aloadn (pc := 432) (j := 0) (i := 0) hC 0 rfl rfl (show decode prog_15_method_55_code 432 = .ok (.aload_n 0, 1) by decide +kernel) ?_
        refine md_g39 (pc := 433) hC (show decode prog_15_method_55_code 433 = .ok (.getfield 60, 3) by decide +kernel) ?_
        refine dc_iloadn (pc := 436) (j := 2) (i := 2) hC 1 rfl rfl (show decode prog_15_method_55_code 436 = .ok (.iload_n 2, 1) by decide +kernel) ?_
        refine dc_aloadn (pc := 437) (j := 0) (i := 0) hC 0 rfl rfl (show decode prog_15_method_55_code 437 = .ok (.aload_n 0, 1) by decide +kernel) ?_
        refine md_g31 (pc := 438) hC (show decode prog_15_method_55_code 438 = .ok (.getfield 36, 3) by decide +kernel) ?_
        refine dc_iloadn (pc := 441) (j := 3) (i := 3) hC 2 rfl rfl (show decode prog_15_method_55_code 441 = .ok (.iload_n 3, 1) by decide +kernel) ?_
        refine md_l31 (pc := 442) hC (show decode prog_15_method_55_code 442 = .ok (.iaload, 1) by decide +kernel) h ?_
        intro j6 h
        refine md_s39 (pc := 443) hC (show decode prog_15_method_55_code 443 = .ok (.iastore, 1) by decide +kernel) h ?_
        intro j7 h
        refine dc_letS h ?_
        intro S8 h
        refine dc_aloadn (pc := 444) (j := 0) (i := 0) hC 0 rfl rfl (show decode prog_15_method_55_code 444 = .ok (.aload_n 0, 1) by decide +kernel) ?_
        refine md_g40 (pc := 445) hC (show decode prog_15_method_55_code 445 = .ok (.getfield 63, 3) by decide +kernel) ?_
        refine dc_iloadn (pc := 448) (j := 2) (i := 2) hC 1 rfl rfl (show decode prog_15_method_55_code 448 = .ok (.iload_n 2, 1) by decide +kernel) ?_
        refine dc_iconst (pc := 449) (v := 2) hC (show decode prog_15_method_55_code 449 = .ok (.iconst 2, 1) by decide +kernel) (by decide +kernel) ?_
        refine dc_iload (pc := 450) (i := 4) hC 3 rfl (show decode prog_15_method_55_code 450 = .ok (.iload 4, 2) by decide +kernel) ?_
        refine dc_imul (pc := 452) hC (show decode prog_15_method_55_code 452 = .ok (.imul, 1) by decide +kernel) ?_
        refine md_s40 (pc := 453) hC (show decode prog_15_method_55_code 453 = .ok (.iastore, 1) by decide +kernel) h ?_
        intro j9 h
        refine dc_letS h ?_
        intro S10 h
        refine dc_iinc (pc := 454) (i := 2) (v := (x2 + 1)) (lv' := [(2, .int (x2 + 1)), (0, .ref o), (3, .int x3), (4, .int x4)]) hC 1 rfl rfl (Nat.le_of_ble_eq_true rfl) rfl (show decode prog_15_method_55_code 454 = .ok (.iinc 2 1, 3) by decide +kernel) ?_
        exact dc_sub [1, 0] rfl (lab_457 S10 (x2 + 1) h)
    have lab_368 : ∀ (S : md_S) (x2 : Int32) (x3 : Int32) (x4 : Int32), dc_wp (mm_lay_I_L368 S x2 x3 x4) F_16 → dc_G X l { frames := 2, cells := 0, slots := 0, locals := 49 } D 7 0 0 (md_W o a ca S) 368 [(0, .ref o), (2, .int x2), (3, .int x3), (4, .int x4)] [] := by
      intro S x2 x3 x4 h
      delta mm_lay_I_L368 at h
      refine dc_aloadn (pc := 368) (j := 0) (i := 0) hC 0 rfl rfl (show decode prog_15_method_55_code 368 = .ok (.aload_n 0, 1) by decide +kernel) ?_
      refine dc_aloadn (pc := 369) (j := 0) (i := 0) hC 0 rfl rfl (show decode prog_15_method_55_code 369 = .ok (.aload_n 0, 1) by decide +kernel) ?_
      refine md_g49 (pc := 370) hC (show decode prog_15_method_55_code 370 = .ok (.getfield 504, 3) by decide +kernel) ?_
      refine dc_aloadn (pc := 373) (j := 0) (i := 0) hC 0 rfl rfl (show decode prog_15_method_55_code 373 = .ok (.aload_n 0, 1) by decide +kernel) ?_
      refine dc_iload (pc := 374) (i := 4) hC 3 rfl (show decode prog_15_method_55_code 374 = .ok (.iload 4, 2) by decide +kernel) ?_
      refine mc_Vpi (pc := 376) (As := [.int x4]) (rest := [.int (S.1 49), .ref o]) hC vw_around_551 (mm_around_ok l D ad de o a ca S x4) (Nat.le_of_ble_eq_true rfl) (Nat.le_of_ble_eq_true rfl) rfl (Nat.le_of_ble_eq_true rfl) (show decode prog_15_method_55_code 376 = .ok (.invokevirtual 551, 3) by decide +kernel) h ?_
      intro q11 h
      refine dc_mmax (pc := 379) hC w_2127 w_633 w_4 w_634 ⟨Nat.le_of_ble_eq_true rfl, Nat.le_of_ble_eq_true rfl⟩ ⟨Nat.le_refl _, Nat.le_refl _⟩ (show decode prog_15_method_55_code 379 = .ok (.invokestatic 554, 3) by decide +kernel) ?_
      refine md_p49 (pc := 382) hC (show decode prog_15_method_55_code 382 = .ok (.putfield 504, 3) by decide +kernel) ?_
      refine dc_letS h ?_
      intro S12 h
      refine dc_aloadn (pc := 385) (j := 0) (i := 0) hC 0 rfl rfl (show decode prog_15_method_55_code 385 = .ok (.aload_n 0, 1) by decide +kernel) ?_
      refine md_g32 (pc := 386) hC (show decode prog_15_method_55_code 386 = .ok (.getfield 39, 3) by decide +kernel) ?_
      refine dc_iloadn (pc := 389) (j := 3) (i := 3) hC 2 rfl rfl (show decode prog_15_method_55_code 389 = .ok (.iload_n 3, 1) by decide +kernel) ?_
      refine md_l32 (pc := 390) hC (show decode prog_15_method_55_code 390 = .ok (.iaload, 1) by decide +kernel) h ?_
      intro j13 h
      refine dc_iconst (pc := 391) (v := (-1)) hC (show decode prog_15_method_55_code 391 = .ok (.iconst (-1), 1) by decide +kernel) (by decide +kernel) ?_
      refine dc_icmp_eq (pc := 392) (tgt := 422) hC (show decode prog_15_method_55_code 392 = .ok (.if_icmp .eq 30, 3) by decide +kernel) (by decide +kernel) h ?_ ?_
      · intro h
        exact lab_422 S12 x2 x3 x4 h
      · intro h
        refine dc_aloadn (pc := 395) (j := 0) (i := 0) hC 0 rfl rfl (show decode prog_15_method_55_code 395 = .ok (.aload_n 0, 1) by decide +kernel) ?_
        refine md_g39 (pc := 396) hC (show decode prog_15_method_55_code 396 = .ok (.getfield 60, 3) by decide +kernel) ?_
        refine dc_iloadn (pc := 399) (j := 2) (i := 2) hC 1 rfl rfl (show decode prog_15_method_55_code 399 = .ok (.iload_n 2, 1) by decide +kernel) ?_
        refine dc_aloadn (pc := 400) (j := 0) (i := 0) hC 0 rfl rfl (show decode prog_15_method_55_code 400 = .ok (.aload_n 0, 1) by decide +kernel) ?_
        refine md_g32 (pc := 401) hC (show decode prog_15_method_55_code 401 = .ok (.getfield 39, 3) by decide +kernel) ?_
        refine dc_iloadn (pc := 404) (j := 3) (i := 3) hC 2 rfl rfl (show decode prog_15_method_55_code 404 = .ok (.iload_n 3, 1) by decide +kernel) ?_
        refine md_l32 (pc := 405) hC (show decode prog_15_method_55_code 405 = .ok (.iaload, 1) by decide +kernel) h ?_
        intro j14 h
        refine md_s39 (pc := 406) hC (show decode prog_15_method_55_code 406 = .ok (.iastore, 1) by decide +kernel) h ?_
        intro j15 h
        refine dc_letS h ?_
        intro S16 h
        refine dc_aloadn (pc := 407) (j := 0) (i := 0) hC 0 rfl rfl (show decode prog_15_method_55_code 407 = .ok (.aload_n 0, 1) by decide +kernel) ?_
        refine md_g40 (pc := 408) hC (show decode prog_15_method_55_code 408 = .ok (.getfield 63, 3) by decide +kernel) ?_
        refine dc_iloadn (pc := 411) (j := 2) (i := 2) hC 1 rfl rfl (show decode prog_15_method_55_code 411 = .ok (.iload_n 2, 1) by decide +kernel) ?_
        refine dc_iconst (pc := 412) (v := 2) hC (show decode prog_15_method_55_code 412 = .ok (.iconst 2, 1) by decide +kernel) (by decide +kernel) ?_
        refine dc_iload (pc := 413) (i := 4) hC 3 rfl (show decode prog_15_method_55_code 413 = .ok (.iload 4, 2) by decide +kernel) ?_
        refine dc_imul (pc := 415) hC (show decode prog_15_method_55_code 415 = .ok (.imul, 1) by decide +kernel) ?_
        refine dc_iconst (pc := 416) (v := 1) hC (show decode prog_15_method_55_code 416 = .ok (.iconst 1, 1) by decide +kernel) (by decide +kernel) ?_
        refine dc_iadd (pc := 417) hC (show decode prog_15_method_55_code 417 = .ok (.iadd, 1) by decide +kernel) ?_
        refine md_s40 (pc := 418) hC (show decode prog_15_method_55_code 418 = .ok (.iastore, 1) by decide +kernel) h ?_
        intro j17 h
        refine dc_letS h ?_
        intro S18 h
        refine dc_iinc (pc := 419) (i := 2) (v := (x2 + 1)) (lv' := [(2, .int (x2 + 1)), (0, .ref o), (3, .int x3), (4, .int x4)]) hC 1 rfl rfl (Nat.le_of_ble_eq_true rfl) rfl (show decode prog_15_method_55_code 419 = .ok (.iinc 2 1, 3) by decide +kernel) ?_
        exact dc_sub [1, 0, 2, 3] rfl (lab_422 S18 (x2 + 1) x3 x4 h)
    have lab_341 : ∀ (S : md_S) (x2 : Int32) (x3 : Int32) (x4 : Int32), dc_wp (mm_lay_I_L341 S x2 x3 x4) F_16 → dc_G X l { frames := 2, cells := 0, slots := 0, locals := 49 } D 7 0 0 (md_W o a ca S) 341 [(0, .ref o), (2, .int x2), (3, .int x3), (4, .int x4)] [] := by
      intro S x2 x3 x4 h
      delta mm_lay_I_L341 at h
      refine dc_aloadn (pc := 341) (j := 0) (i := 0) hC 0 rfl rfl (show decode prog_15_method_55_code 341 = .ok (.aload_n 0, 1) by decide +kernel) ?_
      refine md_g35 (pc := 342) hC (show decode prog_15_method_55_code 342 = .ok (.getfield 48, 3) by decide +kernel) ?_
      refine dc_iloadn (pc := 345) (j := 3) (i := 3) hC 2 rfl rfl (show decode prog_15_method_55_code 345 = .ok (.iload_n 3, 1) by decide +kernel) ?_
      refine md_l35 (pc := 346) hC (show decode prog_15_method_55_code 346 = .ok (.iaload, 1) by decide +kernel) h ?_
      intro j19 h
      refine dc_iconst (pc := 347) (v := (-1)) hC (show decode prog_15_method_55_code 347 = .ok (.iconst (-1), 1) by decide +kernel) (by decide +kernel) ?_
      refine dc_icmp_eq (pc := 348) (tgt := 368) hC (show decode prog_15_method_55_code 348 = .ok (.if_icmp .eq 20, 3) by decide +kernel) (by decide +kernel) h ?_ ?_
      · intro h
        exact lab_368 S x2 x3 x4 h
      · intro h
        refine dc_aloadn (pc := 351) (j := 0) (i := 0) hC 0 rfl rfl (show decode prog_15_method_55_code 351 = .ok (.aload_n 0, 1) by decide +kernel) ?_
        refine md_g54 (pc := 352) hC (show decode prog_15_method_55_code 352 = .ok (.getfield 75, 3) by decide +kernel) ?_
        refine dc_iload (pc := 355) (i := 4) hC 3 rfl (show decode prog_15_method_55_code 355 = .ok (.iload 4, 2) by decide +kernel) ?_
        refine dc_aloadn (pc := 357) (j := 0) (i := 0) hC 0 rfl rfl (show decode prog_15_method_55_code 357 = .ok (.aload_n 0, 1) by decide +kernel) ?_
        refine dc_aloadn (pc := 358) (j := 0) (i := 0) hC 0 rfl rfl (show decode prog_15_method_55_code 358 = .ok (.aload_n 0, 1) by decide +kernel) ?_
        refine md_g35 (pc := 359) hC (show decode prog_15_method_55_code 359 = .ok (.getfield 48, 3) by decide +kernel) ?_
        refine dc_iloadn (pc := 362) (j := 3) (i := 3) hC 2 rfl rfl (show decode prog_15_method_55_code 362 = .ok (.iload_n 3, 1) by decide +kernel) ?_
        refine md_l35 (pc := 363) hC (show decode prog_15_method_55_code 363 = .ok (.iaload, 1) by decide +kernel) h ?_
        intro j20 h
        refine mc_Vmi (pc := 364) (As := [.int (S.2.1 35 j20)]) (rest := [.int x4, .ref (a 54)]) hC vw_ask_548 (mm_ask_ok l D ad de o a ca S (S.2.1 35 j20)) (Nat.le_of_ble_eq_true rfl) (Nat.le_of_ble_eq_true rfl) rfl (Nat.le_of_ble_eq_true rfl) (show decode prog_15_method_55_code 364 = .ok (.invokevirtual 548, 3) by decide +kernel) h ?_
        intro q21 h
        refine md_s54 (pc := 367) hC (show decode prog_15_method_55_code 367 = .ok (.iastore, 1) by decide +kernel) h ?_
        intro j22 h
        refine dc_letS h ?_
        intro S23 h
        exact lab_368 S23 x2 x3 x4 h
    have lab_298 : ∀ (S : md_S) (x2 : Int32) (x3 : Int32) (x4 : Int32), dc_wp (mm_lay_I_L298 S x2 x3 x4) F_16 → dc_G X l { frames := 2, cells := 0, slots := 0, locals := 49 } D 7 0 0 (md_W o a ca S) 298 [(0, .ref o), (2, .int x2), (3, .int x3), (4, .int x4)] [] := by
      intro S x2 x3 x4 h
      delta mm_lay_I_L298 at h
      refine dc_aloadn (pc := 298) (j := 0) (i := 0) hC 0 rfl rfl (show decode prog_15_method_55_code 298 = .ok (.aload_n 0, 1) by decide +kernel) ?_
      refine md_g62 (pc := 299) hC (show decode prog_15_method_55_code 299 = .ok (.getfield 99, 3) by decide +kernel) ?_
      refine dc_iload (pc := 302) (i := 4) hC 3 rfl (show decode prog_15_method_55_code 302 = .ok (.iload 4, 2) by decide +kernel) ?_
      refine dc_aloadn (pc := 304) (j := 0) (i := 0) hC 0 rfl rfl (show decode prog_15_method_55_code 304 = .ok (.aload_n 0, 1) by decide +kernel) ?_
      refine md_g47 (pc := 305) hC (show decode prog_15_method_55_code 305 = .ok (.getfield 498, 3) by decide +kernel) ?_
      refine md_s62 (pc := 308) hC (show decode prog_15_method_55_code 308 = .ok (.iastore, 1) by decide +kernel) h ?_
      intro j24 h
      refine dc_letS h ?_
      intro S25 h
      refine dc_aloadn (pc := 309) (j := 0) (i := 0) hC 0 rfl rfl (show decode prog_15_method_55_code 309 = .ok (.aload_n 0, 1) by decide +kernel) ?_
      refine md_g51 (pc := 310) hC (show decode prog_15_method_55_code 310 = .ok (.getfield 66, 3) by decide +kernel) ?_
      refine dc_iload (pc := 313) (i := 4) hC 3 rfl (show decode prog_15_method_55_code 313 = .ok (.iload 4, 2) by decide +kernel) ?_
      refine md_l51 (pc := 315) hC (show decode prog_15_method_55_code 315 = .ok (.iaload, 1) by decide +kernel) h ?_
      intro j26 h
      refine dc_iconst (pc := 316) (v := 1) hC (show decode prog_15_method_55_code 316 = .ok (.iconst 1, 1) by decide +kernel) (by decide +kernel) ?_
      refine dc_icmp_ne (pc := 317) (tgt := 341) hC (show decode prog_15_method_55_code 317 = .ok (.if_icmp .ne 24, 3) by decide +kernel) (by decide +kernel) h ?_ ?_
      · intro h
        refine dc_aloadn (pc := 320) (j := 0) (i := 0) hC 0 rfl rfl (show decode prog_15_method_55_code 320 = .ok (.aload_n 0, 1) by decide +kernel) ?_
        refine md_g54 (pc := 321) hC (show decode prog_15_method_55_code 321 = .ok (.getfield 75, 3) by decide +kernel) ?_
        refine dc_iload (pc := 324) (i := 4) hC 3 rfl (show decode prog_15_method_55_code 324 = .ok (.iload 4, 2) by decide +kernel) ?_
        refine dc_aloadn (pc := 326) (j := 0) (i := 0) hC 0 rfl rfl (show decode prog_15_method_55_code 326 = .ok (.aload_n 0, 1) by decide +kernel) ?_
        refine md_g47 (pc := 327) hC (show decode prog_15_method_55_code 327 = .ok (.getfield 498, 3) by decide +kernel) ?_
        refine md_s54 (pc := 330) hC (show decode prog_15_method_55_code 330 = .ok (.iastore, 1) by decide +kernel) h ?_
        intro j27 h
        refine dc_letS h ?_
        intro S28 h
        refine dc_aloadn (pc := 331) (j := 0) (i := 0) hC 0 rfl rfl (show decode prog_15_method_55_code 331 = .ok (.aload_n 0, 1) by decide +kernel) ?_
        refine dc_dup (pc := 332) hC (show decode prog_15_method_55_code 332 = .ok (.dup, 1) by decide +kernel) rfl ?_
        refine md_g47 (pc := 333) hC (show decode prog_15_method_55_code 333 = .ok (.getfield 498, 3) by decide +kernel) ?_
        refine dc_iconst (pc := 336) (v := 1) hC (show decode prog_15_method_55_code 336 = .ok (.iconst 1, 1) by decide +kernel) (by decide +kernel) ?_
        refine dc_iadd (pc := 337) hC (show decode prog_15_method_55_code 337 = .ok (.iadd, 1) by decide +kernel) ?_
        refine md_p47 (pc := 338) hC (show decode prog_15_method_55_code 338 = .ok (.putfield 498, 3) by decide +kernel) ?_
        refine dc_letS h ?_
        intro S29 h
        exact lab_341 S29 x2 x3 x4 h
      · intro h
        exact lab_341 S25 x2 x3 x4 h
    have lab_283 : ∀ (S : md_S) (x2 : Int32) (x3 : Int32) (x4 : Int32) (x5 : Int32), dc_wp (mm_lay_I_L283 S x2 x3 x4 x5) F_16 → dc_G X l { frames := 2, cells := 0, slots := 0, locals := 49 } D 7 0 0 (md_W o a ca S) 283 [(0, .ref o), (2, .int x2), (3, .int x3), (4, .int x4), (5, .int x5)] [] := by
      intro S x2 x3 x4 x5 h
      delta mm_lay_I_L283 at h
      refine dc_iload (pc := 283) (i := 5) hC 4 rfl (show decode prog_15_method_55_code 283 = .ok (.iload 5, 2) by decide +kernel) ?_
      refine dc_iconst (pc := 285) (v := (-1)) hC (show decode prog_15_method_55_code 285 = .ok (.iconst (-1), 1) by decide +kernel) (by decide +kernel) ?_
      refine dc_icmp_eq (pc := 286) (tgt := 298) hC (show decode prog_15_method_55_code 286 = .ok (.if_icmp .eq 12, 3) by decide +kernel) (by decide +kernel) h ?_ ?_
      · intro h
        exact dc_sub [0, 1, 2, 3] rfl (lab_298 S x2 x3 x4 h)
      · intro h
        refine dc_aloadn (pc := 289) (j := 0) (i := 0) hC 0 rfl rfl (show decode prog_15_method_55_code 289 = .ok (.aload_n 0, 1) by decide +kernel) ?_
        refine md_g52 (pc := 290) hC (show decode prog_15_method_55_code 290 = .ok (.getfield 69, 3) by decide +kernel) ?_
        refine dc_iload (pc := 293) (i := 5) hC 4 rfl (show decode prog_15_method_55_code 293 = .ok (.iload 5, 2) by decide +kernel) ?_
        refine dc_iload (pc := 295) (i := 4) hC 3 rfl (show decode prog_15_method_55_code 295 = .ok (.iload 4, 2) by decide +kernel) ?_
        refine md_s52 (pc := 297) hC (show decode prog_15_method_55_code 297 = .ok (.iastore, 1) by decide +kernel) h ?_
        intro j30 h
        refine dc_letS h ?_
        intro S31 h
        exact dc_sub [0, 1, 2, 3] rfl (lab_298 S31 x2 x3 x4 h)
    have lab_243 : ∀ (S : md_S) (x2 : Int32) (x3 : Int32) (x4 : Int32) (x5 : Int32) (x6 : Int32) (y0 : Int32) (y1 : Int32), dc_wp (mm_lay_I_L243 S x2 x3 x4 x5 x6 y0 y1) F_16 → dc_G X l { frames := 2, cells := 0, slots := 0, locals := 49 } D 7 0 0 (md_W o a ca S) 243 [(0, .ref o), (2, .int x2), (3, .int x3), (4, .int x4), (5, .int x5), (6, .int x6)] [.int y0, .int y1, .ref (a 60)] := by
      intro S x2 x3 x4 x5 x6 y0 y1 h
      delta mm_lay_I_L243 at h
      refine md_s60 (pc := 243) hC (show decode prog_15_method_55_code 243 = .ok (.iastore, 1) by decide +kernel) h ?_
      intro j32 h
      refine dc_letS h ?_
      intro S33 h
      refine dc_aloadn (pc := 244) (j := 0) (i := 0) hC 0 rfl rfl (show decode prog_15_method_55_code 244 = .ok (.aload_n 0, 1) by decide +kernel) ?_
      refine dc_dup (pc := 245) hC (show decode prog_15_method_55_code 245 = .ok (.dup, 1) by decide +kernel) rfl ?_
      refine md_g48 (pc := 246) hC (show decode prog_15_method_55_code 246 = .ok (.getfield 507, 3) by decide +kernel) ?_
      refine dc_aloadn (pc := 249) (j := 0) (i := 0) hC 0 rfl rfl (show decode prog_15_method_55_code 249 = .ok (.aload_n 0, 1) by decide +kernel) ?_
      refine md_g57 (pc := 250) hC (show decode prog_15_method_55_code 250 = .ok (.getfield 84, 3) by decide +kernel) ?_
      refine dc_iload (pc := 253) (i := 4) hC 3 rfl (show decode prog_15_method_55_code 253 = .ok (.iload 4, 2) by decide +kernel) ?_
      refine md_l57 (pc := 255) hC (show decode prog_15_method_55_code 255 = .ok (.iaload, 1) by decide +kernel) h ?_
      intro j34 h
      refine dc_iadd (pc := 256) hC (show decode prog_15_method_55_code 256 = .ok (.iadd, 1) by decide +kernel) ?_
      refine md_p48 (pc := 257) hC (show decode prog_15_method_55_code 257 = .ok (.putfield 507, 3) by decide +kernel) ?_
      refine dc_letS h ?_
      intro S35 h
      refine dc_iload (pc := 260) (i := 5) hC 4 rfl (show decode prog_15_method_55_code 260 = .ok (.iload 5, 2) by decide +kernel) ?_
      refine dc_iconst (pc := 262) (v := (-1)) hC (show decode prog_15_method_55_code 262 = .ok (.iconst (-1), 1) by decide +kernel) (by decide +kernel) ?_
      refine dc_icmp_eq (pc := 263) (tgt := 283) hC (show decode prog_15_method_55_code 263 = .ok (.if_icmp .eq 20, 3) by decide +kernel) (by decide +kernel) h ?_ ?_
      · intro h
        exact dc_sub [0, 1, 2, 3, 4] rfl (lab_283 S35 x2 x3 x4 x5 h)
      · intro h
        refine dc_iload (pc := 266) (i := 6) hC 5 rfl (show decode prog_15_method_55_code 266 = .ok (.iload 6, 2) by decide +kernel) ?_
        refine dc_if_eq (pc := 268) (tgt := 283) hC (show decode prog_15_method_55_code 268 = .ok (.ifCond .eq 15, 3) by decide +kernel) (by decide +kernel) h ?_ ?_
        · intro h
          exact dc_sub [0, 1, 2, 3, 4] rfl (lab_283 S35 x2 x3 x4 x5 h)
        · intro h
          refine dc_aloadn (pc := 271) (j := 0) (i := 0) hC 0 rfl rfl (show decode prog_15_method_55_code 271 = .ok (.aload_n 0, 1) by decide +kernel) ?_
          refine md_g53 (pc := 272) hC (show decode prog_15_method_55_code 272 = .ok (.getfield 72, 3) by decide +kernel) ?_
          refine dc_iload (pc := 275) (i := 5) hC 4 rfl (show decode prog_15_method_55_code 275 = .ok (.iload 5, 2) by decide +kernel) ?_
          refine dc_iload (pc := 277) (i := 4) hC 3 rfl (show decode prog_15_method_55_code 277 = .ok (.iload 4, 2) by decide +kernel) ?_
          refine md_s53 (pc := 279) hC (show decode prog_15_method_55_code 279 = .ok (.iastore, 1) by decide +kernel) h ?_
          intro j36 h
          refine dc_letS h ?_
          intro S37 h
          refine dc_goto (pc := 280) (tgt := 298) hC (show decode prog_15_method_55_code 280 = .ok (.goto 18, 3) by decide +kernel) (by decide +kernel) ?_
          exact dc_sub [0, 1, 2, 3] rfl (lab_298 S37 x2 x3 x4 h)
    have lab_202 : ∀ (S : md_S) (x2 : Int32) (x3 : Int32) (x4 : Int32) (x5 : Int32) (x6 : Int32) (y0 : Int32) (y1 : Int32), dc_wp (mm_lay_I_L202 S x2 x3 x4 x5 x6 y0 y1) F_16 → dc_G X l { frames := 2, cells := 0, slots := 0, locals := 49 } D 7 0 0 (md_W o a ca S) 202 [(0, .ref o), (2, .int x2), (3, .int x3), (4, .int x4), (5, .int x5), (6, .int x6)] [.int y0, .int y1, .ref (a 57)] := by
      intro S x2 x3 x4 x5 x6 y0 y1 h
      delta mm_lay_I_L202 at h
      refine md_s57 (pc := 202) hC (show decode prog_15_method_55_code 202 = .ok (.iastore, 1) by decide +kernel) h ?_
      intro j38 h
      refine dc_letS h ?_
      intro S39 h
      refine dc_aloadn (pc := 203) (j := 0) (i := 0) hC 0 rfl rfl (show decode prog_15_method_55_code 203 = .ok (.aload_n 0, 1) by decide +kernel) ?_
      refine md_g60 (pc := 204) hC (show decode prog_15_method_55_code 204 = .ok (.getfield 93, 3) by decide +kernel) ?_
      refine dc_iload (pc := 207) (i := 4) hC 3 rfl (show decode prog_15_method_55_code 207 = .ok (.iload 4, 2) by decide +kernel) ?_
      refine dc_iload (pc := 209) (i := 5) hC 4 rfl (show decode prog_15_method_55_code 209 = .ok (.iload 5, 2) by decide +kernel) ?_
      refine dc_iconst (pc := 211) (v := (-1)) hC (show decode prog_15_method_55_code 211 = .ok (.iconst (-1), 1) by decide +kernel) (by decide +kernel) ?_
      refine dc_icmp_ne (pc := 212) (tgt := 219) hC (show decode prog_15_method_55_code 212 = .ok (.if_icmp .ne 7, 3) by decide +kernel) (by decide +kernel) h ?_ ?_
      · intro h
        refine dc_iconst (pc := 215) (v := (-1)) hC (show decode prog_15_method_55_code 215 = .ok (.iconst (-1), 1) by decide +kernel) (by decide +kernel) ?_
        refine dc_goto (pc := 216) (tgt := 243) hC (show decode prog_15_method_55_code 216 = .ok (.goto 27, 3) by decide +kernel) (by decide +kernel) ?_
        exact lab_243 S39 x2 x3 x4 x5 x6 (-1) x4 h
      · intro h
        refine dc_aloadn (pc := 219) (j := 0) (i := 0) hC 0 rfl rfl (show decode prog_15_method_55_code 219 = .ok (.aload_n 0, 1) by decide +kernel) ?_
        refine md_g51 (pc := 220) hC (show decode prog_15_method_55_code 220 = .ok (.getfield 66, 3) by decide +kernel) ?_
        refine dc_iload (pc := 223) (i := 5) hC 4 rfl (show decode prog_15_method_55_code 223 = .ok (.iload 5, 2) by decide +kernel) ?_
        refine md_l51 (pc := 225) hC (show decode prog_15_method_55_code 225 = .ok (.iaload, 1) by decide +kernel) h ?_
        intro j40 h
        refine dc_bipush (pc := 226) (v := 8) hC (show decode prog_15_method_55_code 226 = .ok (.bipush 8, 2) by decide +kernel) (by decide +kernel) ?_
        refine dc_icmp_ne (pc := 228) (tgt := 236) hC (show decode prog_15_method_55_code 228 = .ok (.if_icmp .ne 8, 3) by decide +kernel) (by decide +kernel) h ?_ ?_
        · intro h
          refine dc_iload (pc := 231) (i := 5) hC 4 rfl (show decode prog_15_method_55_code 231 = .ok (.iload 5, 2) by decide +kernel) ?_
          refine dc_goto (pc := 233) (tgt := 243) hC (show decode prog_15_method_55_code 233 = .ok (.goto 10, 3) by decide +kernel) (by decide +kernel) ?_
          exact lab_243 S39 x2 x3 x4 x5 x6 x5 x4 h
        · intro h
          refine dc_aloadn (pc := 236) (j := 0) (i := 0) hC 0 rfl rfl (show decode prog_15_method_55_code 236 = .ok (.aload_n 0, 1) by decide +kernel) ?_
          refine md_g60 (pc := 237) hC (show decode prog_15_method_55_code 237 = .ok (.getfield 93, 3) by decide +kernel) ?_
          refine dc_iload (pc := 240) (i := 5) hC 4 rfl (show decode prog_15_method_55_code 240 = .ok (.iload 5, 2) by decide +kernel) ?_
          refine md_l60 (pc := 242) hC (show decode prog_15_method_55_code 242 = .ok (.iaload, 1) by decide +kernel) h ?_
          intro j41 h
          exact lab_243 S39 x2 x3 x4 x5 x6 (S39.2.1 60 j41) x4 h
    have lab_201 : ∀ (S : md_S) (x2 : Int32) (x3 : Int32) (x4 : Int32) (x5 : Int32) (x6 : Int32) (y0 : Int32) (y1 : Int32) (y2 : Int32), dc_wp (mm_lay_I_L201 S x2 x3 x4 x5 x6 y0 y1 y2) F_16 → dc_G X l { frames := 2, cells := 0, slots := 0, locals := 49 } D 7 0 0 (md_W o a ca S) 201 [(0, .ref o), (2, .int x2), (3, .int x3), (4, .int x4), (5, .int x5), (6, .int x6)] [.int y0, .int y1, .int y2, .ref (a 57)] := by
      intro S x2 x3 x4 x5 x6 y0 y1 y2 h
      delta mm_lay_I_L201 at h
      refine dc_iadd (pc := 201) hC (show decode prog_15_method_55_code 201 = .ok (.iadd, 1) by decide +kernel) ?_
      exact lab_202 S x2 x3 x4 x5 x6 (y1 + y0) y2 h
    have lab_200 : ∀ (S : md_S) (x2 : Int32) (x3 : Int32) (x4 : Int32) (x5 : Int32) (x6 : Int32) (y0 : Int32) (y1 : Int32), dc_wp (mm_lay_I_L200 S x2 x3 x4 x5 x6 y0 y1) F_16 → dc_G X l { frames := 2, cells := 0, slots := 0, locals := 49 } D 7 0 0 (md_W o a ca S) 200 [(0, .ref o), (2, .int x2), (3, .int x3), (4, .int x4), (5, .int x5), (6, .int x6)] [.int y0, .int y1, .ref (a 57)] := by
      intro S x2 x3 x4 x5 x6 y0 y1 h
      delta mm_lay_I_L200 at h
      refine dc_iconst (pc := 200) (v := 0) hC (show decode prog_15_method_55_code 200 = .ok (.iconst 0, 1) by decide +kernel) (by decide +kernel) ?_
      exact lab_201 S x2 x3 x4 x5 x6 0 y0 y1 h
    have lab_196 : ∀ (S : md_S) (x2 : Int32) (x3 : Int32) (x4 : Int32) (x5 : Int32) (x6 : Int32) (y0 : Int32) (y1 : Int32), dc_wp (mm_lay_I_L196 S x2 x3 x4 x5 x6 y0 y1) F_16 → dc_G X l { frames := 2, cells := 0, slots := 0, locals := 49 } D 7 0 0 (md_W o a ca S) 196 [(0, .ref o), (2, .int x2), (3, .int x3), (4, .int x4), (5, .int x5), (6, .int x6)] [.int y0, .int y1, .ref (a 57)] := by
      intro S x2 x3 x4 x5 x6 y0 y1 h
      delta mm_lay_I_L196 at h
      refine dc_iconst (pc := 196) (v := 1) hC (show decode prog_15_method_55_code 196 = .ok (.iconst 1, 1) by decide +kernel) (by decide +kernel) ?_
      refine dc_goto (pc := 197) (tgt := 201) hC (show decode prog_15_method_55_code 197 = .ok (.goto 4, 3) by decide +kernel) (by decide +kernel) ?_
      exact lab_201 S x2 x3 x4 x5 x6 1 y0 y1 h
    have lab_69 : ∀ (S : md_S) (x2 : Int32) (x3 : Int32) (x4 : Int32) (x5 : Int32) (y0 : Int32), dc_wp (mm_lay_I_L69 S x2 x3 x4 x5 y0) F_16 → dc_G X l { frames := 2, cells := 0, slots := 0, locals := 49 } D 7 0 0 (md_W o a ca S) 69 [(0, .ref o), (2, .int x2), (3, .int x3), (4, .int x4), (5, .int x5)] [.int y0] := by
      intro S x2 x3 x4 x5 y0 h
      delta mm_lay_I_L69 at h
      refine dc_istore (pc := 69) (i := 6) (lv' := [(6, .int y0), (0, .ref o), (2, .int x2), (3, .int x3), (4, .int x4), (5, .int x5)]) hC (Nat.le_of_ble_eq_true rfl) rfl (show decode prog_15_method_55_code 69 = .ok (.istore 6, 2) by decide +kernel) ?_
      refine dc_aloadn (pc := 71) (j := 0) (i := 0) hC 1 rfl rfl (show decode prog_15_method_55_code 71 = .ok (.aload_n 0, 1) by decide +kernel) ?_
      refine dc_dup (pc := 72) hC (show decode prog_15_method_55_code 72 = .ok (.dup, 1) by decide +kernel) rfl ?_
      refine md_g42 (pc := 73) hC (show decode prog_15_method_55_code 73 = .ok (.getfield 539, 3) by decide +kernel) ?_
      refine dc_iconst (pc := 76) (v := 1) hC (show decode prog_15_method_55_code 76 = .ok (.iconst 1, 1) by decide +kernel) (by decide +kernel) ?_
      refine dc_iadd (pc := 77) hC (show decode prog_15_method_55_code 77 = .ok (.iadd, 1) by decide +kernel) ?_
      refine md_p42 (pc := 78) hC (show decode prog_15_method_55_code 78 = .ok (.putfield 539, 3) by decide +kernel) ?_
      refine dc_letS h ?_
      intro S42 h
      refine dc_aloadn (pc := 81) (j := 0) (i := 0) hC 1 rfl rfl (show decode prog_15_method_55_code 81 = .ok (.aload_n 0, 1) by decide +kernel) ?_
      refine md_g51 (pc := 82) hC (show decode prog_15_method_55_code 82 = .ok (.getfield 66, 3) by decide +kernel) ?_
      refine dc_iload (pc := 85) (i := 4) hC 4 rfl (show decode prog_15_method_55_code 85 = .ok (.iload 4, 2) by decide +kernel) ?_
      refine dc_aloadn (pc := 87) (j := 0) (i := 0) hC 1 rfl rfl (show decode prog_15_method_55_code 87 = .ok (.aload_n 0, 1) by decide +kernel) ?_
      refine md_g30 (pc := 88) hC (show decode prog_15_method_55_code 88 = .ok (.getfield 33, 3) by decide +kernel) ?_
      refine dc_iloadn (pc := 91) (j := 3) (i := 3) hC 3 rfl rfl (show decode prog_15_method_55_code 91 = .ok (.iload_n 3, 1) by decide +kernel) ?_
      refine md_l30 (pc := 92) hC (show decode prog_15_method_55_code 92 = .ok (.iaload, 1) by decide +kernel) h ?_
      intro j43 h
      refine md_s51 (pc := 93) hC (show decode prog_15_method_55_code 93 = .ok (.iastore, 1) by decide +kernel) h ?_
      intro j44 h
      refine dc_letS h ?_
      intro S45 h
      refine dc_aloadn (pc := 94) (j := 0) (i := 0) hC 1 rfl rfl (show decode prog_15_method_55_code 94 = .ok (.aload_n 0, 1) by decide +kernel) ?_
      refine md_g54 (pc := 95) hC (show decode prog_15_method_55_code 95 = .ok (.getfield 75, 3) by decide +kernel) ?_
      refine dc_iload (pc := 98) (i := 4) hC 4 rfl (show decode prog_15_method_55_code 98 = .ok (.iload 4, 2) by decide +kernel) ?_
      refine dc_aloadn (pc := 100) (j := 0) (i := 0) hC 1 rfl rfl (show decode prog_15_method_55_code 100 = .ok (.aload_n 0, 1) by decide +kernel) ?_
      refine md_g33 (pc := 101) hC (show decode prog_15_method_55_code 101 = .ok (.getfield 42, 3) by decide +kernel) ?_
      refine dc_iloadn (pc := 104) (j := 3) (i := 3) hC 3 rfl rfl (show decode prog_15_method_55_code 104 = .ok (.iload_n 3, 1) by decide +kernel) ?_
      refine md_l33 (pc := 105) hC (show decode prog_15_method_55_code 105 = .ok (.iaload, 1) by decide +kernel) h ?_
      intro j46 h
      refine md_s54 (pc := 106) hC (show decode prog_15_method_55_code 106 = .ok (.iastore, 1) by decide +kernel) h ?_
      intro j47 h
      refine dc_letS h ?_
      intro S48 h
      refine dc_aloadn (pc := 107) (j := 0) (i := 0) hC 1 rfl rfl (show decode prog_15_method_55_code 107 = .ok (.aload_n 0, 1) by decide +kernel) ?_
      refine md_g56 (pc := 108) hC (show decode prog_15_method_55_code 108 = .ok (.getfield 81, 3) by decide +kernel) ?_
      refine dc_iload (pc := 111) (i := 4) hC 4 rfl (show decode prog_15_method_55_code 111 = .ok (.iload 4, 2) by decide +kernel) ?_
      refine dc_aloadn (pc := 113) (j := 0) (i := 0) hC 1 rfl rfl (show decode prog_15_method_55_code 113 = .ok (.aload_n 0, 1) by decide +kernel) ?_
      refine md_g34 (pc := 114) hC (show decode prog_15_method_55_code 114 = .ok (.getfield 45, 3) by decide +kernel) ?_
      refine dc_iloadn (pc := 117) (j := 3) (i := 3) hC 3 rfl rfl (show decode prog_15_method_55_code 117 = .ok (.iload_n 3, 1) by decide +kernel) ?_
      refine md_l34 (pc := 118) hC (show decode prog_15_method_55_code 118 = .ok (.iaload, 1) by decide +kernel) h ?_
      intro j49 h
      refine md_s56 (pc := 119) hC (show decode prog_15_method_55_code 119 = .ok (.iastore, 1) by decide +kernel) h ?_
      intro j50 h
      refine dc_letS h ?_
      intro S51 h
      refine dc_aloadn (pc := 120) (j := 0) (i := 0) hC 1 rfl rfl (show decode prog_15_method_55_code 120 = .ok (.aload_n 0, 1) by decide +kernel) ?_
      refine md_g52 (pc := 121) hC (show decode prog_15_method_55_code 121 = .ok (.getfield 69, 3) by decide +kernel) ?_
      refine dc_iload (pc := 124) (i := 4) hC 4 rfl (show decode prog_15_method_55_code 124 = .ok (.iload 4, 2) by decide +kernel) ?_
      refine dc_aloadn (pc := 126) (j := 0) (i := 0) hC 1 rfl rfl (show decode prog_15_method_55_code 126 = .ok (.aload_n 0, 1) by decide +kernel) ?_
      refine md_g53 (pc := 127) hC (show decode prog_15_method_55_code 127 = .ok (.getfield 72, 3) by decide +kernel) ?_
      refine dc_iload (pc := 130) (i := 4) hC 4 rfl (show decode prog_15_method_55_code 130 = .ok (.iload 4, 2) by decide +kernel) ?_
      refine dc_iconst (pc := 132) (v := (-1)) hC (show decode prog_15_method_55_code 132 = .ok (.iconst (-1), 1) by decide +kernel) (by decide +kernel) ?_
      refine dc_dup_x2 (pc := 133) hC (show decode prog_15_method_55_code 133 = .ok (.dup_x2, 1) by decide +kernel) rfl rfl rfl ?_
      refine md_s53 (pc := 134) hC (show decode prog_15_method_55_code 134 = .ok (.iastore, 1) by decide +kernel) h ?_
      intro j52 h
      refine dc_letS h ?_
      intro S53 h
      refine md_s52 (pc := 135) hC (show decode prog_15_method_55_code 135 = .ok (.iastore, 1) by decide +kernel) h ?_
      intro j54 h
      refine dc_letS h ?_
      intro S55 h
      refine dc_aloadn (pc := 136) (j := 0) (i := 0) hC 1 rfl rfl (show decode prog_15_method_55_code 136 = .ok (.aload_n 0, 1) by decide +kernel) ?_
      refine md_g58 (pc := 137) hC (show decode prog_15_method_55_code 137 = .ok (.getfield 87, 3) by decide +kernel) ?_
      refine dc_iload (pc := 140) (i := 4) hC 4 rfl (show decode prog_15_method_55_code 140 = .ok (.iload 4, 2) by decide +kernel) ?_
      refine dc_iload (pc := 142) (i := 5) hC 5 rfl (show decode prog_15_method_55_code 142 = .ok (.iload 5, 2) by decide +kernel) ?_
      refine md_s58 (pc := 144) hC (show decode prog_15_method_55_code 144 = .ok (.iastore, 1) by decide +kernel) h ?_
      intro j56 h
      refine dc_letS h ?_
      intro S57 h
      refine dc_aloadn (pc := 145) (j := 0) (i := 0) hC 1 rfl rfl (show decode prog_15_method_55_code 145 = .ok (.aload_n 0, 1) by decide +kernel) ?_
      refine md_g57 (pc := 146) hC (show decode prog_15_method_55_code 146 = .ok (.getfield 84, 3) by decide +kernel) ?_
      refine dc_iload (pc := 149) (i := 4) hC 4 rfl (show decode prog_15_method_55_code 149 = .ok (.iload 4, 2) by decide +kernel) ?_
      refine dc_iload (pc := 151) (i := 5) hC 5 rfl (show decode prog_15_method_55_code 151 = .ok (.iload 5, 2) by decide +kernel) ?_
      refine dc_iconst (pc := 153) (v := (-1)) hC (show decode prog_15_method_55_code 153 = .ok (.iconst (-1), 1) by decide +kernel) (by decide +kernel) ?_
      refine dc_icmp_ne (pc := 154) (tgt := 161) hC (show decode prog_15_method_55_code 154 = .ok (.if_icmp .ne 7, 3) by decide +kernel) (by decide +kernel) h ?_ ?_
      · intro h
        refine dc_iconst (pc := 157) (v := 1) hC (show decode prog_15_method_55_code 157 = .ok (.iconst 1, 1) by decide +kernel) (by decide +kernel) ?_
        refine dc_goto (pc := 158) (tgt := 202) hC (show decode prog_15_method_55_code 158 = .ok (.goto 44, 3) by decide +kernel) (by decide +kernel) ?_
        exact dc_sub [1, 2, 3, 4, 5, 0] rfl (lab_202 S57 x2 x3 x4 x5 y0 1 x4 h)
      · intro h
        refine dc_aloadn (pc := 161) (j := 0) (i := 0) hC 1 rfl rfl (show decode prog_15_method_55_code 161 = .ok (.aload_n 0, 1) by decide +kernel) ?_
        refine md_g57 (pc := 162) hC (show decode prog_15_method_55_code 162 = .ok (.getfield 84, 3) by decide +kernel) ?_
        refine dc_iload (pc := 165) (i := 5) hC 5 rfl (show decode prog_15_method_55_code 165 = .ok (.iload 5, 2) by decide +kernel) ?_
        refine md_l57 (pc := 167) hC (show decode prog_15_method_55_code 167 = .ok (.iaload, 1) by decide +kernel) h ?_
        intro j58 h
        refine dc_aloadn (pc := 168) (j := 0) (i := 0) hC 1 rfl rfl (show decode prog_15_method_55_code 168 = .ok (.aload_n 0, 1) by decide +kernel) ?_
        refine md_g51 (pc := 169) hC (show decode prog_15_method_55_code 169 = .ok (.getfield 66, 3) by decide +kernel) ?_
        refine dc_iload (pc := 172) (i := 5) hC 5 rfl (show decode prog_15_method_55_code 172 = .ok (.iload 5, 2) by decide +kernel) ?_
        refine md_l51 (pc := 174) hC (show decode prog_15_method_55_code 174 = .ok (.iaload, 1) by decide +kernel) h ?_
        intro j59 h
        refine dc_bipush (pc := 175) (v := 6) hC (show decode prog_15_method_55_code 175 = .ok (.bipush 6, 2) by decide +kernel) (by decide +kernel) ?_
        refine dc_icmp_eq (pc := 177) (tgt := 196) hC (show decode prog_15_method_55_code 177 = .ok (.if_icmp .eq 19, 3) by decide +kernel) (by decide +kernel) h ?_ ?_
        · intro h
          exact dc_sub [1, 2, 3, 4, 5, 0] rfl (lab_196 S57 x2 x3 x4 x5 y0 (S57.2.1 57 j58) x4 h)
        · intro h
          refine dc_aloadn (pc := 180) (j := 0) (i := 0) hC 1 rfl rfl (show decode prog_15_method_55_code 180 = .ok (.aload_n 0, 1) by decide +kernel) ?_
          refine md_g51 (pc := 181) hC (show decode prog_15_method_55_code 181 = .ok (.getfield 66, 3) by decide +kernel) ?_
          refine dc_iload (pc := 184) (i := 5) hC 5 rfl (show decode prog_15_method_55_code 184 = .ok (.iload 5, 2) by decide +kernel) ?_
          refine md_l51 (pc := 186) hC (show decode prog_15_method_55_code 186 = .ok (.iaload, 1) by decide +kernel) h ?_
          intro j60 h
          refine dc_iconst (pc := 187) (v := 5) hC (show decode prog_15_method_55_code 187 = .ok (.iconst 5, 1) by decide +kernel) (by decide +kernel) ?_
          refine dc_icmp_ne (pc := 188) (tgt := 200) hC (show decode prog_15_method_55_code 188 = .ok (.if_icmp .ne 12, 3) by decide +kernel) (by decide +kernel) h ?_ ?_
          · intro h
            refine dc_iload (pc := 191) (i := 6) hC 0 rfl (show decode prog_15_method_55_code 191 = .ok (.iload 6, 2) by decide +kernel) ?_
            refine dc_if_eq (pc := 193) (tgt := 200) hC (show decode prog_15_method_55_code 193 = .ok (.ifCond .eq 7, 3) by decide +kernel) (by decide +kernel) h ?_ ?_
            · intro h
              exact dc_sub [1, 2, 3, 4, 5, 0] rfl (lab_200 S57 x2 x3 x4 x5 y0 (S57.2.1 57 j58) x4 h)
            · intro h
              exact dc_sub [1, 2, 3, 4, 5, 0] rfl (lab_196 S57 x2 x3 x4 x5 y0 (S57.2.1 57 j58) x4 h)
          · intro h
            exact dc_sub [1, 2, 3, 4, 5, 0] rfl (lab_200 S57 x2 x3 x4 x5 y0 (S57.2.1 57 j58) x4 h)
    have lab_68 : ∀ (S : md_S) (x2 : Int32) (x3 : Int32) (x4 : Int32) (x5 : Int32), dc_wp (mm_lay_I_L68 S x2 x3 x4 x5) F_16 → dc_G X l { frames := 2, cells := 0, slots := 0, locals := 49 } D 7 0 0 (md_W o a ca S) 68 [(0, .ref o), (2, .int x2), (3, .int x3), (4, .int x4), (5, .int x5)] [] := by
      intro S x2 x3 x4 x5 h
      delta mm_lay_I_L68 at h
      refine dc_iconst (pc := 68) (v := 0) hC (show decode prog_15_method_55_code 68 = .ok (.iconst 0, 1) by decide +kernel) (by decide +kernel) ?_
      exact lab_69 S x2 x3 x4 x5 0 h
    rintro ⟨S, x2⟩ h
    have h : dc_wp (mm_lay_I_b16 S x2) F_16 := h
    delta mm_lay_I_b16 at h
    refine dc_iloadn (pc := 16) (j := 2) (i := 2) hC 1 rfl rfl (show decode prog_15_method_55_code 16 = .ok (.iload_n 2, 1) by decide +kernel) ?_
    refine dc_if_le (pc := 17) (tgt := 460) hC (show decode prog_15_method_55_code 17 = .ok (.ifCond .le 443, 3) by decide +kernel) (by decide +kernel) h ?_ ?_
    · intro h
      refine dc_iinc (pc := 20) (i := 2) (v := (x2 + (-1))) (lv' := [(2, .int (x2 + (-1))), (0, .ref o)]) hC 1 rfl (congrArg (fun z => x2 + z) (show Int32.ofInt (-1) = (-1 : Int32) by decide +kernel)) (Nat.le_of_ble_eq_true rfl) rfl (show decode prog_15_method_55_code 20 = .ok (.iinc 2 (-1), 3) by decide +kernel) ?_
      refine dc_aloadn (pc := 23) (j := 0) (i := 0) hC 1 rfl rfl (show decode prog_15_method_55_code 23 = .ok (.aload_n 0, 1) by decide +kernel) ?_
      refine md_g39 (pc := 24) hC (show decode prog_15_method_55_code 24 = .ok (.getfield 60, 3) by decide +kernel) ?_
      refine dc_iloadn (pc := 27) (j := 2) (i := 2) hC 0 rfl rfl (show decode prog_15_method_55_code 27 = .ok (.iload_n 2, 1) by decide +kernel) ?_
      refine md_l39 (pc := 28) hC (show decode prog_15_method_55_code 28 = .ok (.iaload, 1) by decide +kernel) h ?_
      intro j61 h
      refine dc_letI h ?_
      intro v62 h
      refine dc_istoren (pc := 29) (j := 3) (i := 3) (lv' := [(3, .int v62), (2, .int (x2 + (-1))), (0, .ref o)]) hC rfl (Nat.le_of_ble_eq_true rfl) rfl (show decode prog_15_method_55_code 29 = .ok (.istore_n 3, 1) by decide +kernel) ?_
      refine dc_aloadn (pc := 30) (j := 0) (i := 0) hC 2 rfl rfl (show decode prog_15_method_55_code 30 = .ok (.aload_n 0, 1) by decide +kernel) ?_
      refine md_g42 (pc := 31) hC (show decode prog_15_method_55_code 31 = .ok (.getfield 539, 3) by decide +kernel) ?_
      refine dc_letI h ?_
      intro v63 h
      refine dc_istore (pc := 34) (i := 4) (lv' := [(4, .int v63), (3, .int v62), (2, .int (x2 + (-1))), (0, .ref o)]) hC (Nat.le_of_ble_eq_true rfl) rfl (show decode prog_15_method_55_code 34 = .ok (.istore 4, 2) by decide +kernel) ?_
      refine dc_aloadn (pc := 36) (j := 0) (i := 0) hC 3 rfl rfl (show decode prog_15_method_55_code 36 = .ok (.aload_n 0, 1) by decide +kernel) ?_
      refine md_g40 (pc := 37) hC (show decode prog_15_method_55_code 37 = .ok (.getfield 63, 3) by decide +kernel) ?_
      refine dc_iloadn (pc := 40) (j := 2) (i := 2) hC 2 rfl rfl (show decode prog_15_method_55_code 40 = .ok (.iload_n 2, 1) by decide +kernel) ?_
      refine md_l40 (pc := 41) hC (show decode prog_15_method_55_code 41 = .ok (.iaload, 1) by decide +kernel) h ?_
      intro j64 h
      refine dc_iconst (pc := 42) (v := 1) hC (show decode prog_15_method_55_code 42 = .ok (.iconst 1, 1) by decide +kernel) (by decide +kernel) ?_
      refine dc_ishr (pc := 43) hC (show decode prog_15_method_55_code 43 = .ok (.ishr, 1) by decide +kernel) ?_
      refine dc_letI h ?_
      intro v65 h
      refine dc_istore (pc := 44) (i := 5) (lv' := [(5, .int v65), (4, .int v63), (3, .int v62), (2, .int (x2 + (-1))), (0, .ref o)]) hC (Nat.le_of_ble_eq_true rfl) rfl (show decode prog_15_method_55_code 44 = .ok (.istore 5, 2) by decide +kernel) ?_
      refine dc_aloadn (pc := 46) (j := 0) (i := 0) hC 4 rfl rfl (show decode prog_15_method_55_code 46 = .ok (.aload_n 0, 1) by decide +kernel) ?_
      refine md_g40 (pc := 47) hC (show decode prog_15_method_55_code 47 = .ok (.getfield 63, 3) by decide +kernel) ?_
      refine dc_iloadn (pc := 50) (j := 2) (i := 2) hC 3 rfl rfl (show decode prog_15_method_55_code 50 = .ok (.iload_n 2, 1) by decide +kernel) ?_
      refine md_l40 (pc := 51) hC (show decode prog_15_method_55_code 51 = .ok (.iaload, 1) by decide +kernel) h ?_
      intro j66 h
      refine dc_iconst (pc := 52) (v := 1) hC (show decode prog_15_method_55_code 52 = .ok (.iconst 1, 1) by decide +kernel) (by decide +kernel) ?_
      refine dc_iand (pc := 53) hC (show decode prog_15_method_55_code 53 = .ok (.iand, 1) by decide +kernel) ?_
      refine dc_iconst (pc := 54) (v := 1) hC (show decode prog_15_method_55_code 54 = .ok (.iconst 1, 1) by decide +kernel) (by decide +kernel) ?_
      refine dc_icmp_ne (pc := 55) (tgt := 68) hC (show decode prog_15_method_55_code 55 = .ok (.if_icmp .ne 13, 3) by decide +kernel) (by decide +kernel) h ?_ ?_
      · intro h
        refine dc_iload (pc := 58) (i := 5) hC 0 rfl (show decode prog_15_method_55_code 58 = .ok (.iload 5, 2) by decide +kernel) ?_
        refine dc_iconst (pc := 60) (v := (-1)) hC (show decode prog_15_method_55_code 60 = .ok (.iconst (-1), 1) by decide +kernel) (by decide +kernel) ?_
        refine dc_icmp_eq (pc := 61) (tgt := 68) hC (show decode prog_15_method_55_code 61 = .ok (.if_icmp .eq 7, 3) by decide +kernel) (by decide +kernel) h ?_ ?_
        · intro h
          exact dc_sub [4, 3, 2, 1, 0] rfl (lab_68 S (x2 + (-1)) v62 v63 v65 h)
        · intro h
          refine dc_iconst (pc := 64) (v := 1) hC (show decode prog_15_method_55_code 64 = .ok (.iconst 1, 1) by decide +kernel) (by decide +kernel) ?_
          refine dc_goto (pc := 65) (tgt := 69) hC (show decode prog_15_method_55_code 65 = .ok (.goto 4, 3) by decide +kernel) (by decide +kernel) ?_
          exact dc_sub [4, 3, 2, 1, 0] rfl (lab_69 S (x2 + (-1)) v62 v63 v65 1 h)
      · intro h
        exact dc_sub [4, 3, 2, 1, 0] rfl (lab_68 S (x2 + (-1)) v62 v63 v65 h)
    · intro h
      have h : dc_wp (mm_lay_I_L460 S) F := hr_16 S (dc_some h)
      exact dc_sub [0] rfl (lab_460 S h)
  have lab_16 : ∀ (S : md_S) (x2 : Int32), dc_wp (mm_lay_I_L16 S x2) F → dc_G X l { frames := 2, cells := 0, slots := 0, locals := 49 } D 7 0 0 (md_W o a ca S) 16 [(0, .ref o), (2, .int x2)] [] := fun S x2 h => loop_16  (S, x2) (dc_bind h)
  show dc_G X l { frames := 2, cells := 0, slots := 0, locals := 49 } D 7 0 0 (md_W o a ca S) 0 [(0, .ref o), (1, .int p1)] []
  delta mm_lay_I at h
  refine dc_iconst (pc := 0) (v := 1) hC (show decode prog_15_method_55_code 0 = .ok (.iconst 1, 1) by decide +kernel) (by decide +kernel) ?_
  refine dc_istoren (pc := 1) (j := 2) (i := 2) (lv' := [(2, .int 1), (0, .ref o), (1, .int p1)]) hC rfl (Nat.le_of_ble_eq_true rfl) rfl (show decode prog_15_method_55_code 1 = .ok (.istore_n 2, 1) by decide +kernel) ?_
  refine dc_aloadn (pc := 2) (j := 0) (i := 0) hC 1 rfl rfl (show decode prog_15_method_55_code 2 = .ok (.aload_n 0, 1) by decide +kernel) ?_
  refine md_g39 (pc := 3) hC (show decode prog_15_method_55_code 3 = .ok (.getfield 60, 3) by decide +kernel) ?_
  refine dc_iconst (pc := 6) (v := 0) hC (show decode prog_15_method_55_code 6 = .ok (.iconst 0, 1) by decide +kernel) (by decide +kernel) ?_
  refine dc_iloadn (pc := 7) (j := 1) (i := 1) hC 2 rfl rfl (show decode prog_15_method_55_code 7 = .ok (.iload_n 1, 1) by decide +kernel) ?_
  refine md_s39 (pc := 8) hC (show decode prog_15_method_55_code 8 = .ok (.iastore, 1) by decide +kernel) h ?_
  intro j67 h
  refine dc_letS h ?_
  intro S68 h
  refine dc_aloadn (pc := 9) (j := 0) (i := 0) hC 1 rfl rfl (show decode prog_15_method_55_code 9 = .ok (.aload_n 0, 1) by decide +kernel) ?_
  refine md_g40 (pc := 10) hC (show decode prog_15_method_55_code 10 = .ok (.getfield 63, 3) by decide +kernel) ?_
  refine dc_iconst (pc := 13) (v := 0) hC (show decode prog_15_method_55_code 13 = .ok (.iconst 0, 1) by decide +kernel) (by decide +kernel) ?_
  refine dc_iconst (pc := 14) (v := (-1)) hC (show decode prog_15_method_55_code 14 = .ok (.iconst (-1), 1) by decide +kernel) (by decide +kernel) ?_
  refine md_s40 (pc := 15) hC (show decode prog_15_method_55_code 15 = .ok (.iastore, 1) by decide +kernel) h ?_
  intro j69 h
  refine dc_letS h ?_
  intro S70 h
  exact dc_sub [1, 0] rfl (lab_16 S70 1 h)
noncomputable def mm_settle_L190 (S : md_S) : Option (md_S) :=
  some S
noncomputable def mm_settle_L184 (S : md_S) (x1 : Int32) : Option ((md_S × Int32) ⊕ ((md_S))) :=
  some (.inl (S, (x1 + 1)))
noncomputable def mm_settle_L143 (S : md_S) (x1 : Int32) : Option ((md_S × Int32) ⊕ ((md_S))) :=
  (dc_ix x1 1200).bind fun j1 => if (S.2.1 51 j1) = 10 then ((dc_ix x1 1200).bind fun j2 => dc_let (md_a S 61 j2 (S.1 50)) fun S3 => (dc_ix x1 1200).bind fun j4 => dc_let (md_i S3 50 ((S3.1 50) + ((S3.2.1 57 j4) + 1))) fun S5 => mm_settle_L184 S5 x1) else (mm_settle_L184 S x1)
noncomputable def mm_settle_b117 (S : md_S) (x1 : Int32) : Option ((md_S × Int32) ⊕ ((md_S))) :=
  if x1 < (S.1 42) then ((dc_ix x1 1200).bind fun j6 => if (S.2.1 51 j6) = 8 then ((dc_ix x1 1200).bind fun j7 => dc_let (md_a S 54 j7 (-1)) fun S8 => mm_settle_L143 S8 x1) else (mm_settle_L143 S x1)) else (some (.inr S))
noncomputable def mm_settle_s117 (q : md_S × Int32) : Option ((md_S × Int32) ⊕ ((md_S))) :=
  mm_settle_b117 q.1 q.2
noncomputable def mm_settle_L117 (S : md_S) (x1 : Int32) : Option (md_S) :=
  (dc_it (mm_settle_s117) (S, x1)).bind (fun (z : md_S) => mm_settle_L190 z)
noncomputable def mm_settle_L115 (S : md_S) : Option (md_S) :=
  mm_settle_L117 S 0
noncomputable def mm_settle_L109 (S : md_S) (x1 : Int32) : Option ((md_S × Int32) ⊕ ((md_S))) :=
  some (.inl (S, (x1 + 1)))
noncomputable def mm_settle_b69 (S : md_S) (x1 : Int32) (x2 : Int32) : Option ((md_S × Int32) ⊕ ((md_S))) :=
  (dc_ix x1 16400).bind fun j9 => if x2 < (S.2.1 22 j9) then ((dc_ix x1 16400).bind fun j10 => (dc_ix ((S.2.1 21 j10) + x2) 32768).bind fun j11 => (dc_ix ((31 * x1) + x2) 12400).bind fun j12 => dc_let (md_a S 68 j12 (vp_nar .byte (S.2.1 1 j11))) fun S13 => some (.inl (S13, (x2 + 1)))) else (some (.inr S))
noncomputable def mm_settle_s69 (x1 : Int32) (q : md_S × Int32) : Option ((md_S × Int32) ⊕ ((md_S))) :=
  mm_settle_b69 q.1 x1 q.2
noncomputable def mm_settle_L69 (S : md_S) (x1 : Int32) (x2 : Int32) : Option ((md_S × Int32) ⊕ ((md_S))) :=
  (dc_it (mm_settle_s69 x1) (S, x2)).bind (fun (z : md_S) => mm_settle_L109 z x1)
noncomputable def mm_settle_b47 (S : md_S) (x1 : Int32) : Option ((md_S × Int32) ⊕ ((md_S))) :=
  if x1 < (S.1 44) then ((dc_ix x1 16400).bind fun j14 => (dc_ix x1 400).bind fun j15 => dc_let (md_a S 69 j15 (S.2.1 22 j14)) fun S16 => mm_settle_L69 S16 x1 0) else (some (.inr S))
noncomputable def mm_settle_s47 (q : md_S × Int32) : Option ((md_S × Int32) ⊕ ((md_S))) :=
  mm_settle_b47 q.1 q.2
noncomputable def mm_settle_L47 (S : md_S) (x1 : Int32) : Option (md_S) :=
  (dc_it (mm_settle_s47) (S, x1)).bind (fun (z : md_S) => mm_settle_L115 z)
noncomputable def mm_settle (S : md_S) : Option (md_S) :=
  dc_let (md_i S 41 1) fun S17 => dc_let (md_i S17 82 1) fun S18 => dc_let (md_i S18 77 1) fun S19 => dc_let (md_i S19 44 (S19.1 15)) fun S20 => dc_let (md_i S20 45 (S20.1 16)) fun S21 => dc_let (md_i S21 46 (S21.1 17)) fun S22 => dc_let (md_i S22 50 62) fun S23 => mm_settle_L47 S23 0
set_option maxHeartbeats 4000000 in
set_option maxRecDepth 100000 in
/-- settle()V -/
theorem mm_settle_ok (l : Launch) (D : va_G) (ad : Nat → Nat) (de : Nat) (o : Nat) (a : Nat → Nat) (ca : Nat → ClassId) (S : md_S) (F : md_S → Prop) (h : dc_wp (mm_settle S) F) : dc_Cv l ⟨"SignalEngineModel", "settle", "()V"⟩ prog_15_method_59_code 3 none 0 0 D (md_T ca) ad de [.ref o] (md_W o a ca S) (fun w => ∃ q, F q ∧ w = md_W o a ca q) 0 0 := by
  refine dc_enterv (by decide +kernel) (Nat.le_of_ble_eq_true rfl) ?_
  intro X hC hR
  have lab_190 : ∀ (S : md_S), dc_wp (mm_settle_L190 S) F → dc_G X l { frames := 0, cells := 0, slots := 0, locals := 0 } D 3 0 0 (md_W o a ca S) 190 [(0, .ref o)] [] := by
    intro S  h
    delta mm_settle_L190 at h
    exact dc_vret (pc := 190) hC hR ⟨_, dc_some h, rfl⟩ (show decode prog_15_method_59_code 190 = .ok (.return_, 1) by decide +kernel)
  have loop_117 : ∀ (q : md_S × Int32), dc_wp (dc_it (mm_settle_s117) q) (fun z => dc_wp ((fun (z : md_S) => mm_settle_L190 z) z) F) → dc_G X l { frames := 0, cells := 0, slots := 0, locals := 0 } D 3 0 0 (md_W o a ca q.1) 117 [(0, .ref o), (1, .int q.2)] [] := by
    refine dc_loopF ?_
    intro F_117 hl_117 hr_117
    have lab_184 : ∀ (S : md_S) (x1 : Int32), dc_wp (mm_settle_L184 S x1) F_117 → dc_G X l { frames := 0, cells := 0, slots := 0, locals := 0 } D 3 0 0 (md_W o a ca S) 184 [(0, .ref o), (1, .int x1)] [] := by
      intro S x1 h
      delta mm_settle_L184 at h
      refine dc_iinc (pc := 184) (i := 1) (v := (x1 + 1)) (lv' := [(1, .int (x1 + 1)), (0, .ref o)]) hC 1 rfl rfl (Nat.le_of_ble_eq_true rfl) rfl (show decode prog_15_method_59_code 184 = .ok (.iinc 1 1, 3) by decide +kernel) ?_
      refine dc_goto (pc := 187) (tgt := 117) hC (show decode prog_15_method_59_code 187 = .ok (.goto (-70), 3) by decide +kernel) (by decide +kernel) ?_
      exact dc_sub [1, 0] rfl (hl_117 (S, (x1 + 1)) (dc_some h))
    have lab_143 : ∀ (S : md_S) (x1 : Int32), dc_wp (mm_settle_L143 S x1) F_117 → dc_G X l { frames := 0, cells := 0, slots := 0, locals := 0 } D 3 0 0 (md_W o a ca S) 143 [(0, .ref o), (1, .int x1)] [] := by
      intro S x1 h
      delta mm_settle_L143 at h
      refine dc_aloadn (pc := 143) (j := 0) (i := 0) hC 0 rfl rfl (show decode prog_15_method_59_code 143 = .ok (.aload_n 0, 1) by decide +kernel) ?_
      refine md_g51 (pc := 144) hC (show decode prog_15_method_59_code 144 = .ok (.getfield 66, 3) by decide +kernel) ?_
      refine dc_iloadn (pc := 147) (j := 1) (i := 1) hC 1 rfl rfl (show decode prog_15_method_59_code 147 = .ok (.iload_n 1, 1) by decide +kernel) ?_
      refine md_l51 (pc := 148) hC (show decode prog_15_method_59_code 148 = .ok (.iaload, 1) by decide +kernel) h ?_
      intro j1 h
      refine dc_bipush (pc := 149) (v := 10) hC (show decode prog_15_method_59_code 149 = .ok (.bipush 10, 2) by decide +kernel) (by decide +kernel) ?_
      refine dc_icmp_eq (pc := 151) (tgt := 157) hC (show decode prog_15_method_59_code 151 = .ok (.if_icmp .eq 6, 3) by decide +kernel) (by decide +kernel) h ?_ ?_
      · intro h
        refine dc_aloadn (pc := 157) (j := 0) (i := 0) hC 0 rfl rfl (show decode prog_15_method_59_code 157 = .ok (.aload_n 0, 1) by decide +kernel) ?_
        refine md_g61 (pc := 158) hC (show decode prog_15_method_59_code 158 = .ok (.getfield 96, 3) by decide +kernel) ?_
        refine dc_iloadn (pc := 161) (j := 1) (i := 1) hC 1 rfl rfl (show decode prog_15_method_59_code 161 = .ok (.iload_n 1, 1) by decide +kernel) ?_
        refine dc_aloadn (pc := 162) (j := 0) (i := 0) hC 0 rfl rfl (show decode prog_15_method_59_code 162 = .ok (.aload_n 0, 1) by decide +kernel) ?_
        refine md_g50 (pc := 163) hC (show decode prog_15_method_59_code 163 = .ok (.getfield 561, 3) by decide +kernel) ?_
        refine md_s61 (pc := 166) hC (show decode prog_15_method_59_code 166 = .ok (.iastore, 1) by decide +kernel) h ?_
        intro j2 h
        refine dc_letS h ?_
        intro S3 h
        refine dc_aloadn (pc := 167) (j := 0) (i := 0) hC 0 rfl rfl (show decode prog_15_method_59_code 167 = .ok (.aload_n 0, 1) by decide +kernel) ?_
        refine dc_dup (pc := 168) hC (show decode prog_15_method_59_code 168 = .ok (.dup, 1) by decide +kernel) rfl ?_
        refine md_g50 (pc := 169) hC (show decode prog_15_method_59_code 169 = .ok (.getfield 561, 3) by decide +kernel) ?_
        refine dc_aloadn (pc := 172) (j := 0) (i := 0) hC 0 rfl rfl (show decode prog_15_method_59_code 172 = .ok (.aload_n 0, 1) by decide +kernel) ?_
        refine md_g57 (pc := 173) hC (show decode prog_15_method_59_code 173 = .ok (.getfield 84, 3) by decide +kernel) ?_
        refine dc_iloadn (pc := 176) (j := 1) (i := 1) hC 1 rfl rfl (show decode prog_15_method_59_code 176 = .ok (.iload_n 1, 1) by decide +kernel) ?_
        refine md_l57 (pc := 177) hC (show decode prog_15_method_59_code 177 = .ok (.iaload, 1) by decide +kernel) h ?_
        intro j4 h
        refine dc_iconst (pc := 178) (v := 1) hC (show decode prog_15_method_59_code 178 = .ok (.iconst 1, 1) by decide +kernel) (by decide +kernel) ?_
        refine dc_iadd (pc := 179) hC (show decode prog_15_method_59_code 179 = .ok (.iadd, 1) by decide +kernel) ?_
        refine dc_iadd (pc := 180) hC (show decode prog_15_method_59_code 180 = .ok (.iadd, 1) by decide +kernel) ?_
        refine md_p50 (pc := 181) hC (show decode prog_15_method_59_code 181 = .ok (.putfield 561, 3) by decide +kernel) ?_
        refine dc_letS h ?_
        intro S5 h
        exact lab_184 S5 x1 h
      · intro h
        refine dc_goto (pc := 154) (tgt := 184) hC (show decode prog_15_method_59_code 154 = .ok (.goto 30, 3) by decide +kernel) (by decide +kernel) ?_
        exact lab_184 S x1 h
    rintro ⟨S, x1⟩ h
    have h : dc_wp (mm_settle_b117 S x1) F_117 := h
    delta mm_settle_b117 at h
    refine dc_iloadn (pc := 117) (j := 1) (i := 1) hC 1 rfl rfl (show decode prog_15_method_59_code 117 = .ok (.iload_n 1, 1) by decide +kernel) ?_
    refine dc_aloadn (pc := 118) (j := 0) (i := 0) hC 0 rfl rfl (show decode prog_15_method_59_code 118 = .ok (.aload_n 0, 1) by decide +kernel) ?_
    refine md_g42 (pc := 119) hC (show decode prog_15_method_59_code 119 = .ok (.getfield 539, 3) by decide +kernel) ?_
    refine dc_icmp_ge (pc := 122) (tgt := 190) hC (show decode prog_15_method_59_code 122 = .ok (.if_icmp .ge 68, 3) by decide +kernel) (by decide +kernel) h ?_ ?_
    · intro h
      refine dc_aloadn (pc := 125) (j := 0) (i := 0) hC 0 rfl rfl (show decode prog_15_method_59_code 125 = .ok (.aload_n 0, 1) by decide +kernel) ?_
      refine md_g51 (pc := 126) hC (show decode prog_15_method_59_code 126 = .ok (.getfield 66, 3) by decide +kernel) ?_
      refine dc_iloadn (pc := 129) (j := 1) (i := 1) hC 1 rfl rfl (show decode prog_15_method_59_code 129 = .ok (.iload_n 1, 1) by decide +kernel) ?_
      refine md_l51 (pc := 130) hC (show decode prog_15_method_59_code 130 = .ok (.iaload, 1) by decide +kernel) h ?_
      intro j6 h
      refine dc_bipush (pc := 131) (v := 8) hC (show decode prog_15_method_59_code 131 = .ok (.bipush 8, 2) by decide +kernel) (by decide +kernel) ?_
      refine dc_icmp_ne (pc := 133) (tgt := 143) hC (show decode prog_15_method_59_code 133 = .ok (.if_icmp .ne 10, 3) by decide +kernel) (by decide +kernel) h ?_ ?_
      · intro h
        refine dc_aloadn (pc := 136) (j := 0) (i := 0) hC 0 rfl rfl (show decode prog_15_method_59_code 136 = .ok (.aload_n 0, 1) by decide +kernel) ?_
        refine md_g54 (pc := 137) hC (show decode prog_15_method_59_code 137 = .ok (.getfield 75, 3) by decide +kernel) ?_
        refine dc_iloadn (pc := 140) (j := 1) (i := 1) hC 1 rfl rfl (show decode prog_15_method_59_code 140 = .ok (.iload_n 1, 1) by decide +kernel) ?_
        refine dc_iconst (pc := 141) (v := (-1)) hC (show decode prog_15_method_59_code 141 = .ok (.iconst (-1), 1) by decide +kernel) (by decide +kernel) ?_
        refine md_s54 (pc := 142) hC (show decode prog_15_method_59_code 142 = .ok (.iastore, 1) by decide +kernel) h ?_
        intro j7 h
        refine dc_letS h ?_
        intro S8 h
        exact lab_143 S8 x1 h
      · intro h
        exact lab_143 S x1 h
    · intro h
      have h : dc_wp (mm_settle_L190 S) F := hr_117 S (dc_some h)
      exact dc_sub [0] rfl (lab_190 S h)
  have lab_117 : ∀ (S : md_S) (x1 : Int32), dc_wp (mm_settle_L117 S x1) F → dc_G X l { frames := 0, cells := 0, slots := 0, locals := 0 } D 3 0 0 (md_W o a ca S) 117 [(0, .ref o), (1, .int x1)] [] := fun S x1 h => loop_117  (S, x1) (dc_bind h)
  have lab_115 : ∀ (S : md_S), dc_wp (mm_settle_L115 S) F → dc_G X l { frames := 0, cells := 0, slots := 0, locals := 0 } D 3 0 0 (md_W o a ca S) 115 [(0, .ref o)] [] := by
    intro S  h
    delta mm_settle_L115 at h
    refine dc_iconst (pc := 115) (v := 0) hC (show decode prog_15_method_59_code 115 = .ok (.iconst 0, 1) by decide +kernel) (by decide +kernel) ?_
    refine dc_istoren (pc := 116) (j := 1) (i := 1) (lv' := [(1, .int 0), (0, .ref o)]) hC rfl (Nat.le_of_ble_eq_true rfl) rfl (show decode prog_15_method_59_code 116 = .ok (.istore_n 1, 1) by decide +kernel) ?_
    exact dc_sub [1, 0] rfl (lab_117 S 0 h)
  have loop_47 : ∀ (q : md_S × Int32), dc_wp (dc_it (mm_settle_s47) q) (fun z => dc_wp ((fun (z : md_S) => mm_settle_L115 z) z) F) → dc_G X l { frames := 0, cells := 0, slots := 0, locals := 0 } D 3 0 0 (md_W o a ca q.1) 47 [(0, .ref o), (1, .int q.2)] [] := by
    refine dc_loopF ?_
    intro F_47 hl_47 hr_47
    have lab_109 : ∀ (S : md_S) (x1 : Int32), dc_wp (mm_settle_L109 S x1) F_47 → dc_G X l { frames := 0, cells := 0, slots := 0, locals := 0 } D 3 0 0 (md_W o a ca S) 109 [(0, .ref o), (1, .int x1)] [] := by
      intro S x1 h
      delta mm_settle_L109 at h
      refine dc_iinc (pc := 109) (i := 1) (v := (x1 + 1)) (lv' := [(1, .int (x1 + 1)), (0, .ref o)]) hC 1 rfl rfl (Nat.le_of_ble_eq_true rfl) rfl (show decode prog_15_method_59_code 109 = .ok (.iinc 1 1, 3) by decide +kernel) ?_
      refine dc_goto (pc := 112) (tgt := 47) hC (show decode prog_15_method_59_code 112 = .ok (.goto (-65), 3) by decide +kernel) (by decide +kernel) ?_
      exact dc_sub [1, 0] rfl (hl_47 (S, (x1 + 1)) (dc_some h))
    have loop_69 : ∀ (x1 : Int32) (q : md_S × Int32), dc_wp (dc_it (mm_settle_s69 x1) q) (fun z => dc_wp ((fun (z : md_S) => mm_settle_L109 z x1) z) F_47) → dc_G X l { frames := 0, cells := 0, slots := 0, locals := 0 } D 3 0 0 (md_W o a ca q.1) 69 [(0, .ref o), (1, .int x1), (2, .int q.2)] [] := by
      intro x1
      refine dc_loopF ?_
      intro F_69 hl_69 hr_69
      rintro ⟨S, x2⟩ h
      have h : dc_wp (mm_settle_b69 S x1 x2) F_69 := h
      delta mm_settle_b69 at h
      refine dc_iloadn (pc := 69) (j := 2) (i := 2) hC 2 rfl rfl (show decode prog_15_method_59_code 69 = .ok (.iload_n 2, 1) by decide +kernel) ?_
      refine dc_aloadn (pc := 70) (j := 0) (i := 0) hC 0 rfl rfl (show decode prog_15_method_59_code 70 = .ok (.aload_n 0, 1) by decide +kernel) ?_
      refine md_g22 (pc := 71) hC (show decode prog_15_method_59_code 71 = .ok (.getfield 18, 3) by decide +kernel) ?_
      refine dc_iloadn (pc := 74) (j := 1) (i := 1) hC 1 rfl rfl (show decode prog_15_method_59_code 74 = .ok (.iload_n 1, 1) by decide +kernel) ?_
      refine md_l22 (pc := 75) hC (show decode prog_15_method_59_code 75 = .ok (.iaload, 1) by decide +kernel) h ?_
      intro j9 h
      refine dc_icmp_ge (pc := 76) (tgt := 109) hC (show decode prog_15_method_59_code 76 = .ok (.if_icmp .ge 33, 3) by decide +kernel) (by decide +kernel) h ?_ ?_
      · intro h
        refine dc_aloadn (pc := 79) (j := 0) (i := 0) hC 0 rfl rfl (show decode prog_15_method_59_code 79 = .ok (.aload_n 0, 1) by decide +kernel) ?_
        refine md_g68 (pc := 80) hC (show decode prog_15_method_59_code 80 = .ok (.getfield 117, 3) by decide +kernel) ?_
        refine dc_bipush (pc := 83) (v := 31) hC (show decode prog_15_method_59_code 83 = .ok (.bipush 31, 2) by decide +kernel) (by decide +kernel) ?_
        refine dc_iloadn (pc := 85) (j := 1) (i := 1) hC 1 rfl rfl (show decode prog_15_method_59_code 85 = .ok (.iload_n 1, 1) by decide +kernel) ?_
        refine dc_imul (pc := 86) hC (show decode prog_15_method_59_code 86 = .ok (.imul, 1) by decide +kernel) ?_
        refine dc_iloadn (pc := 87) (j := 2) (i := 2) hC 2 rfl rfl (show decode prog_15_method_59_code 87 = .ok (.iload_n 2, 1) by decide +kernel) ?_
        refine dc_iadd (pc := 88) hC (show decode prog_15_method_59_code 88 = .ok (.iadd, 1) by decide +kernel) ?_
        refine dc_aloadn (pc := 89) (j := 0) (i := 0) hC 0 rfl rfl (show decode prog_15_method_59_code 89 = .ok (.aload_n 0, 1) by decide +kernel) ?_
        refine md_g1 (pc := 90) hC (show decode prog_15_method_59_code 90 = .ok (.getfield 10, 3) by decide +kernel) ?_
        refine dc_aloadn (pc := 93) (j := 0) (i := 0) hC 0 rfl rfl (show decode prog_15_method_59_code 93 = .ok (.aload_n 0, 1) by decide +kernel) ?_
        refine md_g21 (pc := 94) hC (show decode prog_15_method_59_code 94 = .ok (.getfield 14, 3) by decide +kernel) ?_
        refine dc_iloadn (pc := 97) (j := 1) (i := 1) hC 1 rfl rfl (show decode prog_15_method_59_code 97 = .ok (.iload_n 1, 1) by decide +kernel) ?_
        refine md_l21 (pc := 98) hC (show decode prog_15_method_59_code 98 = .ok (.iaload, 1) by decide +kernel) h ?_
        intro j10 h
        refine dc_iloadn (pc := 99) (j := 2) (i := 2) hC 2 rfl rfl (show decode prog_15_method_59_code 99 = .ok (.iload_n 2, 1) by decide +kernel) ?_
        refine dc_iadd (pc := 100) hC (show decode prog_15_method_59_code 100 = .ok (.iadd, 1) by decide +kernel) ?_
        refine md_l1 (pc := 101) hC (show decode prog_15_method_59_code 101 = .ok (.baload, 1) by decide +kernel) h ?_
        intro j11 h
        refine md_s68 (pc := 102) hC (show decode prog_15_method_59_code 102 = .ok (.bastore, 1) by decide +kernel) h ?_
        intro j12 h
        refine dc_letS h ?_
        intro S13 h
        refine dc_iinc (pc := 103) (i := 2) (v := (x2 + 1)) (lv' := [(2, .int (x2 + 1)), (0, .ref o), (1, .int x1)]) hC 2 rfl rfl (Nat.le_of_ble_eq_true rfl) rfl (show decode prog_15_method_59_code 103 = .ok (.iinc 2 1, 3) by decide +kernel) ?_
        refine dc_goto (pc := 106) (tgt := 69) hC (show decode prog_15_method_59_code 106 = .ok (.goto (-37), 3) by decide +kernel) (by decide +kernel) ?_
        exact dc_sub [1, 2, 0] rfl (hl_69 (S13, (x2 + 1)) (dc_some h))
      · intro h
        have h : dc_wp (mm_settle_L109 S x1) F_47 := hr_69 S (dc_some h)
        exact dc_sub [0, 1] rfl (lab_109 S x1 h)
    have lab_69 : ∀ (S : md_S) (x1 : Int32) (x2 : Int32), dc_wp (mm_settle_L69 S x1 x2) F_47 → dc_G X l { frames := 0, cells := 0, slots := 0, locals := 0 } D 3 0 0 (md_W o a ca S) 69 [(0, .ref o), (1, .int x1), (2, .int x2)] [] := fun S x1 x2 h => loop_69 x1 (S, x2) (dc_bind h)
    rintro ⟨S, x1⟩ h
    have h : dc_wp (mm_settle_b47 S x1) F_47 := h
    delta mm_settle_b47 at h
    refine dc_iloadn (pc := 47) (j := 1) (i := 1) hC 1 rfl rfl (show decode prog_15_method_59_code 47 = .ok (.iload_n 1, 1) by decide +kernel) ?_
    refine dc_aloadn (pc := 48) (j := 0) (i := 0) hC 0 rfl rfl (show decode prog_15_method_59_code 48 = .ok (.aload_n 0, 1) by decide +kernel) ?_
    refine md_g44 (pc := 49) hC (show decode prog_15_method_59_code 49 = .ok (.getfield 536, 3) by decide +kernel) ?_
    refine dc_icmp_ge (pc := 52) (tgt := 115) hC (show decode prog_15_method_59_code 52 = .ok (.if_icmp .ge 63, 3) by decide +kernel) (by decide +kernel) h ?_ ?_
    · intro h
      refine dc_aloadn (pc := 55) (j := 0) (i := 0) hC 0 rfl rfl (show decode prog_15_method_59_code 55 = .ok (.aload_n 0, 1) by decide +kernel) ?_
      refine md_g69 (pc := 56) hC (show decode prog_15_method_59_code 56 = .ok (.getfield 120, 3) by decide +kernel) ?_
      refine dc_iloadn (pc := 59) (j := 1) (i := 1) hC 1 rfl rfl (show decode prog_15_method_59_code 59 = .ok (.iload_n 1, 1) by decide +kernel) ?_
      refine dc_aloadn (pc := 60) (j := 0) (i := 0) hC 0 rfl rfl (show decode prog_15_method_59_code 60 = .ok (.aload_n 0, 1) by decide +kernel) ?_
      refine md_g22 (pc := 61) hC (show decode prog_15_method_59_code 61 = .ok (.getfield 18, 3) by decide +kernel) ?_
      refine dc_iloadn (pc := 64) (j := 1) (i := 1) hC 1 rfl rfl (show decode prog_15_method_59_code 64 = .ok (.iload_n 1, 1) by decide +kernel) ?_
      refine md_l22 (pc := 65) hC (show decode prog_15_method_59_code 65 = .ok (.iaload, 1) by decide +kernel) h ?_
      intro j14 h
      refine md_s69 (pc := 66) hC (show decode prog_15_method_59_code 66 = .ok (.iastore, 1) by decide +kernel) h ?_
      intro j15 h
      refine dc_letS h ?_
      intro S16 h
      refine dc_iconst (pc := 67) (v := 0) hC (show decode prog_15_method_59_code 67 = .ok (.iconst 0, 1) by decide +kernel) (by decide +kernel) ?_
      refine dc_istoren (pc := 68) (j := 2) (i := 2) (lv' := [(2, .int 0), (0, .ref o), (1, .int x1)]) hC rfl (Nat.le_of_ble_eq_true rfl) rfl (show decode prog_15_method_59_code 68 = .ok (.istore_n 2, 1) by decide +kernel) ?_
      exact dc_sub [1, 2, 0] rfl (lab_69 S16 x1 0 h)
    · intro h
      have h : dc_wp (mm_settle_L115 S) F := hr_47 S (dc_some h)
      exact dc_sub [0] rfl (lab_115 S h)
  have lab_47 : ∀ (S : md_S) (x1 : Int32), dc_wp (mm_settle_L47 S x1) F → dc_G X l { frames := 0, cells := 0, slots := 0, locals := 0 } D 3 0 0 (md_W o a ca S) 47 [(0, .ref o), (1, .int x1)] [] := fun S x1 h => loop_47  (S, x1) (dc_bind h)
  show dc_G X l { frames := 0, cells := 0, slots := 0, locals := 0 } D 3 0 0 (md_W o a ca S) 0 [(0, .ref o)] []
  delta mm_settle at h
  refine dc_aloadn (pc := 0) (j := 0) (i := 0) hC 0 rfl rfl (show decode prog_15_method_59_code 0 = .ok (.aload_n 0, 1) by decide +kernel) ?_
  refine dc_iconst (pc := 1) (v := 1) hC (show decode prog_15_method_59_code 1 = .ok (.iconst 1, 1) by decide +kernel) (by decide +kernel) ?_
  refine md_p41 (pc := 2) hC (Or.inr rfl) (show decode prog_15_method_59_code 2 = .ok (.putfield 521, 3) by decide +kernel) ?_
  refine dc_letS h ?_
  intro S17 h
  refine dc_aloadn (pc := 5) (j := 0) (i := 0) hC 0 rfl rfl (show decode prog_15_method_59_code 5 = .ok (.aload_n 0, 1) by decide +kernel) ?_
  refine dc_iconst (pc := 6) (v := 1) hC (show decode prog_15_method_59_code 6 = .ok (.iconst 1, 1) by decide +kernel) (by decide +kernel) ?_
  refine md_p82 (pc := 7) hC (show decode prog_15_method_59_code 7 = .ok (.putfield 545, 3) by decide +kernel) ?_
  refine dc_letS h ?_
  intro S18 h
  refine dc_aloadn (pc := 10) (j := 0) (i := 0) hC 0 rfl rfl (show decode prog_15_method_59_code 10 = .ok (.aload_n 0, 1) by decide +kernel) ?_
  refine dc_iconst (pc := 11) (v := 1) hC (show decode prog_15_method_59_code 11 = .ok (.iconst 1, 1) by decide +kernel) (by decide +kernel) ?_
  refine md_p77 (pc := 12) hC (Or.inr rfl) (show decode prog_15_method_59_code 12 = .ok (.putfield 513, 3) by decide +kernel) ?_
  refine dc_letS h ?_
  intro S19 h
  refine dc_aloadn (pc := 15) (j := 0) (i := 0) hC 0 rfl rfl (show decode prog_15_method_59_code 15 = .ok (.aload_n 0, 1) by decide +kernel) ?_
  refine dc_aloadn (pc := 16) (j := 0) (i := 0) hC 0 rfl rfl (show decode prog_15_method_59_code 16 = .ok (.aload_n 0, 1) by decide +kernel) ?_
  refine md_g15 (pc := 17) hC (show decode prog_15_method_59_code 17 = .ok (.getfield 343, 3) by decide +kernel) ?_
  refine md_p44 (pc := 20) hC (show decode prog_15_method_59_code 20 = .ok (.putfield 536, 3) by decide +kernel) ?_
  refine dc_letS h ?_
  intro S20 h
  refine dc_aloadn (pc := 23) (j := 0) (i := 0) hC 0 rfl rfl (show decode prog_15_method_59_code 23 = .ok (.aload_n 0, 1) by decide +kernel) ?_
  refine dc_aloadn (pc := 24) (j := 0) (i := 0) hC 0 rfl rfl (show decode prog_15_method_59_code 24 = .ok (.aload_n 0, 1) by decide +kernel) ?_
  refine md_g16 (pc := 25) hC (show decode prog_15_method_59_code 25 = .ok (.getfield 376, 3) by decide +kernel) ?_
  refine md_p45 (pc := 28) hC (show decode prog_15_method_59_code 28 = .ok (.putfield 533, 3) by decide +kernel) ?_
  refine dc_letS h ?_
  intro S21 h
  refine dc_aloadn (pc := 31) (j := 0) (i := 0) hC 0 rfl rfl (show decode prog_15_method_59_code 31 = .ok (.aload_n 0, 1) by decide +kernel) ?_
  refine dc_aloadn (pc := 32) (j := 0) (i := 0) hC 0 rfl rfl (show decode prog_15_method_59_code 32 = .ok (.aload_n 0, 1) by decide +kernel) ?_
  refine md_g17 (pc := 33) hC (show decode prog_15_method_59_code 33 = .ok (.getfield 486, 3) by decide +kernel) ?_
  refine md_p46 (pc := 36) hC (show decode prog_15_method_59_code 36 = .ok (.putfield 530, 3) by decide +kernel) ?_
  refine dc_letS h ?_
  intro S22 h
  refine dc_aloadn (pc := 39) (j := 0) (i := 0) hC 0 rfl rfl (show decode prog_15_method_59_code 39 = .ok (.aload_n 0, 1) by decide +kernel) ?_
  refine dc_bipush (pc := 40) (v := 62) hC (show decode prog_15_method_59_code 40 = .ok (.bipush 62, 2) by decide +kernel) (by decide +kernel) ?_
  refine md_p50 (pc := 42) hC (show decode prog_15_method_59_code 42 = .ok (.putfield 561, 3) by decide +kernel) ?_
  refine dc_letS h ?_
  intro S23 h
  refine dc_iconst (pc := 45) (v := 0) hC (show decode prog_15_method_59_code 45 = .ok (.iconst 0, 1) by decide +kernel) (by decide +kernel) ?_
  refine dc_istoren (pc := 46) (j := 1) (i := 1) (lv' := [(1, .int 0), (0, .ref o)]) hC rfl (Nat.le_of_ble_eq_true rfl) rfl (show decode prog_15_method_59_code 46 = .ok (.istore_n 1, 1) by decide +kernel) ?_
  exact dc_sub [1, 0] rfl (lab_47 S23 0 h)
noncomputable def mm_read_L263 (S : md_S) : Option (md_S × Int32) :=
  some (S, (S.1 10))
noncomputable def mm_read_L235 (S : md_S) : Option (md_S × Int32) :=
  dc_let (md_i S 2 0) fun S1 => dc_let (md_i S1 3 0) fun S2 => if (0 : Int32) < (S2.1 10) then ((mm_forget S2).bind fun q3 => mm_read_L263 q3) else ((mm_settle S2).bind fun q4 => mm_read_L263 q4)
noncomputable def mm_read_L219 (S : md_S) (y0 : Int32) : Option (md_S × Int32) :=
  (dc_zb y0).bind fun _ => dc_let (md_i S 12 y0) fun S6 => if (S6.1 12) = 0 then (mm_read_L235 S6) else (dc_let (md_i S6 10 6) fun S7 => mm_read_L235 S7)
noncomputable def mm_read_L214 (S : md_S) : Option (md_S × Int32) :=
  mm_read_L219 S 1
noncomputable def mm_read_L167 (S : md_S) : Option (md_S × Int32) :=
  if (S.1 12) = 0 then (if (200 : Int32) < (S.1 47) then (mm_read_L214 S) else (if (1000 : Int32) < (S.1 43) then (mm_read_L214 S) else (if (8 : Int32) < (S.1 49) then (mm_read_L214 S) else (if (1200 : Int32) < (S.1 48) then (mm_read_L214 S) else (mm_read_L219 S 0))))) else (mm_read_L214 S)
noncomputable def mm_read_L152 (S : md_S) (x1 : Int32) (y0 : Int32) : Option (md_S × Int32) :=
  (dc_zb y0).bind fun _ => dc_let (md_i S 12 y0) fun S9 => if (S9.1 12) = 0 then ((mm_lay_I S9 x1).bind fun q10 => mm_read_L167 q10) else (mm_read_L167 S9)
noncomputable def mm_read_L147 (S : md_S) (x1 : Int32) : Option (md_S × Int32) :=
  mm_read_L152 S x1 1
noncomputable def mm_read_L104 (S : md_S) (x1 : Int32) : Option (md_S × Int32) :=
  if (S.1 10) = 0 then (if (S.1 12) = 0 then (if (31 : Int32) < (S.1 16) then (mm_read_L147 S x1) else (if (31 : Int32) < (S.1 17) then (mm_read_L147 S x1) else (if (400 : Int32) < (S.1 15) then (mm_read_L147 S x1) else (mm_read_L152 S x1 0)))) else (mm_read_L147 S x1)) else (mm_read_L235 S)
noncomputable def mm_read (S : md_S) : Option (md_S × Int32) :=
  dc_let (md_i S 0 0) fun S11 => dc_let (md_i S11 10 0) fun S12 => dc_let (md_i S12 28 0) fun S13 => dc_let (md_i S13 27 0) fun S14 => dc_let (md_i S14 11 0) fun S15 => dc_let (md_i S15 20 0) fun S16 => dc_let (md_i S16 19 0) fun S17 => dc_let (md_i S17 18 0) fun S18 => dc_let (md_i S18 15 0) fun S19 => dc_let (md_i S19 4 0) fun S20 => dc_let (md_i S20 5 1) fun S21 => dc_let (md_i S21 12 0) fun S22 => dc_let (md_i S22 13 32768) fun S23 => (mm_forget S23).bind fun q24 => (mm_program q24).bind fun q25 => if (q25.1.1 10) = 0 then (if (q25.1.1 13) < 32768 then (dc_let (md_i q25.1 10 (4 + (8 * (q25.1.1 14)))) fun S26 => mm_read_L104 S26 q25.2) else (mm_read_L104 q25.1 q25.2)) else (mm_read_L104 q25.1 q25.2)
set_option maxHeartbeats 4000000 in
set_option maxRecDepth 100000 in
/-- read()I -/
theorem mm_read_ok (l : Launch) (D : va_G) (ad : Nat → Nat) (de : Nat) (o : Nat) (a : Nat → Nat) (ca : Nat → ClassId) (S : md_S) (F : (md_S × Int32) → Prop) (h : dc_wp (mm_read S) F) : dc_Ci l ⟨"SignalEngineModel", "read", "()I"⟩ prog_15_method_53_code 2 (some (.int)) 608 14574 D (md_T ca) ad de [.ref o] (md_W o a ca S) (fun r w => ∃ q, F q ∧ r = q.2 ∧ w = md_W o a ca q.1) 0 0 := by
  refine dc_enteri (by decide +kernel) (Nat.le_of_ble_eq_true rfl) ?_
  intro X hC hR
  have lab_263 : ∀ (S : md_S), dc_wp (mm_read_L263 S) F → dc_G X l { frames := 608, cells := 0, slots := 0, locals := 14574 } D 2 0 0 (md_W o a ca S) 263 [(0, .ref o)] [] := by
    intro S  h
    delta mm_read_L263 at h
    refine dc_aloadn (pc := 263) (j := 0) (i := 0) hC 0 rfl rfl (show decode prog_15_method_53_code 263 = .ok (.aload_n 0, 1) by decide +kernel) ?_
    refine md_g10 (pc := 264) hC (show decode prog_15_method_53_code 264 = .ok (.getfield 221, 3) by decide +kernel) ?_
    exact dc_iret (pc := 267) hC hR ⟨_, dc_some h, rfl, rfl⟩ (show decode prog_15_method_53_code 267 = .ok (.ireturn, 1) by decide +kernel)
  have lab_235 : ∀ (S : md_S), dc_wp (mm_read_L235 S) F → dc_G X l { frames := 608, cells := 0, slots := 0, locals := 14574 } D 2 0 0 (md_W o a ca S) 235 [(0, .ref o)] [] := by
    intro S  h
    delta mm_read_L235 at h
    refine dc_aloadn (pc := 235) (j := 0) (i := 0) hC 0 rfl rfl (show decode prog_15_method_53_code 235 = .ok (.aload_n 0, 1) by decide +kernel) ?_
    refine dc_iconst (pc := 236) (v := 0) hC (show decode prog_15_method_53_code 236 = .ok (.iconst 0, 1) by decide +kernel) (by decide +kernel) ?_
    refine md_p2 (pc := 237) hC (show decode prog_15_method_53_code 237 = .ok (.putfield 210, 3) by decide +kernel) ?_
    refine dc_letS h ?_
    intro S1 h
    refine dc_aloadn (pc := 240) (j := 0) (i := 0) hC 0 rfl rfl (show decode prog_15_method_53_code 240 = .ok (.aload_n 0, 1) by decide +kernel) ?_
    refine dc_iconst (pc := 241) (v := 0) hC (show decode prog_15_method_53_code 241 = .ok (.iconst 0, 1) by decide +kernel) (by decide +kernel) ?_
    refine md_p3 (pc := 242) hC (Or.inl rfl) (show decode prog_15_method_53_code 242 = .ok (.putfield 213, 3) by decide +kernel) ?_
    refine dc_letS h ?_
    intro S2 h
    refine dc_aloadn (pc := 245) (j := 0) (i := 0) hC 0 rfl rfl (show decode prog_15_method_53_code 245 = .ok (.aload_n 0, 1) by decide +kernel) ?_
    refine md_g10 (pc := 246) hC (show decode prog_15_method_53_code 246 = .ok (.getfield 221, 3) by decide +kernel) ?_
    refine dc_if_le (pc := 249) (tgt := 259) hC (show decode prog_15_method_53_code 249 = .ok (.ifCond .le 10, 3) by decide +kernel) (by decide +kernel) h ?_ ?_
    · intro h
      refine dc_aloadn (pc := 252) (j := 0) (i := 0) hC 0 rfl rfl (show decode prog_15_method_53_code 252 = .ok (.aload_n 0, 1) by decide +kernel) ?_
      refine mc_Vmv (pc := 253) (As := []) (rest := []) hC vw_forget_489 (mm_forget_ok l D ad de o a ca S2) (Nat.le_of_ble_eq_true rfl) (Nat.le_of_ble_eq_true rfl) rfl (Nat.le_of_ble_eq_true rfl) (show decode prog_15_method_53_code 253 = .ok (.invokevirtual 489, 3) by decide +kernel) h ?_
      intro q3 h
      refine dc_goto (pc := 256) (tgt := 263) hC (show decode prog_15_method_53_code 256 = .ok (.goto 7, 3) by decide +kernel) (by decide +kernel) ?_
      exact lab_263 q3 h
    · intro h
      refine dc_aloadn (pc := 259) (j := 0) (i := 0) hC 0 rfl rfl (show decode prog_15_method_53_code 259 = .ok (.aload_n 0, 1) by decide +kernel) ?_
      refine mc_Vmv (pc := 260) (As := []) (rest := []) hC vw_settle_510 (mm_settle_ok l D ad de o a ca S2) (Nat.le_of_ble_eq_true rfl) (Nat.le_of_ble_eq_true rfl) rfl (Nat.le_of_ble_eq_true rfl) (show decode prog_15_method_53_code 260 = .ok (.invokevirtual 510, 3) by decide +kernel) h ?_
      intro q4 h
      exact lab_263 q4 h
  have lab_219 : ∀ (S : md_S) (y0 : Int32), dc_wp (mm_read_L219 S y0) F → dc_G X l { frames := 608, cells := 0, slots := 0, locals := 14574 } D 2 0 0 (md_W o a ca S) 219 [(0, .ref o)] [.int y0, .ref o] := by
    intro S y0 h
    delta mm_read_L219 at h
    obtain ⟨hz5, h⟩ := dc_zb_wp (dc_bind h)
    refine md_p12 (pc := 219) hC hz5 (show decode prog_15_method_53_code 219 = .ok (.putfield 352, 3) by decide +kernel) ?_
    refine dc_letS h ?_
    intro S6 h
    refine dc_aloadn (pc := 222) (j := 0) (i := 0) hC 0 rfl rfl (show decode prog_15_method_53_code 222 = .ok (.aload_n 0, 1) by decide +kernel) ?_
    refine md_g12 (pc := 223) hC (show decode prog_15_method_53_code 223 = .ok (.getfield 352, 3) by decide +kernel) ?_
    refine dc_if_eq (pc := 226) (tgt := 235) hC (show decode prog_15_method_53_code 226 = .ok (.ifCond .eq 9, 3) by decide +kernel) (by decide +kernel) h ?_ ?_
    · intro h
      exact lab_235 S6 h
    · intro h
      refine dc_aloadn (pc := 229) (j := 0) (i := 0) hC 0 rfl rfl (show decode prog_15_method_53_code 229 = .ok (.aload_n 0, 1) by decide +kernel) ?_
      refine dc_bipush (pc := 230) (v := 6) hC (show decode prog_15_method_53_code 230 = .ok (.bipush 6, 2) by decide +kernel) (by decide +kernel) ?_
      refine md_p10 (pc := 232) hC (show decode prog_15_method_53_code 232 = .ok (.putfield 221, 3) by decide +kernel) ?_
      refine dc_letS h ?_
      intro S7 h
      exact lab_235 S7 h
  have lab_214 : ∀ (S : md_S), dc_wp (mm_read_L214 S) F → dc_G X l { frames := 608, cells := 0, slots := 0, locals := 14574 } D 2 0 0 (md_W o a ca S) 214 [(0, .ref o)] [.ref o] := by
    intro S  h
    delta mm_read_L214 at h
    refine dc_iconst (pc := 214) (v := 1) hC (show decode prog_15_method_53_code 214 = .ok (.iconst 1, 1) by decide +kernel) (by decide +kernel) ?_
    refine dc_goto (pc := 215) (tgt := 219) hC (show decode prog_15_method_53_code 215 = .ok (.goto 4, 3) by decide +kernel) (by decide +kernel) ?_
    exact lab_219 S 1 h
  have lab_167 : ∀ (S : md_S), dc_wp (mm_read_L167 S) F → dc_G X l { frames := 608, cells := 0, slots := 0, locals := 14574 } D 2 0 0 (md_W o a ca S) 167 [(0, .ref o)] [] := by
    intro S  h
    delta mm_read_L167 at h
    refine dc_aloadn (pc := 167) (j := 0) (i := 0) hC 0 rfl rfl (show decode prog_15_method_53_code 167 = .ok (.aload_n 0, 1) by decide +kernel) ?_
    refine dc_aloadn (pc := 168) (j := 0) (i := 0) hC 0 rfl rfl (show decode prog_15_method_53_code 168 = .ok (.aload_n 0, 1) by decide +kernel) ?_
    refine md_g12 (pc := 169) hC (show decode prog_15_method_53_code 169 = .ok (.getfield 352, 3) by decide +kernel) ?_
    refine dc_if_ne (pc := 172) (tgt := 214) hC (show decode prog_15_method_53_code 172 = .ok (.ifCond .ne 42, 3) by decide +kernel) (by decide +kernel) h ?_ ?_
    · intro h
      refine dc_aloadn (pc := 175) (j := 0) (i := 0) hC 0 rfl rfl (show decode prog_15_method_53_code 175 = .ok (.aload_n 0, 1) by decide +kernel) ?_
      refine md_g47 (pc := 176) hC (show decode prog_15_method_53_code 176 = .ok (.getfield 498, 3) by decide +kernel) ?_
      refine dc_sipush (pc := 179) (v := 200) hC (show decode prog_15_method_53_code 179 = .ok (.sipush 200, 3) by decide +kernel) (by decide +kernel) ?_
      refine dc_icmp_gt (pc := 182) (tgt := 214) hC (show decode prog_15_method_53_code 182 = .ok (.if_icmp .gt 32, 3) by decide +kernel) (by decide +kernel) h ?_ ?_
      · intro h
        exact lab_214 S h
      · intro h
        refine dc_aloadn (pc := 185) (j := 0) (i := 0) hC 0 rfl rfl (show decode prog_15_method_53_code 185 = .ok (.aload_n 0, 1) by decide +kernel) ?_
        refine md_g43 (pc := 186) hC (show decode prog_15_method_53_code 186 = .ok (.getfield 501, 3) by decide +kernel) ?_
        refine dc_sipush (pc := 189) (v := 1000) hC (show decode prog_15_method_53_code 189 = .ok (.sipush 1000, 3) by decide +kernel) (by decide +kernel) ?_
        refine dc_icmp_gt (pc := 192) (tgt := 214) hC (show decode prog_15_method_53_code 192 = .ok (.if_icmp .gt 22, 3) by decide +kernel) (by decide +kernel) h ?_ ?_
        · intro h
          exact lab_214 S h
        · intro h
          refine dc_aloadn (pc := 195) (j := 0) (i := 0) hC 0 rfl rfl (show decode prog_15_method_53_code 195 = .ok (.aload_n 0, 1) by decide +kernel) ?_
          refine md_g49 (pc := 196) hC (show decode prog_15_method_53_code 196 = .ok (.getfield 504, 3) by decide +kernel) ?_
          refine dc_bipush (pc := 199) (v := 8) hC (show decode prog_15_method_53_code 199 = .ok (.bipush 8, 2) by decide +kernel) (by decide +kernel) ?_
          refine dc_icmp_gt (pc := 201) (tgt := 214) hC (show decode prog_15_method_53_code 201 = .ok (.if_icmp .gt 13, 3) by decide +kernel) (by decide +kernel) h ?_ ?_
          · intro h
            exact lab_214 S h
          · intro h
            refine dc_aloadn (pc := 204) (j := 0) (i := 0) hC 0 rfl rfl (show decode prog_15_method_53_code 204 = .ok (.aload_n 0, 1) by decide +kernel) ?_
            refine md_g48 (pc := 205) hC (show decode prog_15_method_53_code 205 = .ok (.getfield 507, 3) by decide +kernel) ?_
            refine dc_sipush (pc := 208) (v := 1200) hC (show decode prog_15_method_53_code 208 = .ok (.sipush 1200, 3) by decide +kernel) (by decide +kernel) ?_
            refine dc_icmp_le (pc := 211) (tgt := 218) hC (show decode prog_15_method_53_code 211 = .ok (.if_icmp .le 7, 3) by decide +kernel) (by decide +kernel) h ?_ ?_
            · intro h
              exact lab_214 S h
            · intro h
              refine dc_iconst (pc := 218) (v := 0) hC (show decode prog_15_method_53_code 218 = .ok (.iconst 0, 1) by decide +kernel) (by decide +kernel) ?_
              exact lab_219 S 0 h
    · intro h
      exact lab_214 S h
  have lab_152 : ∀ (S : md_S) (x1 : Int32) (y0 : Int32), dc_wp (mm_read_L152 S x1 y0) F → dc_G X l { frames := 608, cells := 0, slots := 0, locals := 14574 } D 2 0 0 (md_W o a ca S) 152 [(0, .ref o), (1, .int x1)] [.int y0, .ref o] := by
    intro S x1 y0 h
    delta mm_read_L152 at h
    obtain ⟨hz8, h⟩ := dc_zb_wp (dc_bind h)
    refine md_p12 (pc := 152) hC hz8 (show decode prog_15_method_53_code 152 = .ok (.putfield 352, 3) by decide +kernel) ?_
    refine dc_letS h ?_
    intro S9 h
    refine dc_aloadn (pc := 155) (j := 0) (i := 0) hC 0 rfl rfl (show decode prog_15_method_53_code 155 = .ok (.aload_n 0, 1) by decide +kernel) ?_
    refine md_g12 (pc := 156) hC (show decode prog_15_method_53_code 156 = .ok (.getfield 352, 3) by decide +kernel) ?_
    refine dc_if_ne (pc := 159) (tgt := 167) hC (show decode prog_15_method_53_code 159 = .ok (.ifCond .ne 8, 3) by decide +kernel) (by decide +kernel) h ?_ ?_
    · intro h
      refine dc_aloadn (pc := 162) (j := 0) (i := 0) hC 0 rfl rfl (show decode prog_15_method_53_code 162 = .ok (.aload_n 0, 1) by decide +kernel) ?_
      refine dc_iloadn (pc := 163) (j := 1) (i := 1) hC 1 rfl rfl (show decode prog_15_method_53_code 163 = .ok (.iload_n 1, 1) by decide +kernel) ?_
      refine mc_Vmv (pc := 164) (As := [.int x1]) (rest := []) hC vw_lay_I_495 (mm_lay_I_ok l D ad de o a ca S9 x1) (Nat.le_of_ble_eq_true rfl) (Nat.le_of_ble_eq_true rfl) rfl (Nat.le_of_ble_eq_true rfl) (show decode prog_15_method_53_code 164 = .ok (.invokevirtual 495, 3) by decide +kernel) h ?_
      intro q10 h
      exact dc_sub [0] rfl (lab_167 q10 h)
    · intro h
      exact dc_sub [0] rfl (lab_167 S9 h)
  have lab_147 : ∀ (S : md_S) (x1 : Int32), dc_wp (mm_read_L147 S x1) F → dc_G X l { frames := 608, cells := 0, slots := 0, locals := 14574 } D 2 0 0 (md_W o a ca S) 147 [(0, .ref o), (1, .int x1)] [.ref o] := by
    intro S x1 h
    delta mm_read_L147 at h
    refine dc_iconst (pc := 147) (v := 1) hC (show decode prog_15_method_53_code 147 = .ok (.iconst 1, 1) by decide +kernel) (by decide +kernel) ?_
    refine dc_goto (pc := 148) (tgt := 152) hC (show decode prog_15_method_53_code 148 = .ok (.goto 4, 3) by decide +kernel) (by decide +kernel) ?_
    exact lab_152 S x1 1 h
  have lab_104 : ∀ (S : md_S) (x1 : Int32), dc_wp (mm_read_L104 S x1) F → dc_G X l { frames := 608, cells := 0, slots := 0, locals := 14574 } D 2 0 0 (md_W o a ca S) 104 [(0, .ref o), (1, .int x1)] [] := by
    intro S x1 h
    delta mm_read_L104 at h
    refine dc_aloadn (pc := 104) (j := 0) (i := 0) hC 0 rfl rfl (show decode prog_15_method_53_code 104 = .ok (.aload_n 0, 1) by decide +kernel) ?_
    refine md_g10 (pc := 105) hC (show decode prog_15_method_53_code 105 = .ok (.getfield 221, 3) by decide +kernel) ?_
    refine dc_if_ne (pc := 108) (tgt := 235) hC (show decode prog_15_method_53_code 108 = .ok (.ifCond .ne 127, 3) by decide +kernel) (by decide +kernel) h ?_ ?_
    · intro h
      refine dc_aloadn (pc := 111) (j := 0) (i := 0) hC 0 rfl rfl (show decode prog_15_method_53_code 111 = .ok (.aload_n 0, 1) by decide +kernel) ?_
      refine dc_aloadn (pc := 112) (j := 0) (i := 0) hC 0 rfl rfl (show decode prog_15_method_53_code 112 = .ok (.aload_n 0, 1) by decide +kernel) ?_
      refine md_g12 (pc := 113) hC (show decode prog_15_method_53_code 113 = .ok (.getfield 352, 3) by decide +kernel) ?_
      refine dc_if_ne (pc := 116) (tgt := 147) hC (show decode prog_15_method_53_code 116 = .ok (.ifCond .ne 31, 3) by decide +kernel) (by decide +kernel) h ?_ ?_
      · intro h
        refine dc_aloadn (pc := 119) (j := 0) (i := 0) hC 0 rfl rfl (show decode prog_15_method_53_code 119 = .ok (.aload_n 0, 1) by decide +kernel) ?_
        refine md_g16 (pc := 120) hC (show decode prog_15_method_53_code 120 = .ok (.getfield 376, 3) by decide +kernel) ?_
        refine dc_bipush (pc := 123) (v := 31) hC (show decode prog_15_method_53_code 123 = .ok (.bipush 31, 2) by decide +kernel) (by decide +kernel) ?_
        refine dc_icmp_gt (pc := 125) (tgt := 147) hC (show decode prog_15_method_53_code 125 = .ok (.if_icmp .gt 22, 3) by decide +kernel) (by decide +kernel) h ?_ ?_
        · intro h
          exact lab_147 S x1 h
        · intro h
          refine dc_aloadn (pc := 128) (j := 0) (i := 0) hC 0 rfl rfl (show decode prog_15_method_53_code 128 = .ok (.aload_n 0, 1) by decide +kernel) ?_
          refine md_g17 (pc := 129) hC (show decode prog_15_method_53_code 129 = .ok (.getfield 486, 3) by decide +kernel) ?_
          refine dc_bipush (pc := 132) (v := 31) hC (show decode prog_15_method_53_code 132 = .ok (.bipush 31, 2) by decide +kernel) (by decide +kernel) ?_
          refine dc_icmp_gt (pc := 134) (tgt := 147) hC (show decode prog_15_method_53_code 134 = .ok (.if_icmp .gt 13, 3) by decide +kernel) (by decide +kernel) h ?_ ?_
          · intro h
            exact lab_147 S x1 h
          · intro h
            refine dc_aloadn (pc := 137) (j := 0) (i := 0) hC 0 rfl rfl (show decode prog_15_method_53_code 137 = .ok (.aload_n 0, 1) by decide +kernel) ?_
            refine md_g15 (pc := 138) hC (show decode prog_15_method_53_code 138 = .ok (.getfield 343, 3) by decide +kernel) ?_
            refine dc_sipush (pc := 141) (v := 400) hC (show decode prog_15_method_53_code 141 = .ok (.sipush 400, 3) by decide +kernel) (by decide +kernel) ?_
            refine dc_icmp_le (pc := 144) (tgt := 151) hC (show decode prog_15_method_53_code 144 = .ok (.if_icmp .le 7, 3) by decide +kernel) (by decide +kernel) h ?_ ?_
            · intro h
              exact lab_147 S x1 h
            · intro h
              refine dc_iconst (pc := 151) (v := 0) hC (show decode prog_15_method_53_code 151 = .ok (.iconst 0, 1) by decide +kernel) (by decide +kernel) ?_
              exact lab_152 S x1 0 h
      · intro h
        exact lab_147 S x1 h
    · intro h
      exact dc_sub [0] rfl (lab_235 S h)
  show dc_G X l { frames := 608, cells := 0, slots := 0, locals := 14574 } D 2 0 0 (md_W o a ca S) 0 [(0, .ref o)] []
  delta mm_read at h
  refine dc_aloadn (pc := 0) (j := 0) (i := 0) hC 0 rfl rfl (show decode prog_15_method_53_code 0 = .ok (.aload_n 0, 1) by decide +kernel) ?_
  refine dc_iconst (pc := 1) (v := 0) hC (show decode prog_15_method_53_code 1 = .ok (.iconst 0, 1) by decide +kernel) (by decide +kernel) ?_
  refine md_p0 (pc := 2) hC (show decode prog_15_method_53_code 2 = .ok (.putfield 206, 3) by decide +kernel) ?_
  refine dc_letS h ?_
  intro S11 h
  refine dc_aloadn (pc := 5) (j := 0) (i := 0) hC 0 rfl rfl (show decode prog_15_method_53_code 5 = .ok (.aload_n 0, 1) by decide +kernel) ?_
  refine dc_aloadn (pc := 6) (j := 0) (i := 0) hC 0 rfl rfl (show decode prog_15_method_53_code 6 = .ok (.aload_n 0, 1) by decide +kernel) ?_
  refine dc_aloadn (pc := 7) (j := 0) (i := 0) hC 0 rfl rfl (show decode prog_15_method_53_code 7 = .ok (.aload_n 0, 1) by decide +kernel) ?_
  refine dc_aloadn (pc := 8) (j := 0) (i := 0) hC 0 rfl rfl (show decode prog_15_method_53_code 8 = .ok (.aload_n 0, 1) by decide +kernel) ?_
  refine dc_aloadn (pc := 9) (j := 0) (i := 0) hC 0 rfl rfl (show decode prog_15_method_53_code 9 = .ok (.aload_n 0, 1) by decide +kernel) ?_
  refine dc_aloadn (pc := 10) (j := 0) (i := 0) hC 0 rfl rfl (show decode prog_15_method_53_code 10 = .ok (.aload_n 0, 1) by decide +kernel) ?_
  refine dc_aloadn (pc := 11) (j := 0) (i := 0) hC 0 rfl rfl (show decode prog_15_method_53_code 11 = .ok (.aload_n 0, 1) by decide +kernel) ?_
  refine dc_aloadn (pc := 12) (j := 0) (i := 0) hC 0 rfl rfl (show decode prog_15_method_53_code 12 = .ok (.aload_n 0, 1) by decide +kernel) ?_
  refine dc_aloadn (pc := 13) (j := 0) (i := 0) hC 0 rfl rfl (show decode prog_15_method_53_code 13 = .ok (.aload_n 0, 1) by decide +kernel) ?_
  refine dc_iconst (pc := 14) (v := 0) hC (show decode prog_15_method_53_code 14 = .ok (.iconst 0, 1) by decide +kernel) (by decide +kernel) ?_
  refine dc_dup_x1 (pc := 15) hC (show decode prog_15_method_53_code 15 = .ok (.dup_x1, 1) by decide +kernel) rfl rfl ?_
  refine md_p10 (pc := 16) hC (show decode prog_15_method_53_code 16 = .ok (.putfield 221, 3) by decide +kernel) ?_
  refine dc_letS h ?_
  intro S12 h
  refine dc_dup_x1 (pc := 19) hC (show decode prog_15_method_53_code 19 = .ok (.dup_x1, 1) by decide +kernel) rfl rfl ?_
  refine md_p28 (pc := 20) hC (show decode prog_15_method_53_code 20 = .ok (.putfield 349, 3) by decide +kernel) ?_
  refine dc_letS h ?_
  intro S13 h
  refine dc_dup_x1 (pc := 23) hC (show decode prog_15_method_53_code 23 = .ok (.dup_x1, 1) by decide +kernel) rfl rfl ?_
  refine md_p27 (pc := 24) hC (show decode prog_15_method_53_code 24 = .ok (.putfield 379, 3) by decide +kernel) ?_
  refine dc_letS h ?_
  intro S14 h
  refine dc_dup_x1 (pc := 27) hC (show decode prog_15_method_53_code 27 = .ok (.dup_x1, 1) by decide +kernel) rfl rfl ?_
  refine md_p11 (pc := 28) hC (show decode prog_15_method_53_code 28 = .ok (.putfield 334, 3) by decide +kernel) ?_
  refine dc_letS h ?_
  intro S15 h
  refine dc_dup_x1 (pc := 31) hC (show decode prog_15_method_53_code 31 = .ok (.dup_x1, 1) by decide +kernel) rfl rfl ?_
  refine md_p20 (pc := 32) hC (show decode prog_15_method_53_code 32 = .ok (.putfield 452, 3) by decide +kernel) ?_
  refine dc_letS h ?_
  intro S16 h
  refine dc_dup_x1 (pc := 35) hC (show decode prog_15_method_53_code 35 = .ok (.dup_x1, 1) by decide +kernel) rfl rfl ?_
  refine md_p19 (pc := 36) hC (show decode prog_15_method_53_code 36 = .ok (.putfield 465, 3) by decide +kernel) ?_
  refine dc_letS h ?_
  intro S17 h
  refine dc_dup_x1 (pc := 39) hC (show decode prog_15_method_53_code 39 = .ok (.dup_x1, 1) by decide +kernel) rfl rfl ?_
  refine md_p18 (pc := 40) hC (show decode prog_15_method_53_code 40 = .ok (.putfield 327, 3) by decide +kernel) ?_
  refine dc_letS h ?_
  intro S18 h
  refine dc_dup_x1 (pc := 43) hC (show decode prog_15_method_53_code 43 = .ok (.dup_x1, 1) by decide +kernel) rfl rfl ?_
  refine md_p15 (pc := 44) hC (show decode prog_15_method_53_code 44 = .ok (.putfield 343, 3) by decide +kernel) ?_
  refine dc_letS h ?_
  intro S19 h
  refine md_p4 (pc := 47) hC (show decode prog_15_method_53_code 47 = .ok (.putfield 224, 3) by decide +kernel) ?_
  refine dc_letS h ?_
  intro S20 h
  refine dc_aloadn (pc := 50) (j := 0) (i := 0) hC 0 rfl rfl (show decode prog_15_method_53_code 50 = .ok (.aload_n 0, 1) by decide +kernel) ?_
  refine dc_iconst (pc := 51) (v := 1) hC (show decode prog_15_method_53_code 51 = .ok (.iconst 1, 1) by decide +kernel) (by decide +kernel) ?_
  refine md_p5 (pc := 52) hC (show decode prog_15_method_53_code 52 = .ok (.putfield 231, 3) by decide +kernel) ?_
  refine dc_letS h ?_
  intro S21 h
  refine dc_aloadn (pc := 55) (j := 0) (i := 0) hC 0 rfl rfl (show decode prog_15_method_53_code 55 = .ok (.aload_n 0, 1) by decide +kernel) ?_
  refine dc_iconst (pc := 56) (v := 0) hC (show decode prog_15_method_53_code 56 = .ok (.iconst 0, 1) by decide +kernel) (by decide +kernel) ?_
  refine md_p12 (pc := 57) hC (Or.inl rfl) (show decode prog_15_method_53_code 57 = .ok (.putfield 352, 3) by decide +kernel) ?_
  refine dc_letS h ?_
  intro S22 h
  refine dc_aloadn (pc := 60) (j := 0) (i := 0) hC 0 rfl rfl (show decode prog_15_method_53_code 60 = .ok (.aload_n 0, 1) by decide +kernel) ?_
  refine dc_ldc (pc := 61) (v := 32768) hC w_1558 (show decode prog_15_method_53_code 61 = .ok (.ldc 9, 2) by decide +kernel) ?_
  refine md_p13 (pc := 63) hC (show decode prog_15_method_53_code 63 = .ok (.putfield 472, 3) by decide +kernel) ?_
  refine dc_letS h ?_
  intro S23 h
  refine dc_aloadn (pc := 66) (j := 0) (i := 0) hC 0 rfl rfl (show decode prog_15_method_53_code 66 = .ok (.aload_n 0, 1) by decide +kernel) ?_
  refine mc_Vmv (pc := 67) (As := []) (rest := []) hC vw_forget_489 (mm_forget_ok l D ad de o a ca S23) (Nat.le_of_ble_eq_true rfl) (Nat.le_of_ble_eq_true rfl) rfl (Nat.le_of_ble_eq_true rfl) (show decode prog_15_method_53_code 67 = .ok (.invokevirtual 489, 3) by decide +kernel) h ?_
  intro q24 h
  refine dc_aloadn (pc := 70) (j := 0) (i := 0) hC 0 rfl rfl (show decode prog_15_method_53_code 70 = .ok (.aload_n 0, 1) by decide +kernel) ?_
  refine mc_Vmi (pc := 71) (As := []) (rest := []) hC vw_program_492 (mm_program_ok l D ad de o a ca q24) (Nat.le_of_ble_eq_true rfl) (Nat.le_of_ble_eq_true rfl) rfl (Nat.le_of_ble_eq_true rfl) (show decode prog_15_method_53_code 71 = .ok (.invokevirtual 492, 3) by decide +kernel) h ?_
  intro q25 h
  refine dc_istoren (pc := 74) (j := 1) (i := 1) (lv' := [(1, .int q25.2), (0, .ref o)]) hC rfl (Nat.le_of_ble_eq_true rfl) rfl (show decode prog_15_method_53_code 74 = .ok (.istore_n 1, 1) by decide +kernel) ?_
  refine dc_aloadn (pc := 75) (j := 0) (i := 0) hC 1 rfl rfl (show decode prog_15_method_53_code 75 = .ok (.aload_n 0, 1) by decide +kernel) ?_
  refine md_g10 (pc := 76) hC (show decode prog_15_method_53_code 76 = .ok (.getfield 221, 3) by decide +kernel) ?_
  refine dc_if_ne (pc := 79) (tgt := 104) hC (show decode prog_15_method_53_code 79 = .ok (.ifCond .ne 25, 3) by decide +kernel) (by decide +kernel) h ?_ ?_
  · intro h
    refine dc_aloadn (pc := 82) (j := 0) (i := 0) hC 1 rfl rfl (show decode prog_15_method_53_code 82 = .ok (.aload_n 0, 1) by decide +kernel) ?_
    refine md_g13 (pc := 83) hC (show decode prog_15_method_53_code 83 = .ok (.getfield 472, 3) by decide +kernel) ?_
    refine dc_ldc (pc := 86) (v := 32768) hC w_1558 (show decode prog_15_method_53_code 86 = .ok (.ldc 9, 2) by decide +kernel) ?_
    refine dc_icmp_ge (pc := 88) (tgt := 104) hC (show decode prog_15_method_53_code 88 = .ok (.if_icmp .ge 16, 3) by decide +kernel) (by decide +kernel) h ?_ ?_
    · intro h
      refine dc_aloadn (pc := 91) (j := 0) (i := 0) hC 1 rfl rfl (show decode prog_15_method_53_code 91 = .ok (.aload_n 0, 1) by decide +kernel) ?_
      refine dc_iconst (pc := 92) (v := 4) hC (show decode prog_15_method_53_code 92 = .ok (.iconst 4, 1) by decide +kernel) (by decide +kernel) ?_
      refine dc_bipush (pc := 93) (v := 8) hC (show decode prog_15_method_53_code 93 = .ok (.bipush 8, 2) by decide +kernel) (by decide +kernel) ?_
      refine dc_aloadn (pc := 95) (j := 0) (i := 0) hC 1 rfl rfl (show decode prog_15_method_53_code 95 = .ok (.aload_n 0, 1) by decide +kernel) ?_
      refine md_g14 (pc := 96) hC (show decode prog_15_method_53_code 96 = .ok (.getfield 475, 3) by decide +kernel) ?_
      refine dc_imul (pc := 99) hC (show decode prog_15_method_53_code 99 = .ok (.imul, 1) by decide +kernel) ?_
      refine dc_iadd (pc := 100) hC (show decode prog_15_method_53_code 100 = .ok (.iadd, 1) by decide +kernel) ?_
      refine md_p10 (pc := 101) hC (show decode prog_15_method_53_code 101 = .ok (.putfield 221, 3) by decide +kernel) ?_
      refine dc_letS h ?_
      intro S26 h
      exact dc_sub [1, 0] rfl (lab_104 S26 q25.2 h)
    · intro h
      exact dc_sub [1, 0] rfl (lab_104 q25.1 q25.2 h)
  · intro h
    exact dc_sub [1, 0] rfl (lab_104 q25.1 q25.2 h)
noncomputable def mm_node_II_L17 (S : md_S) : Option (md_S × Int32) :=
  some (S, (-1))
noncomputable def mm_node_II (S : md_S) (p1 : Int32) (p2 : Int32) : Option (md_S × Int32) :=
  dc_let (md_i S 0 0) fun S1 => if p1 < 0 then (mm_node_II_L17 S1) else (if p1 < (S1.1 42) then (dc_let (p2 : Int32) fun v2 => if v2 = 0 then ((dc_ix p1 1200).bind fun j3 => some (S1, (S1.2.1 51 j3))) else if v2 = 1 then ((dc_ix p1 1200).bind fun j5 => some (S1, (S1.2.1 52 j5))) else if v2 = 2 then ((dc_ix p1 1200).bind fun j7 => some (S1, (S1.2.1 53 j7))) else if v2 = 3 then ((dc_ix p1 1200).bind fun j9 => some (S1, (S1.2.1 54 j9))) else if v2 = 4 then ((dc_ix p1 1200).bind fun j11 => some (S1, (S1.2.1 55 j11))) else if v2 = 5 then ((dc_ix p1 1200).bind fun j13 => some (S1, (S1.2.1 56 j13))) else if v2 = 6 then ((dc_ix p1 1200).bind fun j15 => some (S1, (S1.2.1 57 j15))) else (some (S1, (-1)))) else (mm_node_II_L17 S1))
set_option maxHeartbeats 4000000 in
set_option maxRecDepth 100000 in
/-- node(II)I -/
theorem mm_node_II_ok (l : Launch) (D : va_G) (ad : Nat → Nat) (de : Nat) (o : Nat) (a : Nat → Nat) (ca : Nat → ClassId) (S : md_S) (p1 : Int32) (p2 : Int32) (F : (md_S × Int32) → Prop) (h : dc_wp (mm_node_II S p1 p2) F) : dc_Ci l ⟨"SignalEngineModel", "node", "(II)I"⟩ prog_15_method_60_code 3 (some (.int)) 0 0 D (md_T ca) ad de [.ref o, .int p1, .int p2] (md_W o a ca S) (fun r w => ∃ q, F q ∧ r = q.2 ∧ w = md_W o a ca q.1) 0 0 := by
  refine dc_enteri (by decide +kernel) (Nat.le_of_ble_eq_true rfl) ?_
  intro X hC hR
  have lab_17 : ∀ (S : md_S), dc_wp (mm_node_II_L17 S) F → dc_G X l { frames := 0, cells := 0, slots := 0, locals := 0 } D 3 0 0 (md_W o a ca S) 17 [(0, .ref o)] [] := by
    intro S  h
    delta mm_node_II_L17 at h
    refine dc_iconst (pc := 17) (v := (-1)) hC (show decode prog_15_method_60_code 17 = .ok (.iconst (-1), 1) by decide +kernel) (by decide +kernel) ?_
    exact dc_iret (pc := 18) hC hR ⟨_, dc_some h, rfl, rfl⟩ (show decode prog_15_method_60_code 18 = .ok (.ireturn, 1) by decide +kernel)
  show dc_G X l { frames := 0, cells := 0, slots := 0, locals := 0 } D 3 0 0 (md_W o a ca S) 0 [(0, .ref o), (1, .int p1), (2, .int p2)] []
  delta mm_node_II at h
  refine dc_aloadn (pc := 0) (j := 0) (i := 0) hC 0 rfl rfl (show decode prog_15_method_60_code 0 = .ok (.aload_n 0, 1) by decide +kernel) ?_
  refine dc_iconst (pc := 1) (v := 0) hC (show decode prog_15_method_60_code 1 = .ok (.iconst 0, 1) by decide +kernel) (by decide +kernel) ?_
  refine md_p0 (pc := 2) hC (show decode prog_15_method_60_code 2 = .ok (.putfield 206, 3) by decide +kernel) ?_
  refine dc_letS h ?_
  intro S1 h
  refine dc_iloadn (pc := 5) (j := 1) (i := 1) hC 1 rfl rfl (show decode prog_15_method_60_code 5 = .ok (.iload_n 1, 1) by decide +kernel) ?_
  refine dc_if_lt (pc := 6) (tgt := 17) hC (show decode prog_15_method_60_code 6 = .ok (.ifCond .lt 11, 3) by decide +kernel) (by decide +kernel) h ?_ ?_
  · intro h
    exact dc_sub [0] rfl (lab_17 S1 h)
  · intro h
    refine dc_iloadn (pc := 9) (j := 1) (i := 1) hC 1 rfl rfl (show decode prog_15_method_60_code 9 = .ok (.iload_n 1, 1) by decide +kernel) ?_
    refine dc_aloadn (pc := 10) (j := 0) (i := 0) hC 0 rfl rfl (show decode prog_15_method_60_code 10 = .ok (.aload_n 0, 1) by decide +kernel) ?_
    refine md_g42 (pc := 11) hC (show decode prog_15_method_60_code 11 = .ok (.getfield 539, 3) by decide +kernel) ?_
    refine dc_icmp_lt (pc := 14) (tgt := 19) hC (show decode prog_15_method_60_code 14 = .ok (.if_icmp .lt 5, 3) by decide +kernel) (by decide +kernel) h ?_ ?_
    · intro h
      refine dc_iloadn (pc := 19) (j := 2) (i := 2) hC 2 rfl rfl (show decode prog_15_method_60_code 19 = .ok (.iload_n 2, 1) by decide +kernel) ?_
      refine dc_letI h ?_
      intro v2 h
      rcases dc_ite h with ⟨hk4, h2⟩ | ⟨hk4, h2⟩
      · subst hk4; clear h; have h := h2; clear h2
        refine dc_tabIn (pc := 20) (off := 44) (tgt := 64) hC dsw_prog_15_method_60_code_20 (by decide +kernel) (by decide +kernel) (by decide +kernel) (by decide +kernel) ?_
        refine dc_aloadn (pc := 64) (j := 0) (i := 0) hC 0 rfl rfl (show decode prog_15_method_60_code 64 = .ok (.aload_n 0, 1) by decide +kernel) ?_
        refine md_g51 (pc := 65) hC (show decode prog_15_method_60_code 65 = .ok (.getfield 66, 3) by decide +kernel) ?_
        refine dc_iloadn (pc := 68) (j := 1) (i := 1) hC 1 rfl rfl (show decode prog_15_method_60_code 68 = .ok (.iload_n 1, 1) by decide +kernel) ?_
        refine md_l51 (pc := 69) hC (show decode prog_15_method_60_code 69 = .ok (.iaload, 1) by decide +kernel) h ?_
        intro j3 h
        exact dc_iret (pc := 70) hC hR ⟨_, dc_some h, rfl, rfl⟩ (show decode prog_15_method_60_code 70 = .ok (.ireturn, 1) by decide +kernel)
      clear h; have h := h2; clear h2
      rcases dc_ite h with ⟨hk6, h2⟩ | ⟨hk6, h2⟩
      · subst hk6; clear h; have h := h2; clear h2
        refine dc_tabIn (pc := 20) (off := 51) (tgt := 71) hC dsw_prog_15_method_60_code_20 (by decide +kernel) (by decide +kernel) (by decide +kernel) (by decide +kernel) ?_
        refine dc_aloadn (pc := 71) (j := 0) (i := 0) hC 0 rfl rfl (show decode prog_15_method_60_code 71 = .ok (.aload_n 0, 1) by decide +kernel) ?_
        refine md_g52 (pc := 72) hC (show decode prog_15_method_60_code 72 = .ok (.getfield 69, 3) by decide +kernel) ?_
        refine dc_iloadn (pc := 75) (j := 1) (i := 1) hC 1 rfl rfl (show decode prog_15_method_60_code 75 = .ok (.iload_n 1, 1) by decide +kernel) ?_
        refine md_l52 (pc := 76) hC (show decode prog_15_method_60_code 76 = .ok (.iaload, 1) by decide +kernel) h ?_
        intro j5 h
        exact dc_iret (pc := 77) hC hR ⟨_, dc_some h, rfl, rfl⟩ (show decode prog_15_method_60_code 77 = .ok (.ireturn, 1) by decide +kernel)
      clear h; have h := h2; clear h2
      rcases dc_ite h with ⟨hk8, h2⟩ | ⟨hk8, h2⟩
      · subst hk8; clear h; have h := h2; clear h2
        refine dc_tabIn (pc := 20) (off := 58) (tgt := 78) hC dsw_prog_15_method_60_code_20 (by decide +kernel) (by decide +kernel) (by decide +kernel) (by decide +kernel) ?_
        refine dc_aloadn (pc := 78) (j := 0) (i := 0) hC 0 rfl rfl (show decode prog_15_method_60_code 78 = .ok (.aload_n 0, 1) by decide +kernel) ?_
        refine md_g53 (pc := 79) hC (show decode prog_15_method_60_code 79 = .ok (.getfield 72, 3) by decide +kernel) ?_
        refine dc_iloadn (pc := 82) (j := 1) (i := 1) hC 1 rfl rfl (show decode prog_15_method_60_code 82 = .ok (.iload_n 1, 1) by decide +kernel) ?_
        refine md_l53 (pc := 83) hC (show decode prog_15_method_60_code 83 = .ok (.iaload, 1) by decide +kernel) h ?_
        intro j7 h
        exact dc_iret (pc := 84) hC hR ⟨_, dc_some h, rfl, rfl⟩ (show decode prog_15_method_60_code 84 = .ok (.ireturn, 1) by decide +kernel)
      clear h; have h := h2; clear h2
      rcases dc_ite h with ⟨hk10, h2⟩ | ⟨hk10, h2⟩
      · subst hk10; clear h; have h := h2; clear h2
        refine dc_tabIn (pc := 20) (off := 65) (tgt := 85) hC dsw_prog_15_method_60_code_20 (by decide +kernel) (by decide +kernel) (by decide +kernel) (by decide +kernel) ?_
        refine dc_aloadn (pc := 85) (j := 0) (i := 0) hC 0 rfl rfl (show decode prog_15_method_60_code 85 = .ok (.aload_n 0, 1) by decide +kernel) ?_
        refine md_g54 (pc := 86) hC (show decode prog_15_method_60_code 86 = .ok (.getfield 75, 3) by decide +kernel) ?_
        refine dc_iloadn (pc := 89) (j := 1) (i := 1) hC 1 rfl rfl (show decode prog_15_method_60_code 89 = .ok (.iload_n 1, 1) by decide +kernel) ?_
        refine md_l54 (pc := 90) hC (show decode prog_15_method_60_code 90 = .ok (.iaload, 1) by decide +kernel) h ?_
        intro j9 h
        exact dc_iret (pc := 91) hC hR ⟨_, dc_some h, rfl, rfl⟩ (show decode prog_15_method_60_code 91 = .ok (.ireturn, 1) by decide +kernel)
      clear h; have h := h2; clear h2
      rcases dc_ite h with ⟨hk12, h2⟩ | ⟨hk12, h2⟩
      · subst hk12; clear h; have h := h2; clear h2
        refine dc_tabIn (pc := 20) (off := 72) (tgt := 92) hC dsw_prog_15_method_60_code_20 (by decide +kernel) (by decide +kernel) (by decide +kernel) (by decide +kernel) ?_
        refine dc_aloadn (pc := 92) (j := 0) (i := 0) hC 0 rfl rfl (show decode prog_15_method_60_code 92 = .ok (.aload_n 0, 1) by decide +kernel) ?_
        refine md_g55 (pc := 93) hC (show decode prog_15_method_60_code 93 = .ok (.getfield 78, 3) by decide +kernel) ?_
        refine dc_iloadn (pc := 96) (j := 1) (i := 1) hC 1 rfl rfl (show decode prog_15_method_60_code 96 = .ok (.iload_n 1, 1) by decide +kernel) ?_
        refine md_l55 (pc := 97) hC (show decode prog_15_method_60_code 97 = .ok (.iaload, 1) by decide +kernel) h ?_
        intro j11 h
        exact dc_iret (pc := 98) hC hR ⟨_, dc_some h, rfl, rfl⟩ (show decode prog_15_method_60_code 98 = .ok (.ireturn, 1) by decide +kernel)
      clear h; have h := h2; clear h2
      rcases dc_ite h with ⟨hk14, h2⟩ | ⟨hk14, h2⟩
      · subst hk14; clear h; have h := h2; clear h2
        refine dc_tabIn (pc := 20) (off := 79) (tgt := 99) hC dsw_prog_15_method_60_code_20 (by decide +kernel) (by decide +kernel) (by decide +kernel) (by decide +kernel) ?_
        refine dc_aloadn (pc := 99) (j := 0) (i := 0) hC 0 rfl rfl (show decode prog_15_method_60_code 99 = .ok (.aload_n 0, 1) by decide +kernel) ?_
        refine md_g56 (pc := 100) hC (show decode prog_15_method_60_code 100 = .ok (.getfield 81, 3) by decide +kernel) ?_
        refine dc_iloadn (pc := 103) (j := 1) (i := 1) hC 1 rfl rfl (show decode prog_15_method_60_code 103 = .ok (.iload_n 1, 1) by decide +kernel) ?_
        refine md_l56 (pc := 104) hC (show decode prog_15_method_60_code 104 = .ok (.iaload, 1) by decide +kernel) h ?_
        intro j13 h
        exact dc_iret (pc := 105) hC hR ⟨_, dc_some h, rfl, rfl⟩ (show decode prog_15_method_60_code 105 = .ok (.ireturn, 1) by decide +kernel)
      clear h; have h := h2; clear h2
      rcases dc_ite h with ⟨hk16, h2⟩ | ⟨hk16, h2⟩
      · subst hk16; clear h; have h := h2; clear h2
        refine dc_tabIn (pc := 20) (off := 86) (tgt := 106) hC dsw_prog_15_method_60_code_20 (by decide +kernel) (by decide +kernel) (by decide +kernel) (by decide +kernel) ?_
        refine dc_aloadn (pc := 106) (j := 0) (i := 0) hC 0 rfl rfl (show decode prog_15_method_60_code 106 = .ok (.aload_n 0, 1) by decide +kernel) ?_
        refine md_g57 (pc := 107) hC (show decode prog_15_method_60_code 107 = .ok (.getfield 84, 3) by decide +kernel) ?_
        refine dc_iloadn (pc := 110) (j := 1) (i := 1) hC 1 rfl rfl (show decode prog_15_method_60_code 110 = .ok (.iload_n 1, 1) by decide +kernel) ?_
        refine md_l57 (pc := 111) hC (show decode prog_15_method_60_code 111 = .ok (.iaload, 1) by decide +kernel) h ?_
        intro j15 h
        exact dc_iret (pc := 112) hC hR ⟨_, dc_some h, rfl, rfl⟩ (show decode prog_15_method_60_code 112 = .ok (.ireturn, 1) by decide +kernel)
      clear h; have h := h2; clear h2
      refine dc_tabOut (pc := 20) (tgt := 113) hC dsw_prog_15_method_60_code_20 (by have := dc_swc hk4 (show (0 : Int32).toInt = 0 by decide +kernel); have := dc_swc hk6 (show (1 : Int32).toInt = 1 by decide +kernel); have := dc_swc hk8 (show (2 : Int32).toInt = 2 by decide +kernel); have := dc_swc hk10 (show (3 : Int32).toInt = 3 by decide +kernel); have := dc_swc hk12 (show (4 : Int32).toInt = 4 by decide +kernel); have := dc_swc hk14 (show (5 : Int32).toInt = 5 by decide +kernel); have := dc_swc hk16 (show (6 : Int32).toInt = 6 by decide +kernel); omega) (by decide +kernel) ?_
      refine dc_iconst (pc := 113) (v := (-1)) hC (show decode prog_15_method_60_code 113 = .ok (.iconst (-1), 1) by decide +kernel) (by decide +kernel) ?_
      exact dc_iret (pc := 114) hC hR ⟨_, dc_some h, rfl, rfl⟩ (show decode prog_15_method_60_code 114 = .ok (.ireturn, 1) by decide +kernel)
    · intro h
      exact dc_sub [0] rfl (lab_17 S1 h)
noncomputable def mm_piece_II_L61 (S : md_S) (y0 : Int32) : Option (md_S × Int32) :=
  some (S, y0)
noncomputable def mm_piece_II_L17 (S : md_S) : Option (md_S × Int32) :=
  some (S, (-1))
noncomputable def mm_piece_II (S : md_S) (p1 : Int32) (p2 : Int32) : Option (md_S × Int32) :=
  dc_let (md_i S 0 0) fun S1 => if p1 < 0 then (mm_piece_II_L17 S1) else (if p1 < (S1.1 43) then (if p2 = 0 then ((dc_ix p1 1000).bind fun j2 => mm_piece_II_L61 S1 (S1.2.1 63 j2)) else (if p2 = 1 then ((dc_ix p1 1000).bind fun j3 => mm_piece_II_L61 S1 (S1.2.1 64 j3)) else (if p2 = 2 then ((dc_ix p1 1000).bind fun j4 => mm_piece_II_L61 S1 (S1.2.1 65 j4)) else (mm_piece_II_L61 S1 (-1))))) else (mm_piece_II_L17 S1))
set_option maxHeartbeats 4000000 in
set_option maxRecDepth 100000 in
/-- piece(II)I -/
theorem mm_piece_II_ok (l : Launch) (D : va_G) (ad : Nat → Nat) (de : Nat) (o : Nat) (a : Nat → Nat) (ca : Nat → ClassId) (S : md_S) (p1 : Int32) (p2 : Int32) (F : (md_S × Int32) → Prop) (h : dc_wp (mm_piece_II S p1 p2) F) : dc_Ci l ⟨"SignalEngineModel", "piece", "(II)I"⟩ prog_15_method_61_code 3 (some (.int)) 0 0 D (md_T ca) ad de [.ref o, .int p1, .int p2] (md_W o a ca S) (fun r w => ∃ q, F q ∧ r = q.2 ∧ w = md_W o a ca q.1) 0 0 := by
  refine dc_enteri (by decide +kernel) (Nat.le_of_ble_eq_true rfl) ?_
  intro X hC hR
  have lab_61 : ∀ (S : md_S) (y0 : Int32), dc_wp (mm_piece_II_L61 S y0) F → dc_G X l { frames := 0, cells := 0, slots := 0, locals := 0 } D 3 0 0 (md_W o a ca S) 61 [(0, .ref o)] [.int y0] := by
    intro S y0 h
    delta mm_piece_II_L61 at h
    exact dc_iret (pc := 61) hC hR ⟨_, dc_some h, rfl, rfl⟩ (show decode prog_15_method_61_code 61 = .ok (.ireturn, 1) by decide +kernel)
  have lab_17 : ∀ (S : md_S), dc_wp (mm_piece_II_L17 S) F → dc_G X l { frames := 0, cells := 0, slots := 0, locals := 0 } D 3 0 0 (md_W o a ca S) 17 [(0, .ref o)] [] := by
    intro S  h
    delta mm_piece_II_L17 at h
    refine dc_iconst (pc := 17) (v := (-1)) hC (show decode prog_15_method_61_code 17 = .ok (.iconst (-1), 1) by decide +kernel) (by decide +kernel) ?_
    exact dc_iret (pc := 18) hC hR ⟨_, dc_some h, rfl, rfl⟩ (show decode prog_15_method_61_code 18 = .ok (.ireturn, 1) by decide +kernel)
  show dc_G X l { frames := 0, cells := 0, slots := 0, locals := 0 } D 3 0 0 (md_W o a ca S) 0 [(0, .ref o), (1, .int p1), (2, .int p2)] []
  delta mm_piece_II at h
  refine dc_aloadn (pc := 0) (j := 0) (i := 0) hC 0 rfl rfl (show decode prog_15_method_61_code 0 = .ok (.aload_n 0, 1) by decide +kernel) ?_
  refine dc_iconst (pc := 1) (v := 0) hC (show decode prog_15_method_61_code 1 = .ok (.iconst 0, 1) by decide +kernel) (by decide +kernel) ?_
  refine md_p0 (pc := 2) hC (show decode prog_15_method_61_code 2 = .ok (.putfield 206, 3) by decide +kernel) ?_
  refine dc_letS h ?_
  intro S1 h
  refine dc_iloadn (pc := 5) (j := 1) (i := 1) hC 1 rfl rfl (show decode prog_15_method_61_code 5 = .ok (.iload_n 1, 1) by decide +kernel) ?_
  refine dc_if_lt (pc := 6) (tgt := 17) hC (show decode prog_15_method_61_code 6 = .ok (.ifCond .lt 11, 3) by decide +kernel) (by decide +kernel) h ?_ ?_
  · intro h
    exact dc_sub [0] rfl (lab_17 S1 h)
  · intro h
    refine dc_iloadn (pc := 9) (j := 1) (i := 1) hC 1 rfl rfl (show decode prog_15_method_61_code 9 = .ok (.iload_n 1, 1) by decide +kernel) ?_
    refine dc_aloadn (pc := 10) (j := 0) (i := 0) hC 0 rfl rfl (show decode prog_15_method_61_code 10 = .ok (.aload_n 0, 1) by decide +kernel) ?_
    refine md_g43 (pc := 11) hC (show decode prog_15_method_61_code 11 = .ok (.getfield 501, 3) by decide +kernel) ?_
    refine dc_icmp_lt (pc := 14) (tgt := 19) hC (show decode prog_15_method_61_code 14 = .ok (.if_icmp .lt 5, 3) by decide +kernel) (by decide +kernel) h ?_ ?_
    · intro h
      refine dc_iloadn (pc := 19) (j := 2) (i := 2) hC 2 rfl rfl (show decode prog_15_method_61_code 19 = .ok (.iload_n 2, 1) by decide +kernel) ?_
      refine dc_if_ne (pc := 20) (tgt := 32) hC (show decode prog_15_method_61_code 20 = .ok (.ifCond .ne 12, 3) by decide +kernel) (by decide +kernel) h ?_ ?_
      · intro h
        refine dc_aloadn (pc := 23) (j := 0) (i := 0) hC 0 rfl rfl (show decode prog_15_method_61_code 23 = .ok (.aload_n 0, 1) by decide +kernel) ?_
        refine md_g63 (pc := 24) hC (show decode prog_15_method_61_code 24 = .ok (.getfield 102, 3) by decide +kernel) ?_
        refine dc_iloadn (pc := 27) (j := 1) (i := 1) hC 1 rfl rfl (show decode prog_15_method_61_code 27 = .ok (.iload_n 1, 1) by decide +kernel) ?_
        refine md_l63 (pc := 28) hC (show decode prog_15_method_61_code 28 = .ok (.iaload, 1) by decide +kernel) h ?_
        intro j2 h
        refine dc_goto (pc := 29) (tgt := 61) hC (show decode prog_15_method_61_code 29 = .ok (.goto 32, 3) by decide +kernel) (by decide +kernel) ?_
        exact dc_sub [0] rfl (lab_61 S1 (S1.2.1 63 j2) h)
      · intro h
        refine dc_iloadn (pc := 32) (j := 2) (i := 2) hC 2 rfl rfl (show decode prog_15_method_61_code 32 = .ok (.iload_n 2, 1) by decide +kernel) ?_
        refine dc_iconst (pc := 33) (v := 1) hC (show decode prog_15_method_61_code 33 = .ok (.iconst 1, 1) by decide +kernel) (by decide +kernel) ?_
        refine dc_icmp_ne (pc := 34) (tgt := 46) hC (show decode prog_15_method_61_code 34 = .ok (.if_icmp .ne 12, 3) by decide +kernel) (by decide +kernel) h ?_ ?_
        · intro h
          refine dc_aloadn (pc := 37) (j := 0) (i := 0) hC 0 rfl rfl (show decode prog_15_method_61_code 37 = .ok (.aload_n 0, 1) by decide +kernel) ?_
          refine md_g64 (pc := 38) hC (show decode prog_15_method_61_code 38 = .ok (.getfield 105, 3) by decide +kernel) ?_
          refine dc_iloadn (pc := 41) (j := 1) (i := 1) hC 1 rfl rfl (show decode prog_15_method_61_code 41 = .ok (.iload_n 1, 1) by decide +kernel) ?_
          refine md_l64 (pc := 42) hC (show decode prog_15_method_61_code 42 = .ok (.iaload, 1) by decide +kernel) h ?_
          intro j3 h
          refine dc_goto (pc := 43) (tgt := 61) hC (show decode prog_15_method_61_code 43 = .ok (.goto 18, 3) by decide +kernel) (by decide +kernel) ?_
          exact dc_sub [0] rfl (lab_61 S1 (S1.2.1 64 j3) h)
        · intro h
          refine dc_iloadn (pc := 46) (j := 2) (i := 2) hC 2 rfl rfl (show decode prog_15_method_61_code 46 = .ok (.iload_n 2, 1) by decide +kernel) ?_
          refine dc_iconst (pc := 47) (v := 2) hC (show decode prog_15_method_61_code 47 = .ok (.iconst 2, 1) by decide +kernel) (by decide +kernel) ?_
          refine dc_icmp_ne (pc := 48) (tgt := 60) hC (show decode prog_15_method_61_code 48 = .ok (.if_icmp .ne 12, 3) by decide +kernel) (by decide +kernel) h ?_ ?_
          · intro h
            refine dc_aloadn (pc := 51) (j := 0) (i := 0) hC 0 rfl rfl (show decode prog_15_method_61_code 51 = .ok (.aload_n 0, 1) by decide +kernel) ?_
            refine md_g65 (pc := 52) hC (show decode prog_15_method_61_code 52 = .ok (.getfield 108, 3) by decide +kernel) ?_
            refine dc_iloadn (pc := 55) (j := 1) (i := 1) hC 1 rfl rfl (show decode prog_15_method_61_code 55 = .ok (.iload_n 1, 1) by decide +kernel) ?_
            refine md_l65 (pc := 56) hC (show decode prog_15_method_61_code 56 = .ok (.iaload, 1) by decide +kernel) h ?_
            intro j4 h
            refine dc_goto (pc := 57) (tgt := 61) hC (show decode prog_15_method_61_code 57 = .ok (.goto 4, 3) by decide +kernel) (by decide +kernel) ?_
            exact dc_sub [0] rfl (lab_61 S1 (S1.2.1 65 j4) h)
          · intro h
            refine dc_iconst (pc := 60) (v := (-1)) hC (show decode prog_15_method_61_code 60 = .ok (.iconst (-1), 1) by decide +kernel) (by decide +kernel) ?_
            exact dc_sub [0] rfl (lab_61 S1 (-1) h)
    · intro h
      exact dc_sub [0] rfl (lab_17 S1 h)
noncomputable def mm_letter_II_L46 (S : md_S) (y0 : Int32) : Option (md_S × Int32) :=
  some (S, y0)
noncomputable def mm_letter_II_L31 (S : md_S) : Option (md_S × Int32) :=
  mm_letter_II_L46 S (-1)
noncomputable def mm_letter_II (S : md_S) (p1 : Int32) (p2 : Int32) : Option (md_S × Int32) :=
  dc_let (md_i S 0 0) fun S1 => if p1 < 0 then (mm_letter_II_L31 S1) else (if p1 < (S1.1 44) then (if p2 < 0 then (mm_letter_II_L31 S1) else ((dc_ix p1 400).bind fun j2 => if p2 < (S1.2.1 69 j2) then ((dc_ix ((31 * p1) + p2) 12400).bind fun j3 => mm_letter_II_L46 S1 (S1.2.1 68 j3)) else (mm_letter_II_L31 S1))) else (mm_letter_II_L31 S1))
set_option maxHeartbeats 4000000 in
set_option maxRecDepth 100000 in
/-- letter(II)I -/
theorem mm_letter_II_ok (l : Launch) (D : va_G) (ad : Nat → Nat) (de : Nat) (o : Nat) (a : Nat → Nat) (ca : Nat → ClassId) (S : md_S) (p1 : Int32) (p2 : Int32) (F : (md_S × Int32) → Prop) (h : dc_wp (mm_letter_II S p1 p2) F) : dc_Ci l ⟨"SignalEngineModel", "letter", "(II)I"⟩ prog_15_method_62_code 3 (some (.int)) 0 0 D (md_T ca) ad de [.ref o, .int p1, .int p2] (md_W o a ca S) (fun r w => ∃ q, F q ∧ r = q.2 ∧ w = md_W o a ca q.1) 0 0 := by
  refine dc_enteri (by decide +kernel) (Nat.le_of_ble_eq_true rfl) ?_
  intro X hC hR
  have lab_46 : ∀ (S : md_S) (y0 : Int32), dc_wp (mm_letter_II_L46 S y0) F → dc_G X l { frames := 0, cells := 0, slots := 0, locals := 0 } D 3 0 0 (md_W o a ca S) 46 [(0, .ref o)] [.int y0] := by
    intro S y0 h
    delta mm_letter_II_L46 at h
    exact dc_iret (pc := 46) hC hR ⟨_, dc_some h, rfl, rfl⟩ (show decode prog_15_method_62_code 46 = .ok (.ireturn, 1) by decide +kernel)
  have lab_31 : ∀ (S : md_S), dc_wp (mm_letter_II_L31 S) F → dc_G X l { frames := 0, cells := 0, slots := 0, locals := 0 } D 3 0 0 (md_W o a ca S) 31 [(0, .ref o)] [] := by
    intro S  h
    delta mm_letter_II_L31 at h
    refine dc_iconst (pc := 31) (v := (-1)) hC (show decode prog_15_method_62_code 31 = .ok (.iconst (-1), 1) by decide +kernel) (by decide +kernel) ?_
    refine dc_goto (pc := 32) (tgt := 46) hC (show decode prog_15_method_62_code 32 = .ok (.goto 14, 3) by decide +kernel) (by decide +kernel) ?_
    exact lab_46 S (-1) h
  show dc_G X l { frames := 0, cells := 0, slots := 0, locals := 0 } D 3 0 0 (md_W o a ca S) 0 [(0, .ref o), (1, .int p1), (2, .int p2)] []
  delta mm_letter_II at h
  refine dc_aloadn (pc := 0) (j := 0) (i := 0) hC 0 rfl rfl (show decode prog_15_method_62_code 0 = .ok (.aload_n 0, 1) by decide +kernel) ?_
  refine dc_iconst (pc := 1) (v := 0) hC (show decode prog_15_method_62_code 1 = .ok (.iconst 0, 1) by decide +kernel) (by decide +kernel) ?_
  refine md_p0 (pc := 2) hC (show decode prog_15_method_62_code 2 = .ok (.putfield 206, 3) by decide +kernel) ?_
  refine dc_letS h ?_
  intro S1 h
  refine dc_iloadn (pc := 5) (j := 1) (i := 1) hC 1 rfl rfl (show decode prog_15_method_62_code 5 = .ok (.iload_n 1, 1) by decide +kernel) ?_
  refine dc_if_lt (pc := 6) (tgt := 31) hC (show decode prog_15_method_62_code 6 = .ok (.ifCond .lt 25, 3) by decide +kernel) (by decide +kernel) h ?_ ?_
  · intro h
    exact dc_sub [0] rfl (lab_31 S1 h)
  · intro h
    refine dc_iloadn (pc := 9) (j := 1) (i := 1) hC 1 rfl rfl (show decode prog_15_method_62_code 9 = .ok (.iload_n 1, 1) by decide +kernel) ?_
    refine dc_aloadn (pc := 10) (j := 0) (i := 0) hC 0 rfl rfl (show decode prog_15_method_62_code 10 = .ok (.aload_n 0, 1) by decide +kernel) ?_
    refine md_g44 (pc := 11) hC (show decode prog_15_method_62_code 11 = .ok (.getfield 536, 3) by decide +kernel) ?_
    refine dc_icmp_ge (pc := 14) (tgt := 31) hC (show decode prog_15_method_62_code 14 = .ok (.if_icmp .ge 17, 3) by decide +kernel) (by decide +kernel) h ?_ ?_
    · intro h
      refine dc_iloadn (pc := 17) (j := 2) (i := 2) hC 2 rfl rfl (show decode prog_15_method_62_code 17 = .ok (.iload_n 2, 1) by decide +kernel) ?_
      refine dc_if_lt (pc := 18) (tgt := 31) hC (show decode prog_15_method_62_code 18 = .ok (.ifCond .lt 13, 3) by decide +kernel) (by decide +kernel) h ?_ ?_
      · intro h
        exact dc_sub [0] rfl (lab_31 S1 h)
      · intro h
        refine dc_iloadn (pc := 21) (j := 2) (i := 2) hC 2 rfl rfl (show decode prog_15_method_62_code 21 = .ok (.iload_n 2, 1) by decide +kernel) ?_
        refine dc_aloadn (pc := 22) (j := 0) (i := 0) hC 0 rfl rfl (show decode prog_15_method_62_code 22 = .ok (.aload_n 0, 1) by decide +kernel) ?_
        refine md_g69 (pc := 23) hC (show decode prog_15_method_62_code 23 = .ok (.getfield 120, 3) by decide +kernel) ?_
        refine dc_iloadn (pc := 26) (j := 1) (i := 1) hC 1 rfl rfl (show decode prog_15_method_62_code 26 = .ok (.iload_n 1, 1) by decide +kernel) ?_
        refine md_l69 (pc := 27) hC (show decode prog_15_method_62_code 27 = .ok (.iaload, 1) by decide +kernel) h ?_
        intro j2 h
        refine dc_icmp_lt (pc := 28) (tgt := 35) hC (show decode prog_15_method_62_code 28 = .ok (.if_icmp .lt 7, 3) by decide +kernel) (by decide +kernel) h ?_ ?_
        · intro h
          refine dc_aloadn (pc := 35) (j := 0) (i := 0) hC 0 rfl rfl (show decode prog_15_method_62_code 35 = .ok (.aload_n 0, 1) by decide +kernel) ?_
          refine md_g68 (pc := 36) hC (show decode prog_15_method_62_code 36 = .ok (.getfield 117, 3) by decide +kernel) ?_
          refine dc_bipush (pc := 39) (v := 31) hC (show decode prog_15_method_62_code 39 = .ok (.bipush 31, 2) by decide +kernel) (by decide +kernel) ?_
          refine dc_iloadn (pc := 41) (j := 1) (i := 1) hC 1 rfl rfl (show decode prog_15_method_62_code 41 = .ok (.iload_n 1, 1) by decide +kernel) ?_
          refine dc_imul (pc := 42) hC (show decode prog_15_method_62_code 42 = .ok (.imul, 1) by decide +kernel) ?_
          refine dc_iloadn (pc := 43) (j := 2) (i := 2) hC 2 rfl rfl (show decode prog_15_method_62_code 43 = .ok (.iload_n 2, 1) by decide +kernel) ?_
          refine dc_iadd (pc := 44) hC (show decode prog_15_method_62_code 44 = .ok (.iadd, 1) by decide +kernel) ?_
          refine md_l68 (pc := 45) hC (show decode prog_15_method_62_code 45 = .ok (.baload, 1) by decide +kernel) h ?_
          intro j3 h
          exact dc_sub [0] rfl (lab_46 S1 (S1.2.1 68 j3) h)
        · intro h
          exact dc_sub [0] rfl (lab_31 S1 h)
    · intro h
      exact dc_sub [0] rfl (lab_31 S1 h)
noncomputable def mm_fails_L33 (S : md_S) (y0 : Int32) : Option (md_S × Int32) :=
  (dc_zb y0).bind fun _ => some (S, y0)
noncomputable def mm_fails_L18 (S : md_S) (y0 : Int32) : Option (md_S × Int32) :=
  dc_let (md_i S 0 y0) fun S2 => if (0 : Int32) < (S2.1 0) then (mm_fails_L33 S2 1) else (mm_fails_L33 S2 0)
noncomputable def mm_fails (S : md_S) (p1 : Int32) (p2 : Int32) : Option (md_S × Int32) :=
  if p1 = 0 then (if p2 = 0 then (mm_fails_L18 S 0) else (mm_fails_L18 S 2)) else (mm_fails_L18 S 1)
set_option maxHeartbeats 4000000 in
set_option maxRecDepth 100000 in
/-- fails(ZZ)Z -/
theorem mm_fails_ok (l : Launch) (D : va_G) (ad : Nat → Nat) (de : Nat) (o : Nat) (a : Nat → Nat) (ca : Nat → ClassId) (S : md_S) (p1 : Int32) (p2 : Int32) (F : (md_S × Int32) → Prop) (h : dc_wp (mm_fails S p1 p2) F) : dc_Ci l ⟨"SignalEngineModel", "fails", "(ZZ)Z"⟩ prog_15_method_3_code 3 (some (.boolean)) 0 0 D (md_T ca) ad de [.ref o, .int p1, .int p2] (md_W o a ca S) (fun r w => ∃ q, F q ∧ r = q.2 ∧ w = md_W o a ca q.1) 0 0 := by
  refine dc_enteri (by decide +kernel) (Nat.le_of_ble_eq_true rfl) ?_
  intro X hC hR
  have lab_33 : ∀ (S : md_S) (y0 : Int32), dc_wp (mm_fails_L33 S y0) F → dc_G X l { frames := 0, cells := 0, slots := 0, locals := 0 } D 3 0 0 (md_W o a ca S) 33 [(0, .ref o)] [.int y0] := by
    intro S y0 h
    delta mm_fails_L33 at h
    obtain ⟨hz1, h⟩ := dc_zb_wp (dc_bind h)
    exact dc_zret (pc := 33) hC hR hz1 ⟨_, dc_some h, rfl, rfl⟩ (show decode prog_15_method_3_code 33 = .ok (.ireturn, 1) by decide +kernel)
  have lab_18 : ∀ (S : md_S) (y0 : Int32), dc_wp (mm_fails_L18 S y0) F → dc_G X l { frames := 0, cells := 0, slots := 0, locals := 0 } D 3 0 0 (md_W o a ca S) 18 [(0, .ref o)] [.int y0, .ref o] := by
    intro S y0 h
    delta mm_fails_L18 at h
    refine md_p0 (pc := 18) hC (show decode prog_15_method_3_code 18 = .ok (.putfield 206, 3) by decide +kernel) ?_
    refine dc_letS h ?_
    intro S2 h
    refine dc_aloadn (pc := 21) (j := 0) (i := 0) hC 0 rfl rfl (show decode prog_15_method_3_code 21 = .ok (.aload_n 0, 1) by decide +kernel) ?_
    refine md_g0 (pc := 22) hC (show decode prog_15_method_3_code 22 = .ok (.getfield 206, 3) by decide +kernel) ?_
    refine dc_if_le (pc := 25) (tgt := 32) hC (show decode prog_15_method_3_code 25 = .ok (.ifCond .le 7, 3) by decide +kernel) (by decide +kernel) h ?_ ?_
    · intro h
      refine dc_iconst (pc := 28) (v := 1) hC (show decode prog_15_method_3_code 28 = .ok (.iconst 1, 1) by decide +kernel) (by decide +kernel) ?_
      refine dc_goto (pc := 29) (tgt := 33) hC (show decode prog_15_method_3_code 29 = .ok (.goto 4, 3) by decide +kernel) (by decide +kernel) ?_
      exact lab_33 S2 1 h
    · intro h
      refine dc_iconst (pc := 32) (v := 0) hC (show decode prog_15_method_3_code 32 = .ok (.iconst 0, 1) by decide +kernel) (by decide +kernel) ?_
      exact lab_33 S2 0 h
  show dc_G X l { frames := 0, cells := 0, slots := 0, locals := 0 } D 3 0 0 (md_W o a ca S) 0 [(0, .ref o), (1, .int p1), (2, .int p2)] []
  delta mm_fails at h
  refine dc_aloadn (pc := 0) (j := 0) (i := 0) hC 0 rfl rfl (show decode prog_15_method_3_code 0 = .ok (.aload_n 0, 1) by decide +kernel) ?_
  refine dc_iloadn (pc := 1) (j := 1) (i := 1) hC 1 rfl rfl (show decode prog_15_method_3_code 1 = .ok (.iload_n 1, 1) by decide +kernel) ?_
  refine dc_if_eq (pc := 2) (tgt := 9) hC (show decode prog_15_method_3_code 2 = .ok (.ifCond .eq 7, 3) by decide +kernel) (by decide +kernel) h ?_ ?_
  · intro h
    refine dc_iloadn (pc := 9) (j := 2) (i := 2) hC 2 rfl rfl (show decode prog_15_method_3_code 9 = .ok (.iload_n 2, 1) by decide +kernel) ?_
    refine dc_if_eq (pc := 10) (tgt := 17) hC (show decode prog_15_method_3_code 10 = .ok (.ifCond .eq 7, 3) by decide +kernel) (by decide +kernel) h ?_ ?_
    · intro h
      refine dc_iconst (pc := 17) (v := 0) hC (show decode prog_15_method_3_code 17 = .ok (.iconst 0, 1) by decide +kernel) (by decide +kernel) ?_
      exact dc_sub [0] rfl (lab_18 S 0 h)
    · intro h
      refine dc_iconst (pc := 13) (v := 2) hC (show decode prog_15_method_3_code 13 = .ok (.iconst 2, 1) by decide +kernel) (by decide +kernel) ?_
      refine dc_goto (pc := 14) (tgt := 18) hC (show decode prog_15_method_3_code 14 = .ok (.goto 4, 3) by decide +kernel) (by decide +kernel) ?_
      exact dc_sub [0] rfl (lab_18 S 2 h)
  · intro h
    refine dc_iconst (pc := 5) (v := 1) hC (show decode prog_15_method_3_code 5 = .ok (.iconst 1, 1) by decide +kernel) (by decide +kernel) ?_
    refine dc_goto (pc := 6) (tgt := 18) hC (show decode prog_15_method_3_code 6 = .ok (.goto 12, 3) by decide +kernel) (by decide +kernel) ?_
    exact dc_sub [0] rfl (lab_18 S 1 h)
noncomputable def mm_rest_L26 (S : md_S) : Option (md_S) :=
  some S
noncomputable def mm_rest_b7 (S : md_S) (x1 : Int32) : Option ((md_S × Int32) ⊕ ((md_S))) :=
  if x1 < 62 then ((dc_ix x1 62).bind fun j1 => dc_let (md_a S 84 j1 0) fun S2 => some (.inl (S2, (x1 + 1)))) else (some (.inr S))
noncomputable def mm_rest_s7 (q : md_S × Int32) : Option ((md_S × Int32) ⊕ ((md_S))) :=
  mm_rest_b7 q.1 q.2
noncomputable def mm_rest_L7 (S : md_S) (x1 : Int32) : Option (md_S) :=
  (dc_it (mm_rest_s7) (S, x1)).bind (fun (z : md_S) => mm_rest_L26 z)
noncomputable def mm_rest (S : md_S) : Option (md_S) :=
  dc_let (md_i S 83 0) fun S3 => mm_rest_L7 S3 0
set_option maxHeartbeats 4000000 in
set_option maxRecDepth 100000 in
/-- rest()V -/
theorem mm_rest_ok (l : Launch) (D : va_G) (ad : Nat → Nat) (de : Nat) (o : Nat) (a : Nat → Nat) (ca : Nat → ClassId) (S : md_S) (F : md_S → Prop) (h : dc_wp (mm_rest S) F) : dc_Cv l ⟨"SignalEngineModel", "rest", "()V"⟩ prog_15_method_77_code 2 none 0 0 D (md_T ca) ad de [.ref o] (md_W o a ca S) (fun w => ∃ q, F q ∧ w = md_W o a ca q) 0 0 := by
  refine dc_enterv (by decide +kernel) (Nat.le_of_ble_eq_true rfl) ?_
  intro X hC hR
  have lab_26 : ∀ (S : md_S), dc_wp (mm_rest_L26 S) F → dc_G X l { frames := 0, cells := 0, slots := 0, locals := 0 } D 2 0 0 (md_W o a ca S) 26 [(0, .ref o)] [] := by
    intro S  h
    delta mm_rest_L26 at h
    exact dc_vret (pc := 26) hC hR ⟨_, dc_some h, rfl⟩ (show decode prog_15_method_77_code 26 = .ok (.return_, 1) by decide +kernel)
  have loop_7 : ∀ (q : md_S × Int32), dc_wp (dc_it (mm_rest_s7) q) (fun z => dc_wp ((fun (z : md_S) => mm_rest_L26 z) z) F) → dc_G X l { frames := 0, cells := 0, slots := 0, locals := 0 } D 2 0 0 (md_W o a ca q.1) 7 [(0, .ref o), (1, .int q.2)] [] := by
    refine dc_loopF ?_
    intro F_7 hl_7 hr_7
    rintro ⟨S, x1⟩ h
    have h : dc_wp (mm_rest_b7 S x1) F_7 := h
    delta mm_rest_b7 at h
    refine dc_iloadn (pc := 7) (j := 1) (i := 1) hC 1 rfl rfl (show decode prog_15_method_77_code 7 = .ok (.iload_n 1, 1) by decide +kernel) ?_
    refine dc_bipush (pc := 8) (v := 62) hC (show decode prog_15_method_77_code 8 = .ok (.bipush 62, 2) by decide +kernel) (by decide +kernel) ?_
    refine dc_icmp_ge (pc := 10) (tgt := 26) hC (show decode prog_15_method_77_code 10 = .ok (.if_icmp .ge 16, 3) by decide +kernel) (by decide +kernel) h ?_ ?_
    · intro h
      refine dc_aloadn (pc := 13) (j := 0) (i := 0) hC 0 rfl rfl (show decode prog_15_method_77_code 13 = .ok (.aload_n 0, 1) by decide +kernel) ?_
      refine md_g84 (pc := 14) hC (show decode prog_15_method_77_code 14 = .ok (.getfield 145, 3) by decide +kernel) ?_
      refine dc_iloadn (pc := 17) (j := 1) (i := 1) hC 1 rfl rfl (show decode prog_15_method_77_code 17 = .ok (.iload_n 1, 1) by decide +kernel) ?_
      refine dc_iconst (pc := 18) (v := 0) hC (show decode prog_15_method_77_code 18 = .ok (.iconst 0, 1) by decide +kernel) (by decide +kernel) ?_
      refine md_s84 (pc := 19) hC (show decode prog_15_method_77_code 19 = .ok (.iastore, 1) by decide +kernel) h ?_
      intro j1 h
      refine dc_letS h ?_
      intro S2 h
      refine dc_iinc (pc := 20) (i := 1) (v := (x1 + 1)) (lv' := [(1, .int (x1 + 1)), (0, .ref o)]) hC 1 rfl rfl (Nat.le_of_ble_eq_true rfl) rfl (show decode prog_15_method_77_code 20 = .ok (.iinc 1 1, 3) by decide +kernel) ?_
      refine dc_goto (pc := 23) (tgt := 7) hC (show decode prog_15_method_77_code 23 = .ok (.goto (-16), 3) by decide +kernel) (by decide +kernel) ?_
      exact dc_sub [1, 0] rfl (hl_7 (S2, (x1 + 1)) (dc_some h))
    · intro h
      have h : dc_wp (mm_rest_L26 S) F := hr_7 S (dc_some h)
      exact dc_sub [0] rfl (lab_26 S h)
  have lab_7 : ∀ (S : md_S) (x1 : Int32), dc_wp (mm_rest_L7 S x1) F → dc_G X l { frames := 0, cells := 0, slots := 0, locals := 0 } D 2 0 0 (md_W o a ca S) 7 [(0, .ref o), (1, .int x1)] [] := fun S x1 h => loop_7  (S, x1) (dc_bind h)
  show dc_G X l { frames := 0, cells := 0, slots := 0, locals := 0 } D 2 0 0 (md_W o a ca S) 0 [(0, .ref o)] []
  delta mm_rest at h
  refine dc_aloadn (pc := 0) (j := 0) (i := 0) hC 0 rfl rfl (show decode prog_15_method_77_code 0 = .ok (.aload_n 0, 1) by decide +kernel) ?_
  refine dc_iconst (pc := 1) (v := 0) hC (show decode prog_15_method_77_code 1 = .ok (.iconst 0, 1) by decide +kernel) (by decide +kernel) ?_
  refine md_p83 (pc := 2) hC (show decode prog_15_method_77_code 2 = .ok (.putfield 542, 3) by decide +kernel) ?_
  refine dc_letS h ?_
  intro S3 h
  refine dc_iconst (pc := 5) (v := 0) hC (show decode prog_15_method_77_code 5 = .ok (.iconst 0, 1) by decide +kernel) (by decide +kernel) ?_
  refine dc_istoren (pc := 6) (j := 1) (i := 1) (lv' := [(1, .int 0), (0, .ref o)]) hC rfl (Nat.le_of_ble_eq_true rfl) rfl (show decode prog_15_method_77_code 6 = .ok (.istore_n 1, 1) by decide +kernel) ?_
  exact dc_sub [1, 0] rfl (lab_7 S3 0 h)
noncomputable def mm_place_L64 (S : md_S) : Option (md_S) :=
  some S
noncomputable def mm_place_L57 (S : md_S) (x1 : Int32) (x2 : Int32) (y0 : Int32) (y1 : Int32) : Option ((md_S × Int32) ⊕ ((md_S))) :=
  (dc_zb y0).bind fun _ => (dc_ix y1 200).bind fun j2 => dc_let (md_a S 74 j2 y0) fun S3 => some (.inl (S3, (x2 + 1)))
noncomputable def mm_place_L56 (S : md_S) (x1 : Int32) (x2 : Int32) (y0 : Int32) : Option ((md_S × Int32) ⊕ ((md_S))) :=
  mm_place_L57 S x1 x2 0 y0
noncomputable def mm_place_b18 (S : md_S) (x1 : Int32) (x2 : Int32) : Option ((md_S × Int32) ⊕ ((md_S))) :=
  if x2 < 200 then (if (S.1 77) = 0 then (if x2 < 8 then (if ((x1 >>> (x2 &&& (31 : Int32))) &&& 1) = 1 then (mm_place_L57 S x1 x2 1 x2) else (mm_place_L56 S x1 x2 x2)) else (mm_place_L56 S x1 x2 x2)) else (mm_place_L56 S x1 x2 x2)) else (some (.inr S))
noncomputable def mm_place_s18 (x1 : Int32) (q : md_S × Int32) : Option ((md_S × Int32) ⊕ ((md_S))) :=
  mm_place_b18 q.1 x1 q.2
noncomputable def mm_place_L18 (S : md_S) (x1 : Int32) (x2 : Int32) : Option (md_S) :=
  (dc_it (mm_place_s18 x1) (S, x2)).bind (fun (z : md_S) => mm_place_L64 z)
noncomputable def mm_place_L13 (S : md_S) (x1 : Int32) (y0 : Int32) : Option (md_S) :=
  (dc_zb y0).bind fun _ => dc_let (md_i S 77 y0) fun S5 => mm_place_L18 S5 x1 0
noncomputable def mm_place (S : md_S) (p1 : Int32) : Option (md_S) :=
  if p1 = 256 then (mm_place_L13 S p1 1) else (mm_place_L13 S p1 0)
set_option maxHeartbeats 4000000 in
set_option maxRecDepth 100000 in
/-- place(I)V -/
theorem mm_place_ok (l : Launch) (D : va_G) (ad : Nat → Nat) (de : Nat) (o : Nat) (a : Nat → Nat) (ca : Nat → ClassId) (S : md_S) (p1 : Int32) (F : md_S → Prop) (h : dc_wp (mm_place S p1) F) : dc_Cv l ⟨"SignalEngineModel", "place", "(I)V"⟩ prog_15_method_78_code 3 none 0 0 D (md_T ca) ad de [.ref o, .int p1] (md_W o a ca S) (fun w => ∃ q, F q ∧ w = md_W o a ca q) 0 0 := by
  refine dc_enterv (by decide +kernel) (Nat.le_of_ble_eq_true rfl) ?_
  intro X hC hR
  have lab_64 : ∀ (S : md_S), dc_wp (mm_place_L64 S) F → dc_G X l { frames := 0, cells := 0, slots := 0, locals := 0 } D 3 0 0 (md_W o a ca S) 64 [(0, .ref o)] [] := by
    intro S  h
    delta mm_place_L64 at h
    exact dc_vret (pc := 64) hC hR ⟨_, dc_some h, rfl⟩ (show decode prog_15_method_78_code 64 = .ok (.return_, 1) by decide +kernel)
  have loop_18 : ∀ (x1 : Int32) (q : md_S × Int32), dc_wp (dc_it (mm_place_s18 x1) q) (fun z => dc_wp ((fun (z : md_S) => mm_place_L64 z) z) F) → dc_G X l { frames := 0, cells := 0, slots := 0, locals := 0 } D 3 0 0 (md_W o a ca q.1) 18 [(0, .ref o), (1, .int x1), (2, .int q.2)] [] := by
    intro x1
    refine dc_loopF ?_
    intro F_18 hl_18 hr_18
    have lab_57 : ∀ (S : md_S) (x2 : Int32) (y0 : Int32) (y1 : Int32), dc_wp (mm_place_L57 S x1 x2 y0 y1) F_18 → dc_G X l { frames := 0, cells := 0, slots := 0, locals := 0 } D 3 0 0 (md_W o a ca S) 57 [(0, .ref o), (1, .int x1), (2, .int x2)] [.int y0, .int y1, .ref (a 74)] := by
      intro S x2 y0 y1 h
      delta mm_place_L57 at h
      obtain ⟨hz1, h⟩ := dc_zb_wp (dc_bind h)
      refine md_s74 (pc := 57) hC hz1 (show decode prog_15_method_78_code 57 = .ok (.bastore, 1) by decide +kernel) h ?_
      intro j2 h
      refine dc_letS h ?_
      intro S3 h
      refine dc_iinc (pc := 58) (i := 2) (v := (x2 + 1)) (lv' := [(2, .int (x2 + 1)), (0, .ref o), (1, .int x1)]) hC 2 rfl rfl (Nat.le_of_ble_eq_true rfl) rfl (show decode prog_15_method_78_code 58 = .ok (.iinc 2 1, 3) by decide +kernel) ?_
      refine dc_goto (pc := 61) (tgt := 18) hC (show decode prog_15_method_78_code 61 = .ok (.goto (-43), 3) by decide +kernel) (by decide +kernel) ?_
      exact dc_sub [1, 2, 0] rfl (hl_18 (S3, (x2 + 1)) (dc_some h))
    have lab_56 : ∀ (S : md_S) (x2 : Int32) (y0 : Int32), dc_wp (mm_place_L56 S x1 x2 y0) F_18 → dc_G X l { frames := 0, cells := 0, slots := 0, locals := 0 } D 3 0 0 (md_W o a ca S) 56 [(0, .ref o), (1, .int x1), (2, .int x2)] [.int y0, .ref (a 74)] := by
      intro S x2 y0 h
      delta mm_place_L56 at h
      refine dc_iconst (pc := 56) (v := 0) hC (show decode prog_15_method_78_code 56 = .ok (.iconst 0, 1) by decide +kernel) (by decide +kernel) ?_
      exact lab_57 S x2 0 y0 h
    rintro ⟨S, x2⟩ h
    have h : dc_wp (mm_place_b18 S x1 x2) F_18 := h
    delta mm_place_b18 at h
    refine dc_iloadn (pc := 18) (j := 2) (i := 2) hC 2 rfl rfl (show decode prog_15_method_78_code 18 = .ok (.iload_n 2, 1) by decide +kernel) ?_
    refine dc_sipush (pc := 19) (v := 200) hC (show decode prog_15_method_78_code 19 = .ok (.sipush 200, 3) by decide +kernel) (by decide +kernel) ?_
    refine dc_icmp_ge (pc := 22) (tgt := 64) hC (show decode prog_15_method_78_code 22 = .ok (.if_icmp .ge 42, 3) by decide +kernel) (by decide +kernel) h ?_ ?_
    · intro h
      refine dc_aloadn (pc := 25) (j := 0) (i := 0) hC 0 rfl rfl (show decode prog_15_method_78_code 25 = .ok (.aload_n 0, 1) by decide +kernel) ?_
      refine md_g74 (pc := 26) hC (show decode prog_15_method_78_code 26 = .ok (.getfield 136, 3) by decide +kernel) ?_
      refine dc_iloadn (pc := 29) (j := 2) (i := 2) hC 2 rfl rfl (show decode prog_15_method_78_code 29 = .ok (.iload_n 2, 1) by decide +kernel) ?_
      refine dc_aloadn (pc := 30) (j := 0) (i := 0) hC 0 rfl rfl (show decode prog_15_method_78_code 30 = .ok (.aload_n 0, 1) by decide +kernel) ?_
      refine md_g77 (pc := 31) hC (show decode prog_15_method_78_code 31 = .ok (.getfield 513, 3) by decide +kernel) ?_
      refine dc_if_ne (pc := 34) (tgt := 56) hC (show decode prog_15_method_78_code 34 = .ok (.ifCond .ne 22, 3) by decide +kernel) (by decide +kernel) h ?_ ?_
      · intro h
        refine dc_iloadn (pc := 37) (j := 2) (i := 2) hC 2 rfl rfl (show decode prog_15_method_78_code 37 = .ok (.iload_n 2, 1) by decide +kernel) ?_
        refine dc_bipush (pc := 38) (v := 8) hC (show decode prog_15_method_78_code 38 = .ok (.bipush 8, 2) by decide +kernel) (by decide +kernel) ?_
        refine dc_icmp_ge (pc := 40) (tgt := 56) hC (show decode prog_15_method_78_code 40 = .ok (.if_icmp .ge 16, 3) by decide +kernel) (by decide +kernel) h ?_ ?_
        · intro h
          refine dc_iloadn (pc := 43) (j := 1) (i := 1) hC 1 rfl rfl (show decode prog_15_method_78_code 43 = .ok (.iload_n 1, 1) by decide +kernel) ?_
          refine dc_iloadn (pc := 44) (j := 2) (i := 2) hC 2 rfl rfl (show decode prog_15_method_78_code 44 = .ok (.iload_n 2, 1) by decide +kernel) ?_
          refine dc_ishr (pc := 45) hC (show decode prog_15_method_78_code 45 = .ok (.ishr, 1) by decide +kernel) ?_
          refine dc_iconst (pc := 46) (v := 1) hC (show decode prog_15_method_78_code 46 = .ok (.iconst 1, 1) by decide +kernel) (by decide +kernel) ?_
          refine dc_iand (pc := 47) hC (show decode prog_15_method_78_code 47 = .ok (.iand, 1) by decide +kernel) ?_
          refine dc_iconst (pc := 48) (v := 1) hC (show decode prog_15_method_78_code 48 = .ok (.iconst 1, 1) by decide +kernel) (by decide +kernel) ?_
          refine dc_icmp_ne (pc := 49) (tgt := 56) hC (show decode prog_15_method_78_code 49 = .ok (.if_icmp .ne 7, 3) by decide +kernel) (by decide +kernel) h ?_ ?_
          · intro h
            refine dc_iconst (pc := 52) (v := 1) hC (show decode prog_15_method_78_code 52 = .ok (.iconst 1, 1) by decide +kernel) (by decide +kernel) ?_
            refine dc_goto (pc := 53) (tgt := 57) hC (show decode prog_15_method_78_code 53 = .ok (.goto 4, 3) by decide +kernel) (by decide +kernel) ?_
            exact lab_57 S x2 1 x2 h
          · intro h
            exact lab_56 S x2 x2 h
        · intro h
          exact lab_56 S x2 x2 h
      · intro h
        exact lab_56 S x2 x2 h
    · intro h
      have h : dc_wp (mm_place_L64 S) F := hr_18 S (dc_some h)
      exact dc_sub [0] rfl (lab_64 S h)
  have lab_18 : ∀ (S : md_S) (x1 : Int32) (x2 : Int32), dc_wp (mm_place_L18 S x1 x2) F → dc_G X l { frames := 0, cells := 0, slots := 0, locals := 0 } D 3 0 0 (md_W o a ca S) 18 [(0, .ref o), (1, .int x1), (2, .int x2)] [] := fun S x1 x2 h => loop_18 x1 (S, x2) (dc_bind h)
  have lab_13 : ∀ (S : md_S) (x1 : Int32) (y0 : Int32), dc_wp (mm_place_L13 S x1 y0) F → dc_G X l { frames := 0, cells := 0, slots := 0, locals := 0 } D 3 0 0 (md_W o a ca S) 13 [(0, .ref o), (1, .int x1)] [.int y0, .ref o] := by
    intro S x1 y0 h
    delta mm_place_L13 at h
    obtain ⟨hz4, h⟩ := dc_zb_wp (dc_bind h)
    refine md_p77 (pc := 13) hC hz4 (show decode prog_15_method_78_code 13 = .ok (.putfield 513, 3) by decide +kernel) ?_
    refine dc_letS h ?_
    intro S5 h
    refine dc_iconst (pc := 16) (v := 0) hC (show decode prog_15_method_78_code 16 = .ok (.iconst 0, 1) by decide +kernel) (by decide +kernel) ?_
    refine dc_istoren (pc := 17) (j := 2) (i := 2) (lv' := [(2, .int 0), (0, .ref o), (1, .int x1)]) hC rfl (Nat.le_of_ble_eq_true rfl) rfl (show decode prog_15_method_78_code 17 = .ok (.istore_n 2, 1) by decide +kernel) ?_
    exact dc_sub [1, 2, 0] rfl (lab_18 S5 x1 0 h)
  show dc_G X l { frames := 0, cells := 0, slots := 0, locals := 0 } D 3 0 0 (md_W o a ca S) 0 [(0, .ref o), (1, .int p1)] []
  delta mm_place at h
  refine dc_aloadn (pc := 0) (j := 0) (i := 0) hC 0 rfl rfl (show decode prog_15_method_78_code 0 = .ok (.aload_n 0, 1) by decide +kernel) ?_
  refine dc_iloadn (pc := 1) (j := 1) (i := 1) hC 1 rfl rfl (show decode prog_15_method_78_code 1 = .ok (.iload_n 1, 1) by decide +kernel) ?_
  refine dc_sipush (pc := 2) (v := 256) hC (show decode prog_15_method_78_code 2 = .ok (.sipush 256, 3) by decide +kernel) (by decide +kernel) ?_
  refine dc_icmp_ne (pc := 5) (tgt := 12) hC (show decode prog_15_method_78_code 5 = .ok (.if_icmp .ne 7, 3) by decide +kernel) (by decide +kernel) h ?_ ?_
  · intro h
    refine dc_iconst (pc := 8) (v := 1) hC (show decode prog_15_method_78_code 8 = .ok (.iconst 1, 1) by decide +kernel) (by decide +kernel) ?_
    refine dc_goto (pc := 9) (tgt := 13) hC (show decode prog_15_method_78_code 9 = .ok (.goto 4, 3) by decide +kernel) (by decide +kernel) ?_
    exact lab_13 S p1 1 h
  · intro h
    refine dc_iconst (pc := 12) (v := 0) hC (show decode prog_15_method_78_code 12 = .ok (.iconst 0, 1) by decide +kernel) (by decide +kernel) ?_
    exact lab_13 S p1 0 h
