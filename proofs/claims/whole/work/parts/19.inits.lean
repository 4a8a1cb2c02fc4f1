set_option maxHeartbeats 4000000 in
set_option maxRecDepth 100000 in
/-- SignalEngine.<init> -/
theorem c_SEinit (l : Launch) (D : va_G) (ad : Nat → Nat) (de sz : Nat) (h0 : Nat) (fs_h0 : List Value) (hl_h0 : fs_h0.length = 14) : Met l ⟨"SignalEngine", "<init>", "()V"⟩ (tw ⟨"SignalEngine", "<init>", "()V"⟩ prog_1_method_1_code 1 none) { frames := 1, cells := 1, slots := 80, locals := 13 } (va_Pc [.ref h0] (xp ad de D [(h0, .inr (0, fs_h0))] [] sz)) (va_Qv (fun (_ : (Nat) × (ClassId)) => True) (fun (u : (Nat) × (ClassId)) t => xq D (va_A [(h0, .inr (0, fs_h0))] sz) [(h0, .inr (0, (fs_h0.set 0 (.ref u.1)))), (u.1, .inl (u.2, 80, .inl (fun _ => 0)))] [(u.2, .byte)] t) (va_A [(h0, .inr (0, fs_h0))] sz)) 1 80 (va_A [(h0, .inr (0, fs_h0))] sz) := by
  refine xMet (by decide +kernel) (Nat.le_of_ble_eq_true rfl) ?_
  intro p e s m below meth c hx hb hr hlocks hin hml hown hts hsz hP hK hD hE hA ls hl
  have hS : va_S _ s.heap s.heap [] := va_S.rf (A := va_A [(h0, .inr (0, fs_h0))] sz)
  have hl : lv_has ls 1 [(0, .ref h0)] := hl
  refine lv_aload_n hx hb (show decode prog_1_method_1_code 0 = .ok (.aload_n 0, 1) by decide +kernel) rfl (lv_at hl 0 rfl) ?_
  refine W.objInit hx hb hown (hts _ w_39) (hts _ w_40) (hts _ w_41) rfl (hl.1.trans hml.symm) rfl (show decode prog_1_method_1_code 1 = .ok (.invokespecial 1, 3) by decide +kernel) (Nat.le_of_ble_eq_true rfl) (Nat.le_of_ble_eq_true rfl) ?_
  refine W.eq (g2 := F0 m 4 ls []) rfl ?_
  refine lv_aload_n hx hb (show decode prog_1_method_1_code 4 = .ok (.aload_n 0, 1) by decide +kernel) rfl (lv_at hl 0 rfl) ?_
  refine lv_bipush (v := 80) hx hb (show decode prog_1_method_1_code 5 = .ok (.bipush 80, 2) by decide +kernel) (by decide +kernel) ?_
  refine va_newa (atype := .byte) (a0 := (80, .inl (fun _ => 0))) (ty := .byte) hx hb (hts _ w_85) rfl hK hP hD hS hA (fun _ => rfl) (by decide +kernel) (by decide +kernel) (by decide +kernel) (by decide +kernel) (by decide +kernel) (show decode prog_1_method_1_code 7 = .ok (.newarray .byte, 2) by decide +kernel) (fun q_1 cA_2 H hK hP hD hS => ?_)
  have hP : va_P D cl [(h0, .inr (0, fs_h0)), (q_1, .inl (cA_2, 80, .inl (fun _ => 0)))] H := hP
  have hD : va_D _ [(h0, .inr (0, fs_h0)), (q_1, .inl (cA_2, 80, .inl (fun _ => 0)))] := hD
  have hK : va_K D cl [(cA_2, .byte)] s := hK
  refine W.widen (k := 1) (n := 80) (by decide +kernel) (by decide +kernel) ?_
  refine va_put (D := D) (ci := 0) (v := .ref q_1) (ty := .array .byte) (C := R_SE) (T := F_SE) (N := 14) hx hb hts i_SE t_SE t_SE_ok n_SE hown hK hP hD hS 0 rfl rfl 0 (by decide +kernel) (hts _ w_42) (fun _ h9 => h9) rfl (by decide +kernel) rfl rfl (by simp [hl_h0]) (show decode prog_1_method_1_code 9 = .ok (.putfield 9, 3) by decide +kernel) (fun H locs hP hD hS => ?_)
  have hP : va_P D cl [(h0, .inr (0, (fs_h0.set 0 (.ref q_1)))), (q_1, .inl (cA_2, 80, .inl (fun _ => 0)))] H := hP
  have hD : va_D _ [(h0, .inr (0, (fs_h0.set 0 (.ref q_1)))), (q_1, .inl (cA_2, 80, .inl (fun _ => 0)))] := hD
  exact W.vret hx hb hr (fun t ht hW => ⟨⟨(q_1, cA_2), rfl, trivial, by rw [ht]; exact hP, va_K.moved hW.alike hK, hD⟩, hS.F ht⟩) hS.2.2 (show decode prog_1_method_1_code 12 = .ok (.return_, 1) by decide +kernel)
set_option maxHeartbeats 4000000 in
set_option maxRecDepth 100000 in
/-- the reference: made anew, every field that holds no array stays, the arrays are all 0 -/
theorem c_MDinit (l : Launch) (D : va_G) (ad : Nat → Nat) (de sz : Nat) (h0 : Nat) (fs_h0 : List Value) (hl_h0 : fs_h0.length = 107) : Met l ⟨"SignalEngineModel", "<init>", "()V"⟩ (tw ⟨"SignalEngineModel", "<init>", "()V"⟩ prog_15_method_1_code 1 none) { frames := 1, cells := 63, slots := 427415, locals := 13 } (va_Pc [.ref h0] (xp ad de D [(h0, .inr (1, fs_h0))] [] sz)) (va_Qv (fun (u : List Value × Nat × ClassId × Nat × ClassId × Nat × ClassId) => u.1.length = 107 ∧ mdK u.1 fs_h0 ∧ xfa u.1 1 (.ref u.2.1) ∧ xfa u.1 74 (.ref u.2.2.2.1) ∧ xfa u.1 84 (.ref u.2.2.2.2.2.1)) (fun (u : List Value × Nat × ClassId × Nat × ClassId × Nat × ClassId) t => xq D (va_A [(h0, .inr (1, fs_h0))] sz) [(h0, .inr (1, u.1)), (u.2.1, .inl (u.2.2.1, 32768, .inl (fun _ => 0))), (u.2.2.2.1, .inl (u.2.2.2.2.1, 200, .inl (fun _ => 0))), (u.2.2.2.2.2.1, .inl (u.2.2.2.2.2.2, 62, .inl (fun _ => 0)))] [(u.2.2.1, .byte), (u.2.2.2.2.1, .boolean), (u.2.2.2.2.2.2, .int)] t) (va_A [(h0, .inr (1, fs_h0))] sz)) 63 427415 (va_A [(h0, .inr (1, fs_h0))] sz) := by
  refine xMet (by decide +kernel) (Nat.le_of_ble_eq_true rfl) ?_
  intro p e s m below meth c hx hb hr hlocks hin hml hown hts hsz hP hK hD hE hA ls hl
  have hS : va_S _ s.heap s.heap [] := va_S.rf (A := va_A [(h0, .inr (1, fs_h0))] sz)
  have hl : lv_has ls 1 [(0, .ref h0)] := hl
  refine lv_aload_n hx hb (show decode prog_15_method_1_code 0 = .ok (.aload_n 0, 1) by decide +kernel) rfl (lv_at hl 0 rfl) ?_
  refine W.objInit hx hb hown (hts _ w_1557) (hts _ w_40) (hts _ w_41) rfl (hl.1.trans hml.symm) rfl (show decode prog_15_method_1_code 1 = .ok (.invokespecial 1, 3) by decide +kernel) (Nat.le_of_ble_eq_true rfl) (Nat.le_of_ble_eq_true rfl) ?_
  refine W.eq (g2 := F0 m 4 ls []) rfl ?_
  refine lv_aload_n hx hb (show decode prog_15_method_1_code 4 = .ok (.aload_n 0, 1) by decide +kernel) rfl (lv_at hl 0 rfl) ?_
  refine lv_ldc (v := 32768) hx hb hown (hts _ w_1558) (show decode prog_15_method_1_code 5 = .ok (.ldc 9, 2) by decide +kernel) ?_
  refine va_newa (atype := .byte) (a0 := (32768, .inl (fun _ => 0))) (ty := .byte) hx hb (hts _ w_85) rfl hK hP hD hS hA (fun _ => rfl) (by decide +kernel) (by decide +kernel) (by decide +kernel) (by decide +kernel) (by decide +kernel) (show decode prog_15_method_1_code 7 = .ok (.newarray .byte, 2) by decide +kernel) (fun q_1 cA_2 H hK hP hD hS => ?_)
  have hP : va_P D cl [(h0, .inr (1, fs_h0)), (q_1, .inl (cA_2, 32768, .inl (fun _ => 0)))] H := hP
  have hD : va_D _ [(h0, .inr (1, fs_h0)), (q_1, .inl (cA_2, 32768, .inl (fun _ => 0)))] := hD
  have hK : va_K D cl [(cA_2, .byte)] s := hK
  refine W.widen (k := 1) (n := 32768) (by decide +kernel) (by decide +kernel) ?_
  refine va_putF (D := D) (ci := 1) (v := .ref q_1) (ty := .array .byte) (C := R_MD) (T := F_MD) (N := 107) hx hb hts i_MD t_MD t_MD_ok n_MD hown hK hP hD hS 0 rfl rfl 1 (by decide +kernel) (hts _ w_1563) (fun _ h9 => h9) rfl hin rfl (by decide +kernel) rfl rfl (by simp [hl_h0]) (show decode prog_15_method_1_code 9 = .ok (.putfield 10, 3) by decide +kernel) (fun H locs hP hD hS => ?_)
  have hP : va_P D cl [(h0, .inr (1, (fs_h0.set 1 (.ref q_1)))), (q_1, .inl (cA_2, 32768, .inl (fun _ => 0)))] H := hP
  have hD : va_D _ [(h0, .inr (1, (fs_h0.set 1 (.ref q_1)))), (q_1, .inl (cA_2, 32768, .inl (fun _ => 0)))] := hD
  obtain ⟨fs1, e1⟩ : ∃ z : List Value, z = (fs_h0.set 1 (.ref q_1)) := ⟨_, rfl⟩
  rw [← e1] at hP hD
  have l1 : fs1.length = 107 := md_len e1 hl_h0
  have k1 : mdK fs1 fs_h0 := md_keep e1 (by decide +kernel) (fun _ _ => rfl)
  have r1_1 : xfa fs1 1 (.ref q_1) := md_eq e1 hl_h0 (by decide +kernel)
  refine lv_aload_n hx hb (show decode prog_15_method_1_code 12 = .ok (.aload_n 0, 1) by decide +kernel) rfl (lv_at hl 0 rfl) ?_
  refine lv_sipush (v := 16400) hx hb (show decode prog_15_method_1_code 13 = .ok (.sipush 16400, 3) by decide +kernel) (by decide +kernel) ?_
  refine va_newa (atype := .int) (a0 := (16400, .inl (fun _ => 0))) (ty := .int) hx hb (hts _ w_197) rfl hK hP hD hS hA (fun _ => rfl) (by decide +kernel) (by decide +kernel) (by decide +kernel) (by decide +kernel) (by decide +kernel) (show decode prog_15_method_1_code 16 = .ok (.newarray .int, 2) by decide +kernel) (fun q_3 cA_4 H hK hP hD hS => ?_)
  have hP : va_P D cl [(h0, .inr (1, fs1)), (q_1, .inl (cA_2, 32768, .inl (fun _ => 0))), (q_3, .inl (cA_4, 16400, .inl (fun _ => 0)))] H := hP
  have hD : va_D _ [(h0, .inr (1, fs1)), (q_1, .inl (cA_2, 32768, .inl (fun _ => 0))), (q_3, .inl (cA_4, 16400, .inl (fun _ => 0)))] := hD
  have hK : va_K D cl [(cA_2, .byte), (cA_4, .int)] s := hK
  refine W.widen (k := 2) (n := 49168) (by decide +kernel) (by decide +kernel) ?_
  refine va_putF (D := D) (ci := 1) (v := .ref q_3) (ty := .array .int) (C := R_MD) (T := F_MD) (N := 107) hx hb hts i_MD t_MD t_MD_ok n_MD hown hK hP hD hS 0 rfl rfl 21 (by decide +kernel) (hts _ w_1583) (fun _ h9 => h9) rfl hin rfl (by decide +kernel) rfl rfl (by simp [l1]) (show decode prog_15_method_1_code 18 = .ok (.putfield 14, 3) by decide +kernel) (fun H locs hP hD hS => ?_)
  have hP : va_P D cl [(h0, .inr (1, (fs1.set 21 (.ref q_3)))), (q_1, .inl (cA_2, 32768, .inl (fun _ => 0))), (q_3, .inl (cA_4, 16400, .inl (fun _ => 0)))] H := hP
  have hD : va_D _ [(h0, .inr (1, (fs1.set 21 (.ref q_3)))), (q_1, .inl (cA_2, 32768, .inl (fun _ => 0))), (q_3, .inl (cA_4, 16400, .inl (fun _ => 0)))] := hD
  obtain ⟨fs2, e2⟩ : ∃ z : List Value, z = (fs1.set 21 (.ref q_3)) := ⟨_, rfl⟩
  rw [← e2] at hP hD
  have l2 : fs2.length = 107 := md_len e2 l1
  have k2 : mdK fs2 fs_h0 := md_keep e2 (by decide +kernel) k1
  have r2_1 : xfa fs2 1 (.ref q_1) := md_ne e2 (by decide +kernel) r1_1
  have hP := hP.sub (ws' := [(h0, .inr (1, fs2)), (q_1, .inl (cA_2, 32768, .inl (fun _ => 0)))]) [0, 1] rfl
  have hD := hD.sub (ws' := [(h0, .inr (1, fs2)), (q_1, .inl (cA_2, 32768, .inl (fun _ => 0)))]) [0, 1] (by decide +kernel) rfl
  have hK := hK.sub (tys' := [(cA_2, .byte)]) [0] rfl
  refine lv_aload_n hx hb (show decode prog_15_method_1_code 21 = .ok (.aload_n 0, 1) by decide +kernel) rfl (lv_at hl 0 rfl) ?_
  refine lv_sipush (v := 16400) hx hb (show decode prog_15_method_1_code 22 = .ok (.sipush 16400, 3) by decide +kernel) (by decide +kernel) ?_
  refine va_newa (atype := .int) (a0 := (16400, .inl (fun _ => 0))) (ty := .int) hx hb (hts _ w_197) rfl hK hP hD hS hA (fun _ => rfl) (by decide +kernel) (by decide +kernel) (by decide +kernel) (by decide +kernel) (by decide +kernel) (show decode prog_15_method_1_code 25 = .ok (.newarray .int, 2) by decide +kernel) (fun q_5 cA_6 H hK hP hD hS => ?_)
  have hP : va_P D cl [(h0, .inr (1, fs2)), (q_1, .inl (cA_2, 32768, .inl (fun _ => 0))), (q_5, .inl (cA_6, 16400, .inl (fun _ => 0)))] H := hP
  have hD : va_D _ [(h0, .inr (1, fs2)), (q_1, .inl (cA_2, 32768, .inl (fun _ => 0))), (q_5, .inl (cA_6, 16400, .inl (fun _ => 0)))] := hD
  have hK : va_K D cl [(cA_2, .byte), (cA_6, .int)] s := hK
  refine W.widen (k := 3) (n := 65568) (by decide +kernel) (by decide +kernel) ?_
  refine va_putF (D := D) (ci := 1) (v := .ref q_5) (ty := .array .int) (C := R_MD) (T := F_MD) (N := 107) hx hb hts i_MD t_MD t_MD_ok n_MD hown hK hP hD hS 0 rfl rfl 22 (by decide +kernel) (hts _ w_1584) (fun _ h9 => h9) rfl hin rfl (by decide +kernel) rfl rfl (by simp [l2]) (show decode prog_15_method_1_code 27 = .ok (.putfield 18, 3) by decide +kernel) (fun H locs hP hD hS => ?_)
  have hP : va_P D cl [(h0, .inr (1, (fs2.set 22 (.ref q_5)))), (q_1, .inl (cA_2, 32768, .inl (fun _ => 0))), (q_5, .inl (cA_6, 16400, .inl (fun _ => 0)))] H := hP
  have hD : va_D _ [(h0, .inr (1, (fs2.set 22 (.ref q_5)))), (q_1, .inl (cA_2, 32768, .inl (fun _ => 0))), (q_5, .inl (cA_6, 16400, .inl (fun _ => 0)))] := hD
  obtain ⟨fs3, e3⟩ : ∃ z : List Value, z = (fs2.set 22 (.ref q_5)) := ⟨_, rfl⟩
  rw [← e3] at hP hD
  have l3 : fs3.length = 107 := md_len e3 l2
  have k3 : mdK fs3 fs_h0 := md_keep e3 (by decide +kernel) k2
  have r3_1 : xfa fs3 1 (.ref q_1) := md_ne e3 (by decide +kernel) r2_1
  have hP := hP.sub (ws' := [(h0, .inr (1, fs3)), (q_1, .inl (cA_2, 32768, .inl (fun _ => 0)))]) [0, 1] rfl
  have hD := hD.sub (ws' := [(h0, .inr (1, fs3)), (q_1, .inl (cA_2, 32768, .inl (fun _ => 0)))]) [0, 1] (by decide +kernel) rfl
  have hK := hK.sub (tys' := [(cA_2, .byte)]) [0] rfl
  refine lv_aload_n hx hb (show decode prog_15_method_1_code 30 = .ok (.aload_n 0, 1) by decide +kernel) rfl (lv_at hl 0 rfl) ?_
  refine lv_sipush (v := 16400) hx hb (show decode prog_15_method_1_code 31 = .ok (.sipush 16400, 3) by decide +kernel) (by decide +kernel) ?_
  refine va_newa (atype := .int) (a0 := (16400, .inl (fun _ => 0))) (ty := .int) hx hb (hts _ w_197) rfl hK hP hD hS hA (fun _ => rfl) (by decide +kernel) (by decide +kernel) (by decide +kernel) (by decide +kernel) (by decide +kernel) (show decode prog_15_method_1_code 34 = .ok (.newarray .int, 2) by decide +kernel) (fun q_7 cA_8 H hK hP hD hS => ?_)
  have hP : va_P D cl [(h0, .inr (1, fs3)), (q_1, .inl (cA_2, 32768, .inl (fun _ => 0))), (q_7, .inl (cA_8, 16400, .inl (fun _ => 0)))] H := hP
  have hD : va_D _ [(h0, .inr (1, fs3)), (q_1, .inl (cA_2, 32768, .inl (fun _ => 0))), (q_7, .inl (cA_8, 16400, .inl (fun _ => 0)))] := hD
  have hK : va_K D cl [(cA_2, .byte), (cA_8, .int)] s := hK
  refine W.widen (k := 4) (n := 81968) (by decide +kernel) (by decide +kernel) ?_
  refine va_putF (D := D) (ci := 1) (v := .ref q_7) (ty := .array .int) (C := R_MD) (T := F_MD) (N := 107) hx hb hts i_MD t_MD t_MD_ok n_MD hown hK hP hD hS 0 rfl rfl 23 (by decide +kernel) (hts _ w_1585) (fun _ h9 => h9) rfl hin rfl (by decide +kernel) rfl rfl (by simp [l3]) (show decode prog_15_method_1_code 36 = .ok (.putfield 21, 3) by decide +kernel) (fun H locs hP hD hS => ?_)
  have hP : va_P D cl [(h0, .inr (1, (fs3.set 23 (.ref q_7)))), (q_1, .inl (cA_2, 32768, .inl (fun _ => 0))), (q_7, .inl (cA_8, 16400, .inl (fun _ => 0)))] H := hP
  have hD : va_D _ [(h0, .inr (1, (fs3.set 23 (.ref q_7)))), (q_1, .inl (cA_2, 32768, .inl (fun _ => 0))), (q_7, .inl (cA_8, 16400, .inl (fun _ => 0)))] := hD
  obtain ⟨fs4, e4⟩ : ∃ z : List Value, z = (fs3.set 23 (.ref q_7)) := ⟨_, rfl⟩
  rw [← e4] at hP hD
  have l4 : fs4.length = 107 := md_len e4 l3
  have k4 : mdK fs4 fs_h0 := md_keep e4 (by decide +kernel) k3
  have r4_1 : xfa fs4 1 (.ref q_1) := md_ne e4 (by decide +kernel) r3_1
  have hP := hP.sub (ws' := [(h0, .inr (1, fs4)), (q_1, .inl (cA_2, 32768, .inl (fun _ => 0)))]) [0, 1] rfl
  have hD := hD.sub (ws' := [(h0, .inr (1, fs4)), (q_1, .inl (cA_2, 32768, .inl (fun _ => 0)))]) [0, 1] (by decide +kernel) rfl
  have hK := hK.sub (tys' := [(cA_2, .byte)]) [0] rfl
  refine lv_aload_n hx hb (show decode prog_15_method_1_code 39 = .ok (.aload_n 0, 1) by decide +kernel) rfl (lv_at hl 0 rfl) ?_
  refine lv_bipush (v := 32) hx hb (show decode prog_15_method_1_code 40 = .ok (.bipush 32, 2) by decide +kernel) (by decide +kernel) ?_
  refine va_newa (atype := .int) (a0 := (32, .inl (fun _ => 0))) (ty := .int) hx hb (hts _ w_197) rfl hK hP hD hS hA (fun _ => rfl) (by decide +kernel) (by decide +kernel) (by decide +kernel) (by decide +kernel) (by decide +kernel) (show decode prog_15_method_1_code 42 = .ok (.newarray .int, 2) by decide +kernel) (fun q_9 cA_10 H hK hP hD hS => ?_)
  have hP : va_P D cl [(h0, .inr (1, fs4)), (q_1, .inl (cA_2, 32768, .inl (fun _ => 0))), (q_9, .inl (cA_10, 32, .inl (fun _ => 0)))] H := hP
  have hD : va_D _ [(h0, .inr (1, fs4)), (q_1, .inl (cA_2, 32768, .inl (fun _ => 0))), (q_9, .inl (cA_10, 32, .inl (fun _ => 0)))] := hD
  have hK : va_K D cl [(cA_2, .byte), (cA_10, .int)] s := hK
  refine W.widen (k := 5) (n := 82000) (by decide +kernel) (by decide +kernel) ?_
  refine va_putF (D := D) (ci := 1) (v := .ref q_9) (ty := .array .int) (C := R_MD) (T := F_MD) (N := 107) hx hb hts i_MD t_MD t_MD_ok n_MD hown hK hP hD hS 0 rfl rfl 24 (by decide +kernel) (hts _ w_1586) (fun _ h9 => h9) rfl hin rfl (by decide +kernel) rfl rfl (by simp [l4]) (show decode prog_15_method_1_code 44 = .ok (.putfield 24, 3) by decide +kernel) (fun H locs hP hD hS => ?_)
  have hP : va_P D cl [(h0, .inr (1, (fs4.set 24 (.ref q_9)))), (q_1, .inl (cA_2, 32768, .inl (fun _ => 0))), (q_9, .inl (cA_10, 32, .inl (fun _ => 0)))] H := hP
  have hD : va_D _ [(h0, .inr (1, (fs4.set 24 (.ref q_9)))), (q_1, .inl (cA_2, 32768, .inl (fun _ => 0))), (q_9, .inl (cA_10, 32, .inl (fun _ => 0)))] := hD
  obtain ⟨fs5, e5⟩ : ∃ z : List Value, z = (fs4.set 24 (.ref q_9)) := ⟨_, rfl⟩
  rw [← e5] at hP hD
  have l5 : fs5.length = 107 := md_len e5 l4
  have k5 : mdK fs5 fs_h0 := md_keep e5 (by decide +kernel) k4
  have r5_1 : xfa fs5 1 (.ref q_1) := md_ne e5 (by decide +kernel) r4_1
  have hP := hP.sub (ws' := [(h0, .inr (1, fs5)), (q_1, .inl (cA_2, 32768, .inl (fun _ => 0)))]) [0, 1] rfl
  have hD := hD.sub (ws' := [(h0, .inr (1, fs5)), (q_1, .inl (cA_2, 32768, .inl (fun _ => 0)))]) [0, 1] (by decide +kernel) rfl
  have hK := hK.sub (tys' := [(cA_2, .byte)]) [0] rfl
  refine lv_aload_n hx hb (show decode prog_15_method_1_code 47 = .ok (.aload_n 0, 1) by decide +kernel) rfl (lv_at hl 0 rfl) ?_
  refine lv_bipush (v := 32) hx hb (show decode prog_15_method_1_code 48 = .ok (.bipush 32, 2) by decide +kernel) (by decide +kernel) ?_
  refine va_newa (atype := .int) (a0 := (32, .inl (fun _ => 0))) (ty := .int) hx hb (hts _ w_197) rfl hK hP hD hS hA (fun _ => rfl) (by decide +kernel) (by decide +kernel) (by decide +kernel) (by decide +kernel) (by decide +kernel) (show decode prog_15_method_1_code 50 = .ok (.newarray .int, 2) by decide +kernel) (fun q_11 cA_12 H hK hP hD hS => ?_)
  have hP : va_P D cl [(h0, .inr (1, fs5)), (q_1, .inl (cA_2, 32768, .inl (fun _ => 0))), (q_11, .inl (cA_12, 32, .inl (fun _ => 0)))] H := hP
  have hD : va_D _ [(h0, .inr (1, fs5)), (q_1, .inl (cA_2, 32768, .inl (fun _ => 0))), (q_11, .inl (cA_12, 32, .inl (fun _ => 0)))] := hD
  have hK : va_K D cl [(cA_2, .byte), (cA_12, .int)] s := hK
  refine W.widen (k := 6) (n := 82032) (by decide +kernel) (by decide +kernel) ?_
  refine va_putF (D := D) (ci := 1) (v := .ref q_11) (ty := .array .int) (C := R_MD) (T := F_MD) (N := 107) hx hb hts i_MD t_MD t_MD_ok n_MD hown hK hP hD hS 0 rfl rfl 25 (by decide +kernel) (hts _ w_1587) (fun _ h9 => h9) rfl hin rfl (by decide +kernel) rfl rfl (by simp [l5]) (show decode prog_15_method_1_code 52 = .ok (.putfield 27, 3) by decide +kernel) (fun H locs hP hD hS => ?_)
  have hP : va_P D cl [(h0, .inr (1, (fs5.set 25 (.ref q_11)))), (q_1, .inl (cA_2, 32768, .inl (fun _ => 0))), (q_11, .inl (cA_12, 32, .inl (fun _ => 0)))] H := hP
  have hD : va_D _ [(h0, .inr (1, (fs5.set 25 (.ref q_11)))), (q_1, .inl (cA_2, 32768, .inl (fun _ => 0))), (q_11, .inl (cA_12, 32, .inl (fun _ => 0)))] := hD
  obtain ⟨fs6, e6⟩ : ∃ z : List Value, z = (fs5.set 25 (.ref q_11)) := ⟨_, rfl⟩
  rw [← e6] at hP hD
  have l6 : fs6.length = 107 := md_len e6 l5
  have k6 : mdK fs6 fs_h0 := md_keep e6 (by decide +kernel) k5
  have r6_1 : xfa fs6 1 (.ref q_1) := md_ne e6 (by decide +kernel) r5_1
  have hP := hP.sub (ws' := [(h0, .inr (1, fs6)), (q_1, .inl (cA_2, 32768, .inl (fun _ => 0)))]) [0, 1] rfl
  have hD := hD.sub (ws' := [(h0, .inr (1, fs6)), (q_1, .inl (cA_2, 32768, .inl (fun _ => 0)))]) [0, 1] (by decide +kernel) rfl
  have hK := hK.sub (tys' := [(cA_2, .byte)]) [0] rfl
  refine lv_aload_n hx hb (show decode prog_15_method_1_code 55 = .ok (.aload_n 0, 1) by decide +kernel) rfl (lv_at hl 0 rfl) ?_
  refine lv_bipush (v := 32) hx hb (show decode prog_15_method_1_code 56 = .ok (.bipush 32, 2) by decide +kernel) (by decide +kernel) ?_
  refine va_newa (atype := .int) (a0 := (32, .inl (fun _ => 0))) (ty := .int) hx hb (hts _ w_197) rfl hK hP hD hS hA (fun _ => rfl) (by decide +kernel) (by decide +kernel) (by decide +kernel) (by decide +kernel) (by decide +kernel) (show decode prog_15_method_1_code 58 = .ok (.newarray .int, 2) by decide +kernel) (fun q_13 cA_14 H hK hP hD hS => ?_)
  have hP : va_P D cl [(h0, .inr (1, fs6)), (q_1, .inl (cA_2, 32768, .inl (fun _ => 0))), (q_13, .inl (cA_14, 32, .inl (fun _ => 0)))] H := hP
  have hD : va_D _ [(h0, .inr (1, fs6)), (q_1, .inl (cA_2, 32768, .inl (fun _ => 0))), (q_13, .inl (cA_14, 32, .inl (fun _ => 0)))] := hD
  have hK : va_K D cl [(cA_2, .byte), (cA_14, .int)] s := hK
  refine W.widen (k := 7) (n := 82064) (by decide +kernel) (by decide +kernel) ?_
  refine va_putF (D := D) (ci := 1) (v := .ref q_13) (ty := .array .int) (C := R_MD) (T := F_MD) (N := 107) hx hb hts i_MD t_MD t_MD_ok n_MD hown hK hP hD hS 0 rfl rfl 26 (by decide +kernel) (hts _ w_1588) (fun _ h9 => h9) rfl hin rfl (by decide +kernel) rfl rfl (by simp [l6]) (show decode prog_15_method_1_code 60 = .ok (.putfield 30, 3) by decide +kernel) (fun H locs hP hD hS => ?_)
  have hP : va_P D cl [(h0, .inr (1, (fs6.set 26 (.ref q_13)))), (q_1, .inl (cA_2, 32768, .inl (fun _ => 0))), (q_13, .inl (cA_14, 32, .inl (fun _ => 0)))] H := hP
  have hD : va_D _ [(h0, .inr (1, (fs6.set 26 (.ref q_13)))), (q_1, .inl (cA_2, 32768, .inl (fun _ => 0))), (q_13, .inl (cA_14, 32, .inl (fun _ => 0)))] := hD
  obtain ⟨fs7, e7⟩ : ∃ z : List Value, z = (fs6.set 26 (.ref q_13)) := ⟨_, rfl⟩
  rw [← e7] at hP hD
  have l7 : fs7.length = 107 := md_len e7 l6
  have k7 : mdK fs7 fs_h0 := md_keep e7 (by decide +kernel) k6
  have r7_1 : xfa fs7 1 (.ref q_1) := md_ne e7 (by decide +kernel) r6_1
  have hP := hP.sub (ws' := [(h0, .inr (1, fs7)), (q_1, .inl (cA_2, 32768, .inl (fun _ => 0)))]) [0, 1] rfl
  have hD := hD.sub (ws' := [(h0, .inr (1, fs7)), (q_1, .inl (cA_2, 32768, .inl (fun _ => 0)))]) [0, 1] (by decide +kernel) rfl
  have hK := hK.sub (tys' := [(cA_2, .byte)]) [0] rfl
  refine lv_aload_n hx hb (show decode prog_15_method_1_code 63 = .ok (.aload_n 0, 1) by decide +kernel) rfl (lv_at hl 0 rfl) ?_
  refine lv_sipush (v := 1200) hx hb (show decode prog_15_method_1_code 64 = .ok (.sipush 1200, 3) by decide +kernel) (by decide +kernel) ?_
  refine va_newa (atype := .int) (a0 := (1200, .inl (fun _ => 0))) (ty := .int) hx hb (hts _ w_197) rfl hK hP hD hS hA (fun _ => rfl) (by decide +kernel) (by decide +kernel) (by decide +kernel) (by decide +kernel) (by decide +kernel) (show decode prog_15_method_1_code 67 = .ok (.newarray .int, 2) by decide +kernel) (fun q_15 cA_16 H hK hP hD hS => ?_)
  have hP : va_P D cl [(h0, .inr (1, fs7)), (q_1, .inl (cA_2, 32768, .inl (fun _ => 0))), (q_15, .inl (cA_16, 1200, .inl (fun _ => 0)))] H := hP
  have hD : va_D _ [(h0, .inr (1, fs7)), (q_1, .inl (cA_2, 32768, .inl (fun _ => 0))), (q_15, .inl (cA_16, 1200, .inl (fun _ => 0)))] := hD
  have hK : va_K D cl [(cA_2, .byte), (cA_16, .int)] s := hK
  refine W.widen (k := 8) (n := 83264) (by decide +kernel) (by decide +kernel) ?_
  refine va_putF (D := D) (ci := 1) (v := .ref q_15) (ty := .array .int) (C := R_MD) (T := F_MD) (N := 107) hx hb hts i_MD t_MD t_MD_ok n_MD hown hK hP hD hS 0 rfl rfl 30 (by decide +kernel) (hts _ w_1592) (fun _ h9 => h9) rfl hin rfl (by decide +kernel) rfl rfl (by simp [l7]) (show decode prog_15_method_1_code 69 = .ok (.putfield 33, 3) by decide +kernel) (fun H locs hP hD hS => ?_)
  have hP : va_P D cl [(h0, .inr (1, (fs7.set 30 (.ref q_15)))), (q_1, .inl (cA_2, 32768, .inl (fun _ => 0))), (q_15, .inl (cA_16, 1200, .inl (fun _ => 0)))] H := hP
  have hD : va_D _ [(h0, .inr (1, (fs7.set 30 (.ref q_15)))), (q_1, .inl (cA_2, 32768, .inl (fun _ => 0))), (q_15, .inl (cA_16, 1200, .inl (fun _ => 0)))] := hD
  obtain ⟨fs8, e8⟩ : ∃ z : List Value, z = (fs7.set 30 (.ref q_15)) := ⟨_, rfl⟩
  rw [← e8] at hP hD
  have l8 : fs8.length = 107 := md_len e8 l7
  have k8 : mdK fs8 fs_h0 := md_keep e8 (by decide +kernel) k7
  have r8_1 : xfa fs8 1 (.ref q_1) := md_ne e8 (by decide +kernel) r7_1
  have hP := hP.sub (ws' := [(h0, .inr (1, fs8)), (q_1, .inl (cA_2, 32768, .inl (fun _ => 0)))]) [0, 1] rfl
  have hD := hD.sub (ws' := [(h0, .inr (1, fs8)), (q_1, .inl (cA_2, 32768, .inl (fun _ => 0)))]) [0, 1] (by decide +kernel) rfl
  have hK := hK.sub (tys' := [(cA_2, .byte)]) [0] rfl
  refine lv_aload_n hx hb (show decode prog_15_method_1_code 72 = .ok (.aload_n 0, 1) by decide +kernel) rfl (lv_at hl 0 rfl) ?_
  refine lv_sipush (v := 1200) hx hb (show decode prog_15_method_1_code 73 = .ok (.sipush 1200, 3) by decide +kernel) (by decide +kernel) ?_
  refine va_newa (atype := .int) (a0 := (1200, .inl (fun _ => 0))) (ty := .int) hx hb (hts _ w_197) rfl hK hP hD hS hA (fun _ => rfl) (by decide +kernel) (by decide +kernel) (by decide +kernel) (by decide +kernel) (by decide +kernel) (show decode prog_15_method_1_code 76 = .ok (.newarray .int, 2) by decide +kernel) (fun q_17 cA_18 H hK hP hD hS => ?_)
  have hP : va_P D cl [(h0, .inr (1, fs8)), (q_1, .inl (cA_2, 32768, .inl (fun _ => 0))), (q_17, .inl (cA_18, 1200, .inl (fun _ => 0)))] H := hP
  have hD : va_D _ [(h0, .inr (1, fs8)), (q_1, .inl (cA_2, 32768, .inl (fun _ => 0))), (q_17, .inl (cA_18, 1200, .inl (fun _ => 0)))] := hD
  have hK : va_K D cl [(cA_2, .byte), (cA_18, .int)] s := hK
  refine W.widen (k := 9) (n := 84464) (by decide +kernel) (by decide +kernel) ?_
  refine va_putF (D := D) (ci := 1) (v := .ref q_17) (ty := .array .int) (C := R_MD) (T := F_MD) (N := 107) hx hb hts i_MD t_MD t_MD_ok n_MD hown hK hP hD hS 0 rfl rfl 31 (by decide +kernel) (hts _ w_1593) (fun _ h9 => h9) rfl hin rfl (by decide +kernel) rfl rfl (by simp [l8]) (show decode prog_15_method_1_code 78 = .ok (.putfield 36, 3) by decide +kernel) (fun H locs hP hD hS => ?_)
  have hP : va_P D cl [(h0, .inr (1, (fs8.set 31 (.ref q_17)))), (q_1, .inl (cA_2, 32768, .inl (fun _ => 0))), (q_17, .inl (cA_18, 1200, .inl (fun _ => 0)))] H := hP
  have hD : va_D _ [(h0, .inr (1, (fs8.set 31 (.ref q_17)))), (q_1, .inl (cA_2, 32768, .inl (fun _ => 0))), (q_17, .inl (cA_18, 1200, .inl (fun _ => 0)))] := hD
  obtain ⟨fs9, e9⟩ : ∃ z : List Value, z = (fs8.set 31 (.ref q_17)) := ⟨_, rfl⟩
  rw [← e9] at hP hD
  have l9 : fs9.length = 107 := md_len e9 l8
  have k9 : mdK fs9 fs_h0 := md_keep e9 (by decide +kernel) k8
  have r9_1 : xfa fs9 1 (.ref q_1) := md_ne e9 (by decide +kernel) r8_1
  have hP := hP.sub (ws' := [(h0, .inr (1, fs9)), (q_1, .inl (cA_2, 32768, .inl (fun _ => 0)))]) [0, 1] rfl
  have hD := hD.sub (ws' := [(h0, .inr (1, fs9)), (q_1, .inl (cA_2, 32768, .inl (fun _ => 0)))]) [0, 1] (by decide +kernel) rfl
  have hK := hK.sub (tys' := [(cA_2, .byte)]) [0] rfl
  refine lv_aload_n hx hb (show decode prog_15_method_1_code 81 = .ok (.aload_n 0, 1) by decide +kernel) rfl (lv_at hl 0 rfl) ?_
  refine lv_sipush (v := 1200) hx hb (show decode prog_15_method_1_code 82 = .ok (.sipush 1200, 3) by decide +kernel) (by decide +kernel) ?_
  refine va_newa (atype := .int) (a0 := (1200, .inl (fun _ => 0))) (ty := .int) hx hb (hts _ w_197) rfl hK hP hD hS hA (fun _ => rfl) (by decide +kernel) (by decide +kernel) (by decide +kernel) (by decide +kernel) (by decide +kernel) (show decode prog_15_method_1_code 85 = .ok (.newarray .int, 2) by decide +kernel) (fun q_19 cA_20 H hK hP hD hS => ?_)
  have hP : va_P D cl [(h0, .inr (1, fs9)), (q_1, .inl (cA_2, 32768, .inl (fun _ => 0))), (q_19, .inl (cA_20, 1200, .inl (fun _ => 0)))] H := hP
  have hD : va_D _ [(h0, .inr (1, fs9)), (q_1, .inl (cA_2, 32768, .inl (fun _ => 0))), (q_19, .inl (cA_20, 1200, .inl (fun _ => 0)))] := hD
  have hK : va_K D cl [(cA_2, .byte), (cA_20, .int)] s := hK
  refine W.widen (k := 10) (n := 85664) (by decide +kernel) (by decide +kernel) ?_
  refine va_putF (D := D) (ci := 1) (v := .ref q_19) (ty := .array .int) (C := R_MD) (T := F_MD) (N := 107) hx hb hts i_MD t_MD t_MD_ok n_MD hown hK hP hD hS 0 rfl rfl 32 (by decide +kernel) (hts _ w_1594) (fun _ h9 => h9) rfl hin rfl (by decide +kernel) rfl rfl (by simp [l9]) (show decode prog_15_method_1_code 87 = .ok (.putfield 39, 3) by decide +kernel) (fun H locs hP hD hS => ?_)
  have hP : va_P D cl [(h0, .inr (1, (fs9.set 32 (.ref q_19)))), (q_1, .inl (cA_2, 32768, .inl (fun _ => 0))), (q_19, .inl (cA_20, 1200, .inl (fun _ => 0)))] H := hP
  have hD : va_D _ [(h0, .inr (1, (fs9.set 32 (.ref q_19)))), (q_1, .inl (cA_2, 32768, .inl (fun _ => 0))), (q_19, .inl (cA_20, 1200, .inl (fun _ => 0)))] := hD
  obtain ⟨fs10, e10⟩ : ∃ z : List Value, z = (fs9.set 32 (.ref q_19)) := ⟨_, rfl⟩
  rw [← e10] at hP hD
  have l10 : fs10.length = 107 := md_len e10 l9
  have k10 : mdK fs10 fs_h0 := md_keep e10 (by decide +kernel) k9
  have r10_1 : xfa fs10 1 (.ref q_1) := md_ne e10 (by decide +kernel) r9_1
  have hP := hP.sub (ws' := [(h0, .inr (1, fs10)), (q_1, .inl (cA_2, 32768, .inl (fun _ => 0)))]) [0, 1] rfl
  have hD := hD.sub (ws' := [(h0, .inr (1, fs10)), (q_1, .inl (cA_2, 32768, .inl (fun _ => 0)))]) [0, 1] (by decide +kernel) rfl
  have hK := hK.sub (tys' := [(cA_2, .byte)]) [0] rfl
  refine lv_aload_n hx hb (show decode prog_15_method_1_code 90 = .ok (.aload_n 0, 1) by decide +kernel) rfl (lv_at hl 0 rfl) ?_
  refine lv_sipush (v := 1200) hx hb (show decode prog_15_method_1_code 91 = .ok (.sipush 1200, 3) by decide +kernel) (by decide +kernel) ?_
  refine va_newa (atype := .int) (a0 := (1200, .inl (fun _ => 0))) (ty := .int) hx hb (hts _ w_197) rfl hK hP hD hS hA (fun _ => rfl) (by decide +kernel) (by decide +kernel) (by decide +kernel) (by decide +kernel) (by decide +kernel) (show decode prog_15_method_1_code 94 = .ok (.newarray .int, 2) by decide +kernel) (fun q_21 cA_22 H hK hP hD hS => ?_)
  have hP : va_P D cl [(h0, .inr (1, fs10)), (q_1, .inl (cA_2, 32768, .inl (fun _ => 0))), (q_21, .inl (cA_22, 1200, .inl (fun _ => 0)))] H := hP
  have hD : va_D _ [(h0, .inr (1, fs10)), (q_1, .inl (cA_2, 32768, .inl (fun _ => 0))), (q_21, .inl (cA_22, 1200, .inl (fun _ => 0)))] := hD
  have hK : va_K D cl [(cA_2, .byte), (cA_22, .int)] s := hK
  refine W.widen (k := 11) (n := 86864) (by decide +kernel) (by decide +kernel) ?_
  refine va_putF (D := D) (ci := 1) (v := .ref q_21) (ty := .array .int) (C := R_MD) (T := F_MD) (N := 107) hx hb hts i_MD t_MD t_MD_ok n_MD hown hK hP hD hS 0 rfl rfl 33 (by decide +kernel) (hts _ w_1595) (fun _ h9 => h9) rfl hin rfl (by decide +kernel) rfl rfl (by simp [l10]) (show decode prog_15_method_1_code 96 = .ok (.putfield 42, 3) by decide +kernel) (fun H locs hP hD hS => ?_)
  have hP : va_P D cl [(h0, .inr (1, (fs10.set 33 (.ref q_21)))), (q_1, .inl (cA_2, 32768, .inl (fun _ => 0))), (q_21, .inl (cA_22, 1200, .inl (fun _ => 0)))] H := hP
  have hD : va_D _ [(h0, .inr (1, (fs10.set 33 (.ref q_21)))), (q_1, .inl (cA_2, 32768, .inl (fun _ => 0))), (q_21, .inl (cA_22, 1200, .inl (fun _ => 0)))] := hD
  obtain ⟨fs11, e11⟩ : ∃ z : List Value, z = (fs10.set 33 (.ref q_21)) := ⟨_, rfl⟩
  rw [← e11] at hP hD
  have l11 : fs11.length = 107 := md_len e11 l10
  have k11 : mdK fs11 fs_h0 := md_keep e11 (by decide +kernel) k10
  have r11_1 : xfa fs11 1 (.ref q_1) := md_ne e11 (by decide +kernel) r10_1
  have hP := hP.sub (ws' := [(h0, .inr (1, fs11)), (q_1, .inl (cA_2, 32768, .inl (fun _ => 0)))]) [0, 1] rfl
  have hD := hD.sub (ws' := [(h0, .inr (1, fs11)), (q_1, .inl (cA_2, 32768, .inl (fun _ => 0)))]) [0, 1] (by decide +kernel) rfl
  have hK := hK.sub (tys' := [(cA_2, .byte)]) [0] rfl
  refine lv_aload_n hx hb (show decode prog_15_method_1_code 99 = .ok (.aload_n 0, 1) by decide +kernel) rfl (lv_at hl 0 rfl) ?_
  refine lv_sipush (v := 1200) hx hb (show decode prog_15_method_1_code 100 = .ok (.sipush 1200, 3) by decide +kernel) (by decide +kernel) ?_
  refine va_newa (atype := .int) (a0 := (1200, .inl (fun _ => 0))) (ty := .int) hx hb (hts _ w_197) rfl hK hP hD hS hA (fun _ => rfl) (by decide +kernel) (by decide +kernel) (by decide +kernel) (by decide +kernel) (by decide +kernel) (show decode prog_15_method_1_code 103 = .ok (.newarray .int, 2) by decide +kernel) (fun q_23 cA_24 H hK hP hD hS => ?_)
  have hP : va_P D cl [(h0, .inr (1, fs11)), (q_1, .inl (cA_2, 32768, .inl (fun _ => 0))), (q_23, .inl (cA_24, 1200, .inl (fun _ => 0)))] H := hP
  have hD : va_D _ [(h0, .inr (1, fs11)), (q_1, .inl (cA_2, 32768, .inl (fun _ => 0))), (q_23, .inl (cA_24, 1200, .inl (fun _ => 0)))] := hD
  have hK : va_K D cl [(cA_2, .byte), (cA_24, .int)] s := hK
  refine W.widen (k := 12) (n := 88064) (by decide +kernel) (by decide +kernel) ?_
  refine va_putF (D := D) (ci := 1) (v := .ref q_23) (ty := .array .int) (C := R_MD) (T := F_MD) (N := 107) hx hb hts i_MD t_MD t_MD_ok n_MD hown hK hP hD hS 0 rfl rfl 34 (by decide +kernel) (hts _ w_1596) (fun _ h9 => h9) rfl hin rfl (by decide +kernel) rfl rfl (by simp [l11]) (show decode prog_15_method_1_code 105 = .ok (.putfield 45, 3) by decide +kernel) (fun H locs hP hD hS => ?_)
  have hP : va_P D cl [(h0, .inr (1, (fs11.set 34 (.ref q_23)))), (q_1, .inl (cA_2, 32768, .inl (fun _ => 0))), (q_23, .inl (cA_24, 1200, .inl (fun _ => 0)))] H := hP
  have hD : va_D _ [(h0, .inr (1, (fs11.set 34 (.ref q_23)))), (q_1, .inl (cA_2, 32768, .inl (fun _ => 0))), (q_23, .inl (cA_24, 1200, .inl (fun _ => 0)))] := hD
  obtain ⟨fs12, e12⟩ : ∃ z : List Value, z = (fs11.set 34 (.ref q_23)) := ⟨_, rfl⟩
  rw [← e12] at hP hD
  have l12 : fs12.length = 107 := md_len e12 l11
  have k12 : mdK fs12 fs_h0 := md_keep e12 (by decide +kernel) k11
  have r12_1 : xfa fs12 1 (.ref q_1) := md_ne e12 (by decide +kernel) r11_1
  have hP := hP.sub (ws' := [(h0, .inr (1, fs12)), (q_1, .inl (cA_2, 32768, .inl (fun _ => 0)))]) [0, 1] rfl
  have hD := hD.sub (ws' := [(h0, .inr (1, fs12)), (q_1, .inl (cA_2, 32768, .inl (fun _ => 0)))]) [0, 1] (by decide +kernel) rfl
  have hK := hK.sub (tys' := [(cA_2, .byte)]) [0] rfl
  refine lv_aload_n hx hb (show decode prog_15_method_1_code 108 = .ok (.aload_n 0, 1) by decide +kernel) rfl (lv_at hl 0 rfl) ?_
  refine lv_sipush (v := 1200) hx hb (show decode prog_15_method_1_code 109 = .ok (.sipush 1200, 3) by decide +kernel) (by decide +kernel) ?_
  refine va_newa (atype := .int) (a0 := (1200, .inl (fun _ => 0))) (ty := .int) hx hb (hts _ w_197) rfl hK hP hD hS hA (fun _ => rfl) (by decide +kernel) (by decide +kernel) (by decide +kernel) (by decide +kernel) (by decide +kernel) (show decode prog_15_method_1_code 112 = .ok (.newarray .int, 2) by decide +kernel) (fun q_25 cA_26 H hK hP hD hS => ?_)
  have hP : va_P D cl [(h0, .inr (1, fs12)), (q_1, .inl (cA_2, 32768, .inl (fun _ => 0))), (q_25, .inl (cA_26, 1200, .inl (fun _ => 0)))] H := hP
  have hD : va_D _ [(h0, .inr (1, fs12)), (q_1, .inl (cA_2, 32768, .inl (fun _ => 0))), (q_25, .inl (cA_26, 1200, .inl (fun _ => 0)))] := hD
  have hK : va_K D cl [(cA_2, .byte), (cA_26, .int)] s := hK
  refine W.widen (k := 13) (n := 89264) (by decide +kernel) (by decide +kernel) ?_
  refine va_putF (D := D) (ci := 1) (v := .ref q_25) (ty := .array .int) (C := R_MD) (T := F_MD) (N := 107) hx hb hts i_MD t_MD t_MD_ok n_MD hown hK hP hD hS 0 rfl rfl 35 (by decide +kernel) (hts _ w_1597) (fun _ h9 => h9) rfl hin rfl (by decide +kernel) rfl rfl (by simp [l12]) (show decode prog_15_method_1_code 114 = .ok (.putfield 48, 3) by decide +kernel) (fun H locs hP hD hS => ?_)
  have hP : va_P D cl [(h0, .inr (1, (fs12.set 35 (.ref q_25)))), (q_1, .inl (cA_2, 32768, .inl (fun _ => 0))), (q_25, .inl (cA_26, 1200, .inl (fun _ => 0)))] H := hP
  have hD : va_D _ [(h0, .inr (1, (fs12.set 35 (.ref q_25)))), (q_1, .inl (cA_2, 32768, .inl (fun _ => 0))), (q_25, .inl (cA_26, 1200, .inl (fun _ => 0)))] := hD
  obtain ⟨fs13, e13⟩ : ∃ z : List Value, z = (fs12.set 35 (.ref q_25)) := ⟨_, rfl⟩
  rw [← e13] at hP hD
  have l13 : fs13.length = 107 := md_len e13 l12
  have k13 : mdK fs13 fs_h0 := md_keep e13 (by decide +kernel) k12
  have r13_1 : xfa fs13 1 (.ref q_1) := md_ne e13 (by decide +kernel) r12_1
  have hP := hP.sub (ws' := [(h0, .inr (1, fs13)), (q_1, .inl (cA_2, 32768, .inl (fun _ => 0)))]) [0, 1] rfl
  have hD := hD.sub (ws' := [(h0, .inr (1, fs13)), (q_1, .inl (cA_2, 32768, .inl (fun _ => 0)))]) [0, 1] (by decide +kernel) rfl
  have hK := hK.sub (tys' := [(cA_2, .byte)]) [0] rfl
  refine lv_aload_n hx hb (show decode prog_15_method_1_code 117 = .ok (.aload_n 0, 1) by decide +kernel) rfl (lv_at hl 0 rfl) ?_
  refine lv_sipush (v := 1000) hx hb (show decode prog_15_method_1_code 118 = .ok (.sipush 1000, 3) by decide +kernel) (by decide +kernel) ?_
  refine va_newa (atype := .int) (a0 := (1000, .inl (fun _ => 0))) (ty := .int) hx hb (hts _ w_197) rfl hK hP hD hS hA (fun _ => rfl) (by decide +kernel) (by decide +kernel) (by decide +kernel) (by decide +kernel) (by decide +kernel) (show decode prog_15_method_1_code 121 = .ok (.newarray .int, 2) by decide +kernel) (fun q_27 cA_28 H hK hP hD hS => ?_)
  have hP : va_P D cl [(h0, .inr (1, fs13)), (q_1, .inl (cA_2, 32768, .inl (fun _ => 0))), (q_27, .inl (cA_28, 1000, .inl (fun _ => 0)))] H := hP
  have hD : va_D _ [(h0, .inr (1, fs13)), (q_1, .inl (cA_2, 32768, .inl (fun _ => 0))), (q_27, .inl (cA_28, 1000, .inl (fun _ => 0)))] := hD
  have hK : va_K D cl [(cA_2, .byte), (cA_28, .int)] s := hK
  refine W.widen (k := 14) (n := 90264) (by decide +kernel) (by decide +kernel) ?_
  refine va_putF (D := D) (ci := 1) (v := .ref q_27) (ty := .array .int) (C := R_MD) (T := F_MD) (N := 107) hx hb hts i_MD t_MD t_MD_ok n_MD hown hK hP hD hS 0 rfl rfl 36 (by decide +kernel) (hts _ w_1598) (fun _ h9 => h9) rfl hin rfl (by decide +kernel) rfl rfl (by simp [l13]) (show decode prog_15_method_1_code 123 = .ok (.putfield 51, 3) by decide +kernel) (fun H locs hP hD hS => ?_)
  have hP : va_P D cl [(h0, .inr (1, (fs13.set 36 (.ref q_27)))), (q_1, .inl (cA_2, 32768, .inl (fun _ => 0))), (q_27, .inl (cA_28, 1000, .inl (fun _ => 0)))] H := hP
  have hD : va_D _ [(h0, .inr (1, (fs13.set 36 (.ref q_27)))), (q_1, .inl (cA_2, 32768, .inl (fun _ => 0))), (q_27, .inl (cA_28, 1000, .inl (fun _ => 0)))] := hD
  obtain ⟨fs14, e14⟩ : ∃ z : List Value, z = (fs13.set 36 (.ref q_27)) := ⟨_, rfl⟩
  rw [← e14] at hP hD
  have l14 : fs14.length = 107 := md_len e14 l13
  have k14 : mdK fs14 fs_h0 := md_keep e14 (by decide +kernel) k13
  have r14_1 : xfa fs14 1 (.ref q_1) := md_ne e14 (by decide +kernel) r13_1
  have hP := hP.sub (ws' := [(h0, .inr (1, fs14)), (q_1, .inl (cA_2, 32768, .inl (fun _ => 0)))]) [0, 1] rfl
  have hD := hD.sub (ws' := [(h0, .inr (1, fs14)), (q_1, .inl (cA_2, 32768, .inl (fun _ => 0)))]) [0, 1] (by decide +kernel) rfl
  have hK := hK.sub (tys' := [(cA_2, .byte)]) [0] rfl
  refine lv_aload_n hx hb (show decode prog_15_method_1_code 126 = .ok (.aload_n 0, 1) by decide +kernel) rfl (lv_at hl 0 rfl) ?_
  refine lv_sipush (v := 1000) hx hb (show decode prog_15_method_1_code 127 = .ok (.sipush 1000, 3) by decide +kernel) (by decide +kernel) ?_
  refine va_newa (atype := .int) (a0 := (1000, .inl (fun _ => 0))) (ty := .int) hx hb (hts _ w_197) rfl hK hP hD hS hA (fun _ => rfl) (by decide +kernel) (by decide +kernel) (by decide +kernel) (by decide +kernel) (by decide +kernel) (show decode prog_15_method_1_code 130 = .ok (.newarray .int, 2) by decide +kernel) (fun q_29 cA_30 H hK hP hD hS => ?_)
  have hP : va_P D cl [(h0, .inr (1, fs14)), (q_1, .inl (cA_2, 32768, .inl (fun _ => 0))), (q_29, .inl (cA_30, 1000, .inl (fun _ => 0)))] H := hP
  have hD : va_D _ [(h0, .inr (1, fs14)), (q_1, .inl (cA_2, 32768, .inl (fun _ => 0))), (q_29, .inl (cA_30, 1000, .inl (fun _ => 0)))] := hD
  have hK : va_K D cl [(cA_2, .byte), (cA_30, .int)] s := hK
  refine W.widen (k := 15) (n := 91264) (by decide +kernel) (by decide +kernel) ?_
  refine va_putF (D := D) (ci := 1) (v := .ref q_29) (ty := .array .int) (C := R_MD) (T := F_MD) (N := 107) hx hb hts i_MD t_MD t_MD_ok n_MD hown hK hP hD hS 0 rfl rfl 37 (by decide +kernel) (hts _ w_1599) (fun _ h9 => h9) rfl hin rfl (by decide +kernel) rfl rfl (by simp [l14]) (show decode prog_15_method_1_code 132 = .ok (.putfield 54, 3) by decide +kernel) (fun H locs hP hD hS => ?_)
  have hP : va_P D cl [(h0, .inr (1, (fs14.set 37 (.ref q_29)))), (q_1, .inl (cA_2, 32768, .inl (fun _ => 0))), (q_29, .inl (cA_30, 1000, .inl (fun _ => 0)))] H := hP
  have hD : va_D _ [(h0, .inr (1, (fs14.set 37 (.ref q_29)))), (q_1, .inl (cA_2, 32768, .inl (fun _ => 0))), (q_29, .inl (cA_30, 1000, .inl (fun _ => 0)))] := hD
  obtain ⟨fs15, e15⟩ : ∃ z : List Value, z = (fs14.set 37 (.ref q_29)) := ⟨_, rfl⟩
  rw [← e15] at hP hD
  have l15 : fs15.length = 107 := md_len e15 l14
  have k15 : mdK fs15 fs_h0 := md_keep e15 (by decide +kernel) k14
  have r15_1 : xfa fs15 1 (.ref q_1) := md_ne e15 (by decide +kernel) r14_1
  have hP := hP.sub (ws' := [(h0, .inr (1, fs15)), (q_1, .inl (cA_2, 32768, .inl (fun _ => 0)))]) [0, 1] rfl
  have hD := hD.sub (ws' := [(h0, .inr (1, fs15)), (q_1, .inl (cA_2, 32768, .inl (fun _ => 0)))]) [0, 1] (by decide +kernel) rfl
  have hK := hK.sub (tys' := [(cA_2, .byte)]) [0] rfl
  refine lv_aload_n hx hb (show decode prog_15_method_1_code 135 = .ok (.aload_n 0, 1) by decide +kernel) rfl (lv_at hl 0 rfl) ?_
  refine lv_sipush (v := 1000) hx hb (show decode prog_15_method_1_code 136 = .ok (.sipush 1000, 3) by decide +kernel) (by decide +kernel) ?_
  refine va_newa (atype := .int) (a0 := (1000, .inl (fun _ => 0))) (ty := .int) hx hb (hts _ w_197) rfl hK hP hD hS hA (fun _ => rfl) (by decide +kernel) (by decide +kernel) (by decide +kernel) (by decide +kernel) (by decide +kernel) (show decode prog_15_method_1_code 139 = .ok (.newarray .int, 2) by decide +kernel) (fun q_31 cA_32 H hK hP hD hS => ?_)
  have hP : va_P D cl [(h0, .inr (1, fs15)), (q_1, .inl (cA_2, 32768, .inl (fun _ => 0))), (q_31, .inl (cA_32, 1000, .inl (fun _ => 0)))] H := hP
  have hD : va_D _ [(h0, .inr (1, fs15)), (q_1, .inl (cA_2, 32768, .inl (fun _ => 0))), (q_31, .inl (cA_32, 1000, .inl (fun _ => 0)))] := hD
  have hK : va_K D cl [(cA_2, .byte), (cA_32, .int)] s := hK
  refine W.widen (k := 16) (n := 92264) (by decide +kernel) (by decide +kernel) ?_
  refine va_putF (D := D) (ci := 1) (v := .ref q_31) (ty := .array .int) (C := R_MD) (T := F_MD) (N := 107) hx hb hts i_MD t_MD t_MD_ok n_MD hown hK hP hD hS 0 rfl rfl 38 (by decide +kernel) (hts _ w_1600) (fun _ h9 => h9) rfl hin rfl (by decide +kernel) rfl rfl (by simp [l15]) (show decode prog_15_method_1_code 141 = .ok (.putfield 57, 3) by decide +kernel) (fun H locs hP hD hS => ?_)
  have hP : va_P D cl [(h0, .inr (1, (fs15.set 38 (.ref q_31)))), (q_1, .inl (cA_2, 32768, .inl (fun _ => 0))), (q_31, .inl (cA_32, 1000, .inl (fun _ => 0)))] H := hP
  have hD : va_D _ [(h0, .inr (1, (fs15.set 38 (.ref q_31)))), (q_1, .inl (cA_2, 32768, .inl (fun _ => 0))), (q_31, .inl (cA_32, 1000, .inl (fun _ => 0)))] := hD
  obtain ⟨fs16, e16⟩ : ∃ z : List Value, z = (fs15.set 38 (.ref q_31)) := ⟨_, rfl⟩
  rw [← e16] at hP hD
  have l16 : fs16.length = 107 := md_len e16 l15
  have k16 : mdK fs16 fs_h0 := md_keep e16 (by decide +kernel) k15
  have r16_1 : xfa fs16 1 (.ref q_1) := md_ne e16 (by decide +kernel) r15_1
  have hP := hP.sub (ws' := [(h0, .inr (1, fs16)), (q_1, .inl (cA_2, 32768, .inl (fun _ => 0)))]) [0, 1] rfl
  have hD := hD.sub (ws' := [(h0, .inr (1, fs16)), (q_1, .inl (cA_2, 32768, .inl (fun _ => 0)))]) [0, 1] (by decide +kernel) rfl
  have hK := hK.sub (tys' := [(cA_2, .byte)]) [0] rfl
  refine lv_aload_n hx hb (show decode prog_15_method_1_code 144 = .ok (.aload_n 0, 1) by decide +kernel) rfl (lv_at hl 0 rfl) ?_
  refine lv_sipush (v := 1208) hx hb (show decode prog_15_method_1_code 145 = .ok (.sipush 1208, 3) by decide +kernel) (by decide +kernel) ?_
  refine va_newa (atype := .int) (a0 := (1208, .inl (fun _ => 0))) (ty := .int) hx hb (hts _ w_197) rfl hK hP hD hS hA (fun _ => rfl) (by decide +kernel) (by decide +kernel) (by decide +kernel) (by decide +kernel) (by decide +kernel) (show decode prog_15_method_1_code 148 = .ok (.newarray .int, 2) by decide +kernel) (fun q_33 cA_34 H hK hP hD hS => ?_)
  have hP : va_P D cl [(h0, .inr (1, fs16)), (q_1, .inl (cA_2, 32768, .inl (fun _ => 0))), (q_33, .inl (cA_34, 1208, .inl (fun _ => 0)))] H := hP
  have hD : va_D _ [(h0, .inr (1, fs16)), (q_1, .inl (cA_2, 32768, .inl (fun _ => 0))), (q_33, .inl (cA_34, 1208, .inl (fun _ => 0)))] := hD
  have hK : va_K D cl [(cA_2, .byte), (cA_34, .int)] s := hK
  refine W.widen (k := 17) (n := 93472) (by decide +kernel) (by decide +kernel) ?_
  refine va_putF (D := D) (ci := 1) (v := .ref q_33) (ty := .array .int) (C := R_MD) (T := F_MD) (N := 107) hx hb hts i_MD t_MD t_MD_ok n_MD hown hK hP hD hS 0 rfl rfl 39 (by decide +kernel) (hts _ w_1601) (fun _ h9 => h9) rfl hin rfl (by decide +kernel) rfl rfl (by simp [l16]) (show decode prog_15_method_1_code 150 = .ok (.putfield 60, 3) by decide +kernel) (fun H locs hP hD hS => ?_)
  have hP : va_P D cl [(h0, .inr (1, (fs16.set 39 (.ref q_33)))), (q_1, .inl (cA_2, 32768, .inl (fun _ => 0))), (q_33, .inl (cA_34, 1208, .inl (fun _ => 0)))] H := hP
  have hD : va_D _ [(h0, .inr (1, (fs16.set 39 (.ref q_33)))), (q_1, .inl (cA_2, 32768, .inl (fun _ => 0))), (q_33, .inl (cA_34, 1208, .inl (fun _ => 0)))] := hD
  obtain ⟨fs17, e17⟩ : ∃ z : List Value, z = (fs16.set 39 (.ref q_33)) := ⟨_, rfl⟩
  rw [← e17] at hP hD
  have l17 : fs17.length = 107 := md_len e17 l16
  have k17 : mdK fs17 fs_h0 := md_keep e17 (by decide +kernel) k16
  have r17_1 : xfa fs17 1 (.ref q_1) := md_ne e17 (by decide +kernel) r16_1
  have hP := hP.sub (ws' := [(h0, .inr (1, fs17)), (q_1, .inl (cA_2, 32768, .inl (fun _ => 0)))]) [0, 1] rfl
  have hD := hD.sub (ws' := [(h0, .inr (1, fs17)), (q_1, .inl (cA_2, 32768, .inl (fun _ => 0)))]) [0, 1] (by decide +kernel) rfl
  have hK := hK.sub (tys' := [(cA_2, .byte)]) [0] rfl
  refine lv_aload_n hx hb (show decode prog_15_method_1_code 153 = .ok (.aload_n 0, 1) by decide +kernel) rfl (lv_at hl 0 rfl) ?_
  refine lv_sipush (v := 1208) hx hb (show decode prog_15_method_1_code 154 = .ok (.sipush 1208, 3) by decide +kernel) (by decide +kernel) ?_
  refine va_newa (atype := .int) (a0 := (1208, .inl (fun _ => 0))) (ty := .int) hx hb (hts _ w_197) rfl hK hP hD hS hA (fun _ => rfl) (by decide +kernel) (by decide +kernel) (by decide +kernel) (by decide +kernel) (by decide +kernel) (show decode prog_15_method_1_code 157 = .ok (.newarray .int, 2) by decide +kernel) (fun q_35 cA_36 H hK hP hD hS => ?_)
  have hP : va_P D cl [(h0, .inr (1, fs17)), (q_1, .inl (cA_2, 32768, .inl (fun _ => 0))), (q_35, .inl (cA_36, 1208, .inl (fun _ => 0)))] H := hP
  have hD : va_D _ [(h0, .inr (1, fs17)), (q_1, .inl (cA_2, 32768, .inl (fun _ => 0))), (q_35, .inl (cA_36, 1208, .inl (fun _ => 0)))] := hD
  have hK : va_K D cl [(cA_2, .byte), (cA_36, .int)] s := hK
  refine W.widen (k := 18) (n := 94680) (by decide +kernel) (by decide +kernel) ?_
  refine va_putF (D := D) (ci := 1) (v := .ref q_35) (ty := .array .int) (C := R_MD) (T := F_MD) (N := 107) hx hb hts i_MD t_MD t_MD_ok n_MD hown hK hP hD hS 0 rfl rfl 40 (by decide +kernel) (hts _ w_1602) (fun _ h9 => h9) rfl hin rfl (by decide +kernel) rfl rfl (by simp [l17]) (show decode prog_15_method_1_code 159 = .ok (.putfield 63, 3) by decide +kernel) (fun H locs hP hD hS => ?_)
  have hP : va_P D cl [(h0, .inr (1, (fs17.set 40 (.ref q_35)))), (q_1, .inl (cA_2, 32768, .inl (fun _ => 0))), (q_35, .inl (cA_36, 1208, .inl (fun _ => 0)))] H := hP
  have hD : va_D _ [(h0, .inr (1, (fs17.set 40 (.ref q_35)))), (q_1, .inl (cA_2, 32768, .inl (fun _ => 0))), (q_35, .inl (cA_36, 1208, .inl (fun _ => 0)))] := hD
  obtain ⟨fs18, e18⟩ : ∃ z : List Value, z = (fs17.set 40 (.ref q_35)) := ⟨_, rfl⟩
  rw [← e18] at hP hD
  have l18 : fs18.length = 107 := md_len e18 l17
  have k18 : mdK fs18 fs_h0 := md_keep e18 (by decide +kernel) k17
  have r18_1 : xfa fs18 1 (.ref q_1) := md_ne e18 (by decide +kernel) r17_1
  have hP := hP.sub (ws' := [(h0, .inr (1, fs18)), (q_1, .inl (cA_2, 32768, .inl (fun _ => 0)))]) [0, 1] rfl
  have hD := hD.sub (ws' := [(h0, .inr (1, fs18)), (q_1, .inl (cA_2, 32768, .inl (fun _ => 0)))]) [0, 1] (by decide +kernel) rfl
  have hK := hK.sub (tys' := [(cA_2, .byte)]) [0] rfl
  refine lv_aload_n hx hb (show decode prog_15_method_1_code 162 = .ok (.aload_n 0, 1) by decide +kernel) rfl (lv_at hl 0 rfl) ?_
  refine lv_sipush (v := 1200) hx hb (show decode prog_15_method_1_code 163 = .ok (.sipush 1200, 3) by decide +kernel) (by decide +kernel) ?_
  refine va_newa (atype := .int) (a0 := (1200, .inl (fun _ => 0))) (ty := .int) hx hb (hts _ w_197) rfl hK hP hD hS hA (fun _ => rfl) (by decide +kernel) (by decide +kernel) (by decide +kernel) (by decide +kernel) (by decide +kernel) (show decode prog_15_method_1_code 166 = .ok (.newarray .int, 2) by decide +kernel) (fun q_37 cA_38 H hK hP hD hS => ?_)
  have hP : va_P D cl [(h0, .inr (1, fs18)), (q_1, .inl (cA_2, 32768, .inl (fun _ => 0))), (q_37, .inl (cA_38, 1200, .inl (fun _ => 0)))] H := hP
  have hD : va_D _ [(h0, .inr (1, fs18)), (q_1, .inl (cA_2, 32768, .inl (fun _ => 0))), (q_37, .inl (cA_38, 1200, .inl (fun _ => 0)))] := hD
  have hK : va_K D cl [(cA_2, .byte), (cA_38, .int)] s := hK
  refine W.widen (k := 19) (n := 95880) (by decide +kernel) (by decide +kernel) ?_
  refine va_putF (D := D) (ci := 1) (v := .ref q_37) (ty := .array .int) (C := R_MD) (T := F_MD) (N := 107) hx hb hts i_MD t_MD t_MD_ok n_MD hown hK hP hD hS 0 rfl rfl 51 (by decide +kernel) (hts _ w_1613) (fun _ h9 => h9) rfl hin rfl (by decide +kernel) rfl rfl (by simp [l18]) (show decode prog_15_method_1_code 168 = .ok (.putfield 66, 3) by decide +kernel) (fun H locs hP hD hS => ?_)
  have hP : va_P D cl [(h0, .inr (1, (fs18.set 51 (.ref q_37)))), (q_1, .inl (cA_2, 32768, .inl (fun _ => 0))), (q_37, .inl (cA_38, 1200, .inl (fun _ => 0)))] H := hP
  have hD : va_D _ [(h0, .inr (1, (fs18.set 51 (.ref q_37)))), (q_1, .inl (cA_2, 32768, .inl (fun _ => 0))), (q_37, .inl (cA_38, 1200, .inl (fun _ => 0)))] := hD
  obtain ⟨fs19, e19⟩ : ∃ z : List Value, z = (fs18.set 51 (.ref q_37)) := ⟨_, rfl⟩
  rw [← e19] at hP hD
  have l19 : fs19.length = 107 := md_len e19 l18
  have k19 : mdK fs19 fs_h0 := md_keep e19 (by decide +kernel) k18
  have r19_1 : xfa fs19 1 (.ref q_1) := md_ne e19 (by decide +kernel) r18_1
  have hP := hP.sub (ws' := [(h0, .inr (1, fs19)), (q_1, .inl (cA_2, 32768, .inl (fun _ => 0)))]) [0, 1] rfl
  have hD := hD.sub (ws' := [(h0, .inr (1, fs19)), (q_1, .inl (cA_2, 32768, .inl (fun _ => 0)))]) [0, 1] (by decide +kernel) rfl
  have hK := hK.sub (tys' := [(cA_2, .byte)]) [0] rfl
  refine lv_aload_n hx hb (show decode prog_15_method_1_code 171 = .ok (.aload_n 0, 1) by decide +kernel) rfl (lv_at hl 0 rfl) ?_
  refine lv_sipush (v := 1200) hx hb (show decode prog_15_method_1_code 172 = .ok (.sipush 1200, 3) by decide +kernel) (by decide +kernel) ?_
  refine va_newa (atype := .int) (a0 := (1200, .inl (fun _ => 0))) (ty := .int) hx hb (hts _ w_197) rfl hK hP hD hS hA (fun _ => rfl) (by decide +kernel) (by decide +kernel) (by decide +kernel) (by decide +kernel) (by decide +kernel) (show decode prog_15_method_1_code 175 = .ok (.newarray .int, 2) by decide +kernel) (fun q_39 cA_40 H hK hP hD hS => ?_)
  have hP : va_P D cl [(h0, .inr (1, fs19)), (q_1, .inl (cA_2, 32768, .inl (fun _ => 0))), (q_39, .inl (cA_40, 1200, .inl (fun _ => 0)))] H := hP
  have hD : va_D _ [(h0, .inr (1, fs19)), (q_1, .inl (cA_2, 32768, .inl (fun _ => 0))), (q_39, .inl (cA_40, 1200, .inl (fun _ => 0)))] := hD
  have hK : va_K D cl [(cA_2, .byte), (cA_40, .int)] s := hK
  refine W.widen (k := 20) (n := 97080) (by decide +kernel) (by decide +kernel) ?_
  refine va_putF (D := D) (ci := 1) (v := .ref q_39) (ty := .array .int) (C := R_MD) (T := F_MD) (N := 107) hx hb hts i_MD t_MD t_MD_ok n_MD hown hK hP hD hS 0 rfl rfl 52 (by decide +kernel) (hts _ w_1614) (fun _ h9 => h9) rfl hin rfl (by decide +kernel) rfl rfl (by simp [l19]) (show decode prog_15_method_1_code 177 = .ok (.putfield 69, 3) by decide +kernel) (fun H locs hP hD hS => ?_)
  have hP : va_P D cl [(h0, .inr (1, (fs19.set 52 (.ref q_39)))), (q_1, .inl (cA_2, 32768, .inl (fun _ => 0))), (q_39, .inl (cA_40, 1200, .inl (fun _ => 0)))] H := hP
  have hD : va_D _ [(h0, .inr (1, (fs19.set 52 (.ref q_39)))), (q_1, .inl (cA_2, 32768, .inl (fun _ => 0))), (q_39, .inl (cA_40, 1200, .inl (fun _ => 0)))] := hD
  obtain ⟨fs20, e20⟩ : ∃ z : List Value, z = (fs19.set 52 (.ref q_39)) := ⟨_, rfl⟩
  rw [← e20] at hP hD
  have l20 : fs20.length = 107 := md_len e20 l19
  have k20 : mdK fs20 fs_h0 := md_keep e20 (by decide +kernel) k19
  have r20_1 : xfa fs20 1 (.ref q_1) := md_ne e20 (by decide +kernel) r19_1
  have hP := hP.sub (ws' := [(h0, .inr (1, fs20)), (q_1, .inl (cA_2, 32768, .inl (fun _ => 0)))]) [0, 1] rfl
  have hD := hD.sub (ws' := [(h0, .inr (1, fs20)), (q_1, .inl (cA_2, 32768, .inl (fun _ => 0)))]) [0, 1] (by decide +kernel) rfl
  have hK := hK.sub (tys' := [(cA_2, .byte)]) [0] rfl
  refine lv_aload_n hx hb (show decode prog_15_method_1_code 180 = .ok (.aload_n 0, 1) by decide +kernel) rfl (lv_at hl 0 rfl) ?_
  refine lv_sipush (v := 1200) hx hb (show decode prog_15_method_1_code 181 = .ok (.sipush 1200, 3) by decide +kernel) (by decide +kernel) ?_
  refine va_newa (atype := .int) (a0 := (1200, .inl (fun _ => 0))) (ty := .int) hx hb (hts _ w_197) rfl hK hP hD hS hA (fun _ => rfl) (by decide +kernel) (by decide +kernel) (by decide +kernel) (by decide +kernel) (by decide +kernel) (show decode prog_15_method_1_code 184 = .ok (.newarray .int, 2) by decide +kernel) (fun q_41 cA_42 H hK hP hD hS => ?_)
  have hP : va_P D cl [(h0, .inr (1, fs20)), (q_1, .inl (cA_2, 32768, .inl (fun _ => 0))), (q_41, .inl (cA_42, 1200, .inl (fun _ => 0)))] H := hP
  have hD : va_D _ [(h0, .inr (1, fs20)), (q_1, .inl (cA_2, 32768, .inl (fun _ => 0))), (q_41, .inl (cA_42, 1200, .inl (fun _ => 0)))] := hD
  have hK : va_K D cl [(cA_2, .byte), (cA_42, .int)] s := hK
  refine W.widen (k := 21) (n := 98280) (by decide +kernel) (by decide +kernel) ?_
  refine va_putF (D := D) (ci := 1) (v := .ref q_41) (ty := .array .int) (C := R_MD) (T := F_MD) (N := 107) hx hb hts i_MD t_MD t_MD_ok n_MD hown hK hP hD hS 0 rfl rfl 53 (by decide +kernel) (hts _ w_1615) (fun _ h9 => h9) rfl hin rfl (by decide +kernel) rfl rfl (by simp [l20]) (show decode prog_15_method_1_code 186 = .ok (.putfield 72, 3) by decide +kernel) (fun H locs hP hD hS => ?_)
  have hP : va_P D cl [(h0, .inr (1, (fs20.set 53 (.ref q_41)))), (q_1, .inl (cA_2, 32768, .inl (fun _ => 0))), (q_41, .inl (cA_42, 1200, .inl (fun _ => 0)))] H := hP
  have hD : va_D _ [(h0, .inr (1, (fs20.set 53 (.ref q_41)))), (q_1, .inl (cA_2, 32768, .inl (fun _ => 0))), (q_41, .inl (cA_42, 1200, .inl (fun _ => 0)))] := hD
  obtain ⟨fs21, e21⟩ : ∃ z : List Value, z = (fs20.set 53 (.ref q_41)) := ⟨_, rfl⟩
  rw [← e21] at hP hD
  have l21 : fs21.length = 107 := md_len e21 l20
  have k21 : mdK fs21 fs_h0 := md_keep e21 (by decide +kernel) k20
  have r21_1 : xfa fs21 1 (.ref q_1) := md_ne e21 (by decide +kernel) r20_1
  have hP := hP.sub (ws' := [(h0, .inr (1, fs21)), (q_1, .inl (cA_2, 32768, .inl (fun _ => 0)))]) [0, 1] rfl
  have hD := hD.sub (ws' := [(h0, .inr (1, fs21)), (q_1, .inl (cA_2, 32768, .inl (fun _ => 0)))]) [0, 1] (by decide +kernel) rfl
  have hK := hK.sub (tys' := [(cA_2, .byte)]) [0] rfl
  refine lv_aload_n hx hb (show decode prog_15_method_1_code 189 = .ok (.aload_n 0, 1) by decide +kernel) rfl (lv_at hl 0 rfl) ?_
  refine lv_sipush (v := 1200) hx hb (show decode prog_15_method_1_code 190 = .ok (.sipush 1200, 3) by decide +kernel) (by decide +kernel) ?_
  refine va_newa (atype := .int) (a0 := (1200, .inl (fun _ => 0))) (ty := .int) hx hb (hts _ w_197) rfl hK hP hD hS hA (fun _ => rfl) (by decide +kernel) (by decide +kernel) (by decide +kernel) (by decide +kernel) (by decide +kernel) (show decode prog_15_method_1_code 193 = .ok (.newarray .int, 2) by decide +kernel) (fun q_43 cA_44 H hK hP hD hS => ?_)
  have hP : va_P D cl [(h0, .inr (1, fs21)), (q_1, .inl (cA_2, 32768, .inl (fun _ => 0))), (q_43, .inl (cA_44, 1200, .inl (fun _ => 0)))] H := hP
  have hD : va_D _ [(h0, .inr (1, fs21)), (q_1, .inl (cA_2, 32768, .inl (fun _ => 0))), (q_43, .inl (cA_44, 1200, .inl (fun _ => 0)))] := hD
  have hK : va_K D cl [(cA_2, .byte), (cA_44, .int)] s := hK
  refine W.widen (k := 22) (n := 99480) (by decide +kernel) (by decide +kernel) ?_
  refine va_putF (D := D) (ci := 1) (v := .ref q_43) (ty := .array .int) (C := R_MD) (T := F_MD) (N := 107) hx hb hts i_MD t_MD t_MD_ok n_MD hown hK hP hD hS 0 rfl rfl 54 (by decide +kernel) (hts _ w_1616) (fun _ h9 => h9) rfl hin rfl (by decide +kernel) rfl rfl (by simp [l21]) (show decode prog_15_method_1_code 195 = .ok (.putfield 75, 3) by decide +kernel) (fun H locs hP hD hS => ?_)
  have hP : va_P D cl [(h0, .inr (1, (fs21.set 54 (.ref q_43)))), (q_1, .inl (cA_2, 32768, .inl (fun _ => 0))), (q_43, .inl (cA_44, 1200, .inl (fun _ => 0)))] H := hP
  have hD : va_D _ [(h0, .inr (1, (fs21.set 54 (.ref q_43)))), (q_1, .inl (cA_2, 32768, .inl (fun _ => 0))), (q_43, .inl (cA_44, 1200, .inl (fun _ => 0)))] := hD
  obtain ⟨fs22, e22⟩ : ∃ z : List Value, z = (fs21.set 54 (.ref q_43)) := ⟨_, rfl⟩
  rw [← e22] at hP hD
  have l22 : fs22.length = 107 := md_len e22 l21
  have k22 : mdK fs22 fs_h0 := md_keep e22 (by decide +kernel) k21
  have r22_1 : xfa fs22 1 (.ref q_1) := md_ne e22 (by decide +kernel) r21_1
  have hP := hP.sub (ws' := [(h0, .inr (1, fs22)), (q_1, .inl (cA_2, 32768, .inl (fun _ => 0)))]) [0, 1] rfl
  have hD := hD.sub (ws' := [(h0, .inr (1, fs22)), (q_1, .inl (cA_2, 32768, .inl (fun _ => 0)))]) [0, 1] (by decide +kernel) rfl
  have hK := hK.sub (tys' := [(cA_2, .byte)]) [0] rfl
  refine lv_aload_n hx hb (show decode prog_15_method_1_code 198 = .ok (.aload_n 0, 1) by decide +kernel) rfl (lv_at hl 0 rfl) ?_
  refine lv_sipush (v := 1200) hx hb (show decode prog_15_method_1_code 199 = .ok (.sipush 1200, 3) by decide +kernel) (by decide +kernel) ?_
  refine va_newa (atype := .int) (a0 := (1200, .inl (fun _ => 0))) (ty := .int) hx hb (hts _ w_197) rfl hK hP hD hS hA (fun _ => rfl) (by decide +kernel) (by decide +kernel) (by decide +kernel) (by decide +kernel) (by decide +kernel) (show decode prog_15_method_1_code 202 = .ok (.newarray .int, 2) by decide +kernel) (fun q_45 cA_46 H hK hP hD hS => ?_)
  have hP : va_P D cl [(h0, .inr (1, fs22)), (q_1, .inl (cA_2, 32768, .inl (fun _ => 0))), (q_45, .inl (cA_46, 1200, .inl (fun _ => 0)))] H := hP
  have hD : va_D _ [(h0, .inr (1, fs22)), (q_1, .inl (cA_2, 32768, .inl (fun _ => 0))), (q_45, .inl (cA_46, 1200, .inl (fun _ => 0)))] := hD
  have hK : va_K D cl [(cA_2, .byte), (cA_46, .int)] s := hK
  refine W.widen (k := 23) (n := 100680) (by decide +kernel) (by decide +kernel) ?_
  refine va_putF (D := D) (ci := 1) (v := .ref q_45) (ty := .array .int) (C := R_MD) (T := F_MD) (N := 107) hx hb hts i_MD t_MD t_MD_ok n_MD hown hK hP hD hS 0 rfl rfl 55 (by decide +kernel) (hts _ w_1617) (fun _ h9 => h9) rfl hin rfl (by decide +kernel) rfl rfl (by simp [l22]) (show decode prog_15_method_1_code 204 = .ok (.putfield 78, 3) by decide +kernel) (fun H locs hP hD hS => ?_)
  have hP : va_P D cl [(h0, .inr (1, (fs22.set 55 (.ref q_45)))), (q_1, .inl (cA_2, 32768, .inl (fun _ => 0))), (q_45, .inl (cA_46, 1200, .inl (fun _ => 0)))] H := hP
  have hD : va_D _ [(h0, .inr (1, (fs22.set 55 (.ref q_45)))), (q_1, .inl (cA_2, 32768, .inl (fun _ => 0))), (q_45, .inl (cA_46, 1200, .inl (fun _ => 0)))] := hD
  obtain ⟨fs23, e23⟩ : ∃ z : List Value, z = (fs22.set 55 (.ref q_45)) := ⟨_, rfl⟩
  rw [← e23] at hP hD
  have l23 : fs23.length = 107 := md_len e23 l22
  have k23 : mdK fs23 fs_h0 := md_keep e23 (by decide +kernel) k22
  have r23_1 : xfa fs23 1 (.ref q_1) := md_ne e23 (by decide +kernel) r22_1
  have hP := hP.sub (ws' := [(h0, .inr (1, fs23)), (q_1, .inl (cA_2, 32768, .inl (fun _ => 0)))]) [0, 1] rfl
  have hD := hD.sub (ws' := [(h0, .inr (1, fs23)), (q_1, .inl (cA_2, 32768, .inl (fun _ => 0)))]) [0, 1] (by decide +kernel) rfl
  have hK := hK.sub (tys' := [(cA_2, .byte)]) [0] rfl
  refine lv_aload_n hx hb (show decode prog_15_method_1_code 207 = .ok (.aload_n 0, 1) by decide +kernel) rfl (lv_at hl 0 rfl) ?_
  refine lv_sipush (v := 1200) hx hb (show decode prog_15_method_1_code 208 = .ok (.sipush 1200, 3) by decide +kernel) (by decide +kernel) ?_
  refine va_newa (atype := .int) (a0 := (1200, .inl (fun _ => 0))) (ty := .int) hx hb (hts _ w_197) rfl hK hP hD hS hA (fun _ => rfl) (by decide +kernel) (by decide +kernel) (by decide +kernel) (by decide +kernel) (by decide +kernel) (show decode prog_15_method_1_code 211 = .ok (.newarray .int, 2) by decide +kernel) (fun q_47 cA_48 H hK hP hD hS => ?_)
  have hP : va_P D cl [(h0, .inr (1, fs23)), (q_1, .inl (cA_2, 32768, .inl (fun _ => 0))), (q_47, .inl (cA_48, 1200, .inl (fun _ => 0)))] H := hP
  have hD : va_D _ [(h0, .inr (1, fs23)), (q_1, .inl (cA_2, 32768, .inl (fun _ => 0))), (q_47, .inl (cA_48, 1200, .inl (fun _ => 0)))] := hD
  have hK : va_K D cl [(cA_2, .byte), (cA_48, .int)] s := hK
  refine W.widen (k := 24) (n := 101880) (by decide +kernel) (by decide +kernel) ?_
  refine va_putF (D := D) (ci := 1) (v := .ref q_47) (ty := .array .int) (C := R_MD) (T := F_MD) (N := 107) hx hb hts i_MD t_MD t_MD_ok n_MD hown hK hP hD hS 0 rfl rfl 56 (by decide +kernel) (hts _ w_1618) (fun _ h9 => h9) rfl hin rfl (by decide +kernel) rfl rfl (by simp [l23]) (show decode prog_15_method_1_code 213 = .ok (.putfield 81, 3) by decide +kernel) (fun H locs hP hD hS => ?_)
  have hP : va_P D cl [(h0, .inr (1, (fs23.set 56 (.ref q_47)))), (q_1, .inl (cA_2, 32768, .inl (fun _ => 0))), (q_47, .inl (cA_48, 1200, .inl (fun _ => 0)))] H := hP
  have hD : va_D _ [(h0, .inr (1, (fs23.set 56 (.ref q_47)))), (q_1, .inl (cA_2, 32768, .inl (fun _ => 0))), (q_47, .inl (cA_48, 1200, .inl (fun _ => 0)))] := hD
  obtain ⟨fs24, e24⟩ : ∃ z : List Value, z = (fs23.set 56 (.ref q_47)) := ⟨_, rfl⟩
  rw [← e24] at hP hD
  have l24 : fs24.length = 107 := md_len e24 l23
  have k24 : mdK fs24 fs_h0 := md_keep e24 (by decide +kernel) k23
  have r24_1 : xfa fs24 1 (.ref q_1) := md_ne e24 (by decide +kernel) r23_1
  have hP := hP.sub (ws' := [(h0, .inr (1, fs24)), (q_1, .inl (cA_2, 32768, .inl (fun _ => 0)))]) [0, 1] rfl
  have hD := hD.sub (ws' := [(h0, .inr (1, fs24)), (q_1, .inl (cA_2, 32768, .inl (fun _ => 0)))]) [0, 1] (by decide +kernel) rfl
  have hK := hK.sub (tys' := [(cA_2, .byte)]) [0] rfl
  refine lv_aload_n hx hb (show decode prog_15_method_1_code 216 = .ok (.aload_n 0, 1) by decide +kernel) rfl (lv_at hl 0 rfl) ?_
  refine lv_sipush (v := 1200) hx hb (show decode prog_15_method_1_code 217 = .ok (.sipush 1200, 3) by decide +kernel) (by decide +kernel) ?_
  refine va_newa (atype := .int) (a0 := (1200, .inl (fun _ => 0))) (ty := .int) hx hb (hts _ w_197) rfl hK hP hD hS hA (fun _ => rfl) (by decide +kernel) (by decide +kernel) (by decide +kernel) (by decide +kernel) (by decide +kernel) (show decode prog_15_method_1_code 220 = .ok (.newarray .int, 2) by decide +kernel) (fun q_49 cA_50 H hK hP hD hS => ?_)
  have hP : va_P D cl [(h0, .inr (1, fs24)), (q_1, .inl (cA_2, 32768, .inl (fun _ => 0))), (q_49, .inl (cA_50, 1200, .inl (fun _ => 0)))] H := hP
  have hD : va_D _ [(h0, .inr (1, fs24)), (q_1, .inl (cA_2, 32768, .inl (fun _ => 0))), (q_49, .inl (cA_50, 1200, .inl (fun _ => 0)))] := hD
  have hK : va_K D cl [(cA_2, .byte), (cA_50, .int)] s := hK
  refine W.widen (k := 25) (n := 103080) (by decide +kernel) (by decide +kernel) ?_
  refine va_putF (D := D) (ci := 1) (v := .ref q_49) (ty := .array .int) (C := R_MD) (T := F_MD) (N := 107) hx hb hts i_MD t_MD t_MD_ok n_MD hown hK hP hD hS 0 rfl rfl 57 (by decide +kernel) (hts _ w_1619) (fun _ h9 => h9) rfl hin rfl (by decide +kernel) rfl rfl (by simp [l24]) (show decode prog_15_method_1_code 222 = .ok (.putfield 84, 3) by decide +kernel) (fun H locs hP hD hS => ?_)
  have hP : va_P D cl [(h0, .inr (1, (fs24.set 57 (.ref q_49)))), (q_1, .inl (cA_2, 32768, .inl (fun _ => 0))), (q_49, .inl (cA_50, 1200, .inl (fun _ => 0)))] H := hP
  have hD : va_D _ [(h0, .inr (1, (fs24.set 57 (.ref q_49)))), (q_1, .inl (cA_2, 32768, .inl (fun _ => 0))), (q_49, .inl (cA_50, 1200, .inl (fun _ => 0)))] := hD
  obtain ⟨fs25, e25⟩ : ∃ z : List Value, z = (fs24.set 57 (.ref q_49)) := ⟨_, rfl⟩
  rw [← e25] at hP hD
  have l25 : fs25.length = 107 := md_len e25 l24
  have k25 : mdK fs25 fs_h0 := md_keep e25 (by decide +kernel) k24
  have r25_1 : xfa fs25 1 (.ref q_1) := md_ne e25 (by decide +kernel) r24_1
  have hP := hP.sub (ws' := [(h0, .inr (1, fs25)), (q_1, .inl (cA_2, 32768, .inl (fun _ => 0)))]) [0, 1] rfl
  have hD := hD.sub (ws' := [(h0, .inr (1, fs25)), (q_1, .inl (cA_2, 32768, .inl (fun _ => 0)))]) [0, 1] (by decide +kernel) rfl
  have hK := hK.sub (tys' := [(cA_2, .byte)]) [0] rfl
  refine lv_aload_n hx hb (show decode prog_15_method_1_code 225 = .ok (.aload_n 0, 1) by decide +kernel) rfl (lv_at hl 0 rfl) ?_
  refine lv_sipush (v := 1200) hx hb (show decode prog_15_method_1_code 226 = .ok (.sipush 1200, 3) by decide +kernel) (by decide +kernel) ?_
  refine va_newa (atype := .int) (a0 := (1200, .inl (fun _ => 0))) (ty := .int) hx hb (hts _ w_197) rfl hK hP hD hS hA (fun _ => rfl) (by decide +kernel) (by decide +kernel) (by decide +kernel) (by decide +kernel) (by decide +kernel) (show decode prog_15_method_1_code 229 = .ok (.newarray .int, 2) by decide +kernel) (fun q_51 cA_52 H hK hP hD hS => ?_)
  have hP : va_P D cl [(h0, .inr (1, fs25)), (q_1, .inl (cA_2, 32768, .inl (fun _ => 0))), (q_51, .inl (cA_52, 1200, .inl (fun _ => 0)))] H := hP
  have hD : va_D _ [(h0, .inr (1, fs25)), (q_1, .inl (cA_2, 32768, .inl (fun _ => 0))), (q_51, .inl (cA_52, 1200, .inl (fun _ => 0)))] := hD
  have hK : va_K D cl [(cA_2, .byte), (cA_52, .int)] s := hK
  refine W.widen (k := 26) (n := 104280) (by decide +kernel) (by decide +kernel) ?_
  refine va_putF (D := D) (ci := 1) (v := .ref q_51) (ty := .array .int) (C := R_MD) (T := F_MD) (N := 107) hx hb hts i_MD t_MD t_MD_ok n_MD hown hK hP hD hS 0 rfl rfl 58 (by decide +kernel) (hts _ w_1620) (fun _ h9 => h9) rfl hin rfl (by decide +kernel) rfl rfl (by simp [l25]) (show decode prog_15_method_1_code 231 = .ok (.putfield 87, 3) by decide +kernel) (fun H locs hP hD hS => ?_)
  have hP : va_P D cl [(h0, .inr (1, (fs25.set 58 (.ref q_51)))), (q_1, .inl (cA_2, 32768, .inl (fun _ => 0))), (q_51, .inl (cA_52, 1200, .inl (fun _ => 0)))] H := hP
  have hD : va_D _ [(h0, .inr (1, (fs25.set 58 (.ref q_51)))), (q_1, .inl (cA_2, 32768, .inl (fun _ => 0))), (q_51, .inl (cA_52, 1200, .inl (fun _ => 0)))] := hD
  obtain ⟨fs26, e26⟩ : ∃ z : List Value, z = (fs25.set 58 (.ref q_51)) := ⟨_, rfl⟩
  rw [← e26] at hP hD
  have l26 : fs26.length = 107 := md_len e26 l25
  have k26 : mdK fs26 fs_h0 := md_keep e26 (by decide +kernel) k25
  have r26_1 : xfa fs26 1 (.ref q_1) := md_ne e26 (by decide +kernel) r25_1
  have hP := hP.sub (ws' := [(h0, .inr (1, fs26)), (q_1, .inl (cA_2, 32768, .inl (fun _ => 0)))]) [0, 1] rfl
  have hD := hD.sub (ws' := [(h0, .inr (1, fs26)), (q_1, .inl (cA_2, 32768, .inl (fun _ => 0)))]) [0, 1] (by decide +kernel) rfl
  have hK := hK.sub (tys' := [(cA_2, .byte)]) [0] rfl
  refine lv_aload_n hx hb (show decode prog_15_method_1_code 234 = .ok (.aload_n 0, 1) by decide +kernel) rfl (lv_at hl 0 rfl) ?_
  refine lv_sipush (v := 1200) hx hb (show decode prog_15_method_1_code 235 = .ok (.sipush 1200, 3) by decide +kernel) (by decide +kernel) ?_
  refine va_newa (atype := .int) (a0 := (1200, .inl (fun _ => 0))) (ty := .int) hx hb (hts _ w_197) rfl hK hP hD hS hA (fun _ => rfl) (by decide +kernel) (by decide +kernel) (by decide +kernel) (by decide +kernel) (by decide +kernel) (show decode prog_15_method_1_code 238 = .ok (.newarray .int, 2) by decide +kernel) (fun q_53 cA_54 H hK hP hD hS => ?_)
  have hP : va_P D cl [(h0, .inr (1, fs26)), (q_1, .inl (cA_2, 32768, .inl (fun _ => 0))), (q_53, .inl (cA_54, 1200, .inl (fun _ => 0)))] H := hP
  have hD : va_D _ [(h0, .inr (1, fs26)), (q_1, .inl (cA_2, 32768, .inl (fun _ => 0))), (q_53, .inl (cA_54, 1200, .inl (fun _ => 0)))] := hD
  have hK : va_K D cl [(cA_2, .byte), (cA_54, .int)] s := hK
  refine W.widen (k := 27) (n := 105480) (by decide +kernel) (by decide +kernel) ?_
  refine va_putF (D := D) (ci := 1) (v := .ref q_53) (ty := .array .int) (C := R_MD) (T := F_MD) (N := 107) hx hb hts i_MD t_MD t_MD_ok n_MD hown hK hP hD hS 0 rfl rfl 59 (by decide +kernel) (hts _ w_1621) (fun _ h9 => h9) rfl hin rfl (by decide +kernel) rfl rfl (by simp [l26]) (show decode prog_15_method_1_code 240 = .ok (.putfield 90, 3) by decide +kernel) (fun H locs hP hD hS => ?_)
  have hP : va_P D cl [(h0, .inr (1, (fs26.set 59 (.ref q_53)))), (q_1, .inl (cA_2, 32768, .inl (fun _ => 0))), (q_53, .inl (cA_54, 1200, .inl (fun _ => 0)))] H := hP
  have hD : va_D _ [(h0, .inr (1, (fs26.set 59 (.ref q_53)))), (q_1, .inl (cA_2, 32768, .inl (fun _ => 0))), (q_53, .inl (cA_54, 1200, .inl (fun _ => 0)))] := hD
  obtain ⟨fs27, e27⟩ : ∃ z : List Value, z = (fs26.set 59 (.ref q_53)) := ⟨_, rfl⟩
  rw [← e27] at hP hD
  have l27 : fs27.length = 107 := md_len e27 l26
  have k27 : mdK fs27 fs_h0 := md_keep e27 (by decide +kernel) k26
  have r27_1 : xfa fs27 1 (.ref q_1) := md_ne e27 (by decide +kernel) r26_1
  have hP := hP.sub (ws' := [(h0, .inr (1, fs27)), (q_1, .inl (cA_2, 32768, .inl (fun _ => 0)))]) [0, 1] rfl
  have hD := hD.sub (ws' := [(h0, .inr (1, fs27)), (q_1, .inl (cA_2, 32768, .inl (fun _ => 0)))]) [0, 1] (by decide +kernel) rfl
  have hK := hK.sub (tys' := [(cA_2, .byte)]) [0] rfl
  refine lv_aload_n hx hb (show decode prog_15_method_1_code 243 = .ok (.aload_n 0, 1) by decide +kernel) rfl (lv_at hl 0 rfl) ?_
  refine lv_sipush (v := 1200) hx hb (show decode prog_15_method_1_code 244 = .ok (.sipush 1200, 3) by decide +kernel) (by decide +kernel) ?_
  refine va_newa (atype := .int) (a0 := (1200, .inl (fun _ => 0))) (ty := .int) hx hb (hts _ w_197) rfl hK hP hD hS hA (fun _ => rfl) (by decide +kernel) (by decide +kernel) (by decide +kernel) (by decide +kernel) (by decide +kernel) (show decode prog_15_method_1_code 247 = .ok (.newarray .int, 2) by decide +kernel) (fun q_55 cA_56 H hK hP hD hS => ?_)
  have hP : va_P D cl [(h0, .inr (1, fs27)), (q_1, .inl (cA_2, 32768, .inl (fun _ => 0))), (q_55, .inl (cA_56, 1200, .inl (fun _ => 0)))] H := hP
  have hD : va_D _ [(h0, .inr (1, fs27)), (q_1, .inl (cA_2, 32768, .inl (fun _ => 0))), (q_55, .inl (cA_56, 1200, .inl (fun _ => 0)))] := hD
  have hK : va_K D cl [(cA_2, .byte), (cA_56, .int)] s := hK
  refine W.widen (k := 28) (n := 106680) (by decide +kernel) (by decide +kernel) ?_
  refine va_putF (D := D) (ci := 1) (v := .ref q_55) (ty := .array .int) (C := R_MD) (T := F_MD) (N := 107) hx hb hts i_MD t_MD t_MD_ok n_MD hown hK hP hD hS 0 rfl rfl 60 (by decide +kernel) (hts _ w_1622) (fun _ h9 => h9) rfl hin rfl (by decide +kernel) rfl rfl (by simp [l27]) (show decode prog_15_method_1_code 249 = .ok (.putfield 93, 3) by decide +kernel) (fun H locs hP hD hS => ?_)
  have hP : va_P D cl [(h0, .inr (1, (fs27.set 60 (.ref q_55)))), (q_1, .inl (cA_2, 32768, .inl (fun _ => 0))), (q_55, .inl (cA_56, 1200, .inl (fun _ => 0)))] H := hP
  have hD : va_D _ [(h0, .inr (1, (fs27.set 60 (.ref q_55)))), (q_1, .inl (cA_2, 32768, .inl (fun _ => 0))), (q_55, .inl (cA_56, 1200, .inl (fun _ => 0)))] := hD
  obtain ⟨fs28, e28⟩ : ∃ z : List Value, z = (fs27.set 60 (.ref q_55)) := ⟨_, rfl⟩
  rw [← e28] at hP hD
  have l28 : fs28.length = 107 := md_len e28 l27
  have k28 : mdK fs28 fs_h0 := md_keep e28 (by decide +kernel) k27
  have r28_1 : xfa fs28 1 (.ref q_1) := md_ne e28 (by decide +kernel) r27_1
  have hP := hP.sub (ws' := [(h0, .inr (1, fs28)), (q_1, .inl (cA_2, 32768, .inl (fun _ => 0)))]) [0, 1] rfl
  have hD := hD.sub (ws' := [(h0, .inr (1, fs28)), (q_1, .inl (cA_2, 32768, .inl (fun _ => 0)))]) [0, 1] (by decide +kernel) rfl
  have hK := hK.sub (tys' := [(cA_2, .byte)]) [0] rfl
  refine lv_aload_n hx hb (show decode prog_15_method_1_code 252 = .ok (.aload_n 0, 1) by decide +kernel) rfl (lv_at hl 0 rfl) ?_
  refine lv_sipush (v := 1200) hx hb (show decode prog_15_method_1_code 253 = .ok (.sipush 1200, 3) by decide +kernel) (by decide +kernel) ?_
  refine va_newa (atype := .int) (a0 := (1200, .inl (fun _ => 0))) (ty := .int) hx hb (hts _ w_197) rfl hK hP hD hS hA (fun _ => rfl) (by decide +kernel) (by decide +kernel) (by decide +kernel) (by decide +kernel) (by decide +kernel) (show decode prog_15_method_1_code 256 = .ok (.newarray .int, 2) by decide +kernel) (fun q_57 cA_58 H hK hP hD hS => ?_)
  have hP : va_P D cl [(h0, .inr (1, fs28)), (q_1, .inl (cA_2, 32768, .inl (fun _ => 0))), (q_57, .inl (cA_58, 1200, .inl (fun _ => 0)))] H := hP
  have hD : va_D _ [(h0, .inr (1, fs28)), (q_1, .inl (cA_2, 32768, .inl (fun _ => 0))), (q_57, .inl (cA_58, 1200, .inl (fun _ => 0)))] := hD
  have hK : va_K D cl [(cA_2, .byte), (cA_58, .int)] s := hK
  refine W.widen (k := 29) (n := 107880) (by decide +kernel) (by decide +kernel) ?_
  refine va_putF (D := D) (ci := 1) (v := .ref q_57) (ty := .array .int) (C := R_MD) (T := F_MD) (N := 107) hx hb hts i_MD t_MD t_MD_ok n_MD hown hK hP hD hS 0 rfl rfl 61 (by decide +kernel) (hts _ w_1623) (fun _ h9 => h9) rfl hin rfl (by decide +kernel) rfl rfl (by simp [l28]) (show decode prog_15_method_1_code 258 = .ok (.putfield 96, 3) by decide +kernel) (fun H locs hP hD hS => ?_)
  have hP : va_P D cl [(h0, .inr (1, (fs28.set 61 (.ref q_57)))), (q_1, .inl (cA_2, 32768, .inl (fun _ => 0))), (q_57, .inl (cA_58, 1200, .inl (fun _ => 0)))] H := hP
  have hD : va_D _ [(h0, .inr (1, (fs28.set 61 (.ref q_57)))), (q_1, .inl (cA_2, 32768, .inl (fun _ => 0))), (q_57, .inl (cA_58, 1200, .inl (fun _ => 0)))] := hD
  obtain ⟨fs29, e29⟩ : ∃ z : List Value, z = (fs28.set 61 (.ref q_57)) := ⟨_, rfl⟩
  rw [← e29] at hP hD
  have l29 : fs29.length = 107 := md_len e29 l28
  have k29 : mdK fs29 fs_h0 := md_keep e29 (by decide +kernel) k28
  have r29_1 : xfa fs29 1 (.ref q_1) := md_ne e29 (by decide +kernel) r28_1
  have hP := hP.sub (ws' := [(h0, .inr (1, fs29)), (q_1, .inl (cA_2, 32768, .inl (fun _ => 0)))]) [0, 1] rfl
  have hD := hD.sub (ws' := [(h0, .inr (1, fs29)), (q_1, .inl (cA_2, 32768, .inl (fun _ => 0)))]) [0, 1] (by decide +kernel) rfl
  have hK := hK.sub (tys' := [(cA_2, .byte)]) [0] rfl
  refine lv_aload_n hx hb (show decode prog_15_method_1_code 261 = .ok (.aload_n 0, 1) by decide +kernel) rfl (lv_at hl 0 rfl) ?_
  refine lv_sipush (v := 1201) hx hb (show decode prog_15_method_1_code 262 = .ok (.sipush 1201, 3) by decide +kernel) (by decide +kernel) ?_
  refine va_newa (atype := .int) (a0 := (1201, .inl (fun _ => 0))) (ty := .int) hx hb (hts _ w_197) rfl hK hP hD hS hA (fun _ => rfl) (by decide +kernel) (by decide +kernel) (by decide +kernel) (by decide +kernel) (by decide +kernel) (show decode prog_15_method_1_code 265 = .ok (.newarray .int, 2) by decide +kernel) (fun q_59 cA_60 H hK hP hD hS => ?_)
  have hP : va_P D cl [(h0, .inr (1, fs29)), (q_1, .inl (cA_2, 32768, .inl (fun _ => 0))), (q_59, .inl (cA_60, 1201, .inl (fun _ => 0)))] H := hP
  have hD : va_D _ [(h0, .inr (1, fs29)), (q_1, .inl (cA_2, 32768, .inl (fun _ => 0))), (q_59, .inl (cA_60, 1201, .inl (fun _ => 0)))] := hD
  have hK : va_K D cl [(cA_2, .byte), (cA_60, .int)] s := hK
  refine W.widen (k := 30) (n := 109081) (by decide +kernel) (by decide +kernel) ?_
  refine va_putF (D := D) (ci := 1) (v := .ref q_59) (ty := .array .int) (C := R_MD) (T := F_MD) (N := 107) hx hb hts i_MD t_MD t_MD_ok n_MD hown hK hP hD hS 0 rfl rfl 62 (by decide +kernel) (hts _ w_1624) (fun _ h9 => h9) rfl hin rfl (by decide +kernel) rfl rfl (by simp [l29]) (show decode prog_15_method_1_code 267 = .ok (.putfield 99, 3) by decide +kernel) (fun H locs hP hD hS => ?_)
  have hP : va_P D cl [(h0, .inr (1, (fs29.set 62 (.ref q_59)))), (q_1, .inl (cA_2, 32768, .inl (fun _ => 0))), (q_59, .inl (cA_60, 1201, .inl (fun _ => 0)))] H := hP
  have hD : va_D _ [(h0, .inr (1, (fs29.set 62 (.ref q_59)))), (q_1, .inl (cA_2, 32768, .inl (fun _ => 0))), (q_59, .inl (cA_60, 1201, .inl (fun _ => 0)))] := hD
  obtain ⟨fs30, e30⟩ : ∃ z : List Value, z = (fs29.set 62 (.ref q_59)) := ⟨_, rfl⟩
  rw [← e30] at hP hD
  have l30 : fs30.length = 107 := md_len e30 l29
  have k30 : mdK fs30 fs_h0 := md_keep e30 (by decide +kernel) k29
  have r30_1 : xfa fs30 1 (.ref q_1) := md_ne e30 (by decide +kernel) r29_1
  have hP := hP.sub (ws' := [(h0, .inr (1, fs30)), (q_1, .inl (cA_2, 32768, .inl (fun _ => 0)))]) [0, 1] rfl
  have hD := hD.sub (ws' := [(h0, .inr (1, fs30)), (q_1, .inl (cA_2, 32768, .inl (fun _ => 0)))]) [0, 1] (by decide +kernel) rfl
  have hK := hK.sub (tys' := [(cA_2, .byte)]) [0] rfl
  refine lv_aload_n hx hb (show decode prog_15_method_1_code 270 = .ok (.aload_n 0, 1) by decide +kernel) rfl (lv_at hl 0 rfl) ?_
  refine lv_sipush (v := 1000) hx hb (show decode prog_15_method_1_code 271 = .ok (.sipush 1000, 3) by decide +kernel) (by decide +kernel) ?_
  refine va_newa (atype := .int) (a0 := (1000, .inl (fun _ => 0))) (ty := .int) hx hb (hts _ w_197) rfl hK hP hD hS hA (fun _ => rfl) (by decide +kernel) (by decide +kernel) (by decide +kernel) (by decide +kernel) (by decide +kernel) (show decode prog_15_method_1_code 274 = .ok (.newarray .int, 2) by decide +kernel) (fun q_61 cA_62 H hK hP hD hS => ?_)
  have hP : va_P D cl [(h0, .inr (1, fs30)), (q_1, .inl (cA_2, 32768, .inl (fun _ => 0))), (q_61, .inl (cA_62, 1000, .inl (fun _ => 0)))] H := hP
  have hD : va_D _ [(h0, .inr (1, fs30)), (q_1, .inl (cA_2, 32768, .inl (fun _ => 0))), (q_61, .inl (cA_62, 1000, .inl (fun _ => 0)))] := hD
  have hK : va_K D cl [(cA_2, .byte), (cA_62, .int)] s := hK
  refine W.widen (k := 31) (n := 110081) (by decide +kernel) (by decide +kernel) ?_
  refine va_putF (D := D) (ci := 1) (v := .ref q_61) (ty := .array .int) (C := R_MD) (T := F_MD) (N := 107) hx hb hts i_MD t_MD t_MD_ok n_MD hown hK hP hD hS 0 rfl rfl 63 (by decide +kernel) (hts _ w_1625) (fun _ h9 => h9) rfl hin rfl (by decide +kernel) rfl rfl (by simp [l30]) (show decode prog_15_method_1_code 276 = .ok (.putfield 102, 3) by decide +kernel) (fun H locs hP hD hS => ?_)
  have hP : va_P D cl [(h0, .inr (1, (fs30.set 63 (.ref q_61)))), (q_1, .inl (cA_2, 32768, .inl (fun _ => 0))), (q_61, .inl (cA_62, 1000, .inl (fun _ => 0)))] H := hP
  have hD : va_D _ [(h0, .inr (1, (fs30.set 63 (.ref q_61)))), (q_1, .inl (cA_2, 32768, .inl (fun _ => 0))), (q_61, .inl (cA_62, 1000, .inl (fun _ => 0)))] := hD
  obtain ⟨fs31, e31⟩ : ∃ z : List Value, z = (fs30.set 63 (.ref q_61)) := ⟨_, rfl⟩
  rw [← e31] at hP hD
  have l31 : fs31.length = 107 := md_len e31 l30
  have k31 : mdK fs31 fs_h0 := md_keep e31 (by decide +kernel) k30
  have r31_1 : xfa fs31 1 (.ref q_1) := md_ne e31 (by decide +kernel) r30_1
  have hP := hP.sub (ws' := [(h0, .inr (1, fs31)), (q_1, .inl (cA_2, 32768, .inl (fun _ => 0)))]) [0, 1] rfl
  have hD := hD.sub (ws' := [(h0, .inr (1, fs31)), (q_1, .inl (cA_2, 32768, .inl (fun _ => 0)))]) [0, 1] (by decide +kernel) rfl
  have hK := hK.sub (tys' := [(cA_2, .byte)]) [0] rfl
  refine lv_aload_n hx hb (show decode prog_15_method_1_code 279 = .ok (.aload_n 0, 1) by decide +kernel) rfl (lv_at hl 0 rfl) ?_
  refine lv_sipush (v := 1000) hx hb (show decode prog_15_method_1_code 280 = .ok (.sipush 1000, 3) by decide +kernel) (by decide +kernel) ?_
  refine va_newa (atype := .int) (a0 := (1000, .inl (fun _ => 0))) (ty := .int) hx hb (hts _ w_197) rfl hK hP hD hS hA (fun _ => rfl) (by decide +kernel) (by decide +kernel) (by decide +kernel) (by decide +kernel) (by decide +kernel) (show decode prog_15_method_1_code 283 = .ok (.newarray .int, 2) by decide +kernel) (fun q_63 cA_64 H hK hP hD hS => ?_)
  have hP : va_P D cl [(h0, .inr (1, fs31)), (q_1, .inl (cA_2, 32768, .inl (fun _ => 0))), (q_63, .inl (cA_64, 1000, .inl (fun _ => 0)))] H := hP
  have hD : va_D _ [(h0, .inr (1, fs31)), (q_1, .inl (cA_2, 32768, .inl (fun _ => 0))), (q_63, .inl (cA_64, 1000, .inl (fun _ => 0)))] := hD
  have hK : va_K D cl [(cA_2, .byte), (cA_64, .int)] s := hK
  refine W.widen (k := 32) (n := 111081) (by decide +kernel) (by decide +kernel) ?_
  refine va_putF (D := D) (ci := 1) (v := .ref q_63) (ty := .array .int) (C := R_MD) (T := F_MD) (N := 107) hx hb hts i_MD t_MD t_MD_ok n_MD hown hK hP hD hS 0 rfl rfl 64 (by decide +kernel) (hts _ w_1626) (fun _ h9 => h9) rfl hin rfl (by decide +kernel) rfl rfl (by simp [l31]) (show decode prog_15_method_1_code 285 = .ok (.putfield 105, 3) by decide +kernel) (fun H locs hP hD hS => ?_)
  have hP : va_P D cl [(h0, .inr (1, (fs31.set 64 (.ref q_63)))), (q_1, .inl (cA_2, 32768, .inl (fun _ => 0))), (q_63, .inl (cA_64, 1000, .inl (fun _ => 0)))] H := hP
  have hD : va_D _ [(h0, .inr (1, (fs31.set 64 (.ref q_63)))), (q_1, .inl (cA_2, 32768, .inl (fun _ => 0))), (q_63, .inl (cA_64, 1000, .inl (fun _ => 0)))] := hD
  obtain ⟨fs32, e32⟩ : ∃ z : List Value, z = (fs31.set 64 (.ref q_63)) := ⟨_, rfl⟩
  rw [← e32] at hP hD
  have l32 : fs32.length = 107 := md_len e32 l31
  have k32 : mdK fs32 fs_h0 := md_keep e32 (by decide +kernel) k31
  have r32_1 : xfa fs32 1 (.ref q_1) := md_ne e32 (by decide +kernel) r31_1
  have hP := hP.sub (ws' := [(h0, .inr (1, fs32)), (q_1, .inl (cA_2, 32768, .inl (fun _ => 0)))]) [0, 1] rfl
  have hD := hD.sub (ws' := [(h0, .inr (1, fs32)), (q_1, .inl (cA_2, 32768, .inl (fun _ => 0)))]) [0, 1] (by decide +kernel) rfl
  have hK := hK.sub (tys' := [(cA_2, .byte)]) [0] rfl
  refine lv_aload_n hx hb (show decode prog_15_method_1_code 288 = .ok (.aload_n 0, 1) by decide +kernel) rfl (lv_at hl 0 rfl) ?_
  refine lv_sipush (v := 1000) hx hb (show decode prog_15_method_1_code 289 = .ok (.sipush 1000, 3) by decide +kernel) (by decide +kernel) ?_
  refine va_newa (atype := .int) (a0 := (1000, .inl (fun _ => 0))) (ty := .int) hx hb (hts _ w_197) rfl hK hP hD hS hA (fun _ => rfl) (by decide +kernel) (by decide +kernel) (by decide +kernel) (by decide +kernel) (by decide +kernel) (show decode prog_15_method_1_code 292 = .ok (.newarray .int, 2) by decide +kernel) (fun q_65 cA_66 H hK hP hD hS => ?_)
  have hP : va_P D cl [(h0, .inr (1, fs32)), (q_1, .inl (cA_2, 32768, .inl (fun _ => 0))), (q_65, .inl (cA_66, 1000, .inl (fun _ => 0)))] H := hP
  have hD : va_D _ [(h0, .inr (1, fs32)), (q_1, .inl (cA_2, 32768, .inl (fun _ => 0))), (q_65, .inl (cA_66, 1000, .inl (fun _ => 0)))] := hD
  have hK : va_K D cl [(cA_2, .byte), (cA_66, .int)] s := hK
  refine W.widen (k := 33) (n := 112081) (by decide +kernel) (by decide +kernel) ?_
  refine va_putF (D := D) (ci := 1) (v := .ref q_65) (ty := .array .int) (C := R_MD) (T := F_MD) (N := 107) hx hb hts i_MD t_MD t_MD_ok n_MD hown hK hP hD hS 0 rfl rfl 65 (by decide +kernel) (hts _ w_1627) (fun _ h9 => h9) rfl hin rfl (by decide +kernel) rfl rfl (by simp [l32]) (show decode prog_15_method_1_code 294 = .ok (.putfield 108, 3) by decide +kernel) (fun H locs hP hD hS => ?_)
  have hP : va_P D cl [(h0, .inr (1, (fs32.set 65 (.ref q_65)))), (q_1, .inl (cA_2, 32768, .inl (fun _ => 0))), (q_65, .inl (cA_66, 1000, .inl (fun _ => 0)))] H := hP
  have hD : va_D _ [(h0, .inr (1, (fs32.set 65 (.ref q_65)))), (q_1, .inl (cA_2, 32768, .inl (fun _ => 0))), (q_65, .inl (cA_66, 1000, .inl (fun _ => 0)))] := hD
  obtain ⟨fs33, e33⟩ : ∃ z : List Value, z = (fs32.set 65 (.ref q_65)) := ⟨_, rfl⟩
  rw [← e33] at hP hD
  have l33 : fs33.length = 107 := md_len e33 l32
  have k33 : mdK fs33 fs_h0 := md_keep e33 (by decide +kernel) k32
  have r33_1 : xfa fs33 1 (.ref q_1) := md_ne e33 (by decide +kernel) r32_1
  have hP := hP.sub (ws' := [(h0, .inr (1, fs33)), (q_1, .inl (cA_2, 32768, .inl (fun _ => 0)))]) [0, 1] rfl
  have hD := hD.sub (ws' := [(h0, .inr (1, fs33)), (q_1, .inl (cA_2, 32768, .inl (fun _ => 0)))]) [0, 1] (by decide +kernel) rfl
  have hK := hK.sub (tys' := [(cA_2, .byte)]) [0] rfl
  refine lv_aload_n hx hb (show decode prog_15_method_1_code 297 = .ok (.aload_n 0, 1) by decide +kernel) rfl (lv_at hl 0 rfl) ?_
  refine lv_sipush (v := 1000) hx hb (show decode prog_15_method_1_code 298 = .ok (.sipush 1000, 3) by decide +kernel) (by decide +kernel) ?_
  refine va_newa (atype := .int) (a0 := (1000, .inl (fun _ => 0))) (ty := .int) hx hb (hts _ w_197) rfl hK hP hD hS hA (fun _ => rfl) (by decide +kernel) (by decide +kernel) (by decide +kernel) (by decide +kernel) (by decide +kernel) (show decode prog_15_method_1_code 301 = .ok (.newarray .int, 2) by decide +kernel) (fun q_67 cA_68 H hK hP hD hS => ?_)
  have hP : va_P D cl [(h0, .inr (1, fs33)), (q_1, .inl (cA_2, 32768, .inl (fun _ => 0))), (q_67, .inl (cA_68, 1000, .inl (fun _ => 0)))] H := hP
  have hD : va_D _ [(h0, .inr (1, fs33)), (q_1, .inl (cA_2, 32768, .inl (fun _ => 0))), (q_67, .inl (cA_68, 1000, .inl (fun _ => 0)))] := hD
  have hK : va_K D cl [(cA_2, .byte), (cA_68, .int)] s := hK
  refine W.widen (k := 34) (n := 113081) (by decide +kernel) (by decide +kernel) ?_
  refine va_putF (D := D) (ci := 1) (v := .ref q_67) (ty := .array .int) (C := R_MD) (T := F_MD) (N := 107) hx hb hts i_MD t_MD t_MD_ok n_MD hown hK hP hD hS 0 rfl rfl 66 (by decide +kernel) (hts _ w_1628) (fun _ h9 => h9) rfl hin rfl (by decide +kernel) rfl rfl (by simp [l33]) (show decode prog_15_method_1_code 303 = .ok (.putfield 111, 3) by decide +kernel) (fun H locs hP hD hS => ?_)
  have hP : va_P D cl [(h0, .inr (1, (fs33.set 66 (.ref q_67)))), (q_1, .inl (cA_2, 32768, .inl (fun _ => 0))), (q_67, .inl (cA_68, 1000, .inl (fun _ => 0)))] H := hP
  have hD : va_D _ [(h0, .inr (1, (fs33.set 66 (.ref q_67)))), (q_1, .inl (cA_2, 32768, .inl (fun _ => 0))), (q_67, .inl (cA_68, 1000, .inl (fun _ => 0)))] := hD
  obtain ⟨fs34, e34⟩ : ∃ z : List Value, z = (fs33.set 66 (.ref q_67)) := ⟨_, rfl⟩
  rw [← e34] at hP hD
  have l34 : fs34.length = 107 := md_len e34 l33
  have k34 : mdK fs34 fs_h0 := md_keep e34 (by decide +kernel) k33
  have r34_1 : xfa fs34 1 (.ref q_1) := md_ne e34 (by decide +kernel) r33_1
  have hP := hP.sub (ws' := [(h0, .inr (1, fs34)), (q_1, .inl (cA_2, 32768, .inl (fun _ => 0)))]) [0, 1] rfl
  have hD := hD.sub (ws' := [(h0, .inr (1, fs34)), (q_1, .inl (cA_2, 32768, .inl (fun _ => 0)))]) [0, 1] (by decide +kernel) rfl
  have hK := hK.sub (tys' := [(cA_2, .byte)]) [0] rfl
  refine lv_aload_n hx hb (show decode prog_15_method_1_code 306 = .ok (.aload_n 0, 1) by decide +kernel) rfl (lv_at hl 0 rfl) ?_
  refine lv_sipush (v := 1000) hx hb (show decode prog_15_method_1_code 307 = .ok (.sipush 1000, 3) by decide +kernel) (by decide +kernel) ?_
  refine va_newa (atype := .int) (a0 := (1000, .inl (fun _ => 0))) (ty := .int) hx hb (hts _ w_197) rfl hK hP hD hS hA (fun _ => rfl) (by decide +kernel) (by decide +kernel) (by decide +kernel) (by decide +kernel) (by decide +kernel) (show decode prog_15_method_1_code 310 = .ok (.newarray .int, 2) by decide +kernel) (fun q_69 cA_70 H hK hP hD hS => ?_)
  have hP : va_P D cl [(h0, .inr (1, fs34)), (q_1, .inl (cA_2, 32768, .inl (fun _ => 0))), (q_69, .inl (cA_70, 1000, .inl (fun _ => 0)))] H := hP
  have hD : va_D _ [(h0, .inr (1, fs34)), (q_1, .inl (cA_2, 32768, .inl (fun _ => 0))), (q_69, .inl (cA_70, 1000, .inl (fun _ => 0)))] := hD
  have hK : va_K D cl [(cA_2, .byte), (cA_70, .int)] s := hK
  refine W.widen (k := 35) (n := 114081) (by decide +kernel) (by decide +kernel) ?_
  refine va_putF (D := D) (ci := 1) (v := .ref q_69) (ty := .array .int) (C := R_MD) (T := F_MD) (N := 107) hx hb hts i_MD t_MD t_MD_ok n_MD hown hK hP hD hS 0 rfl rfl 67 (by decide +kernel) (hts _ w_1629) (fun _ h9 => h9) rfl hin rfl (by decide +kernel) rfl rfl (by simp [l34]) (show decode prog_15_method_1_code 312 = .ok (.putfield 114, 3) by decide +kernel) (fun H locs hP hD hS => ?_)
  have hP : va_P D cl [(h0, .inr (1, (fs34.set 67 (.ref q_69)))), (q_1, .inl (cA_2, 32768, .inl (fun _ => 0))), (q_69, .inl (cA_70, 1000, .inl (fun _ => 0)))] H := hP
  have hD : va_D _ [(h0, .inr (1, (fs34.set 67 (.ref q_69)))), (q_1, .inl (cA_2, 32768, .inl (fun _ => 0))), (q_69, .inl (cA_70, 1000, .inl (fun _ => 0)))] := hD
  obtain ⟨fs35, e35⟩ : ∃ z : List Value, z = (fs34.set 67 (.ref q_69)) := ⟨_, rfl⟩
  rw [← e35] at hP hD
  have l35 : fs35.length = 107 := md_len e35 l34
  have k35 : mdK fs35 fs_h0 := md_keep e35 (by decide +kernel) k34
  have r35_1 : xfa fs35 1 (.ref q_1) := md_ne e35 (by decide +kernel) r34_1
  have hP := hP.sub (ws' := [(h0, .inr (1, fs35)), (q_1, .inl (cA_2, 32768, .inl (fun _ => 0)))]) [0, 1] rfl
  have hD := hD.sub (ws' := [(h0, .inr (1, fs35)), (q_1, .inl (cA_2, 32768, .inl (fun _ => 0)))]) [0, 1] (by decide +kernel) rfl
  have hK := hK.sub (tys' := [(cA_2, .byte)]) [0] rfl
  refine lv_aload_n hx hb (show decode prog_15_method_1_code 315 = .ok (.aload_n 0, 1) by decide +kernel) rfl (lv_at hl 0 rfl) ?_
  refine lv_sipush (v := 12400) hx hb (show decode prog_15_method_1_code 316 = .ok (.sipush 12400, 3) by decide +kernel) (by decide +kernel) ?_
  refine va_newa (atype := .byte) (a0 := (12400, .inl (fun _ => 0))) (ty := .byte) hx hb (hts _ w_85) rfl hK hP hD hS hA (fun _ => rfl) (by decide +kernel) (by decide +kernel) (by decide +kernel) (by decide +kernel) (by decide +kernel) (show decode prog_15_method_1_code 319 = .ok (.newarray .byte, 2) by decide +kernel) (fun q_71 cA_72 H hK hP hD hS => ?_)
  have hP : va_P D cl [(h0, .inr (1, fs35)), (q_1, .inl (cA_2, 32768, .inl (fun _ => 0))), (q_71, .inl (cA_72, 12400, .inl (fun _ => 0)))] H := hP
  have hD : va_D _ [(h0, .inr (1, fs35)), (q_1, .inl (cA_2, 32768, .inl (fun _ => 0))), (q_71, .inl (cA_72, 12400, .inl (fun _ => 0)))] := hD
  have hK : va_K D cl [(cA_2, .byte), (cA_72, .byte)] s := hK
  refine W.widen (k := 36) (n := 126481) (by decide +kernel) (by decide +kernel) ?_
  refine va_putF (D := D) (ci := 1) (v := .ref q_71) (ty := .array .byte) (C := R_MD) (T := F_MD) (N := 107) hx hb hts i_MD t_MD t_MD_ok n_MD hown hK hP hD hS 0 rfl rfl 68 (by decide +kernel) (hts _ w_1630) (fun _ h9 => h9) rfl hin rfl (by decide +kernel) rfl rfl (by simp [l35]) (show decode prog_15_method_1_code 321 = .ok (.putfield 117, 3) by decide +kernel) (fun H locs hP hD hS => ?_)
  have hP : va_P D cl [(h0, .inr (1, (fs35.set 68 (.ref q_71)))), (q_1, .inl (cA_2, 32768, .inl (fun _ => 0))), (q_71, .inl (cA_72, 12400, .inl (fun _ => 0)))] H := hP
  have hD : va_D _ [(h0, .inr (1, (fs35.set 68 (.ref q_71)))), (q_1, .inl (cA_2, 32768, .inl (fun _ => 0))), (q_71, .inl (cA_72, 12400, .inl (fun _ => 0)))] := hD
  obtain ⟨fs36, e36⟩ : ∃ z : List Value, z = (fs35.set 68 (.ref q_71)) := ⟨_, rfl⟩
  rw [← e36] at hP hD
  have l36 : fs36.length = 107 := md_len e36 l35
  have k36 : mdK fs36 fs_h0 := md_keep e36 (by decide +kernel) k35
  have r36_1 : xfa fs36 1 (.ref q_1) := md_ne e36 (by decide +kernel) r35_1
  have hP := hP.sub (ws' := [(h0, .inr (1, fs36)), (q_1, .inl (cA_2, 32768, .inl (fun _ => 0)))]) [0, 1] rfl
  have hD := hD.sub (ws' := [(h0, .inr (1, fs36)), (q_1, .inl (cA_2, 32768, .inl (fun _ => 0)))]) [0, 1] (by decide +kernel) rfl
  have hK := hK.sub (tys' := [(cA_2, .byte)]) [0] rfl
  refine lv_aload_n hx hb (show decode prog_15_method_1_code 324 = .ok (.aload_n 0, 1) by decide +kernel) rfl (lv_at hl 0 rfl) ?_
  refine lv_sipush (v := 400) hx hb (show decode prog_15_method_1_code 325 = .ok (.sipush 400, 3) by decide +kernel) (by decide +kernel) ?_
  refine va_newa (atype := .int) (a0 := (400, .inl (fun _ => 0))) (ty := .int) hx hb (hts _ w_197) rfl hK hP hD hS hA (fun _ => rfl) (by decide +kernel) (by decide +kernel) (by decide +kernel) (by decide +kernel) (by decide +kernel) (show decode prog_15_method_1_code 328 = .ok (.newarray .int, 2) by decide +kernel) (fun q_73 cA_74 H hK hP hD hS => ?_)
  have hP : va_P D cl [(h0, .inr (1, fs36)), (q_1, .inl (cA_2, 32768, .inl (fun _ => 0))), (q_73, .inl (cA_74, 400, .inl (fun _ => 0)))] H := hP
  have hD : va_D _ [(h0, .inr (1, fs36)), (q_1, .inl (cA_2, 32768, .inl (fun _ => 0))), (q_73, .inl (cA_74, 400, .inl (fun _ => 0)))] := hD
  have hK : va_K D cl [(cA_2, .byte), (cA_74, .int)] s := hK
  refine W.widen (k := 37) (n := 126881) (by decide +kernel) (by decide +kernel) ?_
  refine va_putF (D := D) (ci := 1) (v := .ref q_73) (ty := .array .int) (C := R_MD) (T := F_MD) (N := 107) hx hb hts i_MD t_MD t_MD_ok n_MD hown hK hP hD hS 0 rfl rfl 69 (by decide +kernel) (hts _ w_1631) (fun _ h9 => h9) rfl hin rfl (by decide +kernel) rfl rfl (by simp [l36]) (show decode prog_15_method_1_code 330 = .ok (.putfield 120, 3) by decide +kernel) (fun H locs hP hD hS => ?_)
  have hP : va_P D cl [(h0, .inr (1, (fs36.set 69 (.ref q_73)))), (q_1, .inl (cA_2, 32768, .inl (fun _ => 0))), (q_73, .inl (cA_74, 400, .inl (fun _ => 0)))] H := hP
  have hD : va_D _ [(h0, .inr (1, (fs36.set 69 (.ref q_73)))), (q_1, .inl (cA_2, 32768, .inl (fun _ => 0))), (q_73, .inl (cA_74, 400, .inl (fun _ => 0)))] := hD
  obtain ⟨fs37, e37⟩ : ∃ z : List Value, z = (fs36.set 69 (.ref q_73)) := ⟨_, rfl⟩
  rw [← e37] at hP hD
  have l37 : fs37.length = 107 := md_len e37 l36
  have k37 : mdK fs37 fs_h0 := md_keep e37 (by decide +kernel) k36
  have r37_1 : xfa fs37 1 (.ref q_1) := md_ne e37 (by decide +kernel) r36_1
  have hP := hP.sub (ws' := [(h0, .inr (1, fs37)), (q_1, .inl (cA_2, 32768, .inl (fun _ => 0)))]) [0, 1] rfl
  have hD := hD.sub (ws' := [(h0, .inr (1, fs37)), (q_1, .inl (cA_2, 32768, .inl (fun _ => 0)))]) [0, 1] (by decide +kernel) rfl
  have hK := hK.sub (tys' := [(cA_2, .byte)]) [0] rfl
  refine lv_aload_n hx hb (show decode prog_15_method_1_code 333 = .ok (.aload_n 0, 1) by decide +kernel) rfl (lv_at hl 0 rfl) ?_
  refine lv_sipush (v := 1662) hx hb (show decode prog_15_method_1_code 334 = .ok (.sipush 1662, 3) by decide +kernel) (by decide +kernel) ?_
  refine va_newa (atype := .int) (a0 := (1662, .inl (fun _ => 0))) (ty := .int) hx hb (hts _ w_197) rfl hK hP hD hS hA (fun _ => rfl) (by decide +kernel) (by decide +kernel) (by decide +kernel) (by decide +kernel) (by decide +kernel) (show decode prog_15_method_1_code 337 = .ok (.newarray .int, 2) by decide +kernel) (fun q_75 cA_76 H hK hP hD hS => ?_)
  have hP : va_P D cl [(h0, .inr (1, fs37)), (q_1, .inl (cA_2, 32768, .inl (fun _ => 0))), (q_75, .inl (cA_76, 1662, .inl (fun _ => 0)))] H := hP
  have hD : va_D _ [(h0, .inr (1, fs37)), (q_1, .inl (cA_2, 32768, .inl (fun _ => 0))), (q_75, .inl (cA_76, 1662, .inl (fun _ => 0)))] := hD
  have hK : va_K D cl [(cA_2, .byte), (cA_76, .int)] s := hK
  refine W.widen (k := 38) (n := 128543) (by decide +kernel) (by decide +kernel) ?_
  refine va_putF (D := D) (ci := 1) (v := .ref q_75) (ty := .array .int) (C := R_MD) (T := F_MD) (N := 107) hx hb hts i_MD t_MD t_MD_ok n_MD hown hK hP hD hS 0 rfl rfl 70 (by decide +kernel) (hts _ w_1632) (fun _ h9 => h9) rfl hin rfl (by decide +kernel) rfl rfl (by simp [l37]) (show decode prog_15_method_1_code 339 = .ok (.putfield 123, 3) by decide +kernel) (fun H locs hP hD hS => ?_)
  have hP : va_P D cl [(h0, .inr (1, (fs37.set 70 (.ref q_75)))), (q_1, .inl (cA_2, 32768, .inl (fun _ => 0))), (q_75, .inl (cA_76, 1662, .inl (fun _ => 0)))] H := hP
  have hD : va_D _ [(h0, .inr (1, (fs37.set 70 (.ref q_75)))), (q_1, .inl (cA_2, 32768, .inl (fun _ => 0))), (q_75, .inl (cA_76, 1662, .inl (fun _ => 0)))] := hD
  obtain ⟨fs38, e38⟩ : ∃ z : List Value, z = (fs37.set 70 (.ref q_75)) := ⟨_, rfl⟩
  rw [← e38] at hP hD
  have l38 : fs38.length = 107 := md_len e38 l37
  have k38 : mdK fs38 fs_h0 := md_keep e38 (by decide +kernel) k37
  have r38_1 : xfa fs38 1 (.ref q_1) := md_ne e38 (by decide +kernel) r37_1
  have hP := hP.sub (ws' := [(h0, .inr (1, fs38)), (q_1, .inl (cA_2, 32768, .inl (fun _ => 0)))]) [0, 1] rfl
  have hD := hD.sub (ws' := [(h0, .inr (1, fs38)), (q_1, .inl (cA_2, 32768, .inl (fun _ => 0)))]) [0, 1] (by decide +kernel) rfl
  have hK := hK.sub (tys' := [(cA_2, .byte)]) [0] rfl
  refine lv_aload_n hx hb (show decode prog_15_method_1_code 342 = .ok (.aload_n 0, 1) by decide +kernel) rfl (lv_at hl 0 rfl) ?_
  refine lv_sipush (v := 1662) hx hb (show decode prog_15_method_1_code 343 = .ok (.sipush 1662, 3) by decide +kernel) (by decide +kernel) ?_
  refine va_newa (atype := .boolean) (a0 := (1662, .inl (fun _ => 0))) (ty := .boolean) hx hb (hts _ w_1043) rfl hK hP hD hS hA (fun _ => rfl) (by decide +kernel) (by decide +kernel) (by decide +kernel) (by decide +kernel) (by decide +kernel) (show decode prog_15_method_1_code 346 = .ok (.newarray .boolean, 2) by decide +kernel) (fun q_77 cA_78 H hK hP hD hS => ?_)
  have hP : va_P D cl [(h0, .inr (1, fs38)), (q_1, .inl (cA_2, 32768, .inl (fun _ => 0))), (q_77, .inl (cA_78, 1662, .inl (fun _ => 0)))] H := hP
  have hD : va_D _ [(h0, .inr (1, fs38)), (q_1, .inl (cA_2, 32768, .inl (fun _ => 0))), (q_77, .inl (cA_78, 1662, .inl (fun _ => 0)))] := hD
  have hK : va_K D cl [(cA_2, .byte), (cA_78, .boolean)] s := hK
  refine W.widen (k := 39) (n := 130205) (by decide +kernel) (by decide +kernel) ?_
  refine va_putF (D := D) (ci := 1) (v := .ref q_77) (ty := .array .boolean) (C := R_MD) (T := F_MD) (N := 107) hx hb hts i_MD t_MD t_MD_ok n_MD hown hK hP hD hS 0 rfl rfl 71 (by decide +kernel) (hts _ w_1633) (fun _ h9 => h9) rfl hin rfl (by decide +kernel) rfl rfl (by simp [l38]) (show decode prog_15_method_1_code 348 = .ok (.putfield 126, 3) by decide +kernel) (fun H locs hP hD hS => ?_)
  have hP : va_P D cl [(h0, .inr (1, (fs38.set 71 (.ref q_77)))), (q_1, .inl (cA_2, 32768, .inl (fun _ => 0))), (q_77, .inl (cA_78, 1662, .inl (fun _ => 0)))] H := hP
  have hD : va_D _ [(h0, .inr (1, (fs38.set 71 (.ref q_77)))), (q_1, .inl (cA_2, 32768, .inl (fun _ => 0))), (q_77, .inl (cA_78, 1662, .inl (fun _ => 0)))] := hD
  obtain ⟨fs39, e39⟩ : ∃ z : List Value, z = (fs38.set 71 (.ref q_77)) := ⟨_, rfl⟩
  rw [← e39] at hP hD
  have l39 : fs39.length = 107 := md_len e39 l38
  have k39 : mdK fs39 fs_h0 := md_keep e39 (by decide +kernel) k38
  have r39_1 : xfa fs39 1 (.ref q_1) := md_ne e39 (by decide +kernel) r38_1
  have hP := hP.sub (ws' := [(h0, .inr (1, fs39)), (q_1, .inl (cA_2, 32768, .inl (fun _ => 0)))]) [0, 1] rfl
  have hD := hD.sub (ws' := [(h0, .inr (1, fs39)), (q_1, .inl (cA_2, 32768, .inl (fun _ => 0)))]) [0, 1] (by decide +kernel) rfl
  have hK := hK.sub (tys' := [(cA_2, .byte)]) [0] rfl
  refine lv_aload_n hx hb (show decode prog_15_method_1_code 351 = .ok (.aload_n 0, 1) by decide +kernel) rfl (lv_at hl 0 rfl) ?_
  refine lv_sipush (v := 1662) hx hb (show decode prog_15_method_1_code 352 = .ok (.sipush 1662, 3) by decide +kernel) (by decide +kernel) ?_
  refine va_newa (atype := .boolean) (a0 := (1662, .inl (fun _ => 0))) (ty := .boolean) hx hb (hts _ w_1043) rfl hK hP hD hS hA (fun _ => rfl) (by decide +kernel) (by decide +kernel) (by decide +kernel) (by decide +kernel) (by decide +kernel) (show decode prog_15_method_1_code 355 = .ok (.newarray .boolean, 2) by decide +kernel) (fun q_79 cA_80 H hK hP hD hS => ?_)
  have hP : va_P D cl [(h0, .inr (1, fs39)), (q_1, .inl (cA_2, 32768, .inl (fun _ => 0))), (q_79, .inl (cA_80, 1662, .inl (fun _ => 0)))] H := hP
  have hD : va_D _ [(h0, .inr (1, fs39)), (q_1, .inl (cA_2, 32768, .inl (fun _ => 0))), (q_79, .inl (cA_80, 1662, .inl (fun _ => 0)))] := hD
  have hK : va_K D cl [(cA_2, .byte), (cA_80, .boolean)] s := hK
  refine W.widen (k := 40) (n := 131867) (by decide +kernel) (by decide +kernel) ?_
  refine va_putF (D := D) (ci := 1) (v := .ref q_79) (ty := .array .boolean) (C := R_MD) (T := F_MD) (N := 107) hx hb hts i_MD t_MD t_MD_ok n_MD hown hK hP hD hS 0 rfl rfl 72 (by decide +kernel) (hts _ w_1634) (fun _ h9 => h9) rfl hin rfl (by decide +kernel) rfl rfl (by simp [l39]) (show decode prog_15_method_1_code 357 = .ok (.putfield 130, 3) by decide +kernel) (fun H locs hP hD hS => ?_)
  have hP : va_P D cl [(h0, .inr (1, (fs39.set 72 (.ref q_79)))), (q_1, .inl (cA_2, 32768, .inl (fun _ => 0))), (q_79, .inl (cA_80, 1662, .inl (fun _ => 0)))] H := hP
  have hD : va_D _ [(h0, .inr (1, (fs39.set 72 (.ref q_79)))), (q_1, .inl (cA_2, 32768, .inl (fun _ => 0))), (q_79, .inl (cA_80, 1662, .inl (fun _ => 0)))] := hD
  obtain ⟨fs40, e40⟩ : ∃ z : List Value, z = (fs39.set 72 (.ref q_79)) := ⟨_, rfl⟩
  rw [← e40] at hP hD
  have l40 : fs40.length = 107 := md_len e40 l39
  have k40 : mdK fs40 fs_h0 := md_keep e40 (by decide +kernel) k39
  have r40_1 : xfa fs40 1 (.ref q_1) := md_ne e40 (by decide +kernel) r39_1
  have hP := hP.sub (ws' := [(h0, .inr (1, fs40)), (q_1, .inl (cA_2, 32768, .inl (fun _ => 0)))]) [0, 1] rfl
  have hD := hD.sub (ws' := [(h0, .inr (1, fs40)), (q_1, .inl (cA_2, 32768, .inl (fun _ => 0)))]) [0, 1] (by decide +kernel) rfl
  have hK := hK.sub (tys' := [(cA_2, .byte)]) [0] rfl
  refine lv_aload_n hx hb (show decode prog_15_method_1_code 360 = .ok (.aload_n 0, 1) by decide +kernel) rfl (lv_at hl 0 rfl) ?_
  refine lv_sipush (v := 400) hx hb (show decode prog_15_method_1_code 361 = .ok (.sipush 400, 3) by decide +kernel) (by decide +kernel) ?_
  refine va_newa (atype := .int) (a0 := (400, .inl (fun _ => 0))) (ty := .int) hx hb (hts _ w_197) rfl hK hP hD hS hA (fun _ => rfl) (by decide +kernel) (by decide +kernel) (by decide +kernel) (by decide +kernel) (by decide +kernel) (show decode prog_15_method_1_code 364 = .ok (.newarray .int, 2) by decide +kernel) (fun q_81 cA_82 H hK hP hD hS => ?_)
  have hP : va_P D cl [(h0, .inr (1, fs40)), (q_1, .inl (cA_2, 32768, .inl (fun _ => 0))), (q_81, .inl (cA_82, 400, .inl (fun _ => 0)))] H := hP
  have hD : va_D _ [(h0, .inr (1, fs40)), (q_1, .inl (cA_2, 32768, .inl (fun _ => 0))), (q_81, .inl (cA_82, 400, .inl (fun _ => 0)))] := hD
  have hK : va_K D cl [(cA_2, .byte), (cA_82, .int)] s := hK
  refine W.widen (k := 41) (n := 132267) (by decide +kernel) (by decide +kernel) ?_
  refine va_putF (D := D) (ci := 1) (v := .ref q_81) (ty := .array .int) (C := R_MD) (T := F_MD) (N := 107) hx hb hts i_MD t_MD t_MD_ok n_MD hown hK hP hD hS 0 rfl rfl 73 (by decide +kernel) (hts _ w_1635) (fun _ h9 => h9) rfl hin rfl (by decide +kernel) rfl rfl (by simp [l40]) (show decode prog_15_method_1_code 366 = .ok (.putfield 133, 3) by decide +kernel) (fun H locs hP hD hS => ?_)
  have hP : va_P D cl [(h0, .inr (1, (fs40.set 73 (.ref q_81)))), (q_1, .inl (cA_2, 32768, .inl (fun _ => 0))), (q_81, .inl (cA_82, 400, .inl (fun _ => 0)))] H := hP
  have hD : va_D _ [(h0, .inr (1, (fs40.set 73 (.ref q_81)))), (q_1, .inl (cA_2, 32768, .inl (fun _ => 0))), (q_81, .inl (cA_82, 400, .inl (fun _ => 0)))] := hD
  obtain ⟨fs41, e41⟩ : ∃ z : List Value, z = (fs40.set 73 (.ref q_81)) := ⟨_, rfl⟩
  rw [← e41] at hP hD
  have l41 : fs41.length = 107 := md_len e41 l40
  have k41 : mdK fs41 fs_h0 := md_keep e41 (by decide +kernel) k40
  have r41_1 : xfa fs41 1 (.ref q_1) := md_ne e41 (by decide +kernel) r40_1
  have hP := hP.sub (ws' := [(h0, .inr (1, fs41)), (q_1, .inl (cA_2, 32768, .inl (fun _ => 0)))]) [0, 1] rfl
  have hD := hD.sub (ws' := [(h0, .inr (1, fs41)), (q_1, .inl (cA_2, 32768, .inl (fun _ => 0)))]) [0, 1] (by decide +kernel) rfl
  have hK := hK.sub (tys' := [(cA_2, .byte)]) [0] rfl
  refine lv_aload_n hx hb (show decode prog_15_method_1_code 369 = .ok (.aload_n 0, 1) by decide +kernel) rfl (lv_at hl 0 rfl) ?_
  refine lv_sipush (v := 200) hx hb (show decode prog_15_method_1_code 370 = .ok (.sipush 200, 3) by decide +kernel) (by decide +kernel) ?_
  refine va_newa (atype := .boolean) (a0 := (200, .inl (fun _ => 0))) (ty := .boolean) hx hb (hts _ w_1043) rfl hK hP hD hS hA (fun _ => rfl) (by decide +kernel) (by decide +kernel) (by decide +kernel) (by decide +kernel) (by decide +kernel) (show decode prog_15_method_1_code 373 = .ok (.newarray .boolean, 2) by decide +kernel) (fun q_83 cA_84 H hK hP hD hS => ?_)
  have hP : va_P D cl [(h0, .inr (1, fs41)), (q_1, .inl (cA_2, 32768, .inl (fun _ => 0))), (q_83, .inl (cA_84, 200, .inl (fun _ => 0)))] H := hP
  have hD : va_D _ [(h0, .inr (1, fs41)), (q_1, .inl (cA_2, 32768, .inl (fun _ => 0))), (q_83, .inl (cA_84, 200, .inl (fun _ => 0)))] := hD
  have hK : va_K D cl [(cA_2, .byte), (cA_84, .boolean)] s := hK
  refine W.widen (k := 42) (n := 132467) (by decide +kernel) (by decide +kernel) ?_
  refine va_putF (D := D) (ci := 1) (v := .ref q_83) (ty := .array .boolean) (C := R_MD) (T := F_MD) (N := 107) hx hb hts i_MD t_MD t_MD_ok n_MD hown hK hP hD hS 0 rfl rfl 74 (by decide +kernel) (hts _ w_1636) (fun _ h9 => h9) rfl hin rfl (by decide +kernel) rfl rfl (by simp [l41]) (show decode prog_15_method_1_code 375 = .ok (.putfield 136, 3) by decide +kernel) (fun H locs hP hD hS => ?_)
  have hP : va_P D cl [(h0, .inr (1, (fs41.set 74 (.ref q_83)))), (q_1, .inl (cA_2, 32768, .inl (fun _ => 0))), (q_83, .inl (cA_84, 200, .inl (fun _ => 0)))] H := hP
  have hD : va_D _ [(h0, .inr (1, (fs41.set 74 (.ref q_83)))), (q_1, .inl (cA_2, 32768, .inl (fun _ => 0))), (q_83, .inl (cA_84, 200, .inl (fun _ => 0)))] := hD
  obtain ⟨fs42, e42⟩ : ∃ z : List Value, z = (fs41.set 74 (.ref q_83)) := ⟨_, rfl⟩
  rw [← e42] at hP hD
  have l42 : fs42.length = 107 := md_len e42 l41
  have k42 : mdK fs42 fs_h0 := md_keep e42 (by decide +kernel) k41
  have r42_1 : xfa fs42 1 (.ref q_1) := md_ne e42 (by decide +kernel) r41_1
  have r42_74 : xfa fs42 74 (.ref q_83) := md_eq e42 l41 (by decide +kernel)
  refine lv_aload_n hx hb (show decode prog_15_method_1_code 378 = .ok (.aload_n 0, 1) by decide +kernel) rfl (lv_at hl 0 rfl) ?_
  refine lv_sipush (v := 200) hx hb (show decode prog_15_method_1_code 379 = .ok (.sipush 200, 3) by decide +kernel) (by decide +kernel) ?_
  refine va_newa (atype := .boolean) (a0 := (200, .inl (fun _ => 0))) (ty := .boolean) hx hb (hts _ w_1043) rfl hK hP hD hS hA (fun _ => rfl) (by decide +kernel) (by decide +kernel) (by decide +kernel) (by decide +kernel) (by decide +kernel) (show decode prog_15_method_1_code 382 = .ok (.newarray .boolean, 2) by decide +kernel) (fun q_85 cA_86 H hK hP hD hS => ?_)
  have hP : va_P D cl [(h0, .inr (1, fs42)), (q_1, .inl (cA_2, 32768, .inl (fun _ => 0))), (q_83, .inl (cA_84, 200, .inl (fun _ => 0))), (q_85, .inl (cA_86, 200, .inl (fun _ => 0)))] H := hP
  have hD : va_D _ [(h0, .inr (1, fs42)), (q_1, .inl (cA_2, 32768, .inl (fun _ => 0))), (q_83, .inl (cA_84, 200, .inl (fun _ => 0))), (q_85, .inl (cA_86, 200, .inl (fun _ => 0)))] := hD
  have hK : va_K D cl [(cA_2, .byte), (cA_84, .boolean), (cA_86, .boolean)] s := hK
  refine W.widen (k := 43) (n := 132667) (by decide +kernel) (by decide +kernel) ?_
  refine va_putF (D := D) (ci := 1) (v := .ref q_85) (ty := .array .boolean) (C := R_MD) (T := F_MD) (N := 107) hx hb hts i_MD t_MD t_MD_ok n_MD hown hK hP hD hS 0 rfl rfl 75 (by decide +kernel) (hts _ w_1637) (fun _ h9 => h9) rfl hin rfl (by decide +kernel) rfl rfl (by simp [l42]) (show decode prog_15_method_1_code 384 = .ok (.putfield 139, 3) by decide +kernel) (fun H locs hP hD hS => ?_)
  have hP : va_P D cl [(h0, .inr (1, (fs42.set 75 (.ref q_85)))), (q_1, .inl (cA_2, 32768, .inl (fun _ => 0))), (q_83, .inl (cA_84, 200, .inl (fun _ => 0))), (q_85, .inl (cA_86, 200, .inl (fun _ => 0)))] H := hP
  have hD : va_D _ [(h0, .inr (1, (fs42.set 75 (.ref q_85)))), (q_1, .inl (cA_2, 32768, .inl (fun _ => 0))), (q_83, .inl (cA_84, 200, .inl (fun _ => 0))), (q_85, .inl (cA_86, 200, .inl (fun _ => 0)))] := hD
  obtain ⟨fs43, e43⟩ : ∃ z : List Value, z = (fs42.set 75 (.ref q_85)) := ⟨_, rfl⟩
  rw [← e43] at hP hD
  have l43 : fs43.length = 107 := md_len e43 l42
  have k43 : mdK fs43 fs_h0 := md_keep e43 (by decide +kernel) k42
  have r43_1 : xfa fs43 1 (.ref q_1) := md_ne e43 (by decide +kernel) r42_1
  have r43_74 : xfa fs43 74 (.ref q_83) := md_ne e43 (by decide +kernel) r42_74
  have hP := hP.sub (ws' := [(h0, .inr (1, fs43)), (q_1, .inl (cA_2, 32768, .inl (fun _ => 0))), (q_83, .inl (cA_84, 200, .inl (fun _ => 0)))]) [0, 1, 2] rfl
  have hD := hD.sub (ws' := [(h0, .inr (1, fs43)), (q_1, .inl (cA_2, 32768, .inl (fun _ => 0))), (q_83, .inl (cA_84, 200, .inl (fun _ => 0)))]) [0, 1, 2] (by decide +kernel) rfl
  have hK := hK.sub (tys' := [(cA_2, .byte), (cA_84, .boolean)]) [0, 1] rfl
  refine lv_aload_n hx hb (show decode prog_15_method_1_code 387 = .ok (.aload_n 0, 1) by decide +kernel) rfl (lv_at hl 0 rfl) ?_
  refine lv_sipush (v := 201) hx hb (show decode prog_15_method_1_code 388 = .ok (.sipush 201, 3) by decide +kernel) (by decide +kernel) ?_
  refine va_newa (atype := .int) (a0 := (201, .inl (fun _ => 0))) (ty := .int) hx hb (hts _ w_197) rfl hK hP hD hS hA (fun _ => rfl) (by decide +kernel) (by decide +kernel) (by decide +kernel) (by decide +kernel) (by decide +kernel) (show decode prog_15_method_1_code 391 = .ok (.newarray .int, 2) by decide +kernel) (fun q_87 cA_88 H hK hP hD hS => ?_)
  have hP : va_P D cl [(h0, .inr (1, fs43)), (q_1, .inl (cA_2, 32768, .inl (fun _ => 0))), (q_83, .inl (cA_84, 200, .inl (fun _ => 0))), (q_87, .inl (cA_88, 201, .inl (fun _ => 0)))] H := hP
  have hD : va_D _ [(h0, .inr (1, fs43)), (q_1, .inl (cA_2, 32768, .inl (fun _ => 0))), (q_83, .inl (cA_84, 200, .inl (fun _ => 0))), (q_87, .inl (cA_88, 201, .inl (fun _ => 0)))] := hD
  have hK : va_K D cl [(cA_2, .byte), (cA_84, .boolean), (cA_88, .int)] s := hK
  refine W.widen (k := 44) (n := 132868) (by decide +kernel) (by decide +kernel) ?_
  refine va_putF (D := D) (ci := 1) (v := .ref q_87) (ty := .array .int) (C := R_MD) (T := F_MD) (N := 107) hx hb hts i_MD t_MD t_MD_ok n_MD hown hK hP hD hS 0 rfl rfl 76 (by decide +kernel) (hts _ w_1638) (fun _ h9 => h9) rfl hin rfl (by decide +kernel) rfl rfl (by simp [l43]) (show decode prog_15_method_1_code 393 = .ok (.putfield 142, 3) by decide +kernel) (fun H locs hP hD hS => ?_)
  have hP : va_P D cl [(h0, .inr (1, (fs43.set 76 (.ref q_87)))), (q_1, .inl (cA_2, 32768, .inl (fun _ => 0))), (q_83, .inl (cA_84, 200, .inl (fun _ => 0))), (q_87, .inl (cA_88, 201, .inl (fun _ => 0)))] H := hP
  have hD : va_D _ [(h0, .inr (1, (fs43.set 76 (.ref q_87)))), (q_1, .inl (cA_2, 32768, .inl (fun _ => 0))), (q_83, .inl (cA_84, 200, .inl (fun _ => 0))), (q_87, .inl (cA_88, 201, .inl (fun _ => 0)))] := hD
  obtain ⟨fs44, e44⟩ : ∃ z : List Value, z = (fs43.set 76 (.ref q_87)) := ⟨_, rfl⟩
  rw [← e44] at hP hD
  have l44 : fs44.length = 107 := md_len e44 l43
  have k44 : mdK fs44 fs_h0 := md_keep e44 (by decide +kernel) k43
  have r44_1 : xfa fs44 1 (.ref q_1) := md_ne e44 (by decide +kernel) r43_1
  have r44_74 : xfa fs44 74 (.ref q_83) := md_ne e44 (by decide +kernel) r43_74
  have hP := hP.sub (ws' := [(h0, .inr (1, fs44)), (q_1, .inl (cA_2, 32768, .inl (fun _ => 0))), (q_83, .inl (cA_84, 200, .inl (fun _ => 0)))]) [0, 1, 2] rfl
  have hD := hD.sub (ws' := [(h0, .inr (1, fs44)), (q_1, .inl (cA_2, 32768, .inl (fun _ => 0))), (q_83, .inl (cA_84, 200, .inl (fun _ => 0)))]) [0, 1, 2] (by decide +kernel) rfl
  have hK := hK.sub (tys' := [(cA_2, .byte), (cA_84, .boolean)]) [0, 1] rfl
  refine lv_aload_n hx hb (show decode prog_15_method_1_code 396 = .ok (.aload_n 0, 1) by decide +kernel) rfl (lv_at hl 0 rfl) ?_
  refine lv_bipush (v := 62) hx hb (show decode prog_15_method_1_code 397 = .ok (.bipush 62, 2) by decide +kernel) (by decide +kernel) ?_
  refine va_newa (atype := .int) (a0 := (62, .inl (fun _ => 0))) (ty := .int) hx hb (hts _ w_197) rfl hK hP hD hS hA (fun _ => rfl) (by decide +kernel) (by decide +kernel) (by decide +kernel) (by decide +kernel) (by decide +kernel) (show decode prog_15_method_1_code 399 = .ok (.newarray .int, 2) by decide +kernel) (fun q_89 cA_90 H hK hP hD hS => ?_)
  have hP : va_P D cl [(h0, .inr (1, fs44)), (q_1, .inl (cA_2, 32768, .inl (fun _ => 0))), (q_83, .inl (cA_84, 200, .inl (fun _ => 0))), (q_89, .inl (cA_90, 62, .inl (fun _ => 0)))] H := hP
  have hD : va_D _ [(h0, .inr (1, fs44)), (q_1, .inl (cA_2, 32768, .inl (fun _ => 0))), (q_83, .inl (cA_84, 200, .inl (fun _ => 0))), (q_89, .inl (cA_90, 62, .inl (fun _ => 0)))] := hD
  have hK : va_K D cl [(cA_2, .byte), (cA_84, .boolean), (cA_90, .int)] s := hK
  refine W.widen (k := 45) (n := 132930) (by decide +kernel) (by decide +kernel) ?_
  refine va_putF (D := D) (ci := 1) (v := .ref q_89) (ty := .array .int) (C := R_MD) (T := F_MD) (N := 107) hx hb hts i_MD t_MD t_MD_ok n_MD hown hK hP hD hS 0 rfl rfl 84 (by decide +kernel) (hts _ w_1646) (fun _ h9 => h9) rfl hin rfl (by decide +kernel) rfl rfl (by simp [l44]) (show decode prog_15_method_1_code 401 = .ok (.putfield 145, 3) by decide +kernel) (fun H locs hP hD hS => ?_)
  have hP : va_P D cl [(h0, .inr (1, (fs44.set 84 (.ref q_89)))), (q_1, .inl (cA_2, 32768, .inl (fun _ => 0))), (q_83, .inl (cA_84, 200, .inl (fun _ => 0))), (q_89, .inl (cA_90, 62, .inl (fun _ => 0)))] H := hP
  have hD : va_D _ [(h0, .inr (1, (fs44.set 84 (.ref q_89)))), (q_1, .inl (cA_2, 32768, .inl (fun _ => 0))), (q_83, .inl (cA_84, 200, .inl (fun _ => 0))), (q_89, .inl (cA_90, 62, .inl (fun _ => 0)))] := hD
  obtain ⟨fs45, e45⟩ : ∃ z : List Value, z = (fs44.set 84 (.ref q_89)) := ⟨_, rfl⟩
  rw [← e45] at hP hD
  have l45 : fs45.length = 107 := md_len e45 l44
  have k45 : mdK fs45 fs_h0 := md_keep e45 (by decide +kernel) k44
  have r45_1 : xfa fs45 1 (.ref q_1) := md_ne e45 (by decide +kernel) r44_1
  have r45_74 : xfa fs45 74 (.ref q_83) := md_ne e45 (by decide +kernel) r44_74
  have r45_84 : xfa fs45 84 (.ref q_89) := md_eq e45 l44 (by decide +kernel)
  refine lv_aload_n hx hb (show decode prog_15_method_1_code 404 = .ok (.aload_n 0, 1) by decide +kernel) rfl (lv_at hl 0 rfl) ?_
  refine lv_sipush (v := 257) hx hb (show decode prog_15_method_1_code 405 = .ok (.sipush 257, 3) by decide +kernel) (by decide +kernel) ?_
  refine va_newa (atype := .int) (a0 := (257, .inl (fun _ => 0))) (ty := .int) hx hb (hts _ w_197) rfl hK hP hD hS hA (fun _ => rfl) (by decide +kernel) (by decide +kernel) (by decide +kernel) (by decide +kernel) (by decide +kernel) (show decode prog_15_method_1_code 408 = .ok (.newarray .int, 2) by decide +kernel) (fun q_91 cA_92 H hK hP hD hS => ?_)
  have hP : va_P D cl [(h0, .inr (1, fs45)), (q_1, .inl (cA_2, 32768, .inl (fun _ => 0))), (q_83, .inl (cA_84, 200, .inl (fun _ => 0))), (q_89, .inl (cA_90, 62, .inl (fun _ => 0))), (q_91, .inl (cA_92, 257, .inl (fun _ => 0)))] H := hP
  have hD : va_D _ [(h0, .inr (1, fs45)), (q_1, .inl (cA_2, 32768, .inl (fun _ => 0))), (q_83, .inl (cA_84, 200, .inl (fun _ => 0))), (q_89, .inl (cA_90, 62, .inl (fun _ => 0))), (q_91, .inl (cA_92, 257, .inl (fun _ => 0)))] := hD
  have hK : va_K D cl [(cA_2, .byte), (cA_84, .boolean), (cA_90, .int), (cA_92, .int)] s := hK
  refine W.widen (k := 46) (n := 133187) (by decide +kernel) (by decide +kernel) ?_
  refine va_putF (D := D) (ci := 1) (v := .ref q_91) (ty := .array .int) (C := R_MD) (T := F_MD) (N := 107) hx hb hts i_MD t_MD t_MD_ok n_MD hown hK hP hD hS 0 rfl rfl 88 (by decide +kernel) (hts _ w_1650) (fun _ h9 => h9) rfl hin rfl (by decide +kernel) rfl rfl (by simp [l45]) (show decode prog_15_method_1_code 410 = .ok (.putfield 148, 3) by decide +kernel) (fun H locs hP hD hS => ?_)
  have hP : va_P D cl [(h0, .inr (1, (fs45.set 88 (.ref q_91)))), (q_1, .inl (cA_2, 32768, .inl (fun _ => 0))), (q_83, .inl (cA_84, 200, .inl (fun _ => 0))), (q_89, .inl (cA_90, 62, .inl (fun _ => 0))), (q_91, .inl (cA_92, 257, .inl (fun _ => 0)))] H := hP
  have hD : va_D _ [(h0, .inr (1, (fs45.set 88 (.ref q_91)))), (q_1, .inl (cA_2, 32768, .inl (fun _ => 0))), (q_83, .inl (cA_84, 200, .inl (fun _ => 0))), (q_89, .inl (cA_90, 62, .inl (fun _ => 0))), (q_91, .inl (cA_92, 257, .inl (fun _ => 0)))] := hD
  obtain ⟨fs46, e46⟩ : ∃ z : List Value, z = (fs45.set 88 (.ref q_91)) := ⟨_, rfl⟩
  rw [← e46] at hP hD
  have l46 : fs46.length = 107 := md_len e46 l45
  have k46 : mdK fs46 fs_h0 := md_keep e46 (by decide +kernel) k45
  have r46_1 : xfa fs46 1 (.ref q_1) := md_ne e46 (by decide +kernel) r45_1
  have r46_74 : xfa fs46 74 (.ref q_83) := md_ne e46 (by decide +kernel) r45_74
  have r46_84 : xfa fs46 84 (.ref q_89) := md_ne e46 (by decide +kernel) r45_84
  have hP := hP.sub (ws' := [(h0, .inr (1, fs46)), (q_1, .inl (cA_2, 32768, .inl (fun _ => 0))), (q_83, .inl (cA_84, 200, .inl (fun _ => 0))), (q_89, .inl (cA_90, 62, .inl (fun _ => 0)))]) [0, 1, 2, 3] rfl
  have hD := hD.sub (ws' := [(h0, .inr (1, fs46)), (q_1, .inl (cA_2, 32768, .inl (fun _ => 0))), (q_83, .inl (cA_84, 200, .inl (fun _ => 0))), (q_89, .inl (cA_90, 62, .inl (fun _ => 0)))]) [0, 1, 2, 3] (by decide +kernel) rfl
  have hK := hK.sub (tys' := [(cA_2, .byte), (cA_84, .boolean), (cA_90, .int)]) [0, 1, 2] rfl
  refine lv_aload_n hx hb (show decode prog_15_method_1_code 413 = .ok (.aload_n 0, 1) by decide +kernel) rfl (lv_at hl 0 rfl) ?_
  refine lv_sipush (v := 257) hx hb (show decode prog_15_method_1_code 414 = .ok (.sipush 257, 3) by decide +kernel) (by decide +kernel) ?_
  refine va_newa (atype := .int) (a0 := (257, .inl (fun _ => 0))) (ty := .int) hx hb (hts _ w_197) rfl hK hP hD hS hA (fun _ => rfl) (by decide +kernel) (by decide +kernel) (by decide +kernel) (by decide +kernel) (by decide +kernel) (show decode prog_15_method_1_code 417 = .ok (.newarray .int, 2) by decide +kernel) (fun q_93 cA_94 H hK hP hD hS => ?_)
  have hP : va_P D cl [(h0, .inr (1, fs46)), (q_1, .inl (cA_2, 32768, .inl (fun _ => 0))), (q_83, .inl (cA_84, 200, .inl (fun _ => 0))), (q_89, .inl (cA_90, 62, .inl (fun _ => 0))), (q_93, .inl (cA_94, 257, .inl (fun _ => 0)))] H := hP
  have hD : va_D _ [(h0, .inr (1, fs46)), (q_1, .inl (cA_2, 32768, .inl (fun _ => 0))), (q_83, .inl (cA_84, 200, .inl (fun _ => 0))), (q_89, .inl (cA_90, 62, .inl (fun _ => 0))), (q_93, .inl (cA_94, 257, .inl (fun _ => 0)))] := hD
  have hK : va_K D cl [(cA_2, .byte), (cA_84, .boolean), (cA_90, .int), (cA_94, .int)] s := hK
  refine W.widen (k := 47) (n := 133444) (by decide +kernel) (by decide +kernel) ?_
  refine va_putF (D := D) (ci := 1) (v := .ref q_93) (ty := .array .int) (C := R_MD) (T := F_MD) (N := 107) hx hb hts i_MD t_MD t_MD_ok n_MD hown hK hP hD hS 0 rfl rfl 89 (by decide +kernel) (hts _ w_1651) (fun _ h9 => h9) rfl hin rfl (by decide +kernel) rfl rfl (by simp [l46]) (show decode prog_15_method_1_code 419 = .ok (.putfield 151, 3) by decide +kernel) (fun H locs hP hD hS => ?_)
  have hP : va_P D cl [(h0, .inr (1, (fs46.set 89 (.ref q_93)))), (q_1, .inl (cA_2, 32768, .inl (fun _ => 0))), (q_83, .inl (cA_84, 200, .inl (fun _ => 0))), (q_89, .inl (cA_90, 62, .inl (fun _ => 0))), (q_93, .inl (cA_94, 257, .inl (fun _ => 0)))] H := hP
  have hD : va_D _ [(h0, .inr (1, (fs46.set 89 (.ref q_93)))), (q_1, .inl (cA_2, 32768, .inl (fun _ => 0))), (q_83, .inl (cA_84, 200, .inl (fun _ => 0))), (q_89, .inl (cA_90, 62, .inl (fun _ => 0))), (q_93, .inl (cA_94, 257, .inl (fun _ => 0)))] := hD
  obtain ⟨fs47, e47⟩ : ∃ z : List Value, z = (fs46.set 89 (.ref q_93)) := ⟨_, rfl⟩
  rw [← e47] at hP hD
  have l47 : fs47.length = 107 := md_len e47 l46
  have k47 : mdK fs47 fs_h0 := md_keep e47 (by decide +kernel) k46
  have r47_1 : xfa fs47 1 (.ref q_1) := md_ne e47 (by decide +kernel) r46_1
  have r47_74 : xfa fs47 74 (.ref q_83) := md_ne e47 (by decide +kernel) r46_74
  have r47_84 : xfa fs47 84 (.ref q_89) := md_ne e47 (by decide +kernel) r46_84
  have hP := hP.sub (ws' := [(h0, .inr (1, fs47)), (q_1, .inl (cA_2, 32768, .inl (fun _ => 0))), (q_83, .inl (cA_84, 200, .inl (fun _ => 0))), (q_89, .inl (cA_90, 62, .inl (fun _ => 0)))]) [0, 1, 2, 3] rfl
  have hD := hD.sub (ws' := [(h0, .inr (1, fs47)), (q_1, .inl (cA_2, 32768, .inl (fun _ => 0))), (q_83, .inl (cA_84, 200, .inl (fun _ => 0))), (q_89, .inl (cA_90, 62, .inl (fun _ => 0)))]) [0, 1, 2, 3] (by decide +kernel) rfl
  have hK := hK.sub (tys' := [(cA_2, .byte), (cA_84, .boolean), (cA_90, .int)]) [0, 1, 2] rfl
  refine lv_aload_n hx hb (show decode prog_15_method_1_code 422 = .ok (.aload_n 0, 1) by decide +kernel) rfl (lv_at hl 0 rfl) ?_
  refine lv_sipush (v := 257) hx hb (show decode prog_15_method_1_code 423 = .ok (.sipush 257, 3) by decide +kernel) (by decide +kernel) ?_
  refine va_newa (atype := .int) (a0 := (257, .inl (fun _ => 0))) (ty := .int) hx hb (hts _ w_197) rfl hK hP hD hS hA (fun _ => rfl) (by decide +kernel) (by decide +kernel) (by decide +kernel) (by decide +kernel) (by decide +kernel) (show decode prog_15_method_1_code 426 = .ok (.newarray .int, 2) by decide +kernel) (fun q_95 cA_96 H hK hP hD hS => ?_)
  have hP : va_P D cl [(h0, .inr (1, fs47)), (q_1, .inl (cA_2, 32768, .inl (fun _ => 0))), (q_83, .inl (cA_84, 200, .inl (fun _ => 0))), (q_89, .inl (cA_90, 62, .inl (fun _ => 0))), (q_95, .inl (cA_96, 257, .inl (fun _ => 0)))] H := hP
  have hD : va_D _ [(h0, .inr (1, fs47)), (q_1, .inl (cA_2, 32768, .inl (fun _ => 0))), (q_83, .inl (cA_84, 200, .inl (fun _ => 0))), (q_89, .inl (cA_90, 62, .inl (fun _ => 0))), (q_95, .inl (cA_96, 257, .inl (fun _ => 0)))] := hD
  have hK : va_K D cl [(cA_2, .byte), (cA_84, .boolean), (cA_90, .int), (cA_96, .int)] s := hK
  refine W.widen (k := 48) (n := 133701) (by decide +kernel) (by decide +kernel) ?_
  refine va_putF (D := D) (ci := 1) (v := .ref q_95) (ty := .array .int) (C := R_MD) (T := F_MD) (N := 107) hx hb hts i_MD t_MD t_MD_ok n_MD hown hK hP hD hS 0 rfl rfl 90 (by decide +kernel) (hts _ w_1652) (fun _ h9 => h9) rfl hin rfl (by decide +kernel) rfl rfl (by simp [l47]) (show decode prog_15_method_1_code 428 = .ok (.putfield 154, 3) by decide +kernel) (fun H locs hP hD hS => ?_)
  have hP : va_P D cl [(h0, .inr (1, (fs47.set 90 (.ref q_95)))), (q_1, .inl (cA_2, 32768, .inl (fun _ => 0))), (q_83, .inl (cA_84, 200, .inl (fun _ => 0))), (q_89, .inl (cA_90, 62, .inl (fun _ => 0))), (q_95, .inl (cA_96, 257, .inl (fun _ => 0)))] H := hP
  have hD : va_D _ [(h0, .inr (1, (fs47.set 90 (.ref q_95)))), (q_1, .inl (cA_2, 32768, .inl (fun _ => 0))), (q_83, .inl (cA_84, 200, .inl (fun _ => 0))), (q_89, .inl (cA_90, 62, .inl (fun _ => 0))), (q_95, .inl (cA_96, 257, .inl (fun _ => 0)))] := hD
  obtain ⟨fs48, e48⟩ : ∃ z : List Value, z = (fs47.set 90 (.ref q_95)) := ⟨_, rfl⟩
  rw [← e48] at hP hD
  have l48 : fs48.length = 107 := md_len e48 l47
  have k48 : mdK fs48 fs_h0 := md_keep e48 (by decide +kernel) k47
  have r48_1 : xfa fs48 1 (.ref q_1) := md_ne e48 (by decide +kernel) r47_1
  have r48_74 : xfa fs48 74 (.ref q_83) := md_ne e48 (by decide +kernel) r47_74
  have r48_84 : xfa fs48 84 (.ref q_89) := md_ne e48 (by decide +kernel) r47_84
  have hP := hP.sub (ws' := [(h0, .inr (1, fs48)), (q_1, .inl (cA_2, 32768, .inl (fun _ => 0))), (q_83, .inl (cA_84, 200, .inl (fun _ => 0))), (q_89, .inl (cA_90, 62, .inl (fun _ => 0)))]) [0, 1, 2, 3] rfl
  have hD := hD.sub (ws' := [(h0, .inr (1, fs48)), (q_1, .inl (cA_2, 32768, .inl (fun _ => 0))), (q_83, .inl (cA_84, 200, .inl (fun _ => 0))), (q_89, .inl (cA_90, 62, .inl (fun _ => 0)))]) [0, 1, 2, 3] (by decide +kernel) rfl
  have hK := hK.sub (tys' := [(cA_2, .byte), (cA_84, .boolean), (cA_90, .int)]) [0, 1, 2] rfl
  refine lv_aload_n hx hb (show decode prog_15_method_1_code 431 = .ok (.aload_n 0, 1) by decide +kernel) rfl (lv_at hl 0 rfl) ?_
  refine lv_sipush (v := 257) hx hb (show decode prog_15_method_1_code 432 = .ok (.sipush 257, 3) by decide +kernel) (by decide +kernel) ?_
  refine va_newa (atype := .int) (a0 := (257, .inl (fun _ => 0))) (ty := .int) hx hb (hts _ w_197) rfl hK hP hD hS hA (fun _ => rfl) (by decide +kernel) (by decide +kernel) (by decide +kernel) (by decide +kernel) (by decide +kernel) (show decode prog_15_method_1_code 435 = .ok (.newarray .int, 2) by decide +kernel) (fun q_97 cA_98 H hK hP hD hS => ?_)
  have hP : va_P D cl [(h0, .inr (1, fs48)), (q_1, .inl (cA_2, 32768, .inl (fun _ => 0))), (q_83, .inl (cA_84, 200, .inl (fun _ => 0))), (q_89, .inl (cA_90, 62, .inl (fun _ => 0))), (q_97, .inl (cA_98, 257, .inl (fun _ => 0)))] H := hP
  have hD : va_D _ [(h0, .inr (1, fs48)), (q_1, .inl (cA_2, 32768, .inl (fun _ => 0))), (q_83, .inl (cA_84, 200, .inl (fun _ => 0))), (q_89, .inl (cA_90, 62, .inl (fun _ => 0))), (q_97, .inl (cA_98, 257, .inl (fun _ => 0)))] := hD
  have hK : va_K D cl [(cA_2, .byte), (cA_84, .boolean), (cA_90, .int), (cA_98, .int)] s := hK
  refine W.widen (k := 49) (n := 133958) (by decide +kernel) (by decide +kernel) ?_
  refine va_putF (D := D) (ci := 1) (v := .ref q_97) (ty := .array .int) (C := R_MD) (T := F_MD) (N := 107) hx hb hts i_MD t_MD t_MD_ok n_MD hown hK hP hD hS 0 rfl rfl 91 (by decide +kernel) (hts _ w_1653) (fun _ h9 => h9) rfl hin rfl (by decide +kernel) rfl rfl (by simp [l48]) (show decode prog_15_method_1_code 437 = .ok (.putfield 157, 3) by decide +kernel) (fun H locs hP hD hS => ?_)
  have hP : va_P D cl [(h0, .inr (1, (fs48.set 91 (.ref q_97)))), (q_1, .inl (cA_2, 32768, .inl (fun _ => 0))), (q_83, .inl (cA_84, 200, .inl (fun _ => 0))), (q_89, .inl (cA_90, 62, .inl (fun _ => 0))), (q_97, .inl (cA_98, 257, .inl (fun _ => 0)))] H := hP
  have hD : va_D _ [(h0, .inr (1, (fs48.set 91 (.ref q_97)))), (q_1, .inl (cA_2, 32768, .inl (fun _ => 0))), (q_83, .inl (cA_84, 200, .inl (fun _ => 0))), (q_89, .inl (cA_90, 62, .inl (fun _ => 0))), (q_97, .inl (cA_98, 257, .inl (fun _ => 0)))] := hD
  obtain ⟨fs49, e49⟩ : ∃ z : List Value, z = (fs48.set 91 (.ref q_97)) := ⟨_, rfl⟩
  rw [← e49] at hP hD
  have l49 : fs49.length = 107 := md_len e49 l48
  have k49 : mdK fs49 fs_h0 := md_keep e49 (by decide +kernel) k48
  have r49_1 : xfa fs49 1 (.ref q_1) := md_ne e49 (by decide +kernel) r48_1
  have r49_74 : xfa fs49 74 (.ref q_83) := md_ne e49 (by decide +kernel) r48_74
  have r49_84 : xfa fs49 84 (.ref q_89) := md_ne e49 (by decide +kernel) r48_84
  have hP := hP.sub (ws' := [(h0, .inr (1, fs49)), (q_1, .inl (cA_2, 32768, .inl (fun _ => 0))), (q_83, .inl (cA_84, 200, .inl (fun _ => 0))), (q_89, .inl (cA_90, 62, .inl (fun _ => 0)))]) [0, 1, 2, 3] rfl
  have hD := hD.sub (ws' := [(h0, .inr (1, fs49)), (q_1, .inl (cA_2, 32768, .inl (fun _ => 0))), (q_83, .inl (cA_84, 200, .inl (fun _ => 0))), (q_89, .inl (cA_90, 62, .inl (fun _ => 0)))]) [0, 1, 2, 3] (by decide +kernel) rfl
  have hK := hK.sub (tys' := [(cA_2, .byte), (cA_84, .boolean), (cA_90, .int)]) [0, 1, 2] rfl
  refine lv_aload_n hx hb (show decode prog_15_method_1_code 440 = .ok (.aload_n 0, 1) by decide +kernel) rfl (lv_at hl 0 rfl) ?_
  refine lv_sipush (v := 4112) hx hb (show decode prog_15_method_1_code 441 = .ok (.sipush 4112, 3) by decide +kernel) (by decide +kernel) ?_
  refine va_newa (atype := .int) (a0 := (4112, .inl (fun _ => 0))) (ty := .int) hx hb (hts _ w_197) rfl hK hP hD hS hA (fun _ => rfl) (by decide +kernel) (by decide +kernel) (by decide +kernel) (by decide +kernel) (by decide +kernel) (show decode prog_15_method_1_code 444 = .ok (.newarray .int, 2) by decide +kernel) (fun q_99 cA_100 H hK hP hD hS => ?_)
  have hP : va_P D cl [(h0, .inr (1, fs49)), (q_1, .inl (cA_2, 32768, .inl (fun _ => 0))), (q_83, .inl (cA_84, 200, .inl (fun _ => 0))), (q_89, .inl (cA_90, 62, .inl (fun _ => 0))), (q_99, .inl (cA_100, 4112, .inl (fun _ => 0)))] H := hP
  have hD : va_D _ [(h0, .inr (1, fs49)), (q_1, .inl (cA_2, 32768, .inl (fun _ => 0))), (q_83, .inl (cA_84, 200, .inl (fun _ => 0))), (q_89, .inl (cA_90, 62, .inl (fun _ => 0))), (q_99, .inl (cA_100, 4112, .inl (fun _ => 0)))] := hD
  have hK : va_K D cl [(cA_2, .byte), (cA_84, .boolean), (cA_90, .int), (cA_100, .int)] s := hK
  refine W.widen (k := 50) (n := 138070) (by decide +kernel) (by decide +kernel) ?_
  refine va_putF (D := D) (ci := 1) (v := .ref q_99) (ty := .array .int) (C := R_MD) (T := F_MD) (N := 107) hx hb hts i_MD t_MD t_MD_ok n_MD hown hK hP hD hS 0 rfl rfl 92 (by decide +kernel) (hts _ w_1654) (fun _ h9 => h9) rfl hin rfl (by decide +kernel) rfl rfl (by simp [l49]) (show decode prog_15_method_1_code 446 = .ok (.putfield 160, 3) by decide +kernel) (fun H locs hP hD hS => ?_)
  have hP : va_P D cl [(h0, .inr (1, (fs49.set 92 (.ref q_99)))), (q_1, .inl (cA_2, 32768, .inl (fun _ => 0))), (q_83, .inl (cA_84, 200, .inl (fun _ => 0))), (q_89, .inl (cA_90, 62, .inl (fun _ => 0))), (q_99, .inl (cA_100, 4112, .inl (fun _ => 0)))] H := hP
  have hD : va_D _ [(h0, .inr (1, (fs49.set 92 (.ref q_99)))), (q_1, .inl (cA_2, 32768, .inl (fun _ => 0))), (q_83, .inl (cA_84, 200, .inl (fun _ => 0))), (q_89, .inl (cA_90, 62, .inl (fun _ => 0))), (q_99, .inl (cA_100, 4112, .inl (fun _ => 0)))] := hD
  obtain ⟨fs50, e50⟩ : ∃ z : List Value, z = (fs49.set 92 (.ref q_99)) := ⟨_, rfl⟩
  rw [← e50] at hP hD
  have l50 : fs50.length = 107 := md_len e50 l49
  have k50 : mdK fs50 fs_h0 := md_keep e50 (by decide +kernel) k49
  have r50_1 : xfa fs50 1 (.ref q_1) := md_ne e50 (by decide +kernel) r49_1
  have r50_74 : xfa fs50 74 (.ref q_83) := md_ne e50 (by decide +kernel) r49_74
  have r50_84 : xfa fs50 84 (.ref q_89) := md_ne e50 (by decide +kernel) r49_84
  have hP := hP.sub (ws' := [(h0, .inr (1, fs50)), (q_1, .inl (cA_2, 32768, .inl (fun _ => 0))), (q_83, .inl (cA_84, 200, .inl (fun _ => 0))), (q_89, .inl (cA_90, 62, .inl (fun _ => 0)))]) [0, 1, 2, 3] rfl
  have hD := hD.sub (ws' := [(h0, .inr (1, fs50)), (q_1, .inl (cA_2, 32768, .inl (fun _ => 0))), (q_83, .inl (cA_84, 200, .inl (fun _ => 0))), (q_89, .inl (cA_90, 62, .inl (fun _ => 0)))]) [0, 1, 2, 3] (by decide +kernel) rfl
  have hK := hK.sub (tys' := [(cA_2, .byte), (cA_84, .boolean), (cA_90, .int)]) [0, 1, 2] rfl
  refine lv_aload_n hx hb (show decode prog_15_method_1_code 449 = .ok (.aload_n 0, 1) by decide +kernel) rfl (lv_at hl 0 rfl) ?_
  refine lv_sipush (v := 4112) hx hb (show decode prog_15_method_1_code 450 = .ok (.sipush 4112, 3) by decide +kernel) (by decide +kernel) ?_
  refine va_newa (atype := .int) (a0 := (4112, .inl (fun _ => 0))) (ty := .int) hx hb (hts _ w_197) rfl hK hP hD hS hA (fun _ => rfl) (by decide +kernel) (by decide +kernel) (by decide +kernel) (by decide +kernel) (by decide +kernel) (show decode prog_15_method_1_code 453 = .ok (.newarray .int, 2) by decide +kernel) (fun q_101 cA_102 H hK hP hD hS => ?_)
  have hP : va_P D cl [(h0, .inr (1, fs50)), (q_1, .inl (cA_2, 32768, .inl (fun _ => 0))), (q_83, .inl (cA_84, 200, .inl (fun _ => 0))), (q_89, .inl (cA_90, 62, .inl (fun _ => 0))), (q_101, .inl (cA_102, 4112, .inl (fun _ => 0)))] H := hP
  have hD : va_D _ [(h0, .inr (1, fs50)), (q_1, .inl (cA_2, 32768, .inl (fun _ => 0))), (q_83, .inl (cA_84, 200, .inl (fun _ => 0))), (q_89, .inl (cA_90, 62, .inl (fun _ => 0))), (q_101, .inl (cA_102, 4112, .inl (fun _ => 0)))] := hD
  have hK : va_K D cl [(cA_2, .byte), (cA_84, .boolean), (cA_90, .int), (cA_102, .int)] s := hK
  refine W.widen (k := 51) (n := 142182) (by decide +kernel) (by decide +kernel) ?_
  refine va_putF (D := D) (ci := 1) (v := .ref q_101) (ty := .array .int) (C := R_MD) (T := F_MD) (N := 107) hx hb hts i_MD t_MD t_MD_ok n_MD hown hK hP hD hS 0 rfl rfl 93 (by decide +kernel) (hts _ w_1655) (fun _ h9 => h9) rfl hin rfl (by decide +kernel) rfl rfl (by simp [l50]) (show decode prog_15_method_1_code 455 = .ok (.putfield 163, 3) by decide +kernel) (fun H locs hP hD hS => ?_)
  have hP : va_P D cl [(h0, .inr (1, (fs50.set 93 (.ref q_101)))), (q_1, .inl (cA_2, 32768, .inl (fun _ => 0))), (q_83, .inl (cA_84, 200, .inl (fun _ => 0))), (q_89, .inl (cA_90, 62, .inl (fun _ => 0))), (q_101, .inl (cA_102, 4112, .inl (fun _ => 0)))] H := hP
  have hD : va_D _ [(h0, .inr (1, (fs50.set 93 (.ref q_101)))), (q_1, .inl (cA_2, 32768, .inl (fun _ => 0))), (q_83, .inl (cA_84, 200, .inl (fun _ => 0))), (q_89, .inl (cA_90, 62, .inl (fun _ => 0))), (q_101, .inl (cA_102, 4112, .inl (fun _ => 0)))] := hD
  obtain ⟨fs51, e51⟩ : ∃ z : List Value, z = (fs50.set 93 (.ref q_101)) := ⟨_, rfl⟩
  rw [← e51] at hP hD
  have l51 : fs51.length = 107 := md_len e51 l50
  have k51 : mdK fs51 fs_h0 := md_keep e51 (by decide +kernel) k50
  have r51_1 : xfa fs51 1 (.ref q_1) := md_ne e51 (by decide +kernel) r50_1
  have r51_74 : xfa fs51 74 (.ref q_83) := md_ne e51 (by decide +kernel) r50_74
  have r51_84 : xfa fs51 84 (.ref q_89) := md_ne e51 (by decide +kernel) r50_84
  have hP := hP.sub (ws' := [(h0, .inr (1, fs51)), (q_1, .inl (cA_2, 32768, .inl (fun _ => 0))), (q_83, .inl (cA_84, 200, .inl (fun _ => 0))), (q_89, .inl (cA_90, 62, .inl (fun _ => 0)))]) [0, 1, 2, 3] rfl
  have hD := hD.sub (ws' := [(h0, .inr (1, fs51)), (q_1, .inl (cA_2, 32768, .inl (fun _ => 0))), (q_83, .inl (cA_84, 200, .inl (fun _ => 0))), (q_89, .inl (cA_90, 62, .inl (fun _ => 0)))]) [0, 1, 2, 3] (by decide +kernel) rfl
  have hK := hK.sub (tys' := [(cA_2, .byte), (cA_84, .boolean), (cA_90, .int)]) [0, 1, 2] rfl
  refine lv_aload_n hx hb (show decode prog_15_method_1_code 458 = .ok (.aload_n 0, 1) by decide +kernel) rfl (lv_at hl 0 rfl) ?_
  refine lv_ldc (v := 66049) hx hb hown (hts _ w_1559) (show decode prog_15_method_1_code 459 = .ok (.ldc 166, 2) by decide +kernel) ?_
  refine va_newa (atype := .boolean) (a0 := (66049, .inl (fun _ => 0))) (ty := .boolean) hx hb (hts _ w_1043) rfl hK hP hD hS hA (fun _ => rfl) (by decide +kernel) (by decide +kernel) (by decide +kernel) (by decide +kernel) (by decide +kernel) (show decode prog_15_method_1_code 461 = .ok (.newarray .boolean, 2) by decide +kernel) (fun q_103 cA_104 H hK hP hD hS => ?_)
  have hP : va_P D cl [(h0, .inr (1, fs51)), (q_1, .inl (cA_2, 32768, .inl (fun _ => 0))), (q_83, .inl (cA_84, 200, .inl (fun _ => 0))), (q_89, .inl (cA_90, 62, .inl (fun _ => 0))), (q_103, .inl (cA_104, 66049, .inl (fun _ => 0)))] H := hP
  have hD : va_D _ [(h0, .inr (1, fs51)), (q_1, .inl (cA_2, 32768, .inl (fun _ => 0))), (q_83, .inl (cA_84, 200, .inl (fun _ => 0))), (q_89, .inl (cA_90, 62, .inl (fun _ => 0))), (q_103, .inl (cA_104, 66049, .inl (fun _ => 0)))] := hD
  have hK : va_K D cl [(cA_2, .byte), (cA_84, .boolean), (cA_90, .int), (cA_104, .boolean)] s := hK
  refine W.widen (k := 52) (n := 208231) (by decide +kernel) (by decide +kernel) ?_
  refine va_putF (D := D) (ci := 1) (v := .ref q_103) (ty := .array .boolean) (C := R_MD) (T := F_MD) (N := 107) hx hb hts i_MD t_MD t_MD_ok n_MD hown hK hP hD hS 0 rfl rfl 94 (by decide +kernel) (hts _ w_1656) (fun _ h9 => h9) rfl hin rfl (by decide +kernel) rfl rfl (by simp [l51]) (show decode prog_15_method_1_code 463 = .ok (.putfield 167, 3) by decide +kernel) (fun H locs hP hD hS => ?_)
  have hP : va_P D cl [(h0, .inr (1, (fs51.set 94 (.ref q_103)))), (q_1, .inl (cA_2, 32768, .inl (fun _ => 0))), (q_83, .inl (cA_84, 200, .inl (fun _ => 0))), (q_89, .inl (cA_90, 62, .inl (fun _ => 0))), (q_103, .inl (cA_104, 66049, .inl (fun _ => 0)))] H := hP
  have hD : va_D _ [(h0, .inr (1, (fs51.set 94 (.ref q_103)))), (q_1, .inl (cA_2, 32768, .inl (fun _ => 0))), (q_83, .inl (cA_84, 200, .inl (fun _ => 0))), (q_89, .inl (cA_90, 62, .inl (fun _ => 0))), (q_103, .inl (cA_104, 66049, .inl (fun _ => 0)))] := hD
  obtain ⟨fs52, e52⟩ : ∃ z : List Value, z = (fs51.set 94 (.ref q_103)) := ⟨_, rfl⟩
  rw [← e52] at hP hD
  have l52 : fs52.length = 107 := md_len e52 l51
  have k52 : mdK fs52 fs_h0 := md_keep e52 (by decide +kernel) k51
  have r52_1 : xfa fs52 1 (.ref q_1) := md_ne e52 (by decide +kernel) r51_1
  have r52_74 : xfa fs52 74 (.ref q_83) := md_ne e52 (by decide +kernel) r51_74
  have r52_84 : xfa fs52 84 (.ref q_89) := md_ne e52 (by decide +kernel) r51_84
  have hP := hP.sub (ws' := [(h0, .inr (1, fs52)), (q_1, .inl (cA_2, 32768, .inl (fun _ => 0))), (q_83, .inl (cA_84, 200, .inl (fun _ => 0))), (q_89, .inl (cA_90, 62, .inl (fun _ => 0)))]) [0, 1, 2, 3] rfl
  have hD := hD.sub (ws' := [(h0, .inr (1, fs52)), (q_1, .inl (cA_2, 32768, .inl (fun _ => 0))), (q_83, .inl (cA_84, 200, .inl (fun _ => 0))), (q_89, .inl (cA_90, 62, .inl (fun _ => 0)))]) [0, 1, 2, 3] (by decide +kernel) rfl
  have hK := hK.sub (tys' := [(cA_2, .byte), (cA_84, .boolean), (cA_90, .int)]) [0, 1, 2] rfl
  refine lv_aload_n hx hb (show decode prog_15_method_1_code 466 = .ok (.aload_n 0, 1) by decide +kernel) rfl (lv_at hl 0 rfl) ?_
  refine lv_ldc (v := 33000) hx hb hown (hts _ w_1560) (show decode prog_15_method_1_code 467 = .ok (.ldc 170, 2) by decide +kernel) ?_
  refine va_newa (atype := .int) (a0 := (33000, .inl (fun _ => 0))) (ty := .int) hx hb (hts _ w_197) rfl hK hP hD hS hA (fun _ => rfl) (by decide +kernel) (by decide +kernel) (by decide +kernel) (by decide +kernel) (by decide +kernel) (show decode prog_15_method_1_code 469 = .ok (.newarray .int, 2) by decide +kernel) (fun q_105 cA_106 H hK hP hD hS => ?_)
  have hP : va_P D cl [(h0, .inr (1, fs52)), (q_1, .inl (cA_2, 32768, .inl (fun _ => 0))), (q_83, .inl (cA_84, 200, .inl (fun _ => 0))), (q_89, .inl (cA_90, 62, .inl (fun _ => 0))), (q_105, .inl (cA_106, 33000, .inl (fun _ => 0)))] H := hP
  have hD : va_D _ [(h0, .inr (1, fs52)), (q_1, .inl (cA_2, 32768, .inl (fun _ => 0))), (q_83, .inl (cA_84, 200, .inl (fun _ => 0))), (q_89, .inl (cA_90, 62, .inl (fun _ => 0))), (q_105, .inl (cA_106, 33000, .inl (fun _ => 0)))] := hD
  have hK : va_K D cl [(cA_2, .byte), (cA_84, .boolean), (cA_90, .int), (cA_106, .int)] s := hK
  refine W.widen (k := 53) (n := 241231) (by decide +kernel) (by decide +kernel) ?_
  refine va_putF (D := D) (ci := 1) (v := .ref q_105) (ty := .array .int) (C := R_MD) (T := F_MD) (N := 107) hx hb hts i_MD t_MD t_MD_ok n_MD hown hK hP hD hS 0 rfl rfl 95 (by decide +kernel) (hts _ w_1657) (fun _ h9 => h9) rfl hin rfl (by decide +kernel) rfl rfl (by simp [l52]) (show decode prog_15_method_1_code 471 = .ok (.putfield 171, 3) by decide +kernel) (fun H locs hP hD hS => ?_)
  have hP : va_P D cl [(h0, .inr (1, (fs52.set 95 (.ref q_105)))), (q_1, .inl (cA_2, 32768, .inl (fun _ => 0))), (q_83, .inl (cA_84, 200, .inl (fun _ => 0))), (q_89, .inl (cA_90, 62, .inl (fun _ => 0))), (q_105, .inl (cA_106, 33000, .inl (fun _ => 0)))] H := hP
  have hD : va_D _ [(h0, .inr (1, (fs52.set 95 (.ref q_105)))), (q_1, .inl (cA_2, 32768, .inl (fun _ => 0))), (q_83, .inl (cA_84, 200, .inl (fun _ => 0))), (q_89, .inl (cA_90, 62, .inl (fun _ => 0))), (q_105, .inl (cA_106, 33000, .inl (fun _ => 0)))] := hD
  obtain ⟨fs53, e53⟩ : ∃ z : List Value, z = (fs52.set 95 (.ref q_105)) := ⟨_, rfl⟩
  rw [← e53] at hP hD
  have l53 : fs53.length = 107 := md_len e53 l52
  have k53 : mdK fs53 fs_h0 := md_keep e53 (by decide +kernel) k52
  have r53_1 : xfa fs53 1 (.ref q_1) := md_ne e53 (by decide +kernel) r52_1
  have r53_74 : xfa fs53 74 (.ref q_83) := md_ne e53 (by decide +kernel) r52_74
  have r53_84 : xfa fs53 84 (.ref q_89) := md_ne e53 (by decide +kernel) r52_84
  have hP := hP.sub (ws' := [(h0, .inr (1, fs53)), (q_1, .inl (cA_2, 32768, .inl (fun _ => 0))), (q_83, .inl (cA_84, 200, .inl (fun _ => 0))), (q_89, .inl (cA_90, 62, .inl (fun _ => 0)))]) [0, 1, 2, 3] rfl
  have hD := hD.sub (ws' := [(h0, .inr (1, fs53)), (q_1, .inl (cA_2, 32768, .inl (fun _ => 0))), (q_83, .inl (cA_84, 200, .inl (fun _ => 0))), (q_89, .inl (cA_90, 62, .inl (fun _ => 0)))]) [0, 1, 2, 3] (by decide +kernel) rfl
  have hK := hK.sub (tys' := [(cA_2, .byte), (cA_84, .boolean), (cA_90, .int)]) [0, 1, 2] rfl
  refine lv_aload_n hx hb (show decode prog_15_method_1_code 474 = .ok (.aload_n 0, 1) by decide +kernel) rfl (lv_at hl 0 rfl) ?_
  refine lv_sipush (v := 4112) hx hb (show decode prog_15_method_1_code 475 = .ok (.sipush 4112, 3) by decide +kernel) (by decide +kernel) ?_
  refine va_newa (atype := .int) (a0 := (4112, .inl (fun _ => 0))) (ty := .int) hx hb (hts _ w_197) rfl hK hP hD hS hA (fun _ => rfl) (by decide +kernel) (by decide +kernel) (by decide +kernel) (by decide +kernel) (by decide +kernel) (show decode prog_15_method_1_code 478 = .ok (.newarray .int, 2) by decide +kernel) (fun q_107 cA_108 H hK hP hD hS => ?_)
  have hP : va_P D cl [(h0, .inr (1, fs53)), (q_1, .inl (cA_2, 32768, .inl (fun _ => 0))), (q_83, .inl (cA_84, 200, .inl (fun _ => 0))), (q_89, .inl (cA_90, 62, .inl (fun _ => 0))), (q_107, .inl (cA_108, 4112, .inl (fun _ => 0)))] H := hP
  have hD : va_D _ [(h0, .inr (1, fs53)), (q_1, .inl (cA_2, 32768, .inl (fun _ => 0))), (q_83, .inl (cA_84, 200, .inl (fun _ => 0))), (q_89, .inl (cA_90, 62, .inl (fun _ => 0))), (q_107, .inl (cA_108, 4112, .inl (fun _ => 0)))] := hD
  have hK : va_K D cl [(cA_2, .byte), (cA_84, .boolean), (cA_90, .int), (cA_108, .int)] s := hK
  refine W.widen (k := 54) (n := 245343) (by decide +kernel) (by decide +kernel) ?_
  refine va_putF (D := D) (ci := 1) (v := .ref q_107) (ty := .array .int) (C := R_MD) (T := F_MD) (N := 107) hx hb hts i_MD t_MD t_MD_ok n_MD hown hK hP hD hS 0 rfl rfl 96 (by decide +kernel) (hts _ w_1658) (fun _ h9 => h9) rfl hin rfl (by decide +kernel) rfl rfl (by simp [l53]) (show decode prog_15_method_1_code 480 = .ok (.putfield 174, 3) by decide +kernel) (fun H locs hP hD hS => ?_)
  have hP : va_P D cl [(h0, .inr (1, (fs53.set 96 (.ref q_107)))), (q_1, .inl (cA_2, 32768, .inl (fun _ => 0))), (q_83, .inl (cA_84, 200, .inl (fun _ => 0))), (q_89, .inl (cA_90, 62, .inl (fun _ => 0))), (q_107, .inl (cA_108, 4112, .inl (fun _ => 0)))] H := hP
  have hD : va_D _ [(h0, .inr (1, (fs53.set 96 (.ref q_107)))), (q_1, .inl (cA_2, 32768, .inl (fun _ => 0))), (q_83, .inl (cA_84, 200, .inl (fun _ => 0))), (q_89, .inl (cA_90, 62, .inl (fun _ => 0))), (q_107, .inl (cA_108, 4112, .inl (fun _ => 0)))] := hD
  obtain ⟨fs54, e54⟩ : ∃ z : List Value, z = (fs53.set 96 (.ref q_107)) := ⟨_, rfl⟩
  rw [← e54] at hP hD
  have l54 : fs54.length = 107 := md_len e54 l53
  have k54 : mdK fs54 fs_h0 := md_keep e54 (by decide +kernel) k53
  have r54_1 : xfa fs54 1 (.ref q_1) := md_ne e54 (by decide +kernel) r53_1
  have r54_74 : xfa fs54 74 (.ref q_83) := md_ne e54 (by decide +kernel) r53_74
  have r54_84 : xfa fs54 84 (.ref q_89) := md_ne e54 (by decide +kernel) r53_84
  have hP := hP.sub (ws' := [(h0, .inr (1, fs54)), (q_1, .inl (cA_2, 32768, .inl (fun _ => 0))), (q_83, .inl (cA_84, 200, .inl (fun _ => 0))), (q_89, .inl (cA_90, 62, .inl (fun _ => 0)))]) [0, 1, 2, 3] rfl
  have hD := hD.sub (ws' := [(h0, .inr (1, fs54)), (q_1, .inl (cA_2, 32768, .inl (fun _ => 0))), (q_83, .inl (cA_84, 200, .inl (fun _ => 0))), (q_89, .inl (cA_90, 62, .inl (fun _ => 0)))]) [0, 1, 2, 3] (by decide +kernel) rfl
  have hK := hK.sub (tys' := [(cA_2, .byte), (cA_84, .boolean), (cA_90, .int)]) [0, 1, 2] rfl
  refine lv_aload_n hx hb (show decode prog_15_method_1_code 483 = .ok (.aload_n 0, 1) by decide +kernel) rfl (lv_at hl 0 rfl) ?_
  refine lv_sipush (v := 4112) hx hb (show decode prog_15_method_1_code 484 = .ok (.sipush 4112, 3) by decide +kernel) (by decide +kernel) ?_
  refine va_newa (atype := .int) (a0 := (4112, .inl (fun _ => 0))) (ty := .int) hx hb (hts _ w_197) rfl hK hP hD hS hA (fun _ => rfl) (by decide +kernel) (by decide +kernel) (by decide +kernel) (by decide +kernel) (by decide +kernel) (show decode prog_15_method_1_code 487 = .ok (.newarray .int, 2) by decide +kernel) (fun q_109 cA_110 H hK hP hD hS => ?_)
  have hP : va_P D cl [(h0, .inr (1, fs54)), (q_1, .inl (cA_2, 32768, .inl (fun _ => 0))), (q_83, .inl (cA_84, 200, .inl (fun _ => 0))), (q_89, .inl (cA_90, 62, .inl (fun _ => 0))), (q_109, .inl (cA_110, 4112, .inl (fun _ => 0)))] H := hP
  have hD : va_D _ [(h0, .inr (1, fs54)), (q_1, .inl (cA_2, 32768, .inl (fun _ => 0))), (q_83, .inl (cA_84, 200, .inl (fun _ => 0))), (q_89, .inl (cA_90, 62, .inl (fun _ => 0))), (q_109, .inl (cA_110, 4112, .inl (fun _ => 0)))] := hD
  have hK : va_K D cl [(cA_2, .byte), (cA_84, .boolean), (cA_90, .int), (cA_110, .int)] s := hK
  refine W.widen (k := 55) (n := 249455) (by decide +kernel) (by decide +kernel) ?_
  refine va_putF (D := D) (ci := 1) (v := .ref q_109) (ty := .array .int) (C := R_MD) (T := F_MD) (N := 107) hx hb hts i_MD t_MD t_MD_ok n_MD hown hK hP hD hS 0 rfl rfl 97 (by decide +kernel) (hts _ w_1659) (fun _ h9 => h9) rfl hin rfl (by decide +kernel) rfl rfl (by simp [l54]) (show decode prog_15_method_1_code 489 = .ok (.putfield 177, 3) by decide +kernel) (fun H locs hP hD hS => ?_)
  have hP : va_P D cl [(h0, .inr (1, (fs54.set 97 (.ref q_109)))), (q_1, .inl (cA_2, 32768, .inl (fun _ => 0))), (q_83, .inl (cA_84, 200, .inl (fun _ => 0))), (q_89, .inl (cA_90, 62, .inl (fun _ => 0))), (q_109, .inl (cA_110, 4112, .inl (fun _ => 0)))] H := hP
  have hD : va_D _ [(h0, .inr (1, (fs54.set 97 (.ref q_109)))), (q_1, .inl (cA_2, 32768, .inl (fun _ => 0))), (q_83, .inl (cA_84, 200, .inl (fun _ => 0))), (q_89, .inl (cA_90, 62, .inl (fun _ => 0))), (q_109, .inl (cA_110, 4112, .inl (fun _ => 0)))] := hD
  obtain ⟨fs55, e55⟩ : ∃ z : List Value, z = (fs54.set 97 (.ref q_109)) := ⟨_, rfl⟩
  rw [← e55] at hP hD
  have l55 : fs55.length = 107 := md_len e55 l54
  have k55 : mdK fs55 fs_h0 := md_keep e55 (by decide +kernel) k54
  have r55_1 : xfa fs55 1 (.ref q_1) := md_ne e55 (by decide +kernel) r54_1
  have r55_74 : xfa fs55 74 (.ref q_83) := md_ne e55 (by decide +kernel) r54_74
  have r55_84 : xfa fs55 84 (.ref q_89) := md_ne e55 (by decide +kernel) r54_84
  have hP := hP.sub (ws' := [(h0, .inr (1, fs55)), (q_1, .inl (cA_2, 32768, .inl (fun _ => 0))), (q_83, .inl (cA_84, 200, .inl (fun _ => 0))), (q_89, .inl (cA_90, 62, .inl (fun _ => 0)))]) [0, 1, 2, 3] rfl
  have hD := hD.sub (ws' := [(h0, .inr (1, fs55)), (q_1, .inl (cA_2, 32768, .inl (fun _ => 0))), (q_83, .inl (cA_84, 200, .inl (fun _ => 0))), (q_89, .inl (cA_90, 62, .inl (fun _ => 0)))]) [0, 1, 2, 3] (by decide +kernel) rfl
  have hK := hK.sub (tys' := [(cA_2, .byte), (cA_84, .boolean), (cA_90, .int)]) [0, 1, 2] rfl
  refine lv_aload_n hx hb (show decode prog_15_method_1_code 492 = .ok (.aload_n 0, 1) by decide +kernel) rfl (lv_at hl 0 rfl) ?_
  refine lv_sipush (v := 8192) hx hb (show decode prog_15_method_1_code 493 = .ok (.sipush 8192, 3) by decide +kernel) (by decide +kernel) ?_
  refine va_newa (atype := .long) (a0 := (8192, .inr (.inl (fun _ => 0)))) (ty := .long) hx hb (hts _ w_1884) rfl hK hP hD hS hA (fun _ => rfl) (by decide +kernel) (by decide +kernel) (by decide +kernel) (by decide +kernel) (by decide +kernel) (show decode prog_15_method_1_code 496 = .ok (.newarray .long, 2) by decide +kernel) (fun q_111 cA_112 H hK hP hD hS => ?_)
  have hP : va_P D cl [(h0, .inr (1, fs55)), (q_1, .inl (cA_2, 32768, .inl (fun _ => 0))), (q_83, .inl (cA_84, 200, .inl (fun _ => 0))), (q_89, .inl (cA_90, 62, .inl (fun _ => 0))), (q_111, .inl (cA_112, 8192, .inr (.inl (fun _ => 0))))] H := hP
  have hD : va_D _ [(h0, .inr (1, fs55)), (q_1, .inl (cA_2, 32768, .inl (fun _ => 0))), (q_83, .inl (cA_84, 200, .inl (fun _ => 0))), (q_89, .inl (cA_90, 62, .inl (fun _ => 0))), (q_111, .inl (cA_112, 8192, .inr (.inl (fun _ => 0))))] := hD
  have hK : va_K D cl [(cA_2, .byte), (cA_84, .boolean), (cA_90, .int), (cA_112, .long)] s := hK
  refine W.widen (k := 56) (n := 257647) (by decide +kernel) (by decide +kernel) ?_
  refine va_putF (D := D) (ci := 1) (v := .ref q_111) (ty := .array .long) (C := R_MD) (T := F_MD) (N := 107) hx hb hts i_MD t_MD t_MD_ok n_MD hown hK hP hD hS 0 rfl rfl 98 (by decide +kernel) (hts _ w_1660) (fun _ h9 => h9) rfl hin rfl (by decide +kernel) rfl rfl (by simp [l55]) (show decode prog_15_method_1_code 498 = .ok (.putfield 180, 3) by decide +kernel) (fun H locs hP hD hS => ?_)
  have hP : va_P D cl [(h0, .inr (1, (fs55.set 98 (.ref q_111)))), (q_1, .inl (cA_2, 32768, .inl (fun _ => 0))), (q_83, .inl (cA_84, 200, .inl (fun _ => 0))), (q_89, .inl (cA_90, 62, .inl (fun _ => 0))), (q_111, .inl (cA_112, 8192, .inr (.inl (fun _ => 0))))] H := hP
  have hD : va_D _ [(h0, .inr (1, (fs55.set 98 (.ref q_111)))), (q_1, .inl (cA_2, 32768, .inl (fun _ => 0))), (q_83, .inl (cA_84, 200, .inl (fun _ => 0))), (q_89, .inl (cA_90, 62, .inl (fun _ => 0))), (q_111, .inl (cA_112, 8192, .inr (.inl (fun _ => 0))))] := hD
  obtain ⟨fs56, e56⟩ : ∃ z : List Value, z = (fs55.set 98 (.ref q_111)) := ⟨_, rfl⟩
  rw [← e56] at hP hD
  have l56 : fs56.length = 107 := md_len e56 l55
  have k56 : mdK fs56 fs_h0 := md_keep e56 (by decide +kernel) k55
  have r56_1 : xfa fs56 1 (.ref q_1) := md_ne e56 (by decide +kernel) r55_1
  have r56_74 : xfa fs56 74 (.ref q_83) := md_ne e56 (by decide +kernel) r55_74
  have r56_84 : xfa fs56 84 (.ref q_89) := md_ne e56 (by decide +kernel) r55_84
  have hP := hP.sub (ws' := [(h0, .inr (1, fs56)), (q_1, .inl (cA_2, 32768, .inl (fun _ => 0))), (q_83, .inl (cA_84, 200, .inl (fun _ => 0))), (q_89, .inl (cA_90, 62, .inl (fun _ => 0)))]) [0, 1, 2, 3] rfl
  have hD := hD.sub (ws' := [(h0, .inr (1, fs56)), (q_1, .inl (cA_2, 32768, .inl (fun _ => 0))), (q_83, .inl (cA_84, 200, .inl (fun _ => 0))), (q_89, .inl (cA_90, 62, .inl (fun _ => 0)))]) [0, 1, 2, 3] (by decide +kernel) rfl
  have hK := hK.sub (tys' := [(cA_2, .byte), (cA_84, .boolean), (cA_90, .int)]) [0, 1, 2] rfl
  refine lv_aload_n hx hb (show decode prog_15_method_1_code 501 = .ok (.aload_n 0, 1) by decide +kernel) rfl (lv_at hl 0 rfl) ?_
  refine lv_sipush (v := 8192) hx hb (show decode prog_15_method_1_code 502 = .ok (.sipush 8192, 3) by decide +kernel) (by decide +kernel) ?_
  refine va_newa (atype := .int) (a0 := (8192, .inl (fun _ => 0))) (ty := .int) hx hb (hts _ w_197) rfl hK hP hD hS hA (fun _ => rfl) (by decide +kernel) (by decide +kernel) (by decide +kernel) (by decide +kernel) (by decide +kernel) (show decode prog_15_method_1_code 505 = .ok (.newarray .int, 2) by decide +kernel) (fun q_113 cA_114 H hK hP hD hS => ?_)
  have hP : va_P D cl [(h0, .inr (1, fs56)), (q_1, .inl (cA_2, 32768, .inl (fun _ => 0))), (q_83, .inl (cA_84, 200, .inl (fun _ => 0))), (q_89, .inl (cA_90, 62, .inl (fun _ => 0))), (q_113, .inl (cA_114, 8192, .inl (fun _ => 0)))] H := hP
  have hD : va_D _ [(h0, .inr (1, fs56)), (q_1, .inl (cA_2, 32768, .inl (fun _ => 0))), (q_83, .inl (cA_84, 200, .inl (fun _ => 0))), (q_89, .inl (cA_90, 62, .inl (fun _ => 0))), (q_113, .inl (cA_114, 8192, .inl (fun _ => 0)))] := hD
  have hK : va_K D cl [(cA_2, .byte), (cA_84, .boolean), (cA_90, .int), (cA_114, .int)] s := hK
  refine W.widen (k := 57) (n := 265839) (by decide +kernel) (by decide +kernel) ?_
  refine va_putF (D := D) (ci := 1) (v := .ref q_113) (ty := .array .int) (C := R_MD) (T := F_MD) (N := 107) hx hb hts i_MD t_MD t_MD_ok n_MD hown hK hP hD hS 0 rfl rfl 99 (by decide +kernel) (hts _ w_1661) (fun _ h9 => h9) rfl hin rfl (by decide +kernel) rfl rfl (by simp [l56]) (show decode prog_15_method_1_code 507 = .ok (.putfield 184, 3) by decide +kernel) (fun H locs hP hD hS => ?_)
  have hP : va_P D cl [(h0, .inr (1, (fs56.set 99 (.ref q_113)))), (q_1, .inl (cA_2, 32768, .inl (fun _ => 0))), (q_83, .inl (cA_84, 200, .inl (fun _ => 0))), (q_89, .inl (cA_90, 62, .inl (fun _ => 0))), (q_113, .inl (cA_114, 8192, .inl (fun _ => 0)))] H := hP
  have hD : va_D _ [(h0, .inr (1, (fs56.set 99 (.ref q_113)))), (q_1, .inl (cA_2, 32768, .inl (fun _ => 0))), (q_83, .inl (cA_84, 200, .inl (fun _ => 0))), (q_89, .inl (cA_90, 62, .inl (fun _ => 0))), (q_113, .inl (cA_114, 8192, .inl (fun _ => 0)))] := hD
  obtain ⟨fs57, e57⟩ : ∃ z : List Value, z = (fs56.set 99 (.ref q_113)) := ⟨_, rfl⟩
  rw [← e57] at hP hD
  have l57 : fs57.length = 107 := md_len e57 l56
  have k57 : mdK fs57 fs_h0 := md_keep e57 (by decide +kernel) k56
  have r57_1 : xfa fs57 1 (.ref q_1) := md_ne e57 (by decide +kernel) r56_1
  have r57_74 : xfa fs57 74 (.ref q_83) := md_ne e57 (by decide +kernel) r56_74
  have r57_84 : xfa fs57 84 (.ref q_89) := md_ne e57 (by decide +kernel) r56_84
  have hP := hP.sub (ws' := [(h0, .inr (1, fs57)), (q_1, .inl (cA_2, 32768, .inl (fun _ => 0))), (q_83, .inl (cA_84, 200, .inl (fun _ => 0))), (q_89, .inl (cA_90, 62, .inl (fun _ => 0)))]) [0, 1, 2, 3] rfl
  have hD := hD.sub (ws' := [(h0, .inr (1, fs57)), (q_1, .inl (cA_2, 32768, .inl (fun _ => 0))), (q_83, .inl (cA_84, 200, .inl (fun _ => 0))), (q_89, .inl (cA_90, 62, .inl (fun _ => 0)))]) [0, 1, 2, 3] (by decide +kernel) rfl
  have hK := hK.sub (tys' := [(cA_2, .byte), (cA_84, .boolean), (cA_90, .int)]) [0, 1, 2] rfl
  refine lv_aload_n hx hb (show decode prog_15_method_1_code 510 = .ok (.aload_n 0, 1) by decide +kernel) rfl (lv_at hl 0 rfl) ?_
  refine lv_bipush (v := 40) hx hb (show decode prog_15_method_1_code 511 = .ok (.bipush 40, 2) by decide +kernel) (by decide +kernel) ?_
  refine va_newa (atype := .int) (a0 := (40, .inl (fun _ => 0))) (ty := .int) hx hb (hts _ w_197) rfl hK hP hD hS hA (fun _ => rfl) (by decide +kernel) (by decide +kernel) (by decide +kernel) (by decide +kernel) (by decide +kernel) (show decode prog_15_method_1_code 513 = .ok (.newarray .int, 2) by decide +kernel) (fun q_115 cA_116 H hK hP hD hS => ?_)
  have hP : va_P D cl [(h0, .inr (1, fs57)), (q_1, .inl (cA_2, 32768, .inl (fun _ => 0))), (q_83, .inl (cA_84, 200, .inl (fun _ => 0))), (q_89, .inl (cA_90, 62, .inl (fun _ => 0))), (q_115, .inl (cA_116, 40, .inl (fun _ => 0)))] H := hP
  have hD : va_D _ [(h0, .inr (1, fs57)), (q_1, .inl (cA_2, 32768, .inl (fun _ => 0))), (q_83, .inl (cA_84, 200, .inl (fun _ => 0))), (q_89, .inl (cA_90, 62, .inl (fun _ => 0))), (q_115, .inl (cA_116, 40, .inl (fun _ => 0)))] := hD
  have hK : va_K D cl [(cA_2, .byte), (cA_84, .boolean), (cA_90, .int), (cA_116, .int)] s := hK
  refine W.widen (k := 58) (n := 265879) (by decide +kernel) (by decide +kernel) ?_
  refine va_putF (D := D) (ci := 1) (v := .ref q_115) (ty := .array .int) (C := R_MD) (T := F_MD) (N := 107) hx hb hts i_MD t_MD t_MD_ok n_MD hown hK hP hD hS 0 rfl rfl 100 (by decide +kernel) (hts _ w_1662) (fun _ h9 => h9) rfl hin rfl (by decide +kernel) rfl rfl (by simp [l57]) (show decode prog_15_method_1_code 515 = .ok (.putfield 187, 3) by decide +kernel) (fun H locs hP hD hS => ?_)
  have hP : va_P D cl [(h0, .inr (1, (fs57.set 100 (.ref q_115)))), (q_1, .inl (cA_2, 32768, .inl (fun _ => 0))), (q_83, .inl (cA_84, 200, .inl (fun _ => 0))), (q_89, .inl (cA_90, 62, .inl (fun _ => 0))), (q_115, .inl (cA_116, 40, .inl (fun _ => 0)))] H := hP
  have hD : va_D _ [(h0, .inr (1, (fs57.set 100 (.ref q_115)))), (q_1, .inl (cA_2, 32768, .inl (fun _ => 0))), (q_83, .inl (cA_84, 200, .inl (fun _ => 0))), (q_89, .inl (cA_90, 62, .inl (fun _ => 0))), (q_115, .inl (cA_116, 40, .inl (fun _ => 0)))] := hD
  obtain ⟨fs58, e58⟩ : ∃ z : List Value, z = (fs57.set 100 (.ref q_115)) := ⟨_, rfl⟩
  rw [← e58] at hP hD
  have l58 : fs58.length = 107 := md_len e58 l57
  have k58 : mdK fs58 fs_h0 := md_keep e58 (by decide +kernel) k57
  have r58_1 : xfa fs58 1 (.ref q_1) := md_ne e58 (by decide +kernel) r57_1
  have r58_74 : xfa fs58 74 (.ref q_83) := md_ne e58 (by decide +kernel) r57_74
  have r58_84 : xfa fs58 84 (.ref q_89) := md_ne e58 (by decide +kernel) r57_84
  have hP := hP.sub (ws' := [(h0, .inr (1, fs58)), (q_1, .inl (cA_2, 32768, .inl (fun _ => 0))), (q_83, .inl (cA_84, 200, .inl (fun _ => 0))), (q_89, .inl (cA_90, 62, .inl (fun _ => 0)))]) [0, 1, 2, 3] rfl
  have hD := hD.sub (ws' := [(h0, .inr (1, fs58)), (q_1, .inl (cA_2, 32768, .inl (fun _ => 0))), (q_83, .inl (cA_84, 200, .inl (fun _ => 0))), (q_89, .inl (cA_90, 62, .inl (fun _ => 0)))]) [0, 1, 2, 3] (by decide +kernel) rfl
  have hK := hK.sub (tys' := [(cA_2, .byte), (cA_84, .boolean), (cA_90, .int)]) [0, 1, 2] rfl
  refine lv_aload_n hx hb (show decode prog_15_method_1_code 518 = .ok (.aload_n 0, 1) by decide +kernel) rfl (lv_at hl 0 rfl) ?_
  refine lv_sipush (v := 24000) hx hb (show decode prog_15_method_1_code 519 = .ok (.sipush 24000, 3) by decide +kernel) (by decide +kernel) ?_
  refine va_newa (atype := .int) (a0 := (24000, .inl (fun _ => 0))) (ty := .int) hx hb (hts _ w_197) rfl hK hP hD hS hA (fun _ => rfl) (by decide +kernel) (by decide +kernel) (by decide +kernel) (by decide +kernel) (by decide +kernel) (show decode prog_15_method_1_code 522 = .ok (.newarray .int, 2) by decide +kernel) (fun q_117 cA_118 H hK hP hD hS => ?_)
  have hP : va_P D cl [(h0, .inr (1, fs58)), (q_1, .inl (cA_2, 32768, .inl (fun _ => 0))), (q_83, .inl (cA_84, 200, .inl (fun _ => 0))), (q_89, .inl (cA_90, 62, .inl (fun _ => 0))), (q_117, .inl (cA_118, 24000, .inl (fun _ => 0)))] H := hP
  have hD : va_D _ [(h0, .inr (1, fs58)), (q_1, .inl (cA_2, 32768, .inl (fun _ => 0))), (q_83, .inl (cA_84, 200, .inl (fun _ => 0))), (q_89, .inl (cA_90, 62, .inl (fun _ => 0))), (q_117, .inl (cA_118, 24000, .inl (fun _ => 0)))] := hD
  have hK : va_K D cl [(cA_2, .byte), (cA_84, .boolean), (cA_90, .int), (cA_118, .int)] s := hK
  refine W.widen (k := 59) (n := 289879) (by decide +kernel) (by decide +kernel) ?_
  refine va_putF (D := D) (ci := 1) (v := .ref q_117) (ty := .array .int) (C := R_MD) (T := F_MD) (N := 107) hx hb hts i_MD t_MD t_MD_ok n_MD hown hK hP hD hS 0 rfl rfl 101 (by decide +kernel) (hts _ w_1663) (fun _ h9 => h9) rfl hin rfl (by decide +kernel) rfl rfl (by simp [l58]) (show decode prog_15_method_1_code 524 = .ok (.putfield 190, 3) by decide +kernel) (fun H locs hP hD hS => ?_)
  have hP : va_P D cl [(h0, .inr (1, (fs58.set 101 (.ref q_117)))), (q_1, .inl (cA_2, 32768, .inl (fun _ => 0))), (q_83, .inl (cA_84, 200, .inl (fun _ => 0))), (q_89, .inl (cA_90, 62, .inl (fun _ => 0))), (q_117, .inl (cA_118, 24000, .inl (fun _ => 0)))] H := hP
  have hD : va_D _ [(h0, .inr (1, (fs58.set 101 (.ref q_117)))), (q_1, .inl (cA_2, 32768, .inl (fun _ => 0))), (q_83, .inl (cA_84, 200, .inl (fun _ => 0))), (q_89, .inl (cA_90, 62, .inl (fun _ => 0))), (q_117, .inl (cA_118, 24000, .inl (fun _ => 0)))] := hD
  obtain ⟨fs59, e59⟩ : ∃ z : List Value, z = (fs58.set 101 (.ref q_117)) := ⟨_, rfl⟩
  rw [← e59] at hP hD
  have l59 : fs59.length = 107 := md_len e59 l58
  have k59 : mdK fs59 fs_h0 := md_keep e59 (by decide +kernel) k58
  have r59_1 : xfa fs59 1 (.ref q_1) := md_ne e59 (by decide +kernel) r58_1
  have r59_74 : xfa fs59 74 (.ref q_83) := md_ne e59 (by decide +kernel) r58_74
  have r59_84 : xfa fs59 84 (.ref q_89) := md_ne e59 (by decide +kernel) r58_84
  have hP := hP.sub (ws' := [(h0, .inr (1, fs59)), (q_1, .inl (cA_2, 32768, .inl (fun _ => 0))), (q_83, .inl (cA_84, 200, .inl (fun _ => 0))), (q_89, .inl (cA_90, 62, .inl (fun _ => 0)))]) [0, 1, 2, 3] rfl
  have hD := hD.sub (ws' := [(h0, .inr (1, fs59)), (q_1, .inl (cA_2, 32768, .inl (fun _ => 0))), (q_83, .inl (cA_84, 200, .inl (fun _ => 0))), (q_89, .inl (cA_90, 62, .inl (fun _ => 0)))]) [0, 1, 2, 3] (by decide +kernel) rfl
  have hK := hK.sub (tys' := [(cA_2, .byte), (cA_84, .boolean), (cA_90, .int)]) [0, 1, 2] rfl
  refine lv_aload_n hx hb (show decode prog_15_method_1_code 527 = .ok (.aload_n 0, 1) by decide +kernel) rfl (lv_at hl 0 rfl) ?_
  refine lv_sipush (v := 24000) hx hb (show decode prog_15_method_1_code 528 = .ok (.sipush 24000, 3) by decide +kernel) (by decide +kernel) ?_
  refine va_newa (atype := .int) (a0 := (24000, .inl (fun _ => 0))) (ty := .int) hx hb (hts _ w_197) rfl hK hP hD hS hA (fun _ => rfl) (by decide +kernel) (by decide +kernel) (by decide +kernel) (by decide +kernel) (by decide +kernel) (show decode prog_15_method_1_code 531 = .ok (.newarray .int, 2) by decide +kernel) (fun q_119 cA_120 H hK hP hD hS => ?_)
  have hP : va_P D cl [(h0, .inr (1, fs59)), (q_1, .inl (cA_2, 32768, .inl (fun _ => 0))), (q_83, .inl (cA_84, 200, .inl (fun _ => 0))), (q_89, .inl (cA_90, 62, .inl (fun _ => 0))), (q_119, .inl (cA_120, 24000, .inl (fun _ => 0)))] H := hP
  have hD : va_D _ [(h0, .inr (1, fs59)), (q_1, .inl (cA_2, 32768, .inl (fun _ => 0))), (q_83, .inl (cA_84, 200, .inl (fun _ => 0))), (q_89, .inl (cA_90, 62, .inl (fun _ => 0))), (q_119, .inl (cA_120, 24000, .inl (fun _ => 0)))] := hD
  have hK : va_K D cl [(cA_2, .byte), (cA_84, .boolean), (cA_90, .int), (cA_120, .int)] s := hK
  refine W.widen (k := 60) (n := 313879) (by decide +kernel) (by decide +kernel) ?_
  refine va_putF (D := D) (ci := 1) (v := .ref q_119) (ty := .array .int) (C := R_MD) (T := F_MD) (N := 107) hx hb hts i_MD t_MD t_MD_ok n_MD hown hK hP hD hS 0 rfl rfl 102 (by decide +kernel) (hts _ w_1664) (fun _ h9 => h9) rfl hin rfl (by decide +kernel) rfl rfl (by simp [l59]) (show decode prog_15_method_1_code 533 = .ok (.putfield 193, 3) by decide +kernel) (fun H locs hP hD hS => ?_)
  have hP : va_P D cl [(h0, .inr (1, (fs59.set 102 (.ref q_119)))), (q_1, .inl (cA_2, 32768, .inl (fun _ => 0))), (q_83, .inl (cA_84, 200, .inl (fun _ => 0))), (q_89, .inl (cA_90, 62, .inl (fun _ => 0))), (q_119, .inl (cA_120, 24000, .inl (fun _ => 0)))] H := hP
  have hD : va_D _ [(h0, .inr (1, (fs59.set 102 (.ref q_119)))), (q_1, .inl (cA_2, 32768, .inl (fun _ => 0))), (q_83, .inl (cA_84, 200, .inl (fun _ => 0))), (q_89, .inl (cA_90, 62, .inl (fun _ => 0))), (q_119, .inl (cA_120, 24000, .inl (fun _ => 0)))] := hD
  obtain ⟨fs60, e60⟩ : ∃ z : List Value, z = (fs59.set 102 (.ref q_119)) := ⟨_, rfl⟩
  rw [← e60] at hP hD
  have l60 : fs60.length = 107 := md_len e60 l59
  have k60 : mdK fs60 fs_h0 := md_keep e60 (by decide +kernel) k59
  have r60_1 : xfa fs60 1 (.ref q_1) := md_ne e60 (by decide +kernel) r59_1
  have r60_74 : xfa fs60 74 (.ref q_83) := md_ne e60 (by decide +kernel) r59_74
  have r60_84 : xfa fs60 84 (.ref q_89) := md_ne e60 (by decide +kernel) r59_84
  have hP := hP.sub (ws' := [(h0, .inr (1, fs60)), (q_1, .inl (cA_2, 32768, .inl (fun _ => 0))), (q_83, .inl (cA_84, 200, .inl (fun _ => 0))), (q_89, .inl (cA_90, 62, .inl (fun _ => 0)))]) [0, 1, 2, 3] rfl
  have hD := hD.sub (ws' := [(h0, .inr (1, fs60)), (q_1, .inl (cA_2, 32768, .inl (fun _ => 0))), (q_83, .inl (cA_84, 200, .inl (fun _ => 0))), (q_89, .inl (cA_90, 62, .inl (fun _ => 0)))]) [0, 1, 2, 3] (by decide +kernel) rfl
  have hK := hK.sub (tys' := [(cA_2, .byte), (cA_84, .boolean), (cA_90, .int)]) [0, 1, 2] rfl
  refine lv_aload_n hx hb (show decode prog_15_method_1_code 536 = .ok (.aload_n 0, 1) by decide +kernel) rfl (lv_at hl 0 rfl) ?_
  refine lv_sipush (v := 24000) hx hb (show decode prog_15_method_1_code 537 = .ok (.sipush 24000, 3) by decide +kernel) (by decide +kernel) ?_
  refine va_newa (atype := .int) (a0 := (24000, .inl (fun _ => 0))) (ty := .int) hx hb (hts _ w_197) rfl hK hP hD hS hA (fun _ => rfl) (by decide +kernel) (by decide +kernel) (by decide +kernel) (by decide +kernel) (by decide +kernel) (show decode prog_15_method_1_code 540 = .ok (.newarray .int, 2) by decide +kernel) (fun q_121 cA_122 H hK hP hD hS => ?_)
  have hP : va_P D cl [(h0, .inr (1, fs60)), (q_1, .inl (cA_2, 32768, .inl (fun _ => 0))), (q_83, .inl (cA_84, 200, .inl (fun _ => 0))), (q_89, .inl (cA_90, 62, .inl (fun _ => 0))), (q_121, .inl (cA_122, 24000, .inl (fun _ => 0)))] H := hP
  have hD : va_D _ [(h0, .inr (1, fs60)), (q_1, .inl (cA_2, 32768, .inl (fun _ => 0))), (q_83, .inl (cA_84, 200, .inl (fun _ => 0))), (q_89, .inl (cA_90, 62, .inl (fun _ => 0))), (q_121, .inl (cA_122, 24000, .inl (fun _ => 0)))] := hD
  have hK : va_K D cl [(cA_2, .byte), (cA_84, .boolean), (cA_90, .int), (cA_122, .int)] s := hK
  refine W.widen (k := 61) (n := 337879) (by decide +kernel) (by decide +kernel) ?_
  refine va_putF (D := D) (ci := 1) (v := .ref q_121) (ty := .array .int) (C := R_MD) (T := F_MD) (N := 107) hx hb hts i_MD t_MD t_MD_ok n_MD hown hK hP hD hS 0 rfl rfl 103 (by decide +kernel) (hts _ w_1665) (fun _ h9 => h9) rfl hin rfl (by decide +kernel) rfl rfl (by simp [l60]) (show decode prog_15_method_1_code 542 = .ok (.putfield 196, 3) by decide +kernel) (fun H locs hP hD hS => ?_)
  have hP : va_P D cl [(h0, .inr (1, (fs60.set 103 (.ref q_121)))), (q_1, .inl (cA_2, 32768, .inl (fun _ => 0))), (q_83, .inl (cA_84, 200, .inl (fun _ => 0))), (q_89, .inl (cA_90, 62, .inl (fun _ => 0))), (q_121, .inl (cA_122, 24000, .inl (fun _ => 0)))] H := hP
  have hD : va_D _ [(h0, .inr (1, (fs60.set 103 (.ref q_121)))), (q_1, .inl (cA_2, 32768, .inl (fun _ => 0))), (q_83, .inl (cA_84, 200, .inl (fun _ => 0))), (q_89, .inl (cA_90, 62, .inl (fun _ => 0))), (q_121, .inl (cA_122, 24000, .inl (fun _ => 0)))] := hD
  obtain ⟨fs61, e61⟩ : ∃ z : List Value, z = (fs60.set 103 (.ref q_121)) := ⟨_, rfl⟩
  rw [← e61] at hP hD
  have l61 : fs61.length = 107 := md_len e61 l60
  have k61 : mdK fs61 fs_h0 := md_keep e61 (by decide +kernel) k60
  have r61_1 : xfa fs61 1 (.ref q_1) := md_ne e61 (by decide +kernel) r60_1
  have r61_74 : xfa fs61 74 (.ref q_83) := md_ne e61 (by decide +kernel) r60_74
  have r61_84 : xfa fs61 84 (.ref q_89) := md_ne e61 (by decide +kernel) r60_84
  have hP := hP.sub (ws' := [(h0, .inr (1, fs61)), (q_1, .inl (cA_2, 32768, .inl (fun _ => 0))), (q_83, .inl (cA_84, 200, .inl (fun _ => 0))), (q_89, .inl (cA_90, 62, .inl (fun _ => 0)))]) [0, 1, 2, 3] rfl
  have hD := hD.sub (ws' := [(h0, .inr (1, fs61)), (q_1, .inl (cA_2, 32768, .inl (fun _ => 0))), (q_83, .inl (cA_84, 200, .inl (fun _ => 0))), (q_89, .inl (cA_90, 62, .inl (fun _ => 0)))]) [0, 1, 2, 3] (by decide +kernel) rfl
  have hK := hK.sub (tys' := [(cA_2, .byte), (cA_84, .boolean), (cA_90, .int)]) [0, 1, 2] rfl
  refine lv_aload_n hx hb (show decode prog_15_method_1_code 545 = .ok (.aload_n 0, 1) by decide +kernel) rfl (lv_at hl 0 rfl) ?_
  refine lv_ldc (v := 65536) hx hb hown (hts _ w_1561) (show decode prog_15_method_1_code 546 = .ok (.ldc 199, 2) by decide +kernel) ?_
  refine va_newa (atype := .int) (a0 := (65536, .inl (fun _ => 0))) (ty := .int) hx hb (hts _ w_197) rfl hK hP hD hS hA (fun _ => rfl) (by decide +kernel) (by decide +kernel) (by decide +kernel) (by decide +kernel) (by decide +kernel) (show decode prog_15_method_1_code 548 = .ok (.newarray .int, 2) by decide +kernel) (fun q_123 cA_124 H hK hP hD hS => ?_)
  have hP : va_P D cl [(h0, .inr (1, fs61)), (q_1, .inl (cA_2, 32768, .inl (fun _ => 0))), (q_83, .inl (cA_84, 200, .inl (fun _ => 0))), (q_89, .inl (cA_90, 62, .inl (fun _ => 0))), (q_123, .inl (cA_124, 65536, .inl (fun _ => 0)))] H := hP
  have hD : va_D _ [(h0, .inr (1, fs61)), (q_1, .inl (cA_2, 32768, .inl (fun _ => 0))), (q_83, .inl (cA_84, 200, .inl (fun _ => 0))), (q_89, .inl (cA_90, 62, .inl (fun _ => 0))), (q_123, .inl (cA_124, 65536, .inl (fun _ => 0)))] := hD
  have hK : va_K D cl [(cA_2, .byte), (cA_84, .boolean), (cA_90, .int), (cA_124, .int)] s := hK
  refine W.widen (k := 62) (n := 403415) (by decide +kernel) (by decide +kernel) ?_
  refine va_putF (D := D) (ci := 1) (v := .ref q_123) (ty := .array .int) (C := R_MD) (T := F_MD) (N := 107) hx hb hts i_MD t_MD t_MD_ok n_MD hown hK hP hD hS 0 rfl rfl 104 (by decide +kernel) (hts _ w_1666) (fun _ h9 => h9) rfl hin rfl (by decide +kernel) rfl rfl (by simp [l61]) (show decode prog_15_method_1_code 550 = .ok (.putfield 200, 3) by decide +kernel) (fun H locs hP hD hS => ?_)
  have hP : va_P D cl [(h0, .inr (1, (fs61.set 104 (.ref q_123)))), (q_1, .inl (cA_2, 32768, .inl (fun _ => 0))), (q_83, .inl (cA_84, 200, .inl (fun _ => 0))), (q_89, .inl (cA_90, 62, .inl (fun _ => 0))), (q_123, .inl (cA_124, 65536, .inl (fun _ => 0)))] H := hP
  have hD : va_D _ [(h0, .inr (1, (fs61.set 104 (.ref q_123)))), (q_1, .inl (cA_2, 32768, .inl (fun _ => 0))), (q_83, .inl (cA_84, 200, .inl (fun _ => 0))), (q_89, .inl (cA_90, 62, .inl (fun _ => 0))), (q_123, .inl (cA_124, 65536, .inl (fun _ => 0)))] := hD
  obtain ⟨fs62, e62⟩ : ∃ z : List Value, z = (fs61.set 104 (.ref q_123)) := ⟨_, rfl⟩
  rw [← e62] at hP hD
  have l62 : fs62.length = 107 := md_len e62 l61
  have k62 : mdK fs62 fs_h0 := md_keep e62 (by decide +kernel) k61
  have r62_1 : xfa fs62 1 (.ref q_1) := md_ne e62 (by decide +kernel) r61_1
  have r62_74 : xfa fs62 74 (.ref q_83) := md_ne e62 (by decide +kernel) r61_74
  have r62_84 : xfa fs62 84 (.ref q_89) := md_ne e62 (by decide +kernel) r61_84
  have hP := hP.sub (ws' := [(h0, .inr (1, fs62)), (q_1, .inl (cA_2, 32768, .inl (fun _ => 0))), (q_83, .inl (cA_84, 200, .inl (fun _ => 0))), (q_89, .inl (cA_90, 62, .inl (fun _ => 0)))]) [0, 1, 2, 3] rfl
  have hD := hD.sub (ws' := [(h0, .inr (1, fs62)), (q_1, .inl (cA_2, 32768, .inl (fun _ => 0))), (q_83, .inl (cA_84, 200, .inl (fun _ => 0))), (q_89, .inl (cA_90, 62, .inl (fun _ => 0)))]) [0, 1, 2, 3] (by decide +kernel) rfl
  have hK := hK.sub (tys' := [(cA_2, .byte), (cA_84, .boolean), (cA_90, .int)]) [0, 1, 2] rfl
  refine lv_aload_n hx hb (show decode prog_15_method_1_code 553 = .ok (.aload_n 0, 1) by decide +kernel) rfl (lv_at hl 0 rfl) ?_
  refine lv_sipush (v := 24000) hx hb (show decode prog_15_method_1_code 554 = .ok (.sipush 24000, 3) by decide +kernel) (by decide +kernel) ?_
  refine va_newa (atype := .boolean) (a0 := (24000, .inl (fun _ => 0))) (ty := .boolean) hx hb (hts _ w_1043) rfl hK hP hD hS hA (fun _ => rfl) (by decide +kernel) (by decide +kernel) (by decide +kernel) (by decide +kernel) (by decide +kernel) (show decode prog_15_method_1_code 557 = .ok (.newarray .boolean, 2) by decide +kernel) (fun q_125 cA_126 H hK hP hD hS => ?_)
  have hP : va_P D cl [(h0, .inr (1, fs62)), (q_1, .inl (cA_2, 32768, .inl (fun _ => 0))), (q_83, .inl (cA_84, 200, .inl (fun _ => 0))), (q_89, .inl (cA_90, 62, .inl (fun _ => 0))), (q_125, .inl (cA_126, 24000, .inl (fun _ => 0)))] H := hP
  have hD : va_D _ [(h0, .inr (1, fs62)), (q_1, .inl (cA_2, 32768, .inl (fun _ => 0))), (q_83, .inl (cA_84, 200, .inl (fun _ => 0))), (q_89, .inl (cA_90, 62, .inl (fun _ => 0))), (q_125, .inl (cA_126, 24000, .inl (fun _ => 0)))] := hD
  have hK : va_K D cl [(cA_2, .byte), (cA_84, .boolean), (cA_90, .int), (cA_126, .boolean)] s := hK
  refine W.widen (k := 63) (n := 427415) (by decide +kernel) (by decide +kernel) ?_
  refine va_putF (D := D) (ci := 1) (v := .ref q_125) (ty := .array .boolean) (C := R_MD) (T := F_MD) (N := 107) hx hb hts i_MD t_MD t_MD_ok n_MD hown hK hP hD hS 0 rfl rfl 105 (by decide +kernel) (hts _ w_1667) (fun _ h9 => h9) rfl hin rfl (by decide +kernel) rfl rfl (by simp [l62]) (show decode prog_15_method_1_code 559 = .ok (.putfield 203, 3) by decide +kernel) (fun H locs hP hD hS => ?_)
  have hP : va_P D cl [(h0, .inr (1, (fs62.set 105 (.ref q_125)))), (q_1, .inl (cA_2, 32768, .inl (fun _ => 0))), (q_83, .inl (cA_84, 200, .inl (fun _ => 0))), (q_89, .inl (cA_90, 62, .inl (fun _ => 0))), (q_125, .inl (cA_126, 24000, .inl (fun _ => 0)))] H := hP
  have hD : va_D _ [(h0, .inr (1, (fs62.set 105 (.ref q_125)))), (q_1, .inl (cA_2, 32768, .inl (fun _ => 0))), (q_83, .inl (cA_84, 200, .inl (fun _ => 0))), (q_89, .inl (cA_90, 62, .inl (fun _ => 0))), (q_125, .inl (cA_126, 24000, .inl (fun _ => 0)))] := hD
  obtain ⟨fs63, e63⟩ : ∃ z : List Value, z = (fs62.set 105 (.ref q_125)) := ⟨_, rfl⟩
  rw [← e63] at hP hD
  have l63 : fs63.length = 107 := md_len e63 l62
  have k63 : mdK fs63 fs_h0 := md_keep e63 (by decide +kernel) k62
  have r63_1 : xfa fs63 1 (.ref q_1) := md_ne e63 (by decide +kernel) r62_1
  have r63_74 : xfa fs63 74 (.ref q_83) := md_ne e63 (by decide +kernel) r62_74
  have r63_84 : xfa fs63 84 (.ref q_89) := md_ne e63 (by decide +kernel) r62_84
  have hP := hP.sub (ws' := [(h0, .inr (1, fs63)), (q_1, .inl (cA_2, 32768, .inl (fun _ => 0))), (q_83, .inl (cA_84, 200, .inl (fun _ => 0))), (q_89, .inl (cA_90, 62, .inl (fun _ => 0)))]) [0, 1, 2, 3] rfl
  have hD := hD.sub (ws' := [(h0, .inr (1, fs63)), (q_1, .inl (cA_2, 32768, .inl (fun _ => 0))), (q_83, .inl (cA_84, 200, .inl (fun _ => 0))), (q_89, .inl (cA_90, 62, .inl (fun _ => 0)))]) [0, 1, 2, 3] (by decide +kernel) rfl
  have hK := hK.sub (tys' := [(cA_2, .byte), (cA_84, .boolean), (cA_90, .int)]) [0, 1, 2] rfl
  exact W.vret hx hb hr (fun t ht hW => ⟨⟨(fs63, q_1, cA_2, q_83, cA_84, q_89, cA_90), rfl, ⟨l63, k63, r63_1, r63_74, r63_84⟩, by rw [ht]; exact hP, va_K.moved hW.alike hK, hD⟩, hS.F ht⟩) hS.2.2 (show decode prog_15_method_1_code 562 = .ok (.return_, 1) by decide +kernel)
set_option maxHeartbeats 4000000 in
set_option maxRecDepth 100000 in
theorem c_MD_count0 (l : Launch) (D : va_G) (ad : Nat → Nat) (de sz : Nat) (h0 : Nat) (fs : List Value) (hfl : fs.length = 107) (hf42 : xfa fs 42 (.int 0)) (hf43 : xfa fs 43 (.int 0)) (hf45 : xfa fs 45 (.int 0)) (hf46 : xfa fs 46 (.int 0)) (hf44 : xfa fs 44 (.int 0)) (hf47 : xfa fs 47 (.int 0)) (hf48 : xfa fs 48 (.int 0)) (hf49 : xfa fs 49 (.int 0)) (hf41 : xfa fs 41 (.int 0)) (hf2 : xfa fs 2 (.int 0)) (hf83 : xfa fs 83 (.int 0)) (hf82 : xfa fs 82 (.int 0)) (hf85 : xfa fs 85 (.int 0)) (hf87 : xfa fs 87 (.int 0)) (hf86 : xfa fs 86 (.int 0)) (hf106 : xfa fs 106 (.int 0))  (p0 : Int32) : Met l ⟨"SignalEngineModel", "count", "(I)I"⟩ (tw ⟨"SignalEngineModel", "count", "(I)I"⟩ prog_15_method_110_code 4 (some (.int))) { frames := 0, cells := 0, slots := 0, locals := 0 } (va_Pc [.ref h0, .int p0] (xp ad de D [(h0, .inr (1, fs))] [] sz)) (va_Qi (fun (r : Int32) (_ : Unit) => r = cnt p0) (fun (_ : Unit) t => xq D (va_A [(h0, .inr (1, fs))] sz) [(h0, .inr (1, (fs.set 0 (.int 0))))] [] t) (va_A [(h0, .inr (1, fs))] sz)) 0 0 (va_A [(h0, .inr (1, fs))] sz) := by
  by_cases ho : p0.toInt < 0 ∨ 15 < p0.toInt
  · exact c_MD_count_x l D ad de sz h0 fs hfl hf42 hf43 hf45 hf46 hf44 hf47 hf48 hf49 hf41 hf2 hf83 hf82 hf85 hf87 hf86 hf106 p0 ho
  · obtain ⟨j, hj, rfl⟩ : ∃ j : Nat, j ≤ 15 ∧ p0 = nI j := by
      have e0 : (0 : Int32).toInt = 0 := by decide
      have e1 : (15 : Int32).toInt = 15 := by decide
      refine nI_of2 (M := 15) e1 (fun h => ho (Or.inl ?_)) ?_
      · rw [Int32.lt_iff_toInt_lt, e0] at h; exact h
      · rw [Int32.le_iff_toInt_le, e1]; omega
    have hc : j = 0 ∨ j = 1 ∨ j = 2 ∨ j = 3 ∨ j = 4 ∨ j = 5 ∨ j = 6 ∨ j = 7 ∨ j = 8 ∨ j = 9 ∨ j = 10 ∨ j = 11 ∨ j = 12 ∨ j = 13 ∨ j = 14 ∨ j = 15 := by omega
    rcases hc with rfl | rfl | rfl | rfl | rfl | rfl | rfl | rfl | rfl | rfl | rfl | rfl | rfl | rfl | rfl | rfl
    · exact c_MD_count_0 l D ad de sz h0 fs hfl hf42 hf43 hf45 hf46 hf44 hf47 hf48 hf49 hf41 hf2 hf83 hf82 hf85 hf87 hf86 hf106
    · exact c_MD_count_1 l D ad de sz h0 fs hfl hf42 hf43 hf45 hf46 hf44 hf47 hf48 hf49 hf41 hf2 hf83 hf82 hf85 hf87 hf86 hf106
    · exact c_MD_count_2 l D ad de sz h0 fs hfl hf42 hf43 hf45 hf46 hf44 hf47 hf48 hf49 hf41 hf2 hf83 hf82 hf85 hf87 hf86 hf106
    · exact c_MD_count_3 l D ad de sz h0 fs hfl hf42 hf43 hf45 hf46 hf44 hf47 hf48 hf49 hf41 hf2 hf83 hf82 hf85 hf87 hf86 hf106
    · exact c_MD_count_4 l D ad de sz h0 fs hfl hf42 hf43 hf45 hf46 hf44 hf47 hf48 hf49 hf41 hf2 hf83 hf82 hf85 hf87 hf86 hf106
    · exact c_MD_count_5 l D ad de sz h0 fs hfl hf42 hf43 hf45 hf46 hf44 hf47 hf48 hf49 hf41 hf2 hf83 hf82 hf85 hf87 hf86 hf106
    · exact c_MD_count_6 l D ad de sz h0 fs hfl hf42 hf43 hf45 hf46 hf44 hf47 hf48 hf49 hf41 hf2 hf83 hf82 hf85 hf87 hf86 hf106
    · exact c_MD_count_7 l D ad de sz h0 fs hfl hf42 hf43 hf45 hf46 hf44 hf47 hf48 hf49 hf41 hf2 hf83 hf82 hf85 hf87 hf86 hf106
    · exact c_MD_count_8 l D ad de sz h0 fs hfl hf42 hf43 hf45 hf46 hf44 hf47 hf48 hf49 hf41 hf2 hf83 hf82 hf85 hf87 hf86 hf106
    · exact c_MD_count_9 l D ad de sz h0 fs hfl hf42 hf43 hf45 hf46 hf44 hf47 hf48 hf49 hf41 hf2 hf83 hf82 hf85 hf87 hf86 hf106
    · exact c_MD_count_10 l D ad de sz h0 fs hfl hf42 hf43 hf45 hf46 hf44 hf47 hf48 hf49 hf41 hf2 hf83 hf82 hf85 hf87 hf86 hf106
    · exact c_MD_count_11 l D ad de sz h0 fs hfl hf42 hf43 hf45 hf46 hf44 hf47 hf48 hf49 hf41 hf2 hf83 hf82 hf85 hf87 hf86 hf106
    · exact c_MD_count_12 l D ad de sz h0 fs hfl hf42 hf43 hf45 hf46 hf44 hf47 hf48 hf49 hf41 hf2 hf83 hf82 hf85 hf87 hf86 hf106
    · exact c_MD_count_13 l D ad de sz h0 fs hfl hf42 hf43 hf45 hf46 hf44 hf47 hf48 hf49 hf41 hf2 hf83 hf82 hf85 hf87 hf86 hf106
    · exact c_MD_count_14 l D ad de sz h0 fs hfl hf42 hf43 hf45 hf46 hf44 hf47 hf48 hf49 hf41 hf2 hf83 hf82 hf85 hf87 hf86 hf106
    · exact c_MD_count_15 l D ad de sz h0 fs hfl hf42 hf43 hf45 hf46 hf44 hf47 hf48 hf49 hf41 hf2 hf83 hf82 hf85 hf87 hf86 hf106
