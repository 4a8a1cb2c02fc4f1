set_option maxHeartbeats 4000000 in
set_option maxRecDepth 100000 in
/-- SignalEngine.append -/
theorem c_SE_append0 (l : Launch) (D : va_G) (ad : Nat → Nat) (de sz : Nat) (h0 : Nat) (fs : List Value) (hfl : fs.length = 14) (hf1 : xfa fs 1 (.int 0)) (q0 : Nat) (cA0 : ClassId) (f0 : Nat → Int32) (ha0 : xfa fs 0 (.ref q0)) (p0 : Int32) : Met l ⟨"SignalEngine", "append", "(I)V"⟩ (tw ⟨"SignalEngine", "append", "(I)V"⟩ prog_1_method_3_code 3 none) { frames := 0, cells := 0, slots := 0, locals := 0 } (va_Pc [.ref h0, .int p0] (xp ad de D [(h0, .inr (0, fs)), (q0, .inl (cA0, 80, .inl f0))] [(cA0, .byte)] sz)) (va_Qv (fun (_ : (Nat → Int32)) => True) (fun (u : (Nat → Int32)) t => xq D (va_A [(h0, .inr (0, fs)), (q0, .inl (cA0, 80, .inl f0))] sz) [(h0, .inr (0, ((((fs.set 1 (.int 1)).set 1 (.int 2)).set 1 (.int 3)).set 1 (.int 4)))), (q0, .inl (cA0, 80, .inl u))] [(cA0, .byte)] t) (va_A [(h0, .inr (0, fs)), (q0, .inl (cA0, 80, .inl f0))] sz)) 0 0 (va_A [(h0, .inr (0, fs)), (q0, .inl (cA0, 80, .inl f0))] sz) := by
  refine xMet (by decide +kernel) (Nat.le_of_ble_eq_true rfl) ?_
  intro p e s m below meth c hx hb hr hlocks hin hml hown hts hsz hP hK hD hE hA ls hl
  have hS : va_S _ s.heap s.heap [] := va_S.rf (A := va_A [(h0, .inr (0, fs)), (q0, .inl (cA0, 80, .inl f0))] sz)
  have hl : lv_has ls 3 [(0, .ref h0), (1, .int p0)] := hl
  refine lv_bipush (v := 24) hx hb (show decode prog_1_method_3_code 0 = .ok (.bipush 24, 2) by decide +kernel) (by decide +kernel) ?_
  refine lv_istore_n (lv' := [(2, .int 24), (0, .ref h0), (1, .int p0)]) hx hb (show decode prog_1_method_3_code 2 = .ok (.istore_n 2, 1) by decide +kernel) rfl hl (by decide +kernel) rfl (fun ls hl => ?_)
  refine lv_iload_n hx hb (show decode prog_1_method_3_code 3 = .ok (.iload_n 2, 1) by decide +kernel) rfl (lv_at hl 0 rfl) ?_
  refine lv_if_lt (tgt := 36) hx hb (show decode prog_1_method_3_code 4 = .ok (.ifCond .lt 32, 3) by decide +kernel) (by decide +kernel) (fun c_1 => absurd c_1 (by decide +kernel)) (fun c_1 => ?_)
  refine lv_aload_n hx hb (show decode prog_1_method_3_code 7 = .ok (.aload_n 0, 1) by decide +kernel) rfl (lv_at hl 1 rfl) ?_
  refine va_get (D := D) (ci := 0) (v := .ref q0) (C := R_SE) (T := F_SE) (N := 14) hx hb hts i_SE hown hK hP 0 rfl rfl 0 (by decide +kernel) (hts _ w_42) (fun _ h9 => h9) ha0 (show decode prog_1_method_3_code 8 = .ok (.getfield 9, 3) by decide +kernel) ?_
  refine lv_aload_n hx hb (show decode prog_1_method_3_code 11 = .ok (.aload_n 0, 1) by decide +kernel) rfl (lv_at hl 1 rfl) ?_
  refine va_get (D := D) (ci := 0) (v := .int 0) (C := R_SE) (T := F_SE) (N := 14) hx hb hts i_SE hown hK hP 0 rfl rfl 1 (by decide +kernel) (hts _ w_43) (fun _ h9 => h9) hf1 (show decode prog_1_method_3_code 12 = .ok (.getfield 13, 3) by decide +kernel) ?_
  refine lv_iload_n hx hb (show decode prog_1_method_3_code 15 = .ok (.iload_n 1, 1) by decide +kernel) rfl (lv_at hl 2 rfl) ?_
  refine lv_iload_n hx hb (show decode prog_1_method_3_code 16 = .ok (.iload_n 2, 1) by decide +kernel) rfl (lv_at hl 0 rfl) ?_
  refine lv_iushr hx hb (show decode prog_1_method_3_code 17 = .ok (.iushr, 1) by decide +kernel) rfl ?_
  refine lv_topi (fun z_2 _ => ?_)
  refine lv_i2b hx hb (show decode prog_1_method_3_code 18 = .ok (.i2b, 1) by decide +kernel) rfl ?_
  refine lv_topi (fun z_3 _ => ?_)
  refine va_bast hx hb hK hP hD hS 1 0 rfl rfl (by unfold vp_in; decide) (show decode prog_1_method_3_code 19 = .ok (.bastore, 1) by decide +kernel) (fun H locs hP hD hS => ?_)
  obtain ⟨g_4, hP, hD⟩ : ∃ g_4 : Nat → Int32, va_P D cl [(h0, .inr (0, fs)), (q0, .inl (cA0, 80, .inl g_4))] H ∧ va_D _ [(h0, .inr (0, fs)), (q0, .inl (cA0, 80, .inl g_4))] := ⟨_, hP, hD⟩
  refine lv_aload_n hx hb (show decode prog_1_method_3_code 20 = .ok (.aload_n 0, 1) by decide +kernel) rfl (lv_at hl 1 rfl) ?_
  refine lv_dup hx hb (show decode prog_1_method_3_code 21 = .ok (.dup, 1) by decide +kernel) rfl ?_
  refine va_get (D := D) (ci := 0) (v := .int 0) (C := R_SE) (T := F_SE) (N := 14) hx hb hts i_SE hown hK hP 0 rfl rfl 1 (by decide +kernel) (hts _ w_43) (fun _ h9 => h9) hf1 (show decode prog_1_method_3_code 22 = .ok (.getfield 13, 3) by decide +kernel) ?_
  refine lv_iconst (v := 1) hx hb (show decode prog_1_method_3_code 25 = .ok (.iconst 1, 1) by decide +kernel) (by decide +kernel) ?_
  refine lv_iadd hx hb (show decode prog_1_method_3_code 26 = .ok (.iadd, 1) by decide +kernel) ?_
  refine xtopi (v := 1) (by decide +kernel) ?_
  refine va_put (D := D) (ci := 0) (v := .int 1) (ty := .int) (C := R_SE) (T := F_SE) (N := 14) hx hb hts i_SE t_SE t_SE_ok n_SE hown hK hP hD hS 0 rfl rfl 1 (by decide +kernel) (hts _ w_43) (fun _ h9 => h9) rfl (by decide +kernel) rfl rfl (by simp [hfl]) (show decode prog_1_method_3_code 27 = .ok (.putfield 13, 3) by decide +kernel) (fun H locs hP hD hS => ?_)
  have hP : va_P D cl [(h0, .inr (0, (fs.set 1 (.int 1)))), (q0, .inl (cA0, 80, .inl g_4))] H := hP
  have hD : va_D _ [(h0, .inr (0, (fs.set 1 (.int 1)))), (q0, .inl (cA0, 80, .inl g_4))] := hD
  refine lv_iinc (v := 16) (lv' := [(2, .int 16), (0, .ref h0), (1, .int p0)]) hx hb (show decode prog_1_method_3_code 30 = .ok (.iinc 2 (-8), 3) by decide +kernel) hl (k := 0) rfl (by decide +kernel) (by decide +kernel) rfl (fun ls hl => ?_)
  refine lv_goto (tgt := 3) hx hb (show decode prog_1_method_3_code 33 = .ok (.goto (-30), 3) by decide +kernel) (by decide +kernel) ?_
  refine lv_iload_n hx hb (show decode prog_1_method_3_code 3 = .ok (.iload_n 2, 1) by decide +kernel) rfl (lv_at hl 0 rfl) ?_
  refine lv_if_lt (tgt := 36) hx hb (show decode prog_1_method_3_code 4 = .ok (.ifCond .lt 32, 3) by decide +kernel) (by decide +kernel) (fun c_5 => absurd c_5 (by decide +kernel)) (fun c_5 => ?_)
  refine lv_aload_n hx hb (show decode prog_1_method_3_code 7 = .ok (.aload_n 0, 1) by decide +kernel) rfl (lv_at hl 1 rfl) ?_
  refine va_get (D := D) (ci := 0) (v := .ref q0) (C := R_SE) (T := F_SE) (N := 14) hx hb hts i_SE hown hK hP 0 rfl rfl 0 (by decide +kernel) (hts _ w_42) (fun _ h9 => h9) (xg_ne (by decide +kernel) ha0) (show decode prog_1_method_3_code 8 = .ok (.getfield 9, 3) by decide +kernel) ?_
  refine lv_aload_n hx hb (show decode prog_1_method_3_code 11 = .ok (.aload_n 0, 1) by decide +kernel) rfl (lv_at hl 1 rfl) ?_
  refine va_get (D := D) (ci := 0) (v := .int 1) (C := R_SE) (T := F_SE) (N := 14) hx hb hts i_SE hown hK hP 0 rfl rfl 1 (by decide +kernel) (hts _ w_43) (fun _ h9 => h9) (xg_eq (by simp [hfl])) (show decode prog_1_method_3_code 12 = .ok (.getfield 13, 3) by decide +kernel) ?_
  refine lv_iload_n hx hb (show decode prog_1_method_3_code 15 = .ok (.iload_n 1, 1) by decide +kernel) rfl (lv_at hl 2 rfl) ?_
  refine lv_iload_n hx hb (show decode prog_1_method_3_code 16 = .ok (.iload_n 2, 1) by decide +kernel) rfl (lv_at hl 0 rfl) ?_
  refine lv_iushr hx hb (show decode prog_1_method_3_code 17 = .ok (.iushr, 1) by decide +kernel) rfl ?_
  refine lv_topi (fun z_6 _ => ?_)
  refine lv_i2b hx hb (show decode prog_1_method_3_code 18 = .ok (.i2b, 1) by decide +kernel) rfl ?_
  refine lv_topi (fun z_7 _ => ?_)
  refine va_bast hx hb hK hP hD hS 1 0 rfl rfl (by unfold vp_in; decide) (show decode prog_1_method_3_code 19 = .ok (.bastore, 1) by decide +kernel) (fun H locs hP hD hS => ?_)
  obtain ⟨g_8, hP, hD⟩ : ∃ g_8 : Nat → Int32, va_P D cl [(h0, .inr (0, (fs.set 1 (.int 1)))), (q0, .inl (cA0, 80, .inl g_8))] H ∧ va_D _ [(h0, .inr (0, (fs.set 1 (.int 1)))), (q0, .inl (cA0, 80, .inl g_8))] := ⟨_, hP, hD⟩
  refine lv_aload_n hx hb (show decode prog_1_method_3_code 20 = .ok (.aload_n 0, 1) by decide +kernel) rfl (lv_at hl 1 rfl) ?_
  refine lv_dup hx hb (show decode prog_1_method_3_code 21 = .ok (.dup, 1) by decide +kernel) rfl ?_
  refine va_get (D := D) (ci := 0) (v := .int 1) (C := R_SE) (T := F_SE) (N := 14) hx hb hts i_SE hown hK hP 0 rfl rfl 1 (by decide +kernel) (hts _ w_43) (fun _ h9 => h9) (xg_eq (by simp [hfl])) (show decode prog_1_method_3_code 22 = .ok (.getfield 13, 3) by decide +kernel) ?_
  refine lv_iconst (v := 1) hx hb (show decode prog_1_method_3_code 25 = .ok (.iconst 1, 1) by decide +kernel) (by decide +kernel) ?_
  refine lv_iadd hx hb (show decode prog_1_method_3_code 26 = .ok (.iadd, 1) by decide +kernel) ?_
  refine xtopi (v := 2) (by decide +kernel) ?_
  refine va_put (D := D) (ci := 0) (v := .int 2) (ty := .int) (C := R_SE) (T := F_SE) (N := 14) hx hb hts i_SE t_SE t_SE_ok n_SE hown hK hP hD hS 0 rfl rfl 1 (by decide +kernel) (hts _ w_43) (fun _ h9 => h9) rfl (by decide +kernel) rfl rfl (by simp [hfl]) (show decode prog_1_method_3_code 27 = .ok (.putfield 13, 3) by decide +kernel) (fun H locs hP hD hS => ?_)
  have hP : va_P D cl [(h0, .inr (0, ((fs.set 1 (.int 1)).set 1 (.int 2)))), (q0, .inl (cA0, 80, .inl g_8))] H := hP
  have hD : va_D _ [(h0, .inr (0, ((fs.set 1 (.int 1)).set 1 (.int 2)))), (q0, .inl (cA0, 80, .inl g_8))] := hD
  refine lv_iinc (v := 8) (lv' := [(2, .int 8), (0, .ref h0), (1, .int p0)]) hx hb (show decode prog_1_method_3_code 30 = .ok (.iinc 2 (-8), 3) by decide +kernel) hl (k := 0) rfl (by decide +kernel) (by decide +kernel) rfl (fun ls hl => ?_)
  refine lv_goto (tgt := 3) hx hb (show decode prog_1_method_3_code 33 = .ok (.goto (-30), 3) by decide +kernel) (by decide +kernel) ?_
  refine lv_iload_n hx hb (show decode prog_1_method_3_code 3 = .ok (.iload_n 2, 1) by decide +kernel) rfl (lv_at hl 0 rfl) ?_
  refine lv_if_lt (tgt := 36) hx hb (show decode prog_1_method_3_code 4 = .ok (.ifCond .lt 32, 3) by decide +kernel) (by decide +kernel) (fun c_9 => absurd c_9 (by decide +kernel)) (fun c_9 => ?_)
  refine lv_aload_n hx hb (show decode prog_1_method_3_code 7 = .ok (.aload_n 0, 1) by decide +kernel) rfl (lv_at hl 1 rfl) ?_
  refine va_get (D := D) (ci := 0) (v := .ref q0) (C := R_SE) (T := F_SE) (N := 14) hx hb hts i_SE hown hK hP 0 rfl rfl 0 (by decide +kernel) (hts _ w_42) (fun _ h9 => h9) (xg_ne (by decide +kernel) (xg_ne (by decide +kernel) ha0)) (show decode prog_1_method_3_code 8 = .ok (.getfield 9, 3) by decide +kernel) ?_
  refine lv_aload_n hx hb (show decode prog_1_method_3_code 11 = .ok (.aload_n 0, 1) by decide +kernel) rfl (lv_at hl 1 rfl) ?_
  refine va_get (D := D) (ci := 0) (v := .int 2) (C := R_SE) (T := F_SE) (N := 14) hx hb hts i_SE hown hK hP 0 rfl rfl 1 (by decide +kernel) (hts _ w_43) (fun _ h9 => h9) (xg_eq (by simp [hfl])) (show decode prog_1_method_3_code 12 = .ok (.getfield 13, 3) by decide +kernel) ?_
  refine lv_iload_n hx hb (show decode prog_1_method_3_code 15 = .ok (.iload_n 1, 1) by decide +kernel) rfl (lv_at hl 2 rfl) ?_
  refine lv_iload_n hx hb (show decode prog_1_method_3_code 16 = .ok (.iload_n 2, 1) by decide +kernel) rfl (lv_at hl 0 rfl) ?_
  refine lv_iushr hx hb (show decode prog_1_method_3_code 17 = .ok (.iushr, 1) by decide +kernel) rfl ?_
  refine lv_topi (fun z_10 _ => ?_)
  refine lv_i2b hx hb (show decode prog_1_method_3_code 18 = .ok (.i2b, 1) by decide +kernel) rfl ?_
  refine lv_topi (fun z_11 _ => ?_)
  refine va_bast hx hb hK hP hD hS 1 0 rfl rfl (by unfold vp_in; decide) (show decode prog_1_method_3_code 19 = .ok (.bastore, 1) by decide +kernel) (fun H locs hP hD hS => ?_)
  obtain ⟨g_12, hP, hD⟩ : ∃ g_12 : Nat → Int32, va_P D cl [(h0, .inr (0, ((fs.set 1 (.int 1)).set 1 (.int 2)))), (q0, .inl (cA0, 80, .inl g_12))] H ∧ va_D _ [(h0, .inr (0, ((fs.set 1 (.int 1)).set 1 (.int 2)))), (q0, .inl (cA0, 80, .inl g_12))] := ⟨_, hP, hD⟩
  refine lv_aload_n hx hb (show decode prog_1_method_3_code 20 = .ok (.aload_n 0, 1) by decide +kernel) rfl (lv_at hl 1 rfl) ?_
  refine lv_dup hx hb (show decode prog_1_method_3_code 21 = .ok (.dup, 1) by decide +kernel) rfl ?_
  refine va_get (D := D) (ci := 0) (v := .int 2) (C := R_SE) (T := F_SE) (N := 14) hx hb hts i_SE hown hK hP 0 rfl rfl 1 (by decide +kernel) (hts _ w_43) (fun _ h9 => h9) (xg_eq (by simp [hfl])) (show decode prog_1_method_3_code 22 = .ok (.getfield 13, 3) by decide +kernel) ?_
  refine lv_iconst (v := 1) hx hb (show decode prog_1_method_3_code 25 = .ok (.iconst 1, 1) by decide +kernel) (by decide +kernel) ?_
  refine lv_iadd hx hb (show decode prog_1_method_3_code 26 = .ok (.iadd, 1) by decide +kernel) ?_
  refine xtopi (v := 3) (by decide +kernel) ?_
  refine va_put (D := D) (ci := 0) (v := .int 3) (ty := .int) (C := R_SE) (T := F_SE) (N := 14) hx hb hts i_SE t_SE t_SE_ok n_SE hown hK hP hD hS 0 rfl rfl 1 (by decide +kernel) (hts _ w_43) (fun _ h9 => h9) rfl (by decide +kernel) rfl rfl (by simp [hfl]) (show decode prog_1_method_3_code 27 = .ok (.putfield 13, 3) by decide +kernel) (fun H locs hP hD hS => ?_)
  have hP : va_P D cl [(h0, .inr (0, (((fs.set 1 (.int 1)).set 1 (.int 2)).set 1 (.int 3)))), (q0, .inl (cA0, 80, .inl g_12))] H := hP
  have hD : va_D _ [(h0, .inr (0, (((fs.set 1 (.int 1)).set 1 (.int 2)).set 1 (.int 3)))), (q0, .inl (cA0, 80, .inl g_12))] := hD
  refine lv_iinc (v := 0) (lv' := [(2, .int 0), (0, .ref h0), (1, .int p0)]) hx hb (show decode prog_1_method_3_code 30 = .ok (.iinc 2 (-8), 3) by decide +kernel) hl (k := 0) rfl (by decide +kernel) (by decide +kernel) rfl (fun ls hl => ?_)
  refine lv_goto (tgt := 3) hx hb (show decode prog_1_method_3_code 33 = .ok (.goto (-30), 3) by decide +kernel) (by decide +kernel) ?_
  refine lv_iload_n hx hb (show decode prog_1_method_3_code 3 = .ok (.iload_n 2, 1) by decide +kernel) rfl (lv_at hl 0 rfl) ?_
  refine lv_if_lt (tgt := 36) hx hb (show decode prog_1_method_3_code 4 = .ok (.ifCond .lt 32, 3) by decide +kernel) (by decide +kernel) (fun c_13 => absurd c_13 (by decide +kernel)) (fun c_13 => ?_)
  refine lv_aload_n hx hb (show decode prog_1_method_3_code 7 = .ok (.aload_n 0, 1) by decide +kernel) rfl (lv_at hl 1 rfl) ?_
  refine va_get (D := D) (ci := 0) (v := .ref q0) (C := R_SE) (T := F_SE) (N := 14) hx hb hts i_SE hown hK hP 0 rfl rfl 0 (by decide +kernel) (hts _ w_42) (fun _ h9 => h9) (xg_ne (by decide +kernel) (xg_ne (by decide +kernel) (xg_ne (by decide +kernel) ha0))) (show decode prog_1_method_3_code 8 = .ok (.getfield 9, 3) by decide +kernel) ?_
  refine lv_aload_n hx hb (show decode prog_1_method_3_code 11 = .ok (.aload_n 0, 1) by decide +kernel) rfl (lv_at hl 1 rfl) ?_
  refine va_get (D := D) (ci := 0) (v := .int 3) (C := R_SE) (T := F_SE) (N := 14) hx hb hts i_SE hown hK hP 0 rfl rfl 1 (by decide +kernel) (hts _ w_43) (fun _ h9 => h9) (xg_eq (by simp [hfl])) (show decode prog_1_method_3_code 12 = .ok (.getfield 13, 3) by decide +kernel) ?_
  refine lv_iload_n hx hb (show decode prog_1_method_3_code 15 = .ok (.iload_n 1, 1) by decide +kernel) rfl (lv_at hl 2 rfl) ?_
  refine lv_iload_n hx hb (show decode prog_1_method_3_code 16 = .ok (.iload_n 2, 1) by decide +kernel) rfl (lv_at hl 0 rfl) ?_
  refine lv_iushr hx hb (show decode prog_1_method_3_code 17 = .ok (.iushr, 1) by decide +kernel) rfl ?_
  refine lv_topi (fun z_14 _ => ?_)
  refine lv_i2b hx hb (show decode prog_1_method_3_code 18 = .ok (.i2b, 1) by decide +kernel) rfl ?_
  refine lv_topi (fun z_15 _ => ?_)
  refine va_bast hx hb hK hP hD hS 1 0 rfl rfl (by unfold vp_in; decide) (show decode prog_1_method_3_code 19 = .ok (.bastore, 1) by decide +kernel) (fun H locs hP hD hS => ?_)
  obtain ⟨g_16, hP, hD⟩ : ∃ g_16 : Nat → Int32, va_P D cl [(h0, .inr (0, (((fs.set 1 (.int 1)).set 1 (.int 2)).set 1 (.int 3)))), (q0, .inl (cA0, 80, .inl g_16))] H ∧ va_D _ [(h0, .inr (0, (((fs.set 1 (.int 1)).set 1 (.int 2)).set 1 (.int 3)))), (q0, .inl (cA0, 80, .inl g_16))] := ⟨_, hP, hD⟩
  refine lv_aload_n hx hb (show decode prog_1_method_3_code 20 = .ok (.aload_n 0, 1) by decide +kernel) rfl (lv_at hl 1 rfl) ?_
  refine lv_dup hx hb (show decode prog_1_method_3_code 21 = .ok (.dup, 1) by decide +kernel) rfl ?_
  refine va_get (D := D) (ci := 0) (v := .int 3) (C := R_SE) (T := F_SE) (N := 14) hx hb hts i_SE hown hK hP 0 rfl rfl 1 (by decide +kernel) (hts _ w_43) (fun _ h9 => h9) (xg_eq (by simp [hfl])) (show decode prog_1_method_3_code 22 = .ok (.getfield 13, 3) by decide +kernel) ?_
  refine lv_iconst (v := 1) hx hb (show decode prog_1_method_3_code 25 = .ok (.iconst 1, 1) by decide +kernel) (by decide +kernel) ?_
  refine lv_iadd hx hb (show decode prog_1_method_3_code 26 = .ok (.iadd, 1) by decide +kernel) ?_
  refine xtopi (v := 4) (by decide +kernel) ?_
  refine va_put (D := D) (ci := 0) (v := .int 4) (ty := .int) (C := R_SE) (T := F_SE) (N := 14) hx hb hts i_SE t_SE t_SE_ok n_SE hown hK hP hD hS 0 rfl rfl 1 (by decide +kernel) (hts _ w_43) (fun _ h9 => h9) rfl (by decide +kernel) rfl rfl (by simp [hfl]) (show decode prog_1_method_3_code 27 = .ok (.putfield 13, 3) by decide +kernel) (fun H locs hP hD hS => ?_)
  have hP : va_P D cl [(h0, .inr (0, ((((fs.set 1 (.int 1)).set 1 (.int 2)).set 1 (.int 3)).set 1 (.int 4)))), (q0, .inl (cA0, 80, .inl g_16))] H := hP
  have hD : va_D _ [(h0, .inr (0, ((((fs.set 1 (.int 1)).set 1 (.int 2)).set 1 (.int 3)).set 1 (.int 4)))), (q0, .inl (cA0, 80, .inl g_16))] := hD
  refine lv_iinc (v := (-8)) (lv' := [(2, .int (-8)), (0, .ref h0), (1, .int p0)]) hx hb (show decode prog_1_method_3_code 30 = .ok (.iinc 2 (-8), 3) by decide +kernel) hl (k := 0) rfl (by decide +kernel) (by decide +kernel) rfl (fun ls hl => ?_)
  refine lv_goto (tgt := 3) hx hb (show decode prog_1_method_3_code 33 = .ok (.goto (-30), 3) by decide +kernel) (by decide +kernel) ?_
  refine lv_iload_n hx hb (show decode prog_1_method_3_code 3 = .ok (.iload_n 2, 1) by decide +kernel) rfl (lv_at hl 0 rfl) ?_
  refine lv_if_lt (tgt := 36) hx hb (show decode prog_1_method_3_code 4 = .ok (.ifCond .lt 32, 3) by decide +kernel) (by decide +kernel) (fun c_17 => ?_) (fun c_17 => absurd c_17 (by decide +kernel))
  exact W.vret hx hb hr (fun t ht hW => ⟨⟨g_16, rfl, trivial, by rw [ht]; exact hP, va_K.moved hW.alike hK, hD⟩, hS.F ht⟩) hS.2.2 (show decode prog_1_method_3_code 36 = .ok (.return_, 1) by decide +kernel)
set_option maxHeartbeats 4000000 in
set_option maxRecDepth 100000 in
/-- SignalEngine.append -/
theorem c_SE_append1 (l : Launch) (D : va_G) (ad : Nat → Nat) (de sz : Nat) (h0 : Nat) (fs : List Value) (hfl : fs.length = 14) (hf1 : xfa fs 1 (.int 4)) (q0 : Nat) (cA0 : ClassId) (f0 : Nat → Int32) (ha0 : xfa fs 0 (.ref q0)) (p0 : Int32) : Met l ⟨"SignalEngine", "append", "(I)V"⟩ (tw ⟨"SignalEngine", "append", "(I)V"⟩ prog_1_method_3_code 3 none) { frames := 0, cells := 0, slots := 0, locals := 0 } (va_Pc [.ref h0, .int p0] (xp ad de D [(h0, .inr (0, fs)), (q0, .inl (cA0, 80, .inl f0))] [(cA0, .byte)] sz)) (va_Qv (fun (_ : (Nat → Int32)) => True) (fun (u : (Nat → Int32)) t => xq D (va_A [(h0, .inr (0, fs)), (q0, .inl (cA0, 80, .inl f0))] sz) [(h0, .inr (0, ((((fs.set 1 (.int 5)).set 1 (.int 6)).set 1 (.int 7)).set 1 (.int 8)))), (q0, .inl (cA0, 80, .inl u))] [(cA0, .byte)] t) (va_A [(h0, .inr (0, fs)), (q0, .inl (cA0, 80, .inl f0))] sz)) 0 0 (va_A [(h0, .inr (0, fs)), (q0, .inl (cA0, 80, .inl f0))] sz) := by
  refine xMet (by decide +kernel) (Nat.le_of_ble_eq_true rfl) ?_
  intro p e s m below meth c hx hb hr hlocks hin hml hown hts hsz hP hK hD hE hA ls hl
  have hS : va_S _ s.heap s.heap [] := va_S.rf (A := va_A [(h0, .inr (0, fs)), (q0, .inl (cA0, 80, .inl f0))] sz)
  have hl : lv_has ls 3 [(0, .ref h0), (1, .int p0)] := hl
  refine lv_bipush (v := 24) hx hb (show decode prog_1_method_3_code 0 = .ok (.bipush 24, 2) by decide +kernel) (by decide +kernel) ?_
  refine lv_istore_n (lv' := [(2, .int 24), (0, .ref h0), (1, .int p0)]) hx hb (show decode prog_1_method_3_code 2 = .ok (.istore_n 2, 1) by decide +kernel) rfl hl (by decide +kernel) rfl (fun ls hl => ?_)
  refine lv_iload_n hx hb (show decode prog_1_method_3_code 3 = .ok (.iload_n 2, 1) by decide +kernel) rfl (lv_at hl 0 rfl) ?_
  refine lv_if_lt (tgt := 36) hx hb (show decode prog_1_method_3_code 4 = .ok (.ifCond .lt 32, 3) by decide +kernel) (by decide +kernel) (fun c_1 => absurd c_1 (by decide +kernel)) (fun c_1 => ?_)
  refine lv_aload_n hx hb (show decode prog_1_method_3_code 7 = .ok (.aload_n 0, 1) by decide +kernel) rfl (lv_at hl 1 rfl) ?_
  refine va_get (D := D) (ci := 0) (v := .ref q0) (C := R_SE) (T := F_SE) (N := 14) hx hb hts i_SE hown hK hP 0 rfl rfl 0 (by decide +kernel) (hts _ w_42) (fun _ h9 => h9) ha0 (show decode prog_1_method_3_code 8 = .ok (.getfield 9, 3) by decide +kernel) ?_
  refine lv_aload_n hx hb (show decode prog_1_method_3_code 11 = .ok (.aload_n 0, 1) by decide +kernel) rfl (lv_at hl 1 rfl) ?_
  refine va_get (D := D) (ci := 0) (v := .int 4) (C := R_SE) (T := F_SE) (N := 14) hx hb hts i_SE hown hK hP 0 rfl rfl 1 (by decide +kernel) (hts _ w_43) (fun _ h9 => h9) hf1 (show decode prog_1_method_3_code 12 = .ok (.getfield 13, 3) by decide +kernel) ?_
  refine lv_iload_n hx hb (show decode prog_1_method_3_code 15 = .ok (.iload_n 1, 1) by decide +kernel) rfl (lv_at hl 2 rfl) ?_
  refine lv_iload_n hx hb (show decode prog_1_method_3_code 16 = .ok (.iload_n 2, 1) by decide +kernel) rfl (lv_at hl 0 rfl) ?_
  refine lv_iushr hx hb (show decode prog_1_method_3_code 17 = .ok (.iushr, 1) by decide +kernel) rfl ?_
  refine lv_topi (fun z_2 _ => ?_)
  refine lv_i2b hx hb (show decode prog_1_method_3_code 18 = .ok (.i2b, 1) by decide +kernel) rfl ?_
  refine lv_topi (fun z_3 _ => ?_)
  refine va_bast hx hb hK hP hD hS 1 0 rfl rfl (by unfold vp_in; decide) (show decode prog_1_method_3_code 19 = .ok (.bastore, 1) by decide +kernel) (fun H locs hP hD hS => ?_)
  obtain ⟨g_4, hP, hD⟩ : ∃ g_4 : Nat → Int32, va_P D cl [(h0, .inr (0, fs)), (q0, .inl (cA0, 80, .inl g_4))] H ∧ va_D _ [(h0, .inr (0, fs)), (q0, .inl (cA0, 80, .inl g_4))] := ⟨_, hP, hD⟩
  refine lv_aload_n hx hb (show decode prog_1_method_3_code 20 = .ok (.aload_n 0, 1) by decide +kernel) rfl (lv_at hl 1 rfl) ?_
  refine lv_dup hx hb (show decode prog_1_method_3_code 21 = .ok (.dup, 1) by decide +kernel) rfl ?_
  refine va_get (D := D) (ci := 0) (v := .int 4) (C := R_SE) (T := F_SE) (N := 14) hx hb hts i_SE hown hK hP 0 rfl rfl 1 (by decide +kernel) (hts _ w_43) (fun _ h9 => h9) hf1 (show decode prog_1_method_3_code 22 = .ok (.getfield 13, 3) by decide +kernel) ?_
  refine lv_iconst (v := 1) hx hb (show decode prog_1_method_3_code 25 = .ok (.iconst 1, 1) by decide +kernel) (by decide +kernel) ?_
  refine lv_iadd hx hb (show decode prog_1_method_3_code 26 = .ok (.iadd, 1) by decide +kernel) ?_
  refine xtopi (v := 5) (by decide +kernel) ?_
  refine va_put (D := D) (ci := 0) (v := .int 5) (ty := .int) (C := R_SE) (T := F_SE) (N := 14) hx hb hts i_SE t_SE t_SE_ok n_SE hown hK hP hD hS 0 rfl rfl 1 (by decide +kernel) (hts _ w_43) (fun _ h9 => h9) rfl (by decide +kernel) rfl rfl (by simp [hfl]) (show decode prog_1_method_3_code 27 = .ok (.putfield 13, 3) by decide +kernel) (fun H locs hP hD hS => ?_)
  have hP : va_P D cl [(h0, .inr (0, (fs.set 1 (.int 5)))), (q0, .inl (cA0, 80, .inl g_4))] H := hP
  have hD : va_D _ [(h0, .inr (0, (fs.set 1 (.int 5)))), (q0, .inl (cA0, 80, .inl g_4))] := hD
  refine lv_iinc (v := 16) (lv' := [(2, .int 16), (0, .ref h0), (1, .int p0)]) hx hb (show decode prog_1_method_3_code 30 = .ok (.iinc 2 (-8), 3) by decide +kernel) hl (k := 0) rfl (by decide +kernel) (by decide +kernel) rfl (fun ls hl => ?_)
  refine lv_goto (tgt := 3) hx hb (show decode prog_1_method_3_code 33 = .ok (.goto (-30), 3) by decide +kernel) (by decide +kernel) ?_
  refine lv_iload_n hx hb (show decode prog_1_method_3_code 3 = .ok (.iload_n 2, 1) by decide +kernel) rfl (lv_at hl 0 rfl) ?_
  refine lv_if_lt (tgt := 36) hx hb (show decode prog_1_method_3_code 4 = .ok (.ifCond .lt 32, 3) by decide +kernel) (by decide +kernel) (fun c_5 => absurd c_5 (by decide +kernel)) (fun c_5 => ?_)
  refine lv_aload_n hx hb (show decode prog_1_method_3_code 7 = .ok (.aload_n 0, 1) by decide +kernel) rfl (lv_at hl 1 rfl) ?_
  refine va_get (D := D) (ci := 0) (v := .ref q0) (C := R_SE) (T := F_SE) (N := 14) hx hb hts i_SE hown hK hP 0 rfl rfl 0 (by decide +kernel) (hts _ w_42) (fun _ h9 => h9) (xg_ne (by decide +kernel) ha0) (show decode prog_1_method_3_code 8 = .ok (.getfield 9, 3) by decide +kernel) ?_
  refine lv_aload_n hx hb (show decode prog_1_method_3_code 11 = .ok (.aload_n 0, 1) by decide +kernel) rfl (lv_at hl 1 rfl) ?_
  refine va_get (D := D) (ci := 0) (v := .int 5) (C := R_SE) (T := F_SE) (N := 14) hx hb hts i_SE hown hK hP 0 rfl rfl 1 (by decide +kernel) (hts _ w_43) (fun _ h9 => h9) (xg_eq (by simp [hfl])) (show decode prog_1_method_3_code 12 = .ok (.getfield 13, 3) by decide +kernel) ?_
  refine lv_iload_n hx hb (show decode prog_1_method_3_code 15 = .ok (.iload_n 1, 1) by decide +kernel) rfl (lv_at hl 2 rfl) ?_
  refine lv_iload_n hx hb (show decode prog_1_method_3_code 16 = .ok (.iload_n 2, 1) by decide +kernel) rfl (lv_at hl 0 rfl) ?_
  refine lv_iushr hx hb (show decode prog_1_method_3_code 17 = .ok (.iushr, 1) by decide +kernel) rfl ?_
  refine lv_topi (fun z_6 _ => ?_)
  refine lv_i2b hx hb (show decode prog_1_method_3_code 18 = .ok (.i2b, 1) by decide +kernel) rfl ?_
  refine lv_topi (fun z_7 _ => ?_)
  refine va_bast hx hb hK hP hD hS 1 0 rfl rfl (by unfold vp_in; decide) (show decode prog_1_method_3_code 19 = .ok (.bastore, 1) by decide +kernel) (fun H locs hP hD hS => ?_)
  obtain ⟨g_8, hP, hD⟩ : ∃ g_8 : Nat → Int32, va_P D cl [(h0, .inr (0, (fs.set 1 (.int 5)))), (q0, .inl (cA0, 80, .inl g_8))] H ∧ va_D _ [(h0, .inr (0, (fs.set 1 (.int 5)))), (q0, .inl (cA0, 80, .inl g_8))] := ⟨_, hP, hD⟩
  refine lv_aload_n hx hb (show decode prog_1_method_3_code 20 = .ok (.aload_n 0, 1) by decide +kernel) rfl (lv_at hl 1 rfl) ?_
  refine lv_dup hx hb (show decode prog_1_method_3_code 21 = .ok (.dup, 1) by decide +kernel) rfl ?_
  refine va_get (D := D) (ci := 0) (v := .int 5) (C := R_SE) (T := F_SE) (N := 14) hx hb hts i_SE hown hK hP 0 rfl rfl 1 (by decide +kernel) (hts _ w_43) (fun _ h9 => h9) (xg_eq (by simp [hfl])) (show decode prog_1_method_3_code 22 = .ok (.getfield 13, 3) by decide +kernel) ?_
  refine lv_iconst (v := 1) hx hb (show decode prog_1_method_3_code 25 = .ok (.iconst 1, 1) by decide +kernel) (by decide +kernel) ?_
  refine lv_iadd hx hb (show decode prog_1_method_3_code 26 = .ok (.iadd, 1) by decide +kernel) ?_
  refine xtopi (v := 6) (by decide +kernel) ?_
  refine va_put (D := D) (ci := 0) (v := .int 6) (ty := .int) (C := R_SE) (T := F_SE) (N := 14) hx hb hts i_SE t_SE t_SE_ok n_SE hown hK hP hD hS 0 rfl rfl 1 (by decide +kernel) (hts _ w_43) (fun _ h9 => h9) rfl (by decide +kernel) rfl rfl (by simp [hfl]) (show decode prog_1_method_3_code 27 = .ok (.putfield 13, 3) by decide +kernel) (fun H locs hP hD hS => ?_)
  have hP : va_P D cl [(h0, .inr (0, ((fs.set 1 (.int 5)).set 1 (.int 6)))), (q0, .inl (cA0, 80, .inl g_8))] H := hP
  have hD : va_D _ [(h0, .inr (0, ((fs.set 1 (.int 5)).set 1 (.int 6)))), (q0, .inl (cA0, 80, .inl g_8))] := hD
  refine lv_iinc (v := 8) (lv' := [(2, .int 8), (0, .ref h0), (1, .int p0)]) hx hb (show decode prog_1_method_3_code 30 = .ok (.iinc 2 (-8), 3) by decide +kernel) hl (k := 0) rfl (by decide +kernel) (by decide +kernel) rfl (fun ls hl => ?_)
  refine lv_goto (tgt := 3) hx hb (show decode prog_1_method_3_code 33 = .ok (.goto (-30), 3) by decide +kernel) (by decide +kernel) ?_
  refine lv_iload_n hx hb (show decode prog_1_method_3_code 3 = .ok (.iload_n 2, 1) by decide +kernel) rfl (lv_at hl 0 rfl) ?_
  refine lv_if_lt (tgt := 36) hx hb (show decode prog_1_method_3_code 4 = .ok (.ifCond .lt 32, 3) by decide +kernel) (by decide +kernel) (fun c_9 => absurd c_9 (by decide +kernel)) (fun c_9 => ?_)
  refine lv_aload_n hx hb (show decode prog_1_method_3_code 7 = .ok (.aload_n 0, 1) by decide +kernel) rfl (lv_at hl 1 rfl) ?_
  refine va_get (D := D) (ci := 0) (v := .ref q0) (C := R_SE) (T := F_SE) (N := 14) hx hb hts i_SE hown hK hP 0 rfl rfl 0 (by decide +kernel) (hts _ w_42) (fun _ h9 => h9) (xg_ne (by decide +kernel) (xg_ne (by decide +kernel) ha0)) (show decode prog_1_method_3_code 8 = .ok (.getfield 9, 3) by decide +kernel) ?_
  refine lv_aload_n hx hb (show decode prog_1_method_3_code 11 = .ok (.aload_n 0, 1) by decide +kernel) rfl (lv_at hl 1 rfl) ?_
  refine va_get (D := D) (ci := 0) (v := .int 6) (C := R_SE) (T := F_SE) (N := 14) hx hb hts i_SE hown hK hP 0 rfl rfl 1 (by decide +kernel) (hts _ w_43) (fun _ h9 => h9) (xg_eq (by simp [hfl])) (show decode prog_1_method_3_code 12 = .ok (.getfield 13, 3) by decide +kernel) ?_
  refine lv_iload_n hx hb (show decode prog_1_method_3_code 15 = .ok (.iload_n 1, 1) by decide +kernel) rfl (lv_at hl 2 rfl) ?_
  refine lv_iload_n hx hb (show decode prog_1_method_3_code 16 = .ok (.iload_n 2, 1) by decide +kernel) rfl (lv_at hl 0 rfl) ?_
  refine lv_iushr hx hb (show decode prog_1_method_3_code 17 = .ok (.iushr, 1) by decide +kernel) rfl ?_
  refine lv_topi (fun z_10 _ => ?_)
  refine lv_i2b hx hb (show decode prog_1_method_3_code 18 = .ok (.i2b, 1) by decide +kernel) rfl ?_
  refine lv_topi (fun z_11 _ => ?_)
  refine va_bast hx hb hK hP hD hS 1 0 rfl rfl (by unfold vp_in; decide) (show decode prog_1_method_3_code 19 = .ok (.bastore, 1) by decide +kernel) (fun H locs hP hD hS => ?_)
  obtain ⟨g_12, hP, hD⟩ : ∃ g_12 : Nat → Int32, va_P D cl [(h0, .inr (0, ((fs.set 1 (.int 5)).set 1 (.int 6)))), (q0, .inl (cA0, 80, .inl g_12))] H ∧ va_D _ [(h0, .inr (0, ((fs.set 1 (.int 5)).set 1 (.int 6)))), (q0, .inl (cA0, 80, .inl g_12))] := ⟨_, hP, hD⟩
  refine lv_aload_n hx hb (show decode prog_1_method_3_code 20 = .ok (.aload_n 0, 1) by decide +kernel) rfl (lv_at hl 1 rfl) ?_
  refine lv_dup hx hb (show decode prog_1_method_3_code 21 = .ok (.dup, 1) by decide +kernel) rfl ?_
  refine va_get (D := D) (ci := 0) (v := .int 6) (C := R_SE) (T := F_SE) (N := 14) hx hb hts i_SE hown hK hP 0 rfl rfl 1 (by decide +kernel) (hts _ w_43) (fun _ h9 => h9) (xg_eq (by simp [hfl])) (show decode prog_1_method_3_code 22 = .ok (.getfield 13, 3) by decide +kernel) ?_
  refine lv_iconst (v := 1) hx hb (show decode prog_1_method_3_code 25 = .ok (.iconst 1, 1) by decide +kernel) (by decide +kernel) ?_
  refine lv_iadd hx hb (show decode prog_1_method_3_code 26 = .ok (.iadd, 1) by decide +kernel) ?_
  refine xtopi (v := 7) (by decide +kernel) ?_
  refine va_put (D := D) (ci := 0) (v := .int 7) (ty := .int) (C := R_SE) (T := F_SE) (N := 14) hx hb hts i_SE t_SE t_SE_ok n_SE hown hK hP hD hS 0 rfl rfl 1 (by decide +kernel) (hts _ w_43) (fun _ h9 => h9) rfl (by decide +kernel) rfl rfl (by simp [hfl]) (show decode prog_1_method_3_code 27 = .ok (.putfield 13, 3) by decide +kernel) (fun H locs hP hD hS => ?_)
  have hP : va_P D cl [(h0, .inr (0, (((fs.set 1 (.int 5)).set 1 (.int 6)).set 1 (.int 7)))), (q0, .inl (cA0, 80, .inl g_12))] H := hP
  have hD : va_D _ [(h0, .inr (0, (((fs.set 1 (.int 5)).set 1 (.int 6)).set 1 (.int 7)))), (q0, .inl (cA0, 80, .inl g_12))] := hD
  refine lv_iinc (v := 0) (lv' := [(2, .int 0), (0, .ref h0), (1, .int p0)]) hx hb (show decode prog_1_method_3_code 30 = .ok (.iinc 2 (-8), 3) by decide +kernel) hl (k := 0) rfl (by decide +kernel) (by decide +kernel) rfl (fun ls hl => ?_)
  refine lv_goto (tgt := 3) hx hb (show decode prog_1_method_3_code 33 = .ok (.goto (-30), 3) by decide +kernel) (by decide +kernel) ?_
  refine lv_iload_n hx hb (show decode prog_1_method_3_code 3 = .ok (.iload_n 2, 1) by decide +kernel) rfl (lv_at hl 0 rfl) ?_
  refine lv_if_lt (tgt := 36) hx hb (show decode prog_1_method_3_code 4 = .ok (.ifCond .lt 32, 3) by decide +kernel) (by decide +kernel) (fun c_13 => absurd c_13 (by decide +kernel)) (fun c_13 => ?_)
  refine lv_aload_n hx hb (show decode prog_1_method_3_code 7 = .ok (.aload_n 0, 1) by decide +kernel) rfl (lv_at hl 1 rfl) ?_
  refine va_get (D := D) (ci := 0) (v := .ref q0) (C := R_SE) (T := F_SE) (N := 14) hx hb hts i_SE hown hK hP 0 rfl rfl 0 (by decide +kernel) (hts _ w_42) (fun _ h9 => h9) (xg_ne (by decide +kernel) (xg_ne (by decide +kernel) (xg_ne (by decide +kernel) ha0))) (show decode prog_1_method_3_code 8 = .ok (.getfield 9, 3) by decide +kernel) ?_
  refine lv_aload_n hx hb (show decode prog_1_method_3_code 11 = .ok (.aload_n 0, 1) by decide +kernel) rfl (lv_at hl 1 rfl) ?_
  refine va_get (D := D) (ci := 0) (v := .int 7) (C := R_SE) (T := F_SE) (N := 14) hx hb hts i_SE hown hK hP 0 rfl rfl 1 (by decide +kernel) (hts _ w_43) (fun _ h9 => h9) (xg_eq (by simp [hfl])) (show decode prog_1_method_3_code 12 = .ok (.getfield 13, 3) by decide +kernel) ?_
  refine lv_iload_n hx hb (show decode prog_1_method_3_code 15 = .ok (.iload_n 1, 1) by decide +kernel) rfl (lv_at hl 2 rfl) ?_
  refine lv_iload_n hx hb (show decode prog_1_method_3_code 16 = .ok (.iload_n 2, 1) by decide +kernel) rfl (lv_at hl 0 rfl) ?_
  refine lv_iushr hx hb (show decode prog_1_method_3_code 17 = .ok (.iushr, 1) by decide +kernel) rfl ?_
  refine lv_topi (fun z_14 _ => ?_)
  refine lv_i2b hx hb (show decode prog_1_method_3_code 18 = .ok (.i2b, 1) by decide +kernel) rfl ?_
  refine lv_topi (fun z_15 _ => ?_)
  refine va_bast hx hb hK hP hD hS 1 0 rfl rfl (by unfold vp_in; decide) (show decode prog_1_method_3_code 19 = .ok (.bastore, 1) by decide +kernel) (fun H locs hP hD hS => ?_)
  obtain ⟨g_16, hP, hD⟩ : ∃ g_16 : Nat → Int32, va_P D cl [(h0, .inr (0, (((fs.set 1 (.int 5)).set 1 (.int 6)).set 1 (.int 7)))), (q0, .inl (cA0, 80, .inl g_16))] H ∧ va_D _ [(h0, .inr (0, (((fs.set 1 (.int 5)).set 1 (.int 6)).set 1 (.int 7)))), (q0, .inl (cA0, 80, .inl g_16))] := ⟨_, hP, hD⟩
  refine lv_aload_n hx hb (show decode prog_1_method_3_code 20 = .ok (.aload_n 0, 1) by decide +kernel) rfl (lv_at hl 1 rfl) ?_
  refine lv_dup hx hb (show decode prog_1_method_3_code 21 = .ok (.dup, 1) by decide +kernel) rfl ?_
  refine va_get (D := D) (ci := 0) (v := .int 7) (C := R_SE) (T := F_SE) (N := 14) hx hb hts i_SE hown hK hP 0 rfl rfl 1 (by decide +kernel) (hts _ w_43) (fun _ h9 => h9) (xg_eq (by simp [hfl])) (show decode prog_1_method_3_code 22 = .ok (.getfield 13, 3) by decide +kernel) ?_
  refine lv_iconst (v := 1) hx hb (show decode prog_1_method_3_code 25 = .ok (.iconst 1, 1) by decide +kernel) (by decide +kernel) ?_
  refine lv_iadd hx hb (show decode prog_1_method_3_code 26 = .ok (.iadd, 1) by decide +kernel) ?_
  refine xtopi (v := 8) (by decide +kernel) ?_
  refine va_put (D := D) (ci := 0) (v := .int 8) (ty := .int) (C := R_SE) (T := F_SE) (N := 14) hx hb hts i_SE t_SE t_SE_ok n_SE hown hK hP hD hS 0 rfl rfl 1 (by decide +kernel) (hts _ w_43) (fun _ h9 => h9) rfl (by decide +kernel) rfl rfl (by simp [hfl]) (show decode prog_1_method_3_code 27 = .ok (.putfield 13, 3) by decide +kernel) (fun H locs hP hD hS => ?_)
  have hP : va_P D cl [(h0, .inr (0, ((((fs.set 1 (.int 5)).set 1 (.int 6)).set 1 (.int 7)).set 1 (.int 8)))), (q0, .inl (cA0, 80, .inl g_16))] H := hP
  have hD : va_D _ [(h0, .inr (0, ((((fs.set 1 (.int 5)).set 1 (.int 6)).set 1 (.int 7)).set 1 (.int 8)))), (q0, .inl (cA0, 80, .inl g_16))] := hD
  refine lv_iinc (v := (-8)) (lv' := [(2, .int (-8)), (0, .ref h0), (1, .int p0)]) hx hb (show decode prog_1_method_3_code 30 = .ok (.iinc 2 (-8), 3) by decide +kernel) hl (k := 0) rfl (by decide +kernel) (by decide +kernel) rfl (fun ls hl => ?_)
  refine lv_goto (tgt := 3) hx hb (show decode prog_1_method_3_code 33 = .ok (.goto (-30), 3) by decide +kernel) (by decide +kernel) ?_
  refine lv_iload_n hx hb (show decode prog_1_method_3_code 3 = .ok (.iload_n 2, 1) by decide +kernel) rfl (lv_at hl 0 rfl) ?_
  refine lv_if_lt (tgt := 36) hx hb (show decode prog_1_method_3_code 4 = .ok (.ifCond .lt 32, 3) by decide +kernel) (by decide +kernel) (fun c_17 => ?_) (fun c_17 => absurd c_17 (by decide +kernel))
  exact W.vret hx hb hr (fun t ht hW => ⟨⟨g_16, rfl, trivial, by rw [ht]; exact hP, va_K.moved hW.alike hK, hD⟩, hS.F ht⟩) hS.2.2 (show decode prog_1_method_3_code 36 = .ok (.return_, 1) by decide +kernel)
set_option maxHeartbeats 4000000 in
set_option maxRecDepth 100000 in
/-- SignalEngine.append -/
theorem c_SE_append2 (l : Launch) (D : va_G) (ad : Nat → Nat) (de sz : Nat) (h0 : Nat) (fs : List Value) (hfl : fs.length = 14) (hf1 : xfa fs 1 (.int 8)) (q0 : Nat) (cA0 : ClassId) (f0 : Nat → Int32) (ha0 : xfa fs 0 (.ref q0)) (p0 : Int32) : Met l ⟨"SignalEngine", "append", "(I)V"⟩ (tw ⟨"SignalEngine", "append", "(I)V"⟩ prog_1_method_3_code 3 none) { frames := 0, cells := 0, slots := 0, locals := 0 } (va_Pc [.ref h0, .int p0] (xp ad de D [(h0, .inr (0, fs)), (q0, .inl (cA0, 80, .inl f0))] [(cA0, .byte)] sz)) (va_Qv (fun (_ : (Nat → Int32)) => True) (fun (u : (Nat → Int32)) t => xq D (va_A [(h0, .inr (0, fs)), (q0, .inl (cA0, 80, .inl f0))] sz) [(h0, .inr (0, ((((fs.set 1 (.int 9)).set 1 (.int 10)).set 1 (.int 11)).set 1 (.int 12)))), (q0, .inl (cA0, 80, .inl u))] [(cA0, .byte)] t) (va_A [(h0, .inr (0, fs)), (q0, .inl (cA0, 80, .inl f0))] sz)) 0 0 (va_A [(h0, .inr (0, fs)), (q0, .inl (cA0, 80, .inl f0))] sz) := by
  refine xMet (by decide +kernel) (Nat.le_of_ble_eq_true rfl) ?_
  intro p e s m below meth c hx hb hr hlocks hin hml hown hts hsz hP hK hD hE hA ls hl
  have hS : va_S _ s.heap s.heap [] := va_S.rf (A := va_A [(h0, .inr (0, fs)), (q0, .inl (cA0, 80, .inl f0))] sz)
  have hl : lv_has ls 3 [(0, .ref h0), (1, .int p0)] := hl
  refine lv_bipush (v := 24) hx hb (show decode prog_1_method_3_code 0 = .ok (.bipush 24, 2) by decide +kernel) (by decide +kernel) ?_
  refine lv_istore_n (lv' := [(2, .int 24), (0, .ref h0), (1, .int p0)]) hx hb (show decode prog_1_method_3_code 2 = .ok (.istore_n 2, 1) by decide +kernel) rfl hl (by decide +kernel) rfl (fun ls hl => ?_)
  refine lv_iload_n hx hb (show decode prog_1_method_3_code 3 = .ok (.iload_n 2, 1) by decide +kernel) rfl (lv_at hl 0 rfl) ?_
  refine lv_if_lt (tgt := 36) hx hb (show decode prog_1_method_3_code 4 = .ok (.ifCond .lt 32, 3) by decide +kernel) (by decide +kernel) (fun c_1 => absurd c_1 (by decide +kernel)) (fun c_1 => ?_)
  refine lv_aload_n hx hb (show decode prog_1_method_3_code 7 = .ok (.aload_n 0, 1) by decide +kernel) rfl (lv_at hl 1 rfl) ?_
  refine va_get (D := D) (ci := 0) (v := .ref q0) (C := R_SE) (T := F_SE) (N := 14) hx hb hts i_SE hown hK hP 0 rfl rfl 0 (by decide +kernel) (hts _ w_42) (fun _ h9 => h9) ha0 (show decode prog_1_method_3_code 8 = .ok (.getfield 9, 3) by decide +kernel) ?_
  refine lv_aload_n hx hb (show decode prog_1_method_3_code 11 = .ok (.aload_n 0, 1) by decide +kernel) rfl (lv_at hl 1 rfl) ?_
  refine va_get (D := D) (ci := 0) (v := .int 8) (C := R_SE) (T := F_SE) (N := 14) hx hb hts i_SE hown hK hP 0 rfl rfl 1 (by decide +kernel) (hts _ w_43) (fun _ h9 => h9) hf1 (show decode prog_1_method_3_code 12 = .ok (.getfield 13, 3) by decide +kernel) ?_
  refine lv_iload_n hx hb (show decode prog_1_method_3_code 15 = .ok (.iload_n 1, 1) by decide +kernel) rfl (lv_at hl 2 rfl) ?_
  refine lv_iload_n hx hb (show decode prog_1_method_3_code 16 = .ok (.iload_n 2, 1) by decide +kernel) rfl (lv_at hl 0 rfl) ?_
  refine lv_iushr hx hb (show decode prog_1_method_3_code 17 = .ok (.iushr, 1) by decide +kernel) rfl ?_
  refine lv_topi (fun z_2 _ => ?_)
  refine lv_i2b hx hb (show decode prog_1_method_3_code 18 = .ok (.i2b, 1) by decide +kernel) rfl ?_
  refine lv_topi (fun z_3 _ => ?_)
  refine va_bast hx hb hK hP hD hS 1 0 rfl rfl (by unfold vp_in; decide) (show decode prog_1_method_3_code 19 = .ok (.bastore, 1) by decide +kernel) (fun H locs hP hD hS => ?_)
  obtain ⟨g_4, hP, hD⟩ : ∃ g_4 : Nat → Int32, va_P D cl [(h0, .inr (0, fs)), (q0, .inl (cA0, 80, .inl g_4))] H ∧ va_D _ [(h0, .inr (0, fs)), (q0, .inl (cA0, 80, .inl g_4))] := ⟨_, hP, hD⟩
  refine lv_aload_n hx hb (show decode prog_1_method_3_code 20 = .ok (.aload_n 0, 1) by decide +kernel) rfl (lv_at hl 1 rfl) ?_
  refine lv_dup hx hb (show decode prog_1_method_3_code 21 = .ok (.dup, 1) by decide +kernel) rfl ?_
  refine va_get (D := D) (ci := 0) (v := .int 8) (C := R_SE) (T := F_SE) (N := 14) hx hb hts i_SE hown hK hP 0 rfl rfl 1 (by decide +kernel) (hts _ w_43) (fun _ h9 => h9) hf1 (show decode prog_1_method_3_code 22 = .ok (.getfield 13, 3) by decide +kernel) ?_
  refine lv_iconst (v := 1) hx hb (show decode prog_1_method_3_code 25 = .ok (.iconst 1, 1) by decide +kernel) (by decide +kernel) ?_
  refine lv_iadd hx hb (show decode prog_1_method_3_code 26 = .ok (.iadd, 1) by decide +kernel) ?_
  refine xtopi (v := 9) (by decide +kernel) ?_
  refine va_put (D := D) (ci := 0) (v := .int 9) (ty := .int) (C := R_SE) (T := F_SE) (N := 14) hx hb hts i_SE t_SE t_SE_ok n_SE hown hK hP hD hS 0 rfl rfl 1 (by decide +kernel) (hts _ w_43) (fun _ h9 => h9) rfl (by decide +kernel) rfl rfl (by simp [hfl]) (show decode prog_1_method_3_code 27 = .ok (.putfield 13, 3) by decide +kernel) (fun H locs hP hD hS => ?_)
  have hP : va_P D cl [(h0, .inr (0, (fs.set 1 (.int 9)))), (q0, .inl (cA0, 80, .inl g_4))] H := hP
  have hD : va_D _ [(h0, .inr (0, (fs.set 1 (.int 9)))), (q0, .inl (cA0, 80, .inl g_4))] := hD
  refine lv_iinc (v := 16) (lv' := [(2, .int 16), (0, .ref h0), (1, .int p0)]) hx hb (show decode prog_1_method_3_code 30 = .ok (.iinc 2 (-8), 3) by decide +kernel) hl (k := 0) rfl (by decide +kernel) (by decide +kernel) rfl (fun ls hl => ?_)
  refine lv_goto (tgt := 3) hx hb (show decode prog_1_method_3_code 33 = .ok (.goto (-30), 3) by decide +kernel) (by decide +kernel) ?_
  refine lv_iload_n hx hb (show decode prog_1_method_3_code 3 = .ok (.iload_n 2, 1) by decide +kernel) rfl (lv_at hl 0 rfl) ?_
  refine lv_if_lt (tgt := 36) hx hb (show decode prog_1_method_3_code 4 = .ok (.ifCond .lt 32, 3) by decide +kernel) (by decide +kernel) (fun c_5 => absurd c_5 (by decide +kernel)) (fun c_5 => ?_)
  refine lv_aload_n hx hb (show decode prog_1_method_3_code 7 = .ok (.aload_n 0, 1) by decide +kernel) rfl (lv_at hl 1 rfl) ?_
  refine va_get (D := D) (ci := 0) (v := .ref q0) (C := R_SE) (T := F_SE) (N := 14) hx hb hts i_SE hown hK hP 0 rfl rfl 0 (by decide +kernel) (hts _ w_42) (fun _ h9 => h9) (xg_ne (by decide +kernel) ha0) (show decode prog_1_method_3_code 8 = .ok (.getfield 9, 3) by decide +kernel) ?_
  refine lv_aload_n hx hb (show decode prog_1_method_3_code 11 = .ok (.aload_n 0, 1) by decide +kernel) rfl (lv_at hl 1 rfl) ?_
  refine va_get (D := D) (ci := 0) (v := .int 9) (C := R_SE) (T := F_SE) (N := 14) hx hb hts i_SE hown hK hP 0 rfl rfl 1 (by decide +kernel) (hts _ w_43) (fun _ h9 => h9) (xg_eq (by simp [hfl])) (show decode prog_1_method_3_code 12 = .ok (.getfield 13, 3) by decide +kernel) ?_
  refine lv_iload_n hx hb (show decode prog_1_method_3_code 15 = .ok (.iload_n 1, 1) by decide +kernel) rfl (lv_at hl 2 rfl) ?_
  refine lv_iload_n hx hb (show decode prog_1_method_3_code 16 = .ok (.iload_n 2, 1) by decide +kernel) rfl (lv_at hl 0 rfl) ?_
  refine lv_iushr hx hb (show decode prog_1_method_3_code 17 = .ok (.iushr, 1) by decide +kernel) rfl ?_
  refine lv_topi (fun z_6 _ => ?_)
  refine lv_i2b hx hb (show decode prog_1_method_3_code 18 = .ok (.i2b, 1) by decide +kernel) rfl ?_
  refine lv_topi (fun z_7 _ => ?_)
  refine va_bast hx hb hK hP hD hS 1 0 rfl rfl (by unfold vp_in; decide) (show decode prog_1_method_3_code 19 = .ok (.bastore, 1) by decide +kernel) (fun H locs hP hD hS => ?_)
  obtain ⟨g_8, hP, hD⟩ : ∃ g_8 : Nat → Int32, va_P D cl [(h0, .inr (0, (fs.set 1 (.int 9)))), (q0, .inl (cA0, 80, .inl g_8))] H ∧ va_D _ [(h0, .inr (0, (fs.set 1 (.int 9)))), (q0, .inl (cA0, 80, .inl g_8))] := ⟨_, hP, hD⟩
  refine lv_aload_n hx hb (show decode prog_1_method_3_code 20 = .ok (.aload_n 0, 1) by decide +kernel) rfl (lv_at hl 1 rfl) ?_
  refine lv_dup hx hb (show decode prog_1_method_3_code 21 = .ok (.dup, 1) by decide +kernel) rfl ?_
  refine va_get (D := D) (ci := 0) (v := .int 9) (C := R_SE) (T := F_SE) (N := 14) hx hb hts i_SE hown hK hP 0 rfl rfl 1 (by decide +kernel) (hts _ w_43) (fun _ h9 => h9) (xg_eq (by simp [hfl])) (show decode prog_1_method_3_code 22 = .ok (.getfield 13, 3) by decide +kernel) ?_
  refine lv_iconst (v := 1) hx hb (show decode prog_1_method_3_code 25 = .ok (.iconst 1, 1) by decide +kernel) (by decide +kernel) ?_
  refine lv_iadd hx hb (show decode prog_1_method_3_code 26 = .ok (.iadd, 1) by decide +kernel) ?_
  refine xtopi (v := 10) (by decide +kernel) ?_
  refine va_put (D := D) (ci := 0) (v := .int 10) (ty := .int) (C := R_SE) (T := F_SE) (N := 14) hx hb hts i_SE t_SE t_SE_ok n_SE hown hK hP hD hS 0 rfl rfl 1 (by decide +kernel) (hts _ w_43) (fun _ h9 => h9) rfl (by decide +kernel) rfl rfl (by simp [hfl]) (show decode prog_1_method_3_code 27 = .ok (.putfield 13, 3) by decide +kernel) (fun H locs hP hD hS => ?_)
  have hP : va_P D cl [(h0, .inr (0, ((fs.set 1 (.int 9)).set 1 (.int 10)))), (q0, .inl (cA0, 80, .inl g_8))] H := hP
  have hD : va_D _ [(h0, .inr (0, ((fs.set 1 (.int 9)).set 1 (.int 10)))), (q0, .inl (cA0, 80, .inl g_8))] := hD
  refine lv_iinc (v := 8) (lv' := [(2, .int 8), (0, .ref h0), (1, .int p0)]) hx hb (show decode prog_1_method_3_code 30 = .ok (.iinc 2 (-8), 3) by decide +kernel) hl (k := 0) rfl (by decide +kernel) (by decide +kernel) rfl (fun ls hl => ?_)
  refine lv_goto (tgt := 3) hx hb (show decode prog_1_method_3_code 33 = .ok (.goto (-30), 3) by decide +kernel) (by decide +kernel) ?_
  refine lv_iload_n hx hb (show decode prog_1_method_3_code 3 = .ok (.iload_n 2, 1) by decide +kernel) rfl (lv_at hl 0 rfl) ?_
  refine lv_if_lt (tgt := 36) hx hb (show decode prog_1_method_3_code 4 = .ok (.ifCond .lt 32, 3) by decide +kernel) (by decide +kernel) (fun c_9 => absurd c_9 (by decide +kernel)) (fun c_9 => ?_)
  refine lv_aload_n hx hb (show decode prog_1_method_3_code 7 = .ok (.aload_n 0, 1) by decide +kernel) rfl (lv_at hl 1 rfl) ?_
  refine va_get (D := D) (ci := 0) (v := .ref q0) (C := R_SE) (T := F_SE) (N := 14) hx hb hts i_SE hown hK hP 0 rfl rfl 0 (by decide +kernel) (hts _ w_42) (fun _ h9 => h9) (xg_ne (by decide +kernel) (xg_ne (by decide +kernel) ha0)) (show decode prog_1_method_3_code 8 = .ok (.getfield 9, 3) by decide +kernel) ?_
  refine lv_aload_n hx hb (show decode prog_1_method_3_code 11 = .ok (.aload_n 0, 1) by decide +kernel) rfl (lv_at hl 1 rfl) ?_
  refine va_get (D := D) (ci := 0) (v := .int 10) (C := R_SE) (T := F_SE) (N := 14) hx hb hts i_SE hown hK hP 0 rfl rfl 1 (by decide +kernel) (hts _ w_43) (fun _ h9 => h9) (xg_eq (by simp [hfl])) (show decode prog_1_method_3_code 12 = .ok (.getfield 13, 3) by decide +kernel) ?_
  refine lv_iload_n hx hb (show decode prog_1_method_3_code 15 = .ok (.iload_n 1, 1) by decide +kernel) rfl (lv_at hl 2 rfl) ?_
  refine lv_iload_n hx hb (show decode prog_1_method_3_code 16 = .ok (.iload_n 2, 1) by decide +kernel) rfl (lv_at hl 0 rfl) ?_
  refine lv_iushr hx hb (show decode prog_1_method_3_code 17 = .ok (.iushr, 1) by decide +kernel) rfl ?_
  refine lv_topi (fun z_10 _ => ?_)
  refine lv_i2b hx hb (show decode prog_1_method_3_code 18 = .ok (.i2b, 1) by decide +kernel) rfl ?_
  refine lv_topi (fun z_11 _ => ?_)
  refine va_bast hx hb hK hP hD hS 1 0 rfl rfl (by unfold vp_in; decide) (show decode prog_1_method_3_code 19 = .ok (.bastore, 1) by decide +kernel) (fun H locs hP hD hS => ?_)
  obtain ⟨g_12, hP, hD⟩ : ∃ g_12 : Nat → Int32, va_P D cl [(h0, .inr (0, ((fs.set 1 (.int 9)).set 1 (.int 10)))), (q0, .inl (cA0, 80, .inl g_12))] H ∧ va_D _ [(h0, .inr (0, ((fs.set 1 (.int 9)).set 1 (.int 10)))), (q0, .inl (cA0, 80, .inl g_12))] := ⟨_, hP, hD⟩
  refine lv_aload_n hx hb (show decode prog_1_method_3_code 20 = .ok (.aload_n 0, 1) by decide +kernel) rfl (lv_at hl 1 rfl) ?_
  refine lv_dup hx hb (show decode prog_1_method_3_code 21 = .ok (.dup, 1) by decide +kernel) rfl ?_
  refine va_get (D := D) (ci := 0) (v := .int 10) (C := R_SE) (T := F_SE) (N := 14) hx hb hts i_SE hown hK hP 0 rfl rfl 1 (by decide +kernel) (hts _ w_43) (fun _ h9 => h9) (xg_eq (by simp [hfl])) (show decode prog_1_method_3_code 22 = .ok (.getfield 13, 3) by decide +kernel) ?_
  refine lv_iconst (v := 1) hx hb (show decode prog_1_method_3_code 25 = .ok (.iconst 1, 1) by decide +kernel) (by decide +kernel) ?_
  refine lv_iadd hx hb (show decode prog_1_method_3_code 26 = .ok (.iadd, 1) by decide +kernel) ?_
  refine xtopi (v := 11) (by decide +kernel) ?_
  refine va_put (D := D) (ci := 0) (v := .int 11) (ty := .int) (C := R_SE) (T := F_SE) (N := 14) hx hb hts i_SE t_SE t_SE_ok n_SE hown hK hP hD hS 0 rfl rfl 1 (by decide +kernel) (hts _ w_43) (fun _ h9 => h9) rfl (by decide +kernel) rfl rfl (by simp [hfl]) (show decode prog_1_method_3_code 27 = .ok (.putfield 13, 3) by decide +kernel) (fun H locs hP hD hS => ?_)
  have hP : va_P D cl [(h0, .inr (0, (((fs.set 1 (.int 9)).set 1 (.int 10)).set 1 (.int 11)))), (q0, .inl (cA0, 80, .inl g_12))] H := hP
  have hD : va_D _ [(h0, .inr (0, (((fs.set 1 (.int 9)).set 1 (.int 10)).set 1 (.int 11)))), (q0, .inl (cA0, 80, .inl g_12))] := hD
  refine lv_iinc (v := 0) (lv' := [(2, .int 0), (0, .ref h0), (1, .int p0)]) hx hb (show decode prog_1_method_3_code 30 = .ok (.iinc 2 (-8), 3) by decide +kernel) hl (k := 0) rfl (by decide +kernel) (by decide +kernel) rfl (fun ls hl => ?_)
  refine lv_goto (tgt := 3) hx hb (show decode prog_1_method_3_code 33 = .ok (.goto (-30), 3) by decide +kernel) (by decide +kernel) ?_
  refine lv_iload_n hx hb (show decode prog_1_method_3_code 3 = .ok (.iload_n 2, 1) by decide +kernel) rfl (lv_at hl 0 rfl) ?_
  refine lv_if_lt (tgt := 36) hx hb (show decode prog_1_method_3_code 4 = .ok (.ifCond .lt 32, 3) by decide +kernel) (by decide +kernel) (fun c_13 => absurd c_13 (by decide +kernel)) (fun c_13 => ?_)
  refine lv_aload_n hx hb (show decode prog_1_method_3_code 7 = .ok (.aload_n 0, 1) by decide +kernel) rfl (lv_at hl 1 rfl) ?_
  refine va_get (D := D) (ci := 0) (v := .ref q0) (C := R_SE) (T := F_SE) (N := 14) hx hb hts i_SE hown hK hP 0 rfl rfl 0 (by decide +kernel) (hts _ w_42) (fun _ h9 => h9) (xg_ne (by decide +kernel) (xg_ne (by decide +kernel) (xg_ne (by decide +kernel) ha0))) (show decode prog_1_method_3_code 8 = .ok (.getfield 9, 3) by decide +kernel) ?_
  refine lv_aload_n hx hb (show decode prog_1_method_3_code 11 = .ok (.aload_n 0, 1) by decide +kernel) rfl (lv_at hl 1 rfl) ?_
  refine va_get (D := D) (ci := 0) (v := .int 11) (C := R_SE) (T := F_SE) (N := 14) hx hb hts i_SE hown hK hP 0 rfl rfl 1 (by decide +kernel) (hts _ w_43) (fun _ h9 => h9) (xg_eq (by simp [hfl])) (show decode prog_1_method_3_code 12 = .ok (.getfield 13, 3) by decide +kernel) ?_
  refine lv_iload_n hx hb (show decode prog_1_method_3_code 15 = .ok (.iload_n 1, 1) by decide +kernel) rfl (lv_at hl 2 rfl) ?_
  refine lv_iload_n hx hb (show decode prog_1_method_3_code 16 = .ok (.iload_n 2, 1) by decide +kernel) rfl (lv_at hl 0 rfl) ?_
  refine lv_iushr hx hb (show decode prog_1_method_3_code 17 = .ok (.iushr, 1) by decide +kernel) rfl ?_
  refine lv_topi (fun z_14 _ => ?_)
  refine lv_i2b hx hb (show decode prog_1_method_3_code 18 = .ok (.i2b, 1) by decide +kernel) rfl ?_
  refine lv_topi (fun z_15 _ => ?_)
  refine va_bast hx hb hK hP hD hS 1 0 rfl rfl (by unfold vp_in; decide) (show decode prog_1_method_3_code 19 = .ok (.bastore, 1) by decide +kernel) (fun H locs hP hD hS => ?_)
  obtain ⟨g_16, hP, hD⟩ : ∃ g_16 : Nat → Int32, va_P D cl [(h0, .inr (0, (((fs.set 1 (.int 9)).set 1 (.int 10)).set 1 (.int 11)))), (q0, .inl (cA0, 80, .inl g_16))] H ∧ va_D _ [(h0, .inr (0, (((fs.set 1 (.int 9)).set 1 (.int 10)).set 1 (.int 11)))), (q0, .inl (cA0, 80, .inl g_16))] := ⟨_, hP, hD⟩
  refine lv_aload_n hx hb (show decode prog_1_method_3_code 20 = .ok (.aload_n 0, 1) by decide +kernel) rfl (lv_at hl 1 rfl) ?_
  refine lv_dup hx hb (show decode prog_1_method_3_code 21 = .ok (.dup, 1) by decide +kernel) rfl ?_
  refine va_get (D := D) (ci := 0) (v := .int 11) (C := R_SE) (T := F_SE) (N := 14) hx hb hts i_SE hown hK hP 0 rfl rfl 1 (by decide +kernel) (hts _ w_43) (fun _ h9 => h9) (xg_eq (by simp [hfl])) (show decode prog_1_method_3_code 22 = .ok (.getfield 13, 3) by decide +kernel) ?_
  refine lv_iconst (v := 1) hx hb (show decode prog_1_method_3_code 25 = .ok (.iconst 1, 1) by decide +kernel) (by decide +kernel) ?_
  refine lv_iadd hx hb (show decode prog_1_method_3_code 26 = .ok (.iadd, 1) by decide +kernel) ?_
  refine xtopi (v := 12) (by decide +kernel) ?_
  refine va_put (D := D) (ci := 0) (v := .int 12) (ty := .int) (C := R_SE) (T := F_SE) (N := 14) hx hb hts i_SE t_SE t_SE_ok n_SE hown hK hP hD hS 0 rfl rfl 1 (by decide +kernel) (hts _ w_43) (fun _ h9 => h9) rfl (by decide +kernel) rfl rfl (by simp [hfl]) (show decode prog_1_method_3_code 27 = .ok (.putfield 13, 3) by decide +kernel) (fun H locs hP hD hS => ?_)
  have hP : va_P D cl [(h0, .inr (0, ((((fs.set 1 (.int 9)).set 1 (.int 10)).set 1 (.int 11)).set 1 (.int 12)))), (q0, .inl (cA0, 80, .inl g_16))] H := hP
  have hD : va_D _ [(h0, .inr (0, ((((fs.set 1 (.int 9)).set 1 (.int 10)).set 1 (.int 11)).set 1 (.int 12)))), (q0, .inl (cA0, 80, .inl g_16))] := hD
  refine lv_iinc (v := (-8)) (lv' := [(2, .int (-8)), (0, .ref h0), (1, .int p0)]) hx hb (show decode prog_1_method_3_code 30 = .ok (.iinc 2 (-8), 3) by decide +kernel) hl (k := 0) rfl (by decide +kernel) (by decide +kernel) rfl (fun ls hl => ?_)
  refine lv_goto (tgt := 3) hx hb (show decode prog_1_method_3_code 33 = .ok (.goto (-30), 3) by decide +kernel) (by decide +kernel) ?_
  refine lv_iload_n hx hb (show decode prog_1_method_3_code 3 = .ok (.iload_n 2, 1) by decide +kernel) rfl (lv_at hl 0 rfl) ?_
  refine lv_if_lt (tgt := 36) hx hb (show decode prog_1_method_3_code 4 = .ok (.ifCond .lt 32, 3) by decide +kernel) (by decide +kernel) (fun c_17 => ?_) (fun c_17 => absurd c_17 (by decide +kernel))
  exact W.vret hx hb hr (fun t ht hW => ⟨⟨g_16, rfl, trivial, by rw [ht]; exact hP, va_K.moved hW.alike hK, hD⟩, hS.F ht⟩) hS.2.2 (show decode prog_1_method_3_code 36 = .ok (.return_, 1) by decide +kernel)
set_option maxHeartbeats 4000000 in
set_option maxRecDepth 100000 in
/-- SignalEngine.append -/
theorem c_SE_append3 (l : Launch) (D : va_G) (ad : Nat → Nat) (de sz : Nat) (h0 : Nat) (fs : List Value) (hfl : fs.length = 14) (hf1 : xfa fs 1 (.int 12)) (q0 : Nat) (cA0 : ClassId) (f0 : Nat → Int32) (ha0 : xfa fs 0 (.ref q0)) (p0 : Int32) : Met l ⟨"SignalEngine", "append", "(I)V"⟩ (tw ⟨"SignalEngine", "append", "(I)V"⟩ prog_1_method_3_code 3 none) { frames := 0, cells := 0, slots := 0, locals := 0 } (va_Pc [.ref h0, .int p0] (xp ad de D [(h0, .inr (0, fs)), (q0, .inl (cA0, 80, .inl f0))] [(cA0, .byte)] sz)) (va_Qv (fun (_ : (Nat → Int32)) => True) (fun (u : (Nat → Int32)) t => xq D (va_A [(h0, .inr (0, fs)), (q0, .inl (cA0, 80, .inl f0))] sz) [(h0, .inr (0, ((((fs.set 1 (.int 13)).set 1 (.int 14)).set 1 (.int 15)).set 1 (.int 16)))), (q0, .inl (cA0, 80, .inl u))] [(cA0, .byte)] t) (va_A [(h0, .inr (0, fs)), (q0, .inl (cA0, 80, .inl f0))] sz)) 0 0 (va_A [(h0, .inr (0, fs)), (q0, .inl (cA0, 80, .inl f0))] sz) := by
  refine xMet (by decide +kernel) (Nat.le_of_ble_eq_true rfl) ?_
  intro p e s m below meth c hx hb hr hlocks hin hml hown hts hsz hP hK hD hE hA ls hl
  have hS : va_S _ s.heap s.heap [] := va_S.rf (A := va_A [(h0, .inr (0, fs)), (q0, .inl (cA0, 80, .inl f0))] sz)
  have hl : lv_has ls 3 [(0, .ref h0), (1, .int p0)] := hl
  refine lv_bipush (v := 24) hx hb (show decode prog_1_method_3_code 0 = .ok (.bipush 24, 2) by decide +kernel) (by decide +kernel) ?_
  refine lv_istore_n (lv' := [(2, .int 24), (0, .ref h0), (1, .int p0)]) hx hb (show decode prog_1_method_3_code 2 = .ok (.istore_n 2, 1) by decide +kernel) rfl hl (by decide +kernel) rfl (fun ls hl => ?_)
  refine lv_iload_n hx hb (show decode prog_1_method_3_code 3 = .ok (.iload_n 2, 1) by decide +kernel) rfl (lv_at hl 0 rfl) ?_
  refine lv_if_lt (tgt := 36) hx hb (show decode prog_1_method_3_code 4 = .ok (.ifCond .lt 32, 3) by decide +kernel) (by decide +kernel) (fun c_1 => absurd c_1 (by decide +kernel)) (fun c_1 => ?_)
  refine lv_aload_n hx hb (show decode prog_1_method_3_code 7 = .ok (.aload_n 0, 1) by decide +kernel) rfl (lv_at hl 1 rfl) ?_
  refine va_get (D := D) (ci := 0) (v := .ref q0) (C := R_SE) (T := F_SE) (N := 14) hx hb hts i_SE hown hK hP 0 rfl rfl 0 (by decide +kernel) (hts _ w_42) (fun _ h9 => h9) ha0 (show decode prog_1_method_3_code 8 = .ok (.getfield 9, 3) by decide +kernel) ?_
  refine lv_aload_n hx hb (show decode prog_1_method_3_code 11 = .ok (.aload_n 0, 1) by decide +kernel) rfl (lv_at hl 1 rfl) ?_
  refine va_get (D := D) (ci := 0) (v := .int 12) (C := R_SE) (T := F_SE) (N := 14) hx hb hts i_SE hown hK hP 0 rfl rfl 1 (by decide +kernel) (hts _ w_43) (fun _ h9 => h9) hf1 (show decode prog_1_method_3_code 12 = .ok (.getfield 13, 3) by decide +kernel) ?_
  refine lv_iload_n hx hb (show decode prog_1_method_3_code 15 = .ok (.iload_n 1, 1) by decide +kernel) rfl (lv_at hl 2 rfl) ?_
  refine lv_iload_n hx hb (show decode prog_1_method_3_code 16 = .ok (.iload_n 2, 1) by decide +kernel) rfl (lv_at hl 0 rfl) ?_
  refine lv_iushr hx hb (show decode prog_1_method_3_code 17 = .ok (.iushr, 1) by decide +kernel) rfl ?_
  refine lv_topi (fun z_2 _ => ?_)
  refine lv_i2b hx hb (show decode prog_1_method_3_code 18 = .ok (.i2b, 1) by decide +kernel) rfl ?_
  refine lv_topi (fun z_3 _ => ?_)
  refine va_bast hx hb hK hP hD hS 1 0 rfl rfl (by unfold vp_in; decide) (show decode prog_1_method_3_code 19 = .ok (.bastore, 1) by decide +kernel) (fun H locs hP hD hS => ?_)
  obtain ⟨g_4, hP, hD⟩ : ∃ g_4 : Nat → Int32, va_P D cl [(h0, .inr (0, fs)), (q0, .inl (cA0, 80, .inl g_4))] H ∧ va_D _ [(h0, .inr (0, fs)), (q0, .inl (cA0, 80, .inl g_4))] := ⟨_, hP, hD⟩
  refine lv_aload_n hx hb (show decode prog_1_method_3_code 20 = .ok (.aload_n 0, 1) by decide +kernel) rfl (lv_at hl 1 rfl) ?_
  refine lv_dup hx hb (show decode prog_1_method_3_code 21 = .ok (.dup, 1) by decide +kernel) rfl ?_
  refine va_get (D := D) (ci := 0) (v := .int 12) (C := R_SE) (T := F_SE) (N := 14) hx hb hts i_SE hown hK hP 0 rfl rfl 1 (by decide +kernel) (hts _ w_43) (fun _ h9 => h9) hf1 (show decode prog_1_method_3_code 22 = .ok (.getfield 13, 3) by decide +kernel) ?_
  refine lv_iconst (v := 1) hx hb (show decode prog_1_method_3_code 25 = .ok (.iconst 1, 1) by decide +kernel) (by decide +kernel) ?_
  refine lv_iadd hx hb (show decode prog_1_method_3_code 26 = .ok (.iadd, 1) by decide +kernel) ?_
  refine xtopi (v := 13) (by decide +kernel) ?_
  refine va_put (D := D) (ci := 0) (v := .int 13) (ty := .int) (C := R_SE) (T := F_SE) (N := 14) hx hb hts i_SE t_SE t_SE_ok n_SE hown hK hP hD hS 0 rfl rfl 1 (by decide +kernel) (hts _ w_43) (fun _ h9 => h9) rfl (by decide +kernel) rfl rfl (by simp [hfl]) (show decode prog_1_method_3_code 27 = .ok (.putfield 13, 3) by decide +kernel) (fun H locs hP hD hS => ?_)
  have hP : va_P D cl [(h0, .inr (0, (fs.set 1 (.int 13)))), (q0, .inl (cA0, 80, .inl g_4))] H := hP
  have hD : va_D _ [(h0, .inr (0, (fs.set 1 (.int 13)))), (q0, .inl (cA0, 80, .inl g_4))] := hD
  refine lv_iinc (v := 16) (lv' := [(2, .int 16), (0, .ref h0), (1, .int p0)]) hx hb (show decode prog_1_method_3_code 30 = .ok (.iinc 2 (-8), 3) by decide +kernel) hl (k := 0) rfl (by decide +kernel) (by decide +kernel) rfl (fun ls hl => ?_)
  refine lv_goto (tgt := 3) hx hb (show decode prog_1_method_3_code 33 = .ok (.goto (-30), 3) by decide +kernel) (by decide +kernel) ?_
  refine lv_iload_n hx hb (show decode prog_1_method_3_code 3 = .ok (.iload_n 2, 1) by decide +kernel) rfl (lv_at hl 0 rfl) ?_
  refine lv_if_lt (tgt := 36) hx hb (show decode prog_1_method_3_code 4 = .ok (.ifCond .lt 32, 3) by decide +kernel) (by decide +kernel) (fun c_5 => absurd c_5 (by decide +kernel)) (fun c_5 => ?_)
  refine lv_aload_n hx hb (show decode prog_1_method_3_code 7 = .ok (.aload_n 0, 1) by decide +kernel) rfl (lv_at hl 1 rfl) ?_
  refine va_get (D := D) (ci := 0) (v := .ref q0) (C := R_SE) (T := F_SE) (N := 14) hx hb hts i_SE hown hK hP 0 rfl rfl 0 (by decide +kernel) (hts _ w_42) (fun _ h9 => h9) (xg_ne (by decide +kernel) ha0) (show decode prog_1_method_3_code 8 = .ok (.getfield 9, 3) by decide +kernel) ?_
  refine lv_aload_n hx hb (show decode prog_1_method_3_code 11 = .ok (.aload_n 0, 1) by decide +kernel) rfl (lv_at hl 1 rfl) ?_
  refine va_get (D := D) (ci := 0) (v := .int 13) (C := R_SE) (T := F_SE) (N := 14) hx hb hts i_SE hown hK hP 0 rfl rfl 1 (by decide +kernel) (hts _ w_43) (fun _ h9 => h9) (xg_eq (by simp [hfl])) (show decode prog_1_method_3_code 12 = .ok (.getfield 13, 3) by decide +kernel) ?_
  refine lv_iload_n hx hb (show decode prog_1_method_3_code 15 = .ok (.iload_n 1, 1) by decide +kernel) rfl (lv_at hl 2 rfl) ?_
  refine lv_iload_n hx hb (show decode prog_1_method_3_code 16 = .ok (.iload_n 2, 1) by decide +kernel) rfl (lv_at hl 0 rfl) ?_
  refine lv_iushr hx hb (show decode prog_1_method_3_code 17 = .ok (.iushr, 1) by decide +kernel) rfl ?_
  refine lv_topi (fun z_6 _ => ?_)
  refine lv_i2b hx hb (show decode prog_1_method_3_code 18 = .ok (.i2b, 1) by decide +kernel) rfl ?_
  refine lv_topi (fun z_7 _ => ?_)
  refine va_bast hx hb hK hP hD hS 1 0 rfl rfl (by unfold vp_in; decide) (show decode prog_1_method_3_code 19 = .ok (.bastore, 1) by decide +kernel) (fun H locs hP hD hS => ?_)
  obtain ⟨g_8, hP, hD⟩ : ∃ g_8 : Nat → Int32, va_P D cl [(h0, .inr (0, (fs.set 1 (.int 13)))), (q0, .inl (cA0, 80, .inl g_8))] H ∧ va_D _ [(h0, .inr (0, (fs.set 1 (.int 13)))), (q0, .inl (cA0, 80, .inl g_8))] := ⟨_, hP, hD⟩
  refine lv_aload_n hx hb (show decode prog_1_method_3_code 20 = .ok (.aload_n 0, 1) by decide +kernel) rfl (lv_at hl 1 rfl) ?_
  refine lv_dup hx hb (show decode prog_1_method_3_code 21 = .ok (.dup, 1) by decide +kernel) rfl ?_
  refine va_get (D := D) (ci := 0) (v := .int 13) (C := R_SE) (T := F_SE) (N := 14) hx hb hts i_SE hown hK hP 0 rfl rfl 1 (by decide +kernel) (hts _ w_43) (fun _ h9 => h9) (xg_eq (by simp [hfl])) (show decode prog_1_method_3_code 22 = .ok (.getfield 13, 3) by decide +kernel) ?_
  refine lv_iconst (v := 1) hx hb (show decode prog_1_method_3_code 25 = .ok (.iconst 1, 1) by decide +kernel) (by decide +kernel) ?_
  refine lv_iadd hx hb (show decode prog_1_method_3_code 26 = .ok (.iadd, 1) by decide +kernel) ?_
  refine xtopi (v := 14) (by decide +kernel) ?_
  refine va_put (D := D) (ci := 0) (v := .int 14) (ty := .int) (C := R_SE) (T := F_SE) (N := 14) hx hb hts i_SE t_SE t_SE_ok n_SE hown hK hP hD hS 0 rfl rfl 1 (by decide +kernel) (hts _ w_43) (fun _ h9 => h9) rfl (by decide +kernel) rfl rfl (by simp [hfl]) (show decode prog_1_method_3_code 27 = .ok (.putfield 13, 3) by decide +kernel) (fun H locs hP hD hS => ?_)
  have hP : va_P D cl [(h0, .inr (0, ((fs.set 1 (.int 13)).set 1 (.int 14)))), (q0, .inl (cA0, 80, .inl g_8))] H := hP
  have hD : va_D _ [(h0, .inr (0, ((fs.set 1 (.int 13)).set 1 (.int 14)))), (q0, .inl (cA0, 80, .inl g_8))] := hD
  refine lv_iinc (v := 8) (lv' := [(2, .int 8), (0, .ref h0), (1, .int p0)]) hx hb (show decode prog_1_method_3_code 30 = .ok (.iinc 2 (-8), 3) by decide +kernel) hl (k := 0) rfl (by decide +kernel) (by decide +kernel) rfl (fun ls hl => ?_)
  refine lv_goto (tgt := 3) hx hb (show decode prog_1_method_3_code 33 = .ok (.goto (-30), 3) by decide +kernel) (by decide +kernel) ?_
  refine lv_iload_n hx hb (show decode prog_1_method_3_code 3 = .ok (.iload_n 2, 1) by decide +kernel) rfl (lv_at hl 0 rfl) ?_
  refine lv_if_lt (tgt := 36) hx hb (show decode prog_1_method_3_code 4 = .ok (.ifCond .lt 32, 3) by decide +kernel) (by decide +kernel) (fun c_9 => absurd c_9 (by decide +kernel)) (fun c_9 => ?_)
  refine lv_aload_n hx hb (show decode prog_1_method_3_code 7 = .ok (.aload_n 0, 1) by decide +kernel) rfl (lv_at hl 1 rfl) ?_
  refine va_get (D := D) (ci := 0) (v := .ref q0) (C := R_SE) (T := F_SE) (N := 14) hx hb hts i_SE hown hK hP 0 rfl rfl 0 (by decide +kernel) (hts _ w_42) (fun _ h9 => h9) (xg_ne (by decide +kernel) (xg_ne (by decide +kernel) ha0)) (show decode prog_1_method_3_code 8 = .ok (.getfield 9, 3) by decide +kernel) ?_
  refine lv_aload_n hx hb (show decode prog_1_method_3_code 11 = .ok (.aload_n 0, 1) by decide +kernel) rfl (lv_at hl 1 rfl) ?_
  refine va_get (D := D) (ci := 0) (v := .int 14) (C := R_SE) (T := F_SE) (N := 14) hx hb hts i_SE hown hK hP 0 rfl rfl 1 (by decide +kernel) (hts _ w_43) (fun _ h9 => h9) (xg_eq (by simp [hfl])) (show decode prog_1_method_3_code 12 = .ok (.getfield 13, 3) by decide +kernel) ?_
  refine lv_iload_n hx hb (show decode prog_1_method_3_code 15 = .ok (.iload_n 1, 1) by decide +kernel) rfl (lv_at hl 2 rfl) ?_
  refine lv_iload_n hx hb (show decode prog_1_method_3_code 16 = .ok (.iload_n 2, 1) by decide +kernel) rfl (lv_at hl 0 rfl) ?_
  refine lv_iushr hx hb (show decode prog_1_method_3_code 17 = .ok (.iushr, 1) by decide +kernel) rfl ?_
  refine lv_topi (fun z_10 _ => ?_)
  refine lv_i2b hx hb (show decode prog_1_method_3_code 18 = .ok (.i2b, 1) by decide +kernel) rfl ?_
  refine lv_topi (fun z_11 _ => ?_)
  refine va_bast hx hb hK hP hD hS 1 0 rfl rfl (by unfold vp_in; decide) (show decode prog_1_method_3_code 19 = .ok (.bastore, 1) by decide +kernel) (fun H locs hP hD hS => ?_)
  obtain ⟨g_12, hP, hD⟩ : ∃ g_12 : Nat → Int32, va_P D cl [(h0, .inr (0, ((fs.set 1 (.int 13)).set 1 (.int 14)))), (q0, .inl (cA0, 80, .inl g_12))] H ∧ va_D _ [(h0, .inr (0, ((fs.set 1 (.int 13)).set 1 (.int 14)))), (q0, .inl (cA0, 80, .inl g_12))] := ⟨_, hP, hD⟩
  refine lv_aload_n hx hb (show decode prog_1_method_3_code 20 = .ok (.aload_n 0, 1) by decide +kernel) rfl (lv_at hl 1 rfl) ?_
  refine lv_dup hx hb (show decode prog_1_method_3_code 21 = .ok (.dup, 1) by decide +kernel) rfl ?_
  refine va_get (D := D) (ci := 0) (v := .int 14) (C := R_SE) (T := F_SE) (N := 14) hx hb hts i_SE hown hK hP 0 rfl rfl 1 (by decide +kernel) (hts _ w_43) (fun _ h9 => h9) (xg_eq (by simp [hfl])) (show decode prog_1_method_3_code 22 = .ok (.getfield 13, 3) by decide +kernel) ?_
  refine lv_iconst (v := 1) hx hb (show decode prog_1_method_3_code 25 = .ok (.iconst 1, 1) by decide +kernel) (by decide +kernel) ?_
  refine lv_iadd hx hb (show decode prog_1_method_3_code 26 = .ok (.iadd, 1) by decide +kernel) ?_
  refine xtopi (v := 15) (by decide +kernel) ?_
  refine va_put (D := D) (ci := 0) (v := .int 15) (ty := .int) (C := R_SE) (T := F_SE) (N := 14) hx hb hts i_SE t_SE t_SE_ok n_SE hown hK hP hD hS 0 rfl rfl 1 (by decide +kernel) (hts _ w_43) (fun _ h9 => h9) rfl (by decide +kernel) rfl rfl (by simp [hfl]) (show decode prog_1_method_3_code 27 = .ok (.putfield 13, 3) by decide +kernel) (fun H locs hP hD hS => ?_)
  have hP : va_P D cl [(h0, .inr (0, (((fs.set 1 (.int 13)).set 1 (.int 14)).set 1 (.int 15)))), (q0, .inl (cA0, 80, .inl g_12))] H := hP
  have hD : va_D _ [(h0, .inr (0, (((fs.set 1 (.int 13)).set 1 (.int 14)).set 1 (.int 15)))), (q0, .inl (cA0, 80, .inl g_12))] := hD
  refine lv_iinc (v := 0) (lv' := [(2, .int 0), (0, .ref h0), (1, .int p0)]) hx hb (show decode prog_1_method_3_code 30 = .ok (.iinc 2 (-8), 3) by decide +kernel) hl (k := 0) rfl (by decide +kernel) (by decide +kernel) rfl (fun ls hl => ?_)
  refine lv_goto (tgt := 3) hx hb (show decode prog_1_method_3_code 33 = .ok (.goto (-30), 3) by decide +kernel) (by decide +kernel) ?_
  refine lv_iload_n hx hb (show decode prog_1_method_3_code 3 = .ok (.iload_n 2, 1) by decide +kernel) rfl (lv_at hl 0 rfl) ?_
  refine lv_if_lt (tgt := 36) hx hb (show decode prog_1_method_3_code 4 = .ok (.ifCond .lt 32, 3) by decide +kernel) (by decide +kernel) (fun c_13 => absurd c_13 (by decide +kernel)) (fun c_13 => ?_)
  refine lv_aload_n hx hb (show decode prog_1_method_3_code 7 = .ok (.aload_n 0, 1) by decide +kernel) rfl (lv_at hl 1 rfl) ?_
  refine va_get (D := D) (ci := 0) (v := .ref q0) (C := R_SE) (T := F_SE) (N := 14) hx hb hts i_SE hown hK hP 0 rfl rfl 0 (by decide +kernel) (hts _ w_42) (fun _ h9 => h9) (xg_ne (by decide +kernel) (xg_ne (by decide +kernel) (xg_ne (by decide +kernel) ha0))) (show decode prog_1_method_3_code 8 = .ok (.getfield 9, 3) by decide +kernel) ?_
  refine lv_aload_n hx hb (show decode prog_1_method_3_code 11 = .ok (.aload_n 0, 1) by decide +kernel) rfl (lv_at hl 1 rfl) ?_
  refine va_get (D := D) (ci := 0) (v := .int 15) (C := R_SE) (T := F_SE) (N := 14) hx hb hts i_SE hown hK hP 0 rfl rfl 1 (by decide +kernel) (hts _ w_43) (fun _ h9 => h9) (xg_eq (by simp [hfl])) (show decode prog_1_method_3_code 12 = .ok (.getfield 13, 3) by decide +kernel) ?_
  refine lv_iload_n hx hb (show decode prog_1_method_3_code 15 = .ok (.iload_n 1, 1) by decide +kernel) rfl (lv_at hl 2 rfl) ?_
  refine lv_iload_n hx hb (show decode prog_1_method_3_code 16 = .ok (.iload_n 2, 1) by decide +kernel) rfl (lv_at hl 0 rfl) ?_
  refine lv_iushr hx hb (show decode prog_1_method_3_code 17 = .ok (.iushr, 1) by decide +kernel) rfl ?_
  refine lv_topi (fun z_14 _ => ?_)
  refine lv_i2b hx hb (show decode prog_1_method_3_code 18 = .ok (.i2b, 1) by decide +kernel) rfl ?_
  refine lv_topi (fun z_15 _ => ?_)
  refine va_bast hx hb hK hP hD hS 1 0 rfl rfl (by unfold vp_in; decide) (show decode prog_1_method_3_code 19 = .ok (.bastore, 1) by decide +kernel) (fun H locs hP hD hS => ?_)
  obtain ⟨g_16, hP, hD⟩ : ∃ g_16 : Nat → Int32, va_P D cl [(h0, .inr (0, (((fs.set 1 (.int 13)).set 1 (.int 14)).set 1 (.int 15)))), (q0, .inl (cA0, 80, .inl g_16))] H ∧ va_D _ [(h0, .inr (0, (((fs.set 1 (.int 13)).set 1 (.int 14)).set 1 (.int 15)))), (q0, .inl (cA0, 80, .inl g_16))] := ⟨_, hP, hD⟩
  refine lv_aload_n hx hb (show decode prog_1_method_3_code 20 = .ok (.aload_n 0, 1) by decide +kernel) rfl (lv_at hl 1 rfl) ?_
  refine lv_dup hx hb (show decode prog_1_method_3_code 21 = .ok (.dup, 1) by decide +kernel) rfl ?_
  refine va_get (D := D) (ci := 0) (v := .int 15) (C := R_SE) (T := F_SE) (N := 14) hx hb hts i_SE hown hK hP 0 rfl rfl 1 (by decide +kernel) (hts _ w_43) (fun _ h9 => h9) (xg_eq (by simp [hfl])) (show decode prog_1_method_3_code 22 = .ok (.getfield 13, 3) by decide +kernel) ?_
  refine lv_iconst (v := 1) hx hb (show decode prog_1_method_3_code 25 = .ok (.iconst 1, 1) by decide +kernel) (by decide +kernel) ?_
  refine lv_iadd hx hb (show decode prog_1_method_3_code 26 = .ok (.iadd, 1) by decide +kernel) ?_
  refine xtopi (v := 16) (by decide +kernel) ?_
  refine va_put (D := D) (ci := 0) (v := .int 16) (ty := .int) (C := R_SE) (T := F_SE) (N := 14) hx hb hts i_SE t_SE t_SE_ok n_SE hown hK hP hD hS 0 rfl rfl 1 (by decide +kernel) (hts _ w_43) (fun _ h9 => h9) rfl (by decide +kernel) rfl rfl (by simp [hfl]) (show decode prog_1_method_3_code 27 = .ok (.putfield 13, 3) by decide +kernel) (fun H locs hP hD hS => ?_)
  have hP : va_P D cl [(h0, .inr (0, ((((fs.set 1 (.int 13)).set 1 (.int 14)).set 1 (.int 15)).set 1 (.int 16)))), (q0, .inl (cA0, 80, .inl g_16))] H := hP
  have hD : va_D _ [(h0, .inr (0, ((((fs.set 1 (.int 13)).set 1 (.int 14)).set 1 (.int 15)).set 1 (.int 16)))), (q0, .inl (cA0, 80, .inl g_16))] := hD
  refine lv_iinc (v := (-8)) (lv' := [(2, .int (-8)), (0, .ref h0), (1, .int p0)]) hx hb (show decode prog_1_method_3_code 30 = .ok (.iinc 2 (-8), 3) by decide +kernel) hl (k := 0) rfl (by decide +kernel) (by decide +kernel) rfl (fun ls hl => ?_)
  refine lv_goto (tgt := 3) hx hb (show decode prog_1_method_3_code 33 = .ok (.goto (-30), 3) by decide +kernel) (by decide +kernel) ?_
  refine lv_iload_n hx hb (show decode prog_1_method_3_code 3 = .ok (.iload_n 2, 1) by decide +kernel) rfl (lv_at hl 0 rfl) ?_
  refine lv_if_lt (tgt := 36) hx hb (show decode prog_1_method_3_code 4 = .ok (.ifCond .lt 32, 3) by decide +kernel) (by decide +kernel) (fun c_17 => ?_) (fun c_17 => absurd c_17 (by decide +kernel))
  exact W.vret hx hb hr (fun t ht hW => ⟨⟨g_16, rfl, trivial, by rw [ht]; exact hP, va_K.moved hW.alike hK, hD⟩, hS.F ht⟩) hS.2.2 (show decode prog_1_method_3_code 36 = .ok (.return_, 1) by decide +kernel)
set_option maxHeartbeats 4000000 in
set_option maxRecDepth 100000 in
/-- SignalEngine.append -/
theorem c_SE_append4 (l : Launch) (D : va_G) (ad : Nat → Nat) (de sz : Nat) (h0 : Nat) (fs : List Value) (hfl : fs.length = 14) (hf1 : xfa fs 1 (.int 16)) (q0 : Nat) (cA0 : ClassId) (f0 : Nat → Int32) (ha0 : xfa fs 0 (.ref q0)) (p0 : Int32) : Met l ⟨"SignalEngine", "append", "(I)V"⟩ (tw ⟨"SignalEngine", "append", "(I)V"⟩ prog_1_method_3_code 3 none) { frames := 0, cells := 0, slots := 0, locals := 0 } (va_Pc [.ref h0, .int p0] (xp ad de D [(h0, .inr (0, fs)), (q0, .inl (cA0, 80, .inl f0))] [(cA0, .byte)] sz)) (va_Qv (fun (_ : (Nat → Int32)) => True) (fun (u : (Nat → Int32)) t => xq D (va_A [(h0, .inr (0, fs)), (q0, .inl (cA0, 80, .inl f0))] sz) [(h0, .inr (0, ((((fs.set 1 (.int 17)).set 1 (.int 18)).set 1 (.int 19)).set 1 (.int 20)))), (q0, .inl (cA0, 80, .inl u))] [(cA0, .byte)] t) (va_A [(h0, .inr (0, fs)), (q0, .inl (cA0, 80, .inl f0))] sz)) 0 0 (va_A [(h0, .inr (0, fs)), (q0, .inl (cA0, 80, .inl f0))] sz) := by
  refine xMet (by decide +kernel) (Nat.le_of_ble_eq_true rfl) ?_
  intro p e s m below meth c hx hb hr hlocks hin hml hown hts hsz hP hK hD hE hA ls hl
  have hS : va_S _ s.heap s.heap [] := va_S.rf (A := va_A [(h0, .inr (0, fs)), (q0, .inl (cA0, 80, .inl f0))] sz)
  have hl : lv_has ls 3 [(0, .ref h0), (1, .int p0)] := hl
  refine lv_bipush (v := 24) hx hb (show decode prog_1_method_3_code 0 = .ok (.bipush 24, 2) by decide +kernel) (by decide +kernel) ?_
  refine lv_istore_n (lv' := [(2, .int 24), (0, .ref h0), (1, .int p0)]) hx hb (show decode prog_1_method_3_code 2 = .ok (.istore_n 2, 1) by decide +kernel) rfl hl (by decide +kernel) rfl (fun ls hl => ?_)
  refine lv_iload_n hx hb (show decode prog_1_method_3_code 3 = .ok (.iload_n 2, 1) by decide +kernel) rfl (lv_at hl 0 rfl) ?_
  refine lv_if_lt (tgt := 36) hx hb (show decode prog_1_method_3_code 4 = .ok (.ifCond .lt 32, 3) by decide +kernel) (by decide +kernel) (fun c_1 => absurd c_1 (by decide +kernel)) (fun c_1 => ?_)
  refine lv_aload_n hx hb (show decode prog_1_method_3_code 7 = .ok (.aload_n 0, 1) by decide +kernel) rfl (lv_at hl 1 rfl) ?_
  refine va_get (D := D) (ci := 0) (v := .ref q0) (C := R_SE) (T := F_SE) (N := 14) hx hb hts i_SE hown hK hP 0 rfl rfl 0 (by decide +kernel) (hts _ w_42) (fun _ h9 => h9) ha0 (show decode prog_1_method_3_code 8 = .ok (.getfield 9, 3) by decide +kernel) ?_
  refine lv_aload_n hx hb (show decode prog_1_method_3_code 11 = .ok (.aload_n 0, 1) by decide +kernel) rfl (lv_at hl 1 rfl) ?_
  refine va_get (D := D) (ci := 0) (v := .int 16) (C := R_SE) (T := F_SE) (N := 14) hx hb hts i_SE hown hK hP 0 rfl rfl 1 (by decide +kernel) (hts _ w_43) (fun _ h9 => h9) hf1 (show decode prog_1_method_3_code 12 = .ok (.getfield 13, 3) by decide +kernel) ?_
  refine lv_iload_n hx hb (show decode prog_1_method_3_code 15 = .ok (.iload_n 1, 1) by decide +kernel) rfl (lv_at hl 2 rfl) ?_
  refine lv_iload_n hx hb (show decode prog_1_method_3_code 16 = .ok (.iload_n 2, 1) by decide +kernel) rfl (lv_at hl 0 rfl) ?_
  refine lv_iushr hx hb (show decode prog_1_method_3_code 17 = .ok (.iushr, 1) by decide +kernel) rfl ?_
  refine lv_topi (fun z_2 _ => ?_)
  refine lv_i2b hx hb (show decode prog_1_method_3_code 18 = .ok (.i2b, 1) by decide +kernel) rfl ?_
  refine lv_topi (fun z_3 _ => ?_)
  refine va_bast hx hb hK hP hD hS 1 0 rfl rfl (by unfold vp_in; decide) (show decode prog_1_method_3_code 19 = .ok (.bastore, 1) by decide +kernel) (fun H locs hP hD hS => ?_)
  obtain ⟨g_4, hP, hD⟩ : ∃ g_4 : Nat → Int32, va_P D cl [(h0, .inr (0, fs)), (q0, .inl (cA0, 80, .inl g_4))] H ∧ va_D _ [(h0, .inr (0, fs)), (q0, .inl (cA0, 80, .inl g_4))] := ⟨_, hP, hD⟩
  refine lv_aload_n hx hb (show decode prog_1_method_3_code 20 = .ok (.aload_n 0, 1) by decide +kernel) rfl (lv_at hl 1 rfl) ?_
  refine lv_dup hx hb (show decode prog_1_method_3_code 21 = .ok (.dup, 1) by decide +kernel) rfl ?_
  refine va_get (D := D) (ci := 0) (v := .int 16) (C := R_SE) (T := F_SE) (N := 14) hx hb hts i_SE hown hK hP 0 rfl rfl 1 (by decide +kernel) (hts _ w_43) (fun _ h9 => h9) hf1 (show decode prog_1_method_3_code 22 = .ok (.getfield 13, 3) by decide +kernel) ?_
  refine lv_iconst (v := 1) hx hb (show decode prog_1_method_3_code 25 = .ok (.iconst 1, 1) by decide +kernel) (by decide +kernel) ?_
  refine lv_iadd hx hb (show decode prog_1_method_3_code 26 = .ok (.iadd, 1) by decide +kernel) ?_
  refine xtopi (v := 17) (by decide +kernel) ?_
  refine va_put (D := D) (ci := 0) (v := .int 17) (ty := .int) (C := R_SE) (T := F_SE) (N := 14) hx hb hts i_SE t_SE t_SE_ok n_SE hown hK hP hD hS 0 rfl rfl 1 (by decide +kernel) (hts _ w_43) (fun _ h9 => h9) rfl (by decide +kernel) rfl rfl (by simp [hfl]) (show decode prog_1_method_3_code 27 = .ok (.putfield 13, 3) by decide +kernel) (fun H locs hP hD hS => ?_)
  have hP : va_P D cl [(h0, .inr (0, (fs.set 1 (.int 17)))), (q0, .inl (cA0, 80, .inl g_4))] H := hP
  have hD : va_D _ [(h0, .inr (0, (fs.set 1 (.int 17)))), (q0, .inl (cA0, 80, .inl g_4))] := hD
  refine lv_iinc (v := 16) (lv' := [(2, .int 16), (0, .ref h0), (1, .int p0)]) hx hb (show decode prog_1_method_3_code 30 = .ok (.iinc 2 (-8), 3) by decide +kernel) hl (k := 0) rfl (by decide +kernel) (by decide +kernel) rfl (fun ls hl => ?_)
  refine lv_goto (tgt := 3) hx hb (show decode prog_1_method_3_code 33 = .ok (.goto (-30), 3) by decide +kernel) (by decide +kernel) ?_
  refine lv_iload_n hx hb (show decode prog_1_method_3_code 3 = .ok (.iload_n 2, 1) by decide +kernel) rfl (lv_at hl 0 rfl) ?_
  refine lv_if_lt (tgt := 36) hx hb (show decode prog_1_method_3_code 4 = .ok (.ifCond .lt 32, 3) by decide +kernel) (by decide +kernel) (fun c_5 => absurd c_5 (by decide +kernel)) (fun c_5 => ?_)
  refine lv_aload_n hx hb (show decode prog_1_method_3_code 7 = .ok (.aload_n 0, 1) by decide +kernel) rfl (lv_at hl 1 rfl) ?_
  refine va_get (D := D) (ci := 0) (v := .ref q0) (C := R_SE) (T := F_SE) (N := 14) hx hb hts i_SE hown hK hP 0 rfl rfl 0 (by decide +kernel) (hts _ w_42) (fun _ h9 => h9) (xg_ne (by decide +kernel) ha0) (show decode prog_1_method_3_code 8 = .ok (.getfield 9, 3) by decide +kernel) ?_
  refine lv_aload_n hx hb (show decode prog_1_method_3_code 11 = .ok (.aload_n 0, 1) by decide +kernel) rfl (lv_at hl 1 rfl) ?_
  refine va_get (D := D) (ci := 0) (v := .int 17) (C := R_SE) (T := F_SE) (N := 14) hx hb hts i_SE hown hK hP 0 rfl rfl 1 (by decide +kernel) (hts _ w_43) (fun _ h9 => h9) (xg_eq (by simp [hfl])) (show decode prog_1_method_3_code 12 = .ok (.getfield 13, 3) by decide +kernel) ?_
  refine lv_iload_n hx hb (show decode prog_1_method_3_code 15 = .ok (.iload_n 1, 1) by decide +kernel) rfl (lv_at hl 2 rfl) ?_
  refine lv_iload_n hx hb (show decode prog_1_method_3_code 16 = .ok (.iload_n 2, 1) by decide +kernel) rfl (lv_at hl 0 rfl) ?_
  refine lv_iushr hx hb (show decode prog_1_method_3_code 17 = .ok (.iushr, 1) by decide +kernel) rfl ?_
  refine lv_topi (fun z_6 _ => ?_)
  refine lv_i2b hx hb (show decode prog_1_method_3_code 18 = .ok (.i2b, 1) by decide +kernel) rfl ?_
  refine lv_topi (fun z_7 _ => ?_)
  refine va_bast hx hb hK hP hD hS 1 0 rfl rfl (by unfold vp_in; decide) (show decode prog_1_method_3_code 19 = .ok (.bastore, 1) by decide +kernel) (fun H locs hP hD hS => ?_)
  obtain ⟨g_8, hP, hD⟩ : ∃ g_8 : Nat → Int32, va_P D cl [(h0, .inr (0, (fs.set 1 (.int 17)))), (q0, .inl (cA0, 80, .inl g_8))] H ∧ va_D _ [(h0, .inr (0, (fs.set 1 (.int 17)))), (q0, .inl (cA0, 80, .inl g_8))] := ⟨_, hP, hD⟩
  refine lv_aload_n hx hb (show decode prog_1_method_3_code 20 = .ok (.aload_n 0, 1) by decide +kernel) rfl (lv_at hl 1 rfl) ?_
  refine lv_dup hx hb (show decode prog_1_method_3_code 21 = .ok (.dup, 1) by decide +kernel) rfl ?_
  refine va_get (D := D) (ci := 0) (v := .int 17) (C := R_SE) (T := F_SE) (N := 14) hx hb hts i_SE hown hK hP 0 rfl rfl 1 (by decide +kernel) (hts _ w_43) (fun _ h9 => h9) (xg_eq (by simp [hfl])) (show decode prog_1_method_3_code 22 = .ok (.getfield 13, 3) by decide +kernel) ?_
  refine lv_iconst (v := 1) hx hb (show decode prog_1_method_3_code 25 = .ok (.iconst 1, 1) by decide +kernel) (by decide +kernel) ?_
  refine lv_iadd hx hb (show decode prog_1_method_3_code 26 = .ok (.iadd, 1) by decide +kernel) ?_
  refine xtopi (v := 18) (by decide +kernel) ?_
  refine va_put (D := D) (ci := 0) (v := .int 18) (ty := .int) (C := R_SE) (T := F_SE) (N := 14) hx hb hts i_SE t_SE t_SE_ok n_SE hown hK hP hD hS 0 rfl rfl 1 (by decide +kernel) (hts _ w_43) (fun _ h9 => h9) rfl (by decide +kernel) rfl rfl (by simp [hfl]) (show decode prog_1_method_3_code 27 = .ok (.putfield 13, 3) by decide +kernel) (fun H locs hP hD hS => ?_)
  have hP : va_P D cl [(h0, .inr (0, ((fs.set 1 (.int 17)).set 1 (.int 18)))), (q0, .inl (cA0, 80, .inl g_8))] H := hP
  have hD : va_D _ [(h0, .inr (0, ((fs.set 1 (.int 17)).set 1 (.int 18)))), (q0, .inl (cA0, 80, .inl g_8))] := hD
  refine lv_iinc (v := 8) (lv' := [(2, .int 8), (0, .ref h0), (1, .int p0)]) hx hb (show decode prog_1_method_3_code 30 = .ok (.iinc 2 (-8), 3) by decide +kernel) hl (k := 0) rfl (by decide +kernel) (by decide +kernel) rfl (fun ls hl => ?_)
  refine lv_goto (tgt := 3) hx hb (show decode prog_1_method_3_code 33 = .ok (.goto (-30), 3) by decide +kernel) (by decide +kernel) ?_
  refine lv_iload_n hx hb (show decode prog_1_method_3_code 3 = .ok (.iload_n 2, 1) by decide +kernel) rfl (lv_at hl 0 rfl) ?_
  refine lv_if_lt (tgt := 36) hx hb (show decode prog_1_method_3_code 4 = .ok (.ifCond .lt 32, 3) by decide +kernel) (by decide +kernel) (fun c_9 => absurd c_9 (by decide +kernel)) (fun c_9 => ?_)
  refine lv_aload_n hx hb (show decode prog_1_method_3_code 7 = .ok (.aload_n 0, 1) by decide +kernel) rfl (lv_at hl 1 rfl) ?_
  refine va_get (D := D) (ci := 0) (v := .ref q0) (C := R_SE) (T := F_SE) (N := 14) hx hb hts i_SE hown hK hP 0 rfl rfl 0 (by decide +kernel) (hts _ w_42) (fun _ h9 => h9) (xg_ne (by decide +kernel) (xg_ne (by decide +kernel) ha0)) (show decode prog_1_method_3_code 8 = .ok (.getfield 9, 3) by decide +kernel) ?_
  refine lv_aload_n hx hb (show decode prog_1_method_3_code 11 = .ok (.aload_n 0, 1) by decide +kernel) rfl (lv_at hl 1 rfl) ?_
  refine va_get (D := D) (ci := 0) (v := .int 18) (C := R_SE) (T := F_SE) (N := 14) hx hb hts i_SE hown hK hP 0 rfl rfl 1 (by decide +kernel) (hts _ w_43) (fun _ h9 => h9) (xg_eq (by simp [hfl])) (show decode prog_1_method_3_code 12 = .ok (.getfield 13, 3) by decide +kernel) ?_
  refine lv_iload_n hx hb (show decode prog_1_method_3_code 15 = .ok (.iload_n 1, 1) by decide +kernel) rfl (lv_at hl 2 rfl) ?_
  refine lv_iload_n hx hb (show decode prog_1_method_3_code 16 = .ok (.iload_n 2, 1) by decide +kernel) rfl (lv_at hl 0 rfl) ?_
  refine lv_iushr hx hb (show decode prog_1_method_3_code 17 = .ok (.iushr, 1) by decide +kernel) rfl ?_
  refine lv_topi (fun z_10 _ => ?_)
  refine lv_i2b hx hb (show decode prog_1_method_3_code 18 = .ok (.i2b, 1) by decide +kernel) rfl ?_
  refine lv_topi (fun z_11 _ => ?_)
  refine va_bast hx hb hK hP hD hS 1 0 rfl rfl (by unfold vp_in; decide) (show decode prog_1_method_3_code 19 = .ok (.bastore, 1) by decide +kernel) (fun H locs hP hD hS => ?_)
  obtain ⟨g_12, hP, hD⟩ : ∃ g_12 : Nat → Int32, va_P D cl [(h0, .inr (0, ((fs.set 1 (.int 17)).set 1 (.int 18)))), (q0, .inl (cA0, 80, .inl g_12))] H ∧ va_D _ [(h0, .inr (0, ((fs.set 1 (.int 17)).set 1 (.int 18)))), (q0, .inl (cA0, 80, .inl g_12))] := ⟨_, hP, hD⟩
  refine lv_aload_n hx hb (show decode prog_1_method_3_code 20 = .ok (.aload_n 0, 1) by decide +kernel) rfl (lv_at hl 1 rfl) ?_
  refine lv_dup hx hb (show decode prog_1_method_3_code 21 = .ok (.dup, 1) by decide +kernel) rfl ?_
  refine va_get (D := D) (ci := 0) (v := .int 18) (C := R_SE) (T := F_SE) (N := 14) hx hb hts i_SE hown hK hP 0 rfl rfl 1 (by decide +kernel) (hts _ w_43) (fun _ h9 => h9) (xg_eq (by simp [hfl])) (show decode prog_1_method_3_code 22 = .ok (.getfield 13, 3) by decide +kernel) ?_
  refine lv_iconst (v := 1) hx hb (show decode prog_1_method_3_code 25 = .ok (.iconst 1, 1) by decide +kernel) (by decide +kernel) ?_
  refine lv_iadd hx hb (show decode prog_1_method_3_code 26 = .ok (.iadd, 1) by decide +kernel) ?_
  refine xtopi (v := 19) (by decide +kernel) ?_
  refine va_put (D := D) (ci := 0) (v := .int 19) (ty := .int) (C := R_SE) (T := F_SE) (N := 14) hx hb hts i_SE t_SE t_SE_ok n_SE hown hK hP hD hS 0 rfl rfl 1 (by decide +kernel) (hts _ w_43) (fun _ h9 => h9) rfl (by decide +kernel) rfl rfl (by simp [hfl]) (show decode prog_1_method_3_code 27 = .ok (.putfield 13, 3) by decide +kernel) (fun H locs hP hD hS => ?_)
  have hP : va_P D cl [(h0, .inr (0, (((fs.set 1 (.int 17)).set 1 (.int 18)).set 1 (.int 19)))), (q0, .inl (cA0, 80, .inl g_12))] H := hP
  have hD : va_D _ [(h0, .inr (0, (((fs.set 1 (.int 17)).set 1 (.int 18)).set 1 (.int 19)))), (q0, .inl (cA0, 80, .inl g_12))] := hD
  refine lv_iinc (v := 0) (lv' := [(2, .int 0), (0, .ref h0), (1, .int p0)]) hx hb (show decode prog_1_method_3_code 30 = .ok (.iinc 2 (-8), 3) by decide +kernel) hl (k := 0) rfl (by decide +kernel) (by decide +kernel) rfl (fun ls hl => ?_)
  refine lv_goto (tgt := 3) hx hb (show decode prog_1_method_3_code 33 = .ok (.goto (-30), 3) by decide +kernel) (by decide +kernel) ?_
  refine lv_iload_n hx hb (show decode prog_1_method_3_code 3 = .ok (.iload_n 2, 1) by decide +kernel) rfl (lv_at hl 0 rfl) ?_
  refine lv_if_lt (tgt := 36) hx hb (show decode prog_1_method_3_code 4 = .ok (.ifCond .lt 32, 3) by decide +kernel) (by decide +kernel) (fun c_13 => absurd c_13 (by decide +kernel)) (fun c_13 => ?_)
  refine lv_aload_n hx hb (show decode prog_1_method_3_code 7 = .ok (.aload_n 0, 1) by decide +kernel) rfl (lv_at hl 1 rfl) ?_
  refine va_get (D := D) (ci := 0) (v := .ref q0) (C := R_SE) (T := F_SE) (N := 14) hx hb hts i_SE hown hK hP 0 rfl rfl 0 (by decide +kernel) (hts _ w_42) (fun _ h9 => h9) (xg_ne (by decide +kernel) (xg_ne (by decide +kernel) (xg_ne (by decide +kernel) ha0))) (show decode prog_1_method_3_code 8 = .ok (.getfield 9, 3) by decide +kernel) ?_
  refine lv_aload_n hx hb (show decode prog_1_method_3_code 11 = .ok (.aload_n 0, 1) by decide +kernel) rfl (lv_at hl 1 rfl) ?_
  refine va_get (D := D) (ci := 0) (v := .int 19) (C := R_SE) (T := F_SE) (N := 14) hx hb hts i_SE hown hK hP 0 rfl rfl 1 (by decide +kernel) (hts _ w_43) (fun _ h9 => h9) (xg_eq (by simp [hfl])) (show decode prog_1_method_3_code 12 = .ok (.getfield 13, 3) by decide +kernel) ?_
  refine lv_iload_n hx hb (show decode prog_1_method_3_code 15 = .ok (.iload_n 1, 1) by decide +kernel) rfl (lv_at hl 2 rfl) ?_
  refine lv_iload_n hx hb (show decode prog_1_method_3_code 16 = .ok (.iload_n 2, 1) by decide +kernel) rfl (lv_at hl 0 rfl) ?_
  refine lv_iushr hx hb (show decode prog_1_method_3_code 17 = .ok (.iushr, 1) by decide +kernel) rfl ?_
  refine lv_topi (fun z_14 _ => ?_)
  refine lv_i2b hx hb (show decode prog_1_method_3_code 18 = .ok (.i2b, 1) by decide +kernel) rfl ?_
  refine lv_topi (fun z_15 _ => ?_)
  refine va_bast hx hb hK hP hD hS 1 0 rfl rfl (by unfold vp_in; decide) (show decode prog_1_method_3_code 19 = .ok (.bastore, 1) by decide +kernel) (fun H locs hP hD hS => ?_)
  obtain ⟨g_16, hP, hD⟩ : ∃ g_16 : Nat → Int32, va_P D cl [(h0, .inr (0, (((fs.set 1 (.int 17)).set 1 (.int 18)).set 1 (.int 19)))), (q0, .inl (cA0, 80, .inl g_16))] H ∧ va_D _ [(h0, .inr (0, (((fs.set 1 (.int 17)).set 1 (.int 18)).set 1 (.int 19)))), (q0, .inl (cA0, 80, .inl g_16))] := ⟨_, hP, hD⟩
  refine lv_aload_n hx hb (show decode prog_1_method_3_code 20 = .ok (.aload_n 0, 1) by decide +kernel) rfl (lv_at hl 1 rfl) ?_
  refine lv_dup hx hb (show decode prog_1_method_3_code 21 = .ok (.dup, 1) by decide +kernel) rfl ?_
  refine va_get (D := D) (ci := 0) (v := .int 19) (C := R_SE) (T := F_SE) (N := 14) hx hb hts i_SE hown hK hP 0 rfl rfl 1 (by decide +kernel) (hts _ w_43) (fun _ h9 => h9) (xg_eq (by simp [hfl])) (show decode prog_1_method_3_code 22 = .ok (.getfield 13, 3) by decide +kernel) ?_
  refine lv_iconst (v := 1) hx hb (show decode prog_1_method_3_code 25 = .ok (.iconst 1, 1) by decide +kernel) (by decide +kernel) ?_
  refine lv_iadd hx hb (show decode prog_1_method_3_code 26 = .ok (.iadd, 1) by decide +kernel) ?_
  refine xtopi (v := 20) (by decide +kernel) ?_
  refine va_put (D := D) (ci := 0) (v := .int 20) (ty := .int) (C := R_SE) (T := F_SE) (N := 14) hx hb hts i_SE t_SE t_SE_ok n_SE hown hK hP hD hS 0 rfl rfl 1 (by decide +kernel) (hts _ w_43) (fun _ h9 => h9) rfl (by decide +kernel) rfl rfl (by simp [hfl]) (show decode prog_1_method_3_code 27 = .ok (.putfield 13, 3) by decide +kernel) (fun H locs hP hD hS => ?_)
  have hP : va_P D cl [(h0, .inr (0, ((((fs.set 1 (.int 17)).set 1 (.int 18)).set 1 (.int 19)).set 1 (.int 20)))), (q0, .inl (cA0, 80, .inl g_16))] H := hP
  have hD : va_D _ [(h0, .inr (0, ((((fs.set 1 (.int 17)).set 1 (.int 18)).set 1 (.int 19)).set 1 (.int 20)))), (q0, .inl (cA0, 80, .inl g_16))] := hD
  refine lv_iinc (v := (-8)) (lv' := [(2, .int (-8)), (0, .ref h0), (1, .int p0)]) hx hb (show decode prog_1_method_3_code 30 = .ok (.iinc 2 (-8), 3) by decide +kernel) hl (k := 0) rfl (by decide +kernel) (by decide +kernel) rfl (fun ls hl => ?_)
  refine lv_goto (tgt := 3) hx hb (show decode prog_1_method_3_code 33 = .ok (.goto (-30), 3) by decide +kernel) (by decide +kernel) ?_
  refine lv_iload_n hx hb (show decode prog_1_method_3_code 3 = .ok (.iload_n 2, 1) by decide +kernel) rfl (lv_at hl 0 rfl) ?_
  refine lv_if_lt (tgt := 36) hx hb (show decode prog_1_method_3_code 4 = .ok (.ifCond .lt 32, 3) by decide +kernel) (by decide +kernel) (fun c_17 => ?_) (fun c_17 => absurd c_17 (by decide +kernel))
  exact W.vret hx hb hr (fun t ht hW => ⟨⟨g_16, rfl, trivial, by rw [ht]; exact hP, va_K.moved hW.alike hK, hD⟩, hS.F ht⟩) hS.2.2 (show decode prog_1_method_3_code 36 = .ok (.return_, 1) by decide +kernel)
set_option maxHeartbeats 4000000 in
set_option maxRecDepth 100000 in
/-- SignalEngine.feed -/
theorem c_SE_feed0 (l : Launch) (D : va_G) (ad : Nat → Nat) (de sz : Nat) (h0 : Nat) (fs : List Value) (hfl : fs.length = 14) (hf1 : xfa fs 1 (.int 0)) (q0 : Nat) (cA0 : ClassId) (f0 : Nat → Int32) (ha0 : xfa fs 0 (.ref q0)) (p0 : Int32) (p1 : Int32) (p2 : Int32) (p3 : Int32) (p4 : Int32) : Met l ⟨"SignalEngine", "feed", "(IIIII)I"⟩ (tw ⟨"SignalEngine", "feed", "(IIIII)I"⟩ prog_1_method_2_code 6 (some (.int))) { frames := 1, cells := 0, slots := 0, locals := 22 } (va_Pc [.ref h0, .int p0, .int p1, .int p2, .int p3, .int p4] (xp ad de D [(h0, .inr (0, fs)), (q0, .inl (cA0, 80, .inl f0))] [(cA0, .byte)] sz)) (va_Qi (fun (r : Int32) (_ : (Nat → Int32)) => r = 20) (fun (u : (Nat → Int32)) t => xq D (va_A [(h0, .inr (0, fs)), (q0, .inl (cA0, 80, .inl f0))] sz) [(h0, .inr (0, (((((((((((((((((((((fs.set 1 (.int 1)).set 1 (.int 2)).set 1 (.int 3)).set 1 (.int 4)).set 1 (.int 5)).set 1 (.int 6)).set 1 (.int 7)).set 1 (.int 8)).set 1 (.int 9)).set 1 (.int 10)).set 1 (.int 11)).set 1 (.int 12)).set 1 (.int 13)).set 1 (.int 14)).set 1 (.int 15)).set 1 (.int 16)).set 1 (.int 17)).set 1 (.int 18)).set 1 (.int 19)).set 1 (.int 20)).set 2 (.int 1)))), (q0, .inl (cA0, 80, .inl u))] [(cA0, .byte)] t) (va_A [(h0, .inr (0, fs)), (q0, .inl (cA0, 80, .inl f0))] sz)) 0 0 (va_A [(h0, .inr (0, fs)), (q0, .inl (cA0, 80, .inl f0))] sz) := by
  refine xMet (by decide +kernel) (Nat.le_of_ble_eq_true rfl) ?_
  intro p e s m below meth c hx hb hr hlocks hin hml hown hts hsz hP hK hD hE hA ls hl
  have hS : va_S _ s.heap s.heap [] := va_S.rf (A := va_A [(h0, .inr (0, fs)), (q0, .inl (cA0, 80, .inl f0))] sz)
  have hl : lv_has ls 6 [(0, .ref h0), (1, .int p0), (2, .int p1), (3, .int p2), (4, .int p3), (5, .int p4)] := hl
  refine lv_aload_n hx hb (show decode prog_1_method_2_code 0 = .ok (.aload_n 0, 1) by decide +kernel) rfl (lv_at hl 0 rfl) ?_
  refine va_get (D := D) (ci := 0) (v := .int 0) (C := R_SE) (T := F_SE) (N := 14) hx hb hts i_SE hown hK hP 0 rfl rfl 1 (by decide +kernel) (hts _ w_43) (fun _ h9 => h9) hf1 (show decode prog_1_method_2_code 1 = .ok (.getfield 13, 3) by decide +kernel) ?_
  refine lv_bipush (v := 20) hx hb (show decode prog_1_method_2_code 4 = .ok (.bipush 20, 2) by decide +kernel) (by decide +kernel) ?_
  refine lv_iadd hx hb (show decode prog_1_method_2_code 6 = .ok (.iadd, 1) by decide +kernel) ?_
  refine xtopi (v := 20) (by decide +kernel) ?_
  refine lv_ldc (v := 32768) hx hb hown (hts _ w_90) (show decode prog_1_method_2_code 7 = .ok (.ldc 17, 2) by decide +kernel) ?_
  refine lv_icmp_le (tgt := 14) hx hb (show decode prog_1_method_2_code 9 = .ok (.if_icmp .le 5, 3) by decide +kernel) (by decide +kernel) (fun c_1 => ?_) (fun c_1 => absurd c_1 (by decide +kernel))
  refine lv_aload_n hx hb (show decode prog_1_method_2_code 14 = .ok (.aload_n 0, 1) by decide +kernel) rfl (lv_at hl 0 rfl) ?_
  refine va_get (D := D) (ci := 0) (v := .int 0) (C := R_SE) (T := F_SE) (N := 14) hx hb hts i_SE hown hK hP 0 rfl rfl 1 (by decide +kernel) (hts _ w_43) (fun _ h9 => h9) hf1 (show decode prog_1_method_2_code 15 = .ok (.getfield 13, 3) by decide +kernel) ?_
  refine lv_bipush (v := 20) hx hb (show decode prog_1_method_2_code 18 = .ok (.bipush 20, 2) by decide +kernel) (by decide +kernel) ?_
  refine lv_iadd hx hb (show decode prog_1_method_2_code 20 = .ok (.iadd, 1) by decide +kernel) ?_
  refine xtopi (v := 20) (by decide +kernel) ?_
  refine lv_aload_n hx hb (show decode prog_1_method_2_code 21 = .ok (.aload_n 0, 1) by decide +kernel) rfl (lv_at hl 0 rfl) ?_
  refine va_get (D := D) (ci := 0) (v := .ref q0) (C := R_SE) (T := F_SE) (N := 14) hx hb hts i_SE hown hK hP 0 rfl rfl 0 (by decide +kernel) (hts _ w_42) (fun _ h9 => h9) ha0 (show decode prog_1_method_2_code 22 = .ok (.getfield 9, 3) by decide +kernel) ?_
  refine va_alen (v := 80) hx hb hK hP 1 0 rfl rfl rfl (show decode prog_1_method_2_code 25 = .ok (.arraylength, 1) by decide +kernel) ?_
  refine lv_icmp_le (tgt := 47) hx hb (show decode prog_1_method_2_code 26 = .ok (.if_icmp .le 21, 3) by decide +kernel) (by decide +kernel) (fun c_2 => ?_) (fun c_2 => absurd c_2 (by decide +kernel))
  refine lv_aload_n hx hb (show decode prog_1_method_2_code 47 = .ok (.aload_n 0, 1) by decide +kernel) rfl (lv_at hl 0 rfl) ?_
  refine lv_iload_n hx hb (show decode prog_1_method_2_code 48 = .ok (.iload_n 1, 1) by decide +kernel) rfl (lv_at hl 1 rfl) ?_
  refine xkv (wr := []) (xrV (As := [.int p0]) (rest := []) ⟨hx, hb, hml, hown, hts⟩ (c_SE_append0 l D ad de s.heap.size h0 fs hfl hf1 q0 cA0 f0 ha0 p0) w_110 w_1 w_107 w_109 wp_0 rfl rfl ⟨by decide +kernel, by decide +kernel, rfl⟩ ⟨by decide +kernel, by decide +kernel⟩ hP hK hD hE hS hA [0, 1] [0] rfl (by decide +kernel) rfl ⟨0, 0, _, _, rfl, rfl, rfl⟩ hl.1 rfl (Nat.le_of_ble_eq_true rfl) (show decode prog_1_method_2_code 49 = .ok (.invokevirtual 24, 3) by decide +kernel) ⟨by decide +kernel, by decide +kernel⟩) hP hK hD hS hA [0, 1] [] rfl rfl (by decide +kernel) (by decide +kernel) (fun u_4 H locs hw_5 hP hK hD hS => ?_)
  have hP : va_P D cl [(h0, .inr (0, ((((fs.set 1 (.int 1)).set 1 (.int 2)).set 1 (.int 3)).set 1 (.int 4)))), (q0, .inl (cA0, 80, .inl u_4))] H := hP
  have hD : va_D _ [(h0, .inr (0, ((((fs.set 1 (.int 1)).set 1 (.int 2)).set 1 (.int 3)).set 1 (.int 4)))), (q0, .inl (cA0, 80, .inl u_4))] := hD
  have hK : va_K D cl [(cA0, .byte), (cA0, .byte)] s := hK
  refine W.widen (k := 0) (n := 0) (by decide +kernel) (by decide +kernel) ?_
  refine lv_aload_n hx hb (show decode prog_1_method_2_code 52 = .ok (.aload_n 0, 1) by decide +kernel) rfl (lv_at hl 0 rfl) ?_
  refine lv_iload_n hx hb (show decode prog_1_method_2_code 53 = .ok (.iload_n 2, 1) by decide +kernel) rfl (lv_at hl 2 rfl) ?_
  refine xkv (wr := []) (xrV (As := [.int p1]) (rest := []) ⟨hx, hb, hml, hown, hts⟩ (c_SE_append1 l D ad de H.size h0 ((((fs.set 1 (.int 1)).set 1 (.int 2)).set 1 (.int 3)).set 1 (.int 4)) (by simp [hfl]) (xg_eq (by simp [hfl])) q0 cA0 u_4 (xg_ne (by decide +kernel) (xg_ne (by decide +kernel) (xg_ne (by decide +kernel) (xg_ne (by decide +kernel) ha0)))) p1) w_110 w_1 w_107 w_109 wp_0 rfl rfl ⟨by decide +kernel, by decide +kernel, rfl⟩ ⟨by decide +kernel, by decide +kernel⟩ hP hK hD hE hS hA [0, 1] [0] rfl (by decide +kernel) rfl ⟨0, 0, _, _, rfl, rfl, rfl⟩ hl.1 rfl (Nat.le_of_ble_eq_true rfl) (show decode prog_1_method_2_code 54 = .ok (.invokevirtual 24, 3) by decide +kernel) ⟨by decide +kernel, by decide +kernel⟩) hP hK hD hS hA [0, 1] [] rfl rfl (by decide +kernel) (by decide +kernel) (fun u_7 H locs hw_8 hP hK hD hS => ?_)
  have hP : va_P D cl [(h0, .inr (0, ((((((((fs.set 1 (.int 1)).set 1 (.int 2)).set 1 (.int 3)).set 1 (.int 4)).set 1 (.int 5)).set 1 (.int 6)).set 1 (.int 7)).set 1 (.int 8)))), (q0, .inl (cA0, 80, .inl u_7))] H := hP
  have hD : va_D _ [(h0, .inr (0, ((((((((fs.set 1 (.int 1)).set 1 (.int 2)).set 1 (.int 3)).set 1 (.int 4)).set 1 (.int 5)).set 1 (.int 6)).set 1 (.int 7)).set 1 (.int 8)))), (q0, .inl (cA0, 80, .inl u_7))] := hD
  have hK : va_K D cl [(cA0, .byte), (cA0, .byte), (cA0, .byte)] s := hK
  refine W.widen (k := 0) (n := 0) (by decide +kernel) (by decide +kernel) ?_
  refine lv_aload_n hx hb (show decode prog_1_method_2_code 57 = .ok (.aload_n 0, 1) by decide +kernel) rfl (lv_at hl 0 rfl) ?_
  refine lv_iload_n hx hb (show decode prog_1_method_2_code 58 = .ok (.iload_n 3, 1) by decide +kernel) rfl (lv_at hl 3 rfl) ?_
  refine xkv (wr := []) (xrV (As := [.int p2]) (rest := []) ⟨hx, hb, hml, hown, hts⟩ (c_SE_append2 l D ad de H.size h0 ((((((((fs.set 1 (.int 1)).set 1 (.int 2)).set 1 (.int 3)).set 1 (.int 4)).set 1 (.int 5)).set 1 (.int 6)).set 1 (.int 7)).set 1 (.int 8)) (by simp [hfl]) (xg_eq (by simp [hfl])) q0 cA0 u_7 (xg_ne (by decide +kernel) (xg_ne (by decide +kernel) (xg_ne (by decide +kernel) (xg_ne (by decide +kernel) (xg_ne (by decide +kernel) (xg_ne (by decide +kernel) (xg_ne (by decide +kernel) (xg_ne (by decide +kernel) ha0)))))))) p2) w_110 w_1 w_107 w_109 wp_0 rfl rfl ⟨by decide +kernel, by decide +kernel, rfl⟩ ⟨by decide +kernel, by decide +kernel⟩ hP hK hD hE hS hA [0, 1] [0] rfl (by decide +kernel) rfl ⟨0, 0, _, _, rfl, rfl, rfl⟩ hl.1 rfl (Nat.le_of_ble_eq_true rfl) (show decode prog_1_method_2_code 59 = .ok (.invokevirtual 24, 3) by decide +kernel) ⟨by decide +kernel, by decide +kernel⟩) hP hK hD hS hA [0, 1] [] rfl rfl (by decide +kernel) (by decide +kernel) (fun u_10 H locs hw_11 hP hK hD hS => ?_)
  have hP : va_P D cl [(h0, .inr (0, ((((((((((((fs.set 1 (.int 1)).set 1 (.int 2)).set 1 (.int 3)).set 1 (.int 4)).set 1 (.int 5)).set 1 (.int 6)).set 1 (.int 7)).set 1 (.int 8)).set 1 (.int 9)).set 1 (.int 10)).set 1 (.int 11)).set 1 (.int 12)))), (q0, .inl (cA0, 80, .inl u_10))] H := hP
  have hD : va_D _ [(h0, .inr (0, ((((((((((((fs.set 1 (.int 1)).set 1 (.int 2)).set 1 (.int 3)).set 1 (.int 4)).set 1 (.int 5)).set 1 (.int 6)).set 1 (.int 7)).set 1 (.int 8)).set 1 (.int 9)).set 1 (.int 10)).set 1 (.int 11)).set 1 (.int 12)))), (q0, .inl (cA0, 80, .inl u_10))] := hD
  have hK : va_K D cl [(cA0, .byte), (cA0, .byte), (cA0, .byte), (cA0, .byte)] s := hK
  refine W.widen (k := 0) (n := 0) (by decide +kernel) (by decide +kernel) ?_
  refine lv_aload_n hx hb (show decode prog_1_method_2_code 62 = .ok (.aload_n 0, 1) by decide +kernel) rfl (lv_at hl 0 rfl) ?_
  refine lv_iload hx hb (show decode prog_1_method_2_code 63 = .ok (.iload 4, 2) by decide +kernel) (lv_at hl 4 rfl) ?_
  refine xkv (wr := []) (xrV (As := [.int p3]) (rest := []) ⟨hx, hb, hml, hown, hts⟩ (c_SE_append3 l D ad de H.size h0 ((((((((((((fs.set 1 (.int 1)).set 1 (.int 2)).set 1 (.int 3)).set 1 (.int 4)).set 1 (.int 5)).set 1 (.int 6)).set 1 (.int 7)).set 1 (.int 8)).set 1 (.int 9)).set 1 (.int 10)).set 1 (.int 11)).set 1 (.int 12)) (by simp [hfl]) (xg_eq (by simp [hfl])) q0 cA0 u_10 (xg_ne (by decide +kernel) (xg_ne (by decide +kernel) (xg_ne (by decide +kernel) (xg_ne (by decide +kernel) (xg_ne (by decide +kernel) (xg_ne (by decide +kernel) (xg_ne (by decide +kernel) (xg_ne (by decide +kernel) (xg_ne (by decide +kernel) (xg_ne (by decide +kernel) (xg_ne (by decide +kernel) (xg_ne (by decide +kernel) ha0)))))))))))) p3) w_110 w_1 w_107 w_109 wp_0 rfl rfl ⟨by decide +kernel, by decide +kernel, rfl⟩ ⟨by decide +kernel, by decide +kernel⟩ hP hK hD hE hS hA [0, 1] [0] rfl (by decide +kernel) rfl ⟨0, 0, _, _, rfl, rfl, rfl⟩ hl.1 rfl (Nat.le_of_ble_eq_true rfl) (show decode prog_1_method_2_code 65 = .ok (.invokevirtual 24, 3) by decide +kernel) ⟨by decide +kernel, by decide +kernel⟩) hP hK hD hS hA [0, 1] [] rfl rfl (by decide +kernel) (by decide +kernel) (fun u_13 H locs hw_14 hP hK hD hS => ?_)
  have hP : va_P D cl [(h0, .inr (0, ((((((((((((((((fs.set 1 (.int 1)).set 1 (.int 2)).set 1 (.int 3)).set 1 (.int 4)).set 1 (.int 5)).set 1 (.int 6)).set 1 (.int 7)).set 1 (.int 8)).set 1 (.int 9)).set 1 (.int 10)).set 1 (.int 11)).set 1 (.int 12)).set 1 (.int 13)).set 1 (.int 14)).set 1 (.int 15)).set 1 (.int 16)))), (q0, .inl (cA0, 80, .inl u_13))] H := hP
  have hD : va_D _ [(h0, .inr (0, ((((((((((((((((fs.set 1 (.int 1)).set 1 (.int 2)).set 1 (.int 3)).set 1 (.int 4)).set 1 (.int 5)).set 1 (.int 6)).set 1 (.int 7)).set 1 (.int 8)).set 1 (.int 9)).set 1 (.int 10)).set 1 (.int 11)).set 1 (.int 12)).set 1 (.int 13)).set 1 (.int 14)).set 1 (.int 15)).set 1 (.int 16)))), (q0, .inl (cA0, 80, .inl u_13))] := hD
  have hK : va_K D cl [(cA0, .byte), (cA0, .byte), (cA0, .byte), (cA0, .byte), (cA0, .byte)] s := hK
  refine W.widen (k := 0) (n := 0) (by decide +kernel) (by decide +kernel) ?_
  refine lv_aload_n hx hb (show decode prog_1_method_2_code 68 = .ok (.aload_n 0, 1) by decide +kernel) rfl (lv_at hl 0 rfl) ?_
  refine lv_iload hx hb (show decode prog_1_method_2_code 69 = .ok (.iload 5, 2) by decide +kernel) (lv_at hl 5 rfl) ?_
  refine xkv (wr := []) (xrV (As := [.int p4]) (rest := []) ⟨hx, hb, hml, hown, hts⟩ (c_SE_append4 l D ad de H.size h0 ((((((((((((((((fs.set 1 (.int 1)).set 1 (.int 2)).set 1 (.int 3)).set 1 (.int 4)).set 1 (.int 5)).set 1 (.int 6)).set 1 (.int 7)).set 1 (.int 8)).set 1 (.int 9)).set 1 (.int 10)).set 1 (.int 11)).set 1 (.int 12)).set 1 (.int 13)).set 1 (.int 14)).set 1 (.int 15)).set 1 (.int 16)) (by simp [hfl]) (xg_eq (by simp [hfl])) q0 cA0 u_13 (xg_ne (by decide +kernel) (xg_ne (by decide +kernel) (xg_ne (by decide +kernel) (xg_ne (by decide +kernel) (xg_ne (by decide +kernel) (xg_ne (by decide +kernel) (xg_ne (by decide +kernel) (xg_ne (by decide +kernel) (xg_ne (by decide +kernel) (xg_ne (by decide +kernel) (xg_ne (by decide +kernel) (xg_ne (by decide +kernel) (xg_ne (by decide +kernel) (xg_ne (by decide +kernel) (xg_ne (by decide +kernel) (xg_ne (by decide +kernel) ha0)))))))))))))))) p4) w_110 w_1 w_107 w_109 wp_0 rfl rfl ⟨by decide +kernel, by decide +kernel, rfl⟩ ⟨by decide +kernel, by decide +kernel⟩ hP hK hD hE hS hA [0, 1] [0] rfl (by decide +kernel) rfl ⟨0, 0, _, _, rfl, rfl, rfl⟩ hl.1 rfl (Nat.le_of_ble_eq_true rfl) (show decode prog_1_method_2_code 71 = .ok (.invokevirtual 24, 3) by decide +kernel) ⟨by decide +kernel, by decide +kernel⟩) hP hK hD hS hA [0, 1] [] rfl rfl (by decide +kernel) (by decide +kernel) (fun u_16 H locs hw_17 hP hK hD hS => ?_)
  have hP : va_P D cl [(h0, .inr (0, ((((((((((((((((((((fs.set 1 (.int 1)).set 1 (.int 2)).set 1 (.int 3)).set 1 (.int 4)).set 1 (.int 5)).set 1 (.int 6)).set 1 (.int 7)).set 1 (.int 8)).set 1 (.int 9)).set 1 (.int 10)).set 1 (.int 11)).set 1 (.int 12)).set 1 (.int 13)).set 1 (.int 14)).set 1 (.int 15)).set 1 (.int 16)).set 1 (.int 17)).set 1 (.int 18)).set 1 (.int 19)).set 1 (.int 20)))), (q0, .inl (cA0, 80, .inl u_16))] H := hP
  have hD : va_D _ [(h0, .inr (0, ((((((((((((((((((((fs.set 1 (.int 1)).set 1 (.int 2)).set 1 (.int 3)).set 1 (.int 4)).set 1 (.int 5)).set 1 (.int 6)).set 1 (.int 7)).set 1 (.int 8)).set 1 (.int 9)).set 1 (.int 10)).set 1 (.int 11)).set 1 (.int 12)).set 1 (.int 13)).set 1 (.int 14)).set 1 (.int 15)).set 1 (.int 16)).set 1 (.int 17)).set 1 (.int 18)).set 1 (.int 19)).set 1 (.int 20)))), (q0, .inl (cA0, 80, .inl u_16))] := hD
  have hK : va_K D cl [(cA0, .byte), (cA0, .byte), (cA0, .byte), (cA0, .byte), (cA0, .byte), (cA0, .byte)] s := hK
  refine W.widen (k := 0) (n := 0) (by decide +kernel) (by decide +kernel) ?_
  refine lv_aload_n hx hb (show decode prog_1_method_2_code 74 = .ok (.aload_n 0, 1) by decide +kernel) rfl (lv_at hl 0 rfl) ?_
  refine lv_iconst (v := 1) hx hb (show decode prog_1_method_2_code 75 = .ok (.iconst 1, 1) by decide +kernel) (by decide +kernel) ?_
  refine va_put (D := D) (ci := 0) (v := .int 1) (ty := .boolean) (C := R_SE) (T := F_SE) (N := 14) hx hb hts i_SE t_SE t_SE_ok n_SE hown hK hP hD hS 0 rfl rfl 2 (by decide +kernel) (hts _ w_44) (fun _ h9 => h9) rfl (by decide +kernel) (by decide +kernel) rfl (by simp [hfl]) (show decode prog_1_method_2_code 76 = .ok (.putfield 28, 3) by decide +kernel) (fun H locs hP hD hS => ?_)
  have hP : va_P D cl [(h0, .inr (0, (((((((((((((((((((((fs.set 1 (.int 1)).set 1 (.int 2)).set 1 (.int 3)).set 1 (.int 4)).set 1 (.int 5)).set 1 (.int 6)).set 1 (.int 7)).set 1 (.int 8)).set 1 (.int 9)).set 1 (.int 10)).set 1 (.int 11)).set 1 (.int 12)).set 1 (.int 13)).set 1 (.int 14)).set 1 (.int 15)).set 1 (.int 16)).set 1 (.int 17)).set 1 (.int 18)).set 1 (.int 19)).set 1 (.int 20)).set 2 (.int 1)))), (q0, .inl (cA0, 80, .inl u_16))] H := hP
  have hD : va_D _ [(h0, .inr (0, (((((((((((((((((((((fs.set 1 (.int 1)).set 1 (.int 2)).set 1 (.int 3)).set 1 (.int 4)).set 1 (.int 5)).set 1 (.int 6)).set 1 (.int 7)).set 1 (.int 8)).set 1 (.int 9)).set 1 (.int 10)).set 1 (.int 11)).set 1 (.int 12)).set 1 (.int 13)).set 1 (.int 14)).set 1 (.int 15)).set 1 (.int 16)).set 1 (.int 17)).set 1 (.int 18)).set 1 (.int 19)).set 1 (.int 20)).set 2 (.int 1)))), (q0, .inl (cA0, 80, .inl u_16))] := hD
  refine lv_aload_n hx hb (show decode prog_1_method_2_code 79 = .ok (.aload_n 0, 1) by decide +kernel) rfl (lv_at hl 0 rfl) ?_
  refine va_get (D := D) (ci := 0) (v := .int 20) (C := R_SE) (T := F_SE) (N := 14) hx hb hts i_SE hown hK hP 0 rfl rfl 1 (by decide +kernel) (hts _ w_43) (fun _ h9 => h9) (xg_ne (by decide +kernel) (xg_eq (by simp [hfl]))) (show decode prog_1_method_2_code 80 = .ok (.getfield 13, 3) by decide +kernel) ?_
  exact W.iret (v := 20) hx hb hr (fun t ht hW => ⟨⟨20, u_16, rfl, rfl, by rw [ht]; exact hP, va_K.moved hW.alike (hK.sub [0] rfl), hD⟩, hS.F ht⟩) hS.2.2 (show decode prog_1_method_2_code 83 = .ok (.ireturn, 1) by decide +kernel)
set_option maxHeartbeats 4000000 in
set_option maxRecDepth 100000 in
/-- SignalEngineModel.feed -/
theorem c_MD_feed0 (l : Launch) (D : va_G) (ad : Nat → Nat) (de sz : Nat) (h0 : Nat) (fs : List Value) (hfl : fs.length = 107) (hf2 : xfa fs 2 (.int 0)) (q0 : Nat) (cA0 : ClassId) (f0 : Nat → Int32) (ha0 : xfa fs 1 (.ref q0)) (p0 : Int32) (p1 : Int32) (p2 : Int32) (p3 : Int32) (p4 : Int32) : Met l ⟨"SignalEngineModel", "feed", "(IIIII)I"⟩ (tw ⟨"SignalEngineModel", "feed", "(IIIII)I"⟩ prog_15_method_4_code 8 (some (.int))) { frames := 0, cells := 0, slots := 0, locals := 0 } (va_Pc [.ref h0, .int p0, .int p1, .int p2, .int p3, .int p4] (xp ad de D [(h0, .inr (1, fs)), (q0, .inl (cA0, 32768, .inl f0))] [(cA0, .byte)] sz)) (va_Qi (fun (r : Int32) (_ : (Nat → Int32)) => r = 20) (fun (u : (Nat → Int32)) t => xq D (va_A [(h0, .inr (1, fs)), (q0, .inl (cA0, 32768, .inl f0))] sz) [(h0, .inr (1, (((fs.set 0 (.int 0)).set 2 (.int 20)).set 3 (.int 1)))), (q0, .inl (cA0, 32768, .inl u))] [(cA0, .byte)] t) (va_A [(h0, .inr (1, fs)), (q0, .inl (cA0, 32768, .inl f0))] sz)) 0 0 (va_A [(h0, .inr (1, fs)), (q0, .inl (cA0, 32768, .inl f0))] sz) := by
  refine xMet (by decide +kernel) (Nat.le_of_ble_eq_true rfl) ?_
  intro p e s m below meth c hx hb hr hlocks hin hml hown hts hsz hP hK hD hE hA ls hl
  have hS : va_S _ s.heap s.heap [] := va_S.rf (A := va_A [(h0, .inr (1, fs)), (q0, .inl (cA0, 32768, .inl f0))] sz)
  have hl : lv_has ls 8 [(0, .ref h0), (1, .int p0), (2, .int p1), (3, .int p2), (4, .int p3), (5, .int p4)] := hl
  refine lv_aload_n hx hb (show decode prog_15_method_4_code 0 = .ok (.aload_n 0, 1) by decide +kernel) rfl (lv_at hl 0 rfl) ?_
  refine lv_iconst (v := 0) hx hb (show decode prog_15_method_4_code 1 = .ok (.iconst 0, 1) by decide +kernel) (by decide +kernel) ?_
  refine va_put (D := D) (ci := 1) (v := .int 0) (ty := .int) (C := R_MD) (T := F_MD) (N := 107) hx hb hts i_MD t_MD t_MD_ok n_MD hown hK hP hD hS 0 rfl rfl 0 (by decide +kernel) (hts _ w_1562) (fun _ h9 => h9) rfl (by decide +kernel) rfl rfl (by simp [hfl]) (show decode prog_15_method_4_code 2 = .ok (.putfield 206, 3) by decide +kernel) (fun H locs hP hD hS => ?_)
  have hP : va_P D cl [(h0, .inr (1, (fs.set 0 (.int 0)))), (q0, .inl (cA0, 32768, .inl f0))] H := hP
  have hD : va_D _ [(h0, .inr (1, (fs.set 0 (.int 0)))), (q0, .inl (cA0, 32768, .inl f0))] := hD
  refine lv_aload_n hx hb (show decode prog_15_method_4_code 5 = .ok (.aload_n 0, 1) by decide +kernel) rfl (lv_at hl 0 rfl) ?_
  refine va_get (D := D) (ci := 1) (v := .int 0) (C := R_MD) (T := F_MD) (N := 107) hx hb hts i_MD hown hK hP 0 rfl rfl 2 (by decide +kernel) (hts _ w_1564) (fun _ h9 => h9) (xg_ne (by decide +kernel) hf2) (show decode prog_15_method_4_code 6 = .ok (.getfield 210, 3) by decide +kernel) ?_
  refine lv_bipush (v := 20) hx hb (show decode prog_15_method_4_code 9 = .ok (.bipush 20, 2) by decide +kernel) (by decide +kernel) ?_
  refine lv_iadd hx hb (show decode prog_15_method_4_code 11 = .ok (.iadd, 1) by decide +kernel) ?_
  refine xtopi (v := 20) (by decide +kernel) ?_
  refine lv_ldc (v := 32768) hx hb hown (hts _ w_1558) (show decode prog_15_method_4_code 12 = .ok (.ldc 9, 2) by decide +kernel) ?_
  refine lv_icmp_le (tgt := 19) hx hb (show decode prog_15_method_4_code 14 = .ok (.if_icmp .le 5, 3) by decide +kernel) (by decide +kernel) (fun c_1 => ?_) (fun c_1 => absurd c_1 (by decide +kernel))
  refine lv_iconst (v := 0) hx hb (show decode prog_15_method_4_code 19 = .ok (.iconst 0, 1) by decide +kernel) (by decide +kernel) ?_
  refine lv_istore (lv' := [(6, .int 0), (0, .ref h0), (1, .int p0), (2, .int p1), (3, .int p2), (4, .int p3), (5, .int p4)]) hx hb (show decode prog_15_method_4_code 20 = .ok (.istore 6, 2) by decide +kernel) hl (by decide +kernel) rfl (fun ls hl => ?_)
  refine lv_iload hx hb (show decode prog_15_method_4_code 22 = .ok (.iload 6, 2) by decide +kernel) (lv_at hl 0 rfl) ?_
  refine lv_bipush (v := 20) hx hb (show decode prog_15_method_4_code 24 = .ok (.bipush 20, 2) by decide +kernel) (by decide +kernel) ?_
  refine lv_icmp_ge (tgt := 109) hx hb (show decode prog_15_method_4_code 26 = .ok (.if_icmp .ge 83, 3) by decide +kernel) (by decide +kernel) (fun c_2 => absurd c_2 (by decide +kernel)) (fun c_2 => ?_)
  refine lv_iload hx hb (show decode prog_15_method_4_code 29 = .ok (.iload 6, 2) by decide +kernel) (lv_at hl 0 rfl) ?_
  refine lv_iconst (v := 4) hx hb (show decode prog_15_method_4_code 31 = .ok (.iconst 4, 1) by decide +kernel) (by decide +kernel) ?_
  refine lv_icmp_ge (tgt := 39) hx hb (show decode prog_15_method_4_code 32 = .ok (.if_icmp .ge 7, 3) by decide +kernel) (by decide +kernel) (fun c_3 => absurd c_3 (by decide +kernel)) (fun c_3 => ?_)
  refine lv_iload_n hx hb (show decode prog_15_method_4_code 35 = .ok (.iload_n 1, 1) by decide +kernel) rfl (lv_at hl 2 rfl) ?_
  refine lv_goto (tgt := 75) hx hb (show decode prog_15_method_4_code 36 = .ok (.goto 39, 3) by decide +kernel) (by decide +kernel) ?_
  refine lv_istore (lv' := [(7, .int p0), (6, .int 0), (0, .ref h0), (1, .int p0), (2, .int p1), (3, .int p2), (4, .int p3), (5, .int p4)]) hx hb (show decode prog_15_method_4_code 75 = .ok (.istore 7, 2) by decide +kernel) hl (by decide +kernel) rfl (fun ls hl => ?_)
  refine lv_aload_n hx hb (show decode prog_15_method_4_code 77 = .ok (.aload_n 0, 1) by decide +kernel) rfl (lv_at hl 2 rfl) ?_
  refine va_get (D := D) (ci := 1) (v := .ref q0) (C := R_MD) (T := F_MD) (N := 107) hx hb hts i_MD hown hK hP 0 rfl rfl 1 (by decide +kernel) (hts _ w_1563) (fun _ h9 => h9) (xg_ne (by decide +kernel) ha0) (show decode prog_15_method_4_code 78 = .ok (.getfield 10, 3) by decide +kernel) ?_
  refine lv_aload_n hx hb (show decode prog_15_method_4_code 81 = .ok (.aload_n 0, 1) by decide +kernel) rfl (lv_at hl 2 rfl) ?_
  refine va_get (D := D) (ci := 1) (v := .int 0) (C := R_MD) (T := F_MD) (N := 107) hx hb hts i_MD hown hK hP 0 rfl rfl 2 (by decide +kernel) (hts _ w_1564) (fun _ h9 => h9) (xg_ne (by decide +kernel) hf2) (show decode prog_15_method_4_code 82 = .ok (.getfield 210, 3) by decide +kernel) ?_
  refine lv_iload hx hb (show decode prog_15_method_4_code 85 = .ok (.iload 6, 2) by decide +kernel) (lv_at hl 1 rfl) ?_
  refine lv_iadd hx hb (show decode prog_15_method_4_code 87 = .ok (.iadd, 1) by decide +kernel) ?_
  refine xtopi (v := 0) (by decide +kernel) ?_
  refine lv_iload hx hb (show decode prog_15_method_4_code 88 = .ok (.iload 7, 2) by decide +kernel) (lv_at hl 0 rfl) ?_
  refine lv_bipush (v := 24) hx hb (show decode prog_15_method_4_code 90 = .ok (.bipush 24, 2) by decide +kernel) (by decide +kernel) ?_
  refine lv_bipush (v := 8) hx hb (show decode prog_15_method_4_code 92 = .ok (.bipush 8, 2) by decide +kernel) (by decide +kernel) ?_
  refine lv_iload hx hb (show decode prog_15_method_4_code 94 = .ok (.iload 6, 2) by decide +kernel) (lv_at hl 1 rfl) ?_
  refine lv_iconst (v := 4) hx hb (show decode prog_15_method_4_code 96 = .ok (.iconst 4, 1) by decide +kernel) (by decide +kernel) ?_
  refine lv_irem hx hb (show decode prog_15_method_4_code 97 = .ok (.irem, 1) by decide +kernel) (by decide +kernel) ?_
  refine xtopi (v := 0) (by decide +kernel) ?_
  refine lv_imul hx hb (show decode prog_15_method_4_code 98 = .ok (.imul, 1) by decide +kernel) ?_
  refine xtopi (v := 0) (by decide +kernel) ?_
  refine lv_isub hx hb (show decode prog_15_method_4_code 99 = .ok (.isub, 1) by decide +kernel) ?_
  refine xtopi (v := 24) (by decide +kernel) ?_
  refine lv_ishr hx hb (show decode prog_15_method_4_code 100 = .ok (.ishr, 1) by decide +kernel) ?_
  refine lv_i2b hx hb (show decode prog_15_method_4_code 101 = .ok (.i2b, 1) by decide +kernel) rfl ?_
  refine lv_topi (fun z_4 _ => ?_)
  refine va_bast hx hb hK hP hD hS 1 0 rfl rfl (by unfold vp_in; decide) (show decode prog_15_method_4_code 102 = .ok (.bastore, 1) by decide +kernel) (fun H locs hP hD hS => ?_)
  obtain ⟨g_5, hP, hD⟩ : ∃ g_5 : Nat → Int32, va_P D cl [(h0, .inr (1, (fs.set 0 (.int 0)))), (q0, .inl (cA0, 32768, .inl g_5))] H ∧ va_D _ [(h0, .inr (1, (fs.set 0 (.int 0)))), (q0, .inl (cA0, 32768, .inl g_5))] := ⟨_, hP, hD⟩
  refine lv_iinc (v := 1) (lv' := [(6, .int 1), (7, .int p0), (0, .ref h0), (1, .int p0), (2, .int p1), (3, .int p2), (4, .int p3), (5, .int p4)]) hx hb (show decode prog_15_method_4_code 103 = .ok (.iinc 6 1, 3) by decide +kernel) hl (k := 1) rfl (by decide +kernel) (by decide +kernel) rfl (fun ls hl => ?_)
  refine lv_goto (tgt := 22) hx hb (show decode prog_15_method_4_code 106 = .ok (.goto (-84), 3) by decide +kernel) (by decide +kernel) ?_
  refine lv_iload hx hb (show decode prog_15_method_4_code 22 = .ok (.iload 6, 2) by decide +kernel) (lv_at hl 0 rfl) ?_
  refine lv_bipush (v := 20) hx hb (show decode prog_15_method_4_code 24 = .ok (.bipush 20, 2) by decide +kernel) (by decide +kernel) ?_
  refine lv_icmp_ge (tgt := 109) hx hb (show decode prog_15_method_4_code 26 = .ok (.if_icmp .ge 83, 3) by decide +kernel) (by decide +kernel) (fun c_6 => absurd c_6 (by decide +kernel)) (fun c_6 => ?_)
  refine lv_iload hx hb (show decode prog_15_method_4_code 29 = .ok (.iload 6, 2) by decide +kernel) (lv_at hl 0 rfl) ?_
  refine lv_iconst (v := 4) hx hb (show decode prog_15_method_4_code 31 = .ok (.iconst 4, 1) by decide +kernel) (by decide +kernel) ?_
  refine lv_icmp_ge (tgt := 39) hx hb (show decode prog_15_method_4_code 32 = .ok (.if_icmp .ge 7, 3) by decide +kernel) (by decide +kernel) (fun c_7 => absurd c_7 (by decide +kernel)) (fun c_7 => ?_)
  refine lv_iload_n hx hb (show decode prog_15_method_4_code 35 = .ok (.iload_n 1, 1) by decide +kernel) rfl (lv_at hl 3 rfl) ?_
  refine lv_goto (tgt := 75) hx hb (show decode prog_15_method_4_code 36 = .ok (.goto 39, 3) by decide +kernel) (by decide +kernel) ?_
  refine lv_istore (lv' := [(7, .int p0), (6, .int 1), (0, .ref h0), (1, .int p0), (2, .int p1), (3, .int p2), (4, .int p3), (5, .int p4)]) hx hb (show decode prog_15_method_4_code 75 = .ok (.istore 7, 2) by decide +kernel) hl (by decide +kernel) rfl (fun ls hl => ?_)
  refine lv_aload_n hx hb (show decode prog_15_method_4_code 77 = .ok (.aload_n 0, 1) by decide +kernel) rfl (lv_at hl 2 rfl) ?_
  refine va_get (D := D) (ci := 1) (v := .ref q0) (C := R_MD) (T := F_MD) (N := 107) hx hb hts i_MD hown hK hP 0 rfl rfl 1 (by decide +kernel) (hts _ w_1563) (fun _ h9 => h9) (xg_ne (by decide +kernel) ha0) (show decode prog_15_method_4_code 78 = .ok (.getfield 10, 3) by decide +kernel) ?_
  refine lv_aload_n hx hb (show decode prog_15_method_4_code 81 = .ok (.aload_n 0, 1) by decide +kernel) rfl (lv_at hl 2 rfl) ?_
  refine va_get (D := D) (ci := 1) (v := .int 0) (C := R_MD) (T := F_MD) (N := 107) hx hb hts i_MD hown hK hP 0 rfl rfl 2 (by decide +kernel) (hts _ w_1564) (fun _ h9 => h9) (xg_ne (by decide +kernel) hf2) (show decode prog_15_method_4_code 82 = .ok (.getfield 210, 3) by decide +kernel) ?_
  refine lv_iload hx hb (show decode prog_15_method_4_code 85 = .ok (.iload 6, 2) by decide +kernel) (lv_at hl 1 rfl) ?_
  refine lv_iadd hx hb (show decode prog_15_method_4_code 87 = .ok (.iadd, 1) by decide +kernel) ?_
  refine xtopi (v := 1) (by decide +kernel) ?_
  refine lv_iload hx hb (show decode prog_15_method_4_code 88 = .ok (.iload 7, 2) by decide +kernel) (lv_at hl 0 rfl) ?_
  refine lv_bipush (v := 24) hx hb (show decode prog_15_method_4_code 90 = .ok (.bipush 24, 2) by decide +kernel) (by decide +kernel) ?_
  refine lv_bipush (v := 8) hx hb (show decode prog_15_method_4_code 92 = .ok (.bipush 8, 2) by decide +kernel) (by decide +kernel) ?_
  refine lv_iload hx hb (show decode prog_15_method_4_code 94 = .ok (.iload 6, 2) by decide +kernel) (lv_at hl 1 rfl) ?_
  refine lv_iconst (v := 4) hx hb (show decode prog_15_method_4_code 96 = .ok (.iconst 4, 1) by decide +kernel) (by decide +kernel) ?_
  refine lv_irem hx hb (show decode prog_15_method_4_code 97 = .ok (.irem, 1) by decide +kernel) (by decide +kernel) ?_
  refine xtopi (v := 1) (by decide +kernel) ?_
  refine lv_imul hx hb (show decode prog_15_method_4_code 98 = .ok (.imul, 1) by decide +kernel) ?_
  refine xtopi (v := 8) (by decide +kernel) ?_
  refine lv_isub hx hb (show decode prog_15_method_4_code 99 = .ok (.isub, 1) by decide +kernel) ?_
  refine xtopi (v := 16) (by decide +kernel) ?_
  refine lv_ishr hx hb (show decode prog_15_method_4_code 100 = .ok (.ishr, 1) by decide +kernel) ?_
  refine lv_i2b hx hb (show decode prog_15_method_4_code 101 = .ok (.i2b, 1) by decide +kernel) rfl ?_
  refine lv_topi (fun z_8 _ => ?_)
  refine va_bast hx hb hK hP hD hS 1 0 rfl rfl (by unfold vp_in; decide) (show decode prog_15_method_4_code 102 = .ok (.bastore, 1) by decide +kernel) (fun H locs hP hD hS => ?_)
  obtain ⟨g_9, hP, hD⟩ : ∃ g_9 : Nat → Int32, va_P D cl [(h0, .inr (1, (fs.set 0 (.int 0)))), (q0, .inl (cA0, 32768, .inl g_9))] H ∧ va_D _ [(h0, .inr (1, (fs.set 0 (.int 0)))), (q0, .inl (cA0, 32768, .inl g_9))] := ⟨_, hP, hD⟩
  refine lv_iinc (v := 2) (lv' := [(6, .int 2), (7, .int p0), (0, .ref h0), (1, .int p0), (2, .int p1), (3, .int p2), (4, .int p3), (5, .int p4)]) hx hb (show decode prog_15_method_4_code 103 = .ok (.iinc 6 1, 3) by decide +kernel) hl (k := 1) rfl (by decide +kernel) (by decide +kernel) rfl (fun ls hl => ?_)
  refine lv_goto (tgt := 22) hx hb (show decode prog_15_method_4_code 106 = .ok (.goto (-84), 3) by decide +kernel) (by decide +kernel) ?_
  refine lv_iload hx hb (show decode prog_15_method_4_code 22 = .ok (.iload 6, 2) by decide +kernel) (lv_at hl 0 rfl) ?_
  refine lv_bipush (v := 20) hx hb (show decode prog_15_method_4_code 24 = .ok (.bipush 20, 2) by decide +kernel) (by decide +kernel) ?_
  refine lv_icmp_ge (tgt := 109) hx hb (show decode prog_15_method_4_code 26 = .ok (.if_icmp .ge 83, 3) by decide +kernel) (by decide +kernel) (fun c_10 => absurd c_10 (by decide +kernel)) (fun c_10 => ?_)
  refine lv_iload hx hb (show decode prog_15_method_4_code 29 = .ok (.iload 6, 2) by decide +kernel) (lv_at hl 0 rfl) ?_
  refine lv_iconst (v := 4) hx hb (show decode prog_15_method_4_code 31 = .ok (.iconst 4, 1) by decide +kernel) (by decide +kernel) ?_
  refine lv_icmp_ge (tgt := 39) hx hb (show decode prog_15_method_4_code 32 = .ok (.if_icmp .ge 7, 3) by decide +kernel) (by decide +kernel) (fun c_11 => absurd c_11 (by decide +kernel)) (fun c_11 => ?_)
  refine lv_iload_n hx hb (show decode prog_15_method_4_code 35 = .ok (.iload_n 1, 1) by decide +kernel) rfl (lv_at hl 3 rfl) ?_
  refine lv_goto (tgt := 75) hx hb (show decode prog_15_method_4_code 36 = .ok (.goto 39, 3) by decide +kernel) (by decide +kernel) ?_
  refine lv_istore (lv' := [(7, .int p0), (6, .int 2), (0, .ref h0), (1, .int p0), (2, .int p1), (3, .int p2), (4, .int p3), (5, .int p4)]) hx hb (show decode prog_15_method_4_code 75 = .ok (.istore 7, 2) by decide +kernel) hl (by decide +kernel) rfl (fun ls hl => ?_)
  refine lv_aload_n hx hb (show decode prog_15_method_4_code 77 = .ok (.aload_n 0, 1) by decide +kernel) rfl (lv_at hl 2 rfl) ?_
  refine va_get (D := D) (ci := 1) (v := .ref q0) (C := R_MD) (T := F_MD) (N := 107) hx hb hts i_MD hown hK hP 0 rfl rfl 1 (by decide +kernel) (hts _ w_1563) (fun _ h9 => h9) (xg_ne (by decide +kernel) ha0) (show decode prog_15_method_4_code 78 = .ok (.getfield 10, 3) by decide +kernel) ?_
  refine lv_aload_n hx hb (show decode prog_15_method_4_code 81 = .ok (.aload_n 0, 1) by decide +kernel) rfl (lv_at hl 2 rfl) ?_
  refine va_get (D := D) (ci := 1) (v := .int 0) (C := R_MD) (T := F_MD) (N := 107) hx hb hts i_MD hown hK hP 0 rfl rfl 2 (by decide +kernel) (hts _ w_1564) (fun _ h9 => h9) (xg_ne (by decide +kernel) hf2) (show decode prog_15_method_4_code 82 = .ok (.getfield 210, 3) by decide +kernel) ?_
  refine lv_iload hx hb (show decode prog_15_method_4_code 85 = .ok (.iload 6, 2) by decide +kernel) (lv_at hl 1 rfl) ?_
  refine lv_iadd hx hb (show decode prog_15_method_4_code 87 = .ok (.iadd, 1) by decide +kernel) ?_
  refine xtopi (v := 2) (by decide +kernel) ?_
  refine lv_iload hx hb (show decode prog_15_method_4_code 88 = .ok (.iload 7, 2) by decide +kernel) (lv_at hl 0 rfl) ?_
  refine lv_bipush (v := 24) hx hb (show decode prog_15_method_4_code 90 = .ok (.bipush 24, 2) by decide +kernel) (by decide +kernel) ?_
  refine lv_bipush (v := 8) hx hb (show decode prog_15_method_4_code 92 = .ok (.bipush 8, 2) by decide +kernel) (by decide +kernel) ?_
  refine lv_iload hx hb (show decode prog_15_method_4_code 94 = .ok (.iload 6, 2) by decide +kernel) (lv_at hl 1 rfl) ?_
  refine lv_iconst (v := 4) hx hb (show decode prog_15_method_4_code 96 = .ok (.iconst 4, 1) by decide +kernel) (by decide +kernel) ?_
  refine lv_irem hx hb (show decode prog_15_method_4_code 97 = .ok (.irem, 1) by decide +kernel) (by decide +kernel) ?_
  refine xtopi (v := 2) (by decide +kernel) ?_
  refine lv_imul hx hb (show decode prog_15_method_4_code 98 = .ok (.imul, 1) by decide +kernel) ?_
  refine xtopi (v := 16) (by decide +kernel) ?_
  refine lv_isub hx hb (show decode prog_15_method_4_code 99 = .ok (.isub, 1) by decide +kernel) ?_
  refine xtopi (v := 8) (by decide +kernel) ?_
  refine lv_ishr hx hb (show decode prog_15_method_4_code 100 = .ok (.ishr, 1) by decide +kernel) ?_
  refine lv_i2b hx hb (show decode prog_15_method_4_code 101 = .ok (.i2b, 1) by decide +kernel) rfl ?_
  refine lv_topi (fun z_12 _ => ?_)
  refine va_bast hx hb hK hP hD hS 1 0 rfl rfl (by unfold vp_in; decide) (show decode prog_15_method_4_code 102 = .ok (.bastore, 1) by decide +kernel) (fun H locs hP hD hS => ?_)
  obtain ⟨g_13, hP, hD⟩ : ∃ g_13 : Nat → Int32, va_P D cl [(h0, .inr (1, (fs.set 0 (.int 0)))), (q0, .inl (cA0, 32768, .inl g_13))] H ∧ va_D _ [(h0, .inr (1, (fs.set 0 (.int 0)))), (q0, .inl (cA0, 32768, .inl g_13))] := ⟨_, hP, hD⟩
  refine lv_iinc (v := 3) (lv' := [(6, .int 3), (7, .int p0), (0, .ref h0), (1, .int p0), (2, .int p1), (3, .int p2), (4, .int p3), (5, .int p4)]) hx hb (show decode prog_15_method_4_code 103 = .ok (.iinc 6 1, 3) by decide +kernel) hl (k := 1) rfl (by decide +kernel) (by decide +kernel) rfl (fun ls hl => ?_)
  refine lv_goto (tgt := 22) hx hb (show decode prog_15_method_4_code 106 = .ok (.goto (-84), 3) by decide +kernel) (by decide +kernel) ?_
  refine lv_iload hx hb (show decode prog_15_method_4_code 22 = .ok (.iload 6, 2) by decide +kernel) (lv_at hl 0 rfl) ?_
  refine lv_bipush (v := 20) hx hb (show decode prog_15_method_4_code 24 = .ok (.bipush 20, 2) by decide +kernel) (by decide +kernel) ?_
  refine lv_icmp_ge (tgt := 109) hx hb (show decode prog_15_method_4_code 26 = .ok (.if_icmp .ge 83, 3) by decide +kernel) (by decide +kernel) (fun c_14 => absurd c_14 (by decide +kernel)) (fun c_14 => ?_)
  refine lv_iload hx hb (show decode prog_15_method_4_code 29 = .ok (.iload 6, 2) by decide +kernel) (lv_at hl 0 rfl) ?_
  refine lv_iconst (v := 4) hx hb (show decode prog_15_method_4_code 31 = .ok (.iconst 4, 1) by decide +kernel) (by decide +kernel) ?_
  refine lv_icmp_ge (tgt := 39) hx hb (show decode prog_15_method_4_code 32 = .ok (.if_icmp .ge 7, 3) by decide +kernel) (by decide +kernel) (fun c_15 => absurd c_15 (by decide +kernel)) (fun c_15 => ?_)
  refine lv_iload_n hx hb (show decode prog_15_method_4_code 35 = .ok (.iload_n 1, 1) by decide +kernel) rfl (lv_at hl 3 rfl) ?_
  refine lv_goto (tgt := 75) hx hb (show decode prog_15_method_4_code 36 = .ok (.goto 39, 3) by decide +kernel) (by decide +kernel) ?_
  refine lv_istore (lv' := [(7, .int p0), (6, .int 3), (0, .ref h0), (1, .int p0), (2, .int p1), (3, .int p2), (4, .int p3), (5, .int p4)]) hx hb (show decode prog_15_method_4_code 75 = .ok (.istore 7, 2) by decide +kernel) hl (by decide +kernel) rfl (fun ls hl => ?_)
  refine lv_aload_n hx hb (show decode prog_15_method_4_code 77 = .ok (.aload_n 0, 1) by decide +kernel) rfl (lv_at hl 2 rfl) ?_
  refine va_get (D := D) (ci := 1) (v := .ref q0) (C := R_MD) (T := F_MD) (N := 107) hx hb hts i_MD hown hK hP 0 rfl rfl 1 (by decide +kernel) (hts _ w_1563) (fun _ h9 => h9) (xg_ne (by decide +kernel) ha0) (show decode prog_15_method_4_code 78 = .ok (.getfield 10, 3) by decide +kernel) ?_
  refine lv_aload_n hx hb (show decode prog_15_method_4_code 81 = .ok (.aload_n 0, 1) by decide +kernel) rfl (lv_at hl 2 rfl) ?_
  refine va_get (D := D) (ci := 1) (v := .int 0) (C := R_MD) (T := F_MD) (N := 107) hx hb hts i_MD hown hK hP 0 rfl rfl 2 (by decide +kernel) (hts _ w_1564) (fun _ h9 => h9) (xg_ne (by decide +kernel) hf2) (show decode prog_15_method_4_code 82 = .ok (.getfield 210, 3) by decide +kernel) ?_
  refine lv_iload hx hb (show decode prog_15_method_4_code 85 = .ok (.iload 6, 2) by decide +kernel) (lv_at hl 1 rfl) ?_
  refine lv_iadd hx hb (show decode prog_15_method_4_code 87 = .ok (.iadd, 1) by decide +kernel) ?_
  refine xtopi (v := 3) (by decide +kernel) ?_
  refine lv_iload hx hb (show decode prog_15_method_4_code 88 = .ok (.iload 7, 2) by decide +kernel) (lv_at hl 0 rfl) ?_
  refine lv_bipush (v := 24) hx hb (show decode prog_15_method_4_code 90 = .ok (.bipush 24, 2) by decide +kernel) (by decide +kernel) ?_
  refine lv_bipush (v := 8) hx hb (show decode prog_15_method_4_code 92 = .ok (.bipush 8, 2) by decide +kernel) (by decide +kernel) ?_
  refine lv_iload hx hb (show decode prog_15_method_4_code 94 = .ok (.iload 6, 2) by decide +kernel) (lv_at hl 1 rfl) ?_
  refine lv_iconst (v := 4) hx hb (show decode prog_15_method_4_code 96 = .ok (.iconst 4, 1) by decide +kernel) (by decide +kernel) ?_
  refine lv_irem hx hb (show decode prog_15_method_4_code 97 = .ok (.irem, 1) by decide +kernel) (by decide +kernel) ?_
  refine xtopi (v := 3) (by decide +kernel) ?_
  refine lv_imul hx hb (show decode prog_15_method_4_code 98 = .ok (.imul, 1) by decide +kernel) ?_
  refine xtopi (v := 24) (by decide +kernel) ?_
  refine lv_isub hx hb (show decode prog_15_method_4_code 99 = .ok (.isub, 1) by decide +kernel) ?_
  refine xtopi (v := 0) (by decide +kernel) ?_
  refine lv_ishr hx hb (show decode prog_15_method_4_code 100 = .ok (.ishr, 1) by decide +kernel) ?_
  refine lv_i2b hx hb (show decode prog_15_method_4_code 101 = .ok (.i2b, 1) by decide +kernel) rfl ?_
  refine lv_topi (fun z_16 _ => ?_)
  refine va_bast hx hb hK hP hD hS 1 0 rfl rfl (by unfold vp_in; decide) (show decode prog_15_method_4_code 102 = .ok (.bastore, 1) by decide +kernel) (fun H locs hP hD hS => ?_)
  obtain ⟨g_17, hP, hD⟩ : ∃ g_17 : Nat → Int32, va_P D cl [(h0, .inr (1, (fs.set 0 (.int 0)))), (q0, .inl (cA0, 32768, .inl g_17))] H ∧ va_D _ [(h0, .inr (1, (fs.set 0 (.int 0)))), (q0, .inl (cA0, 32768, .inl g_17))] := ⟨_, hP, hD⟩
  refine lv_iinc (v := 4) (lv' := [(6, .int 4), (7, .int p0), (0, .ref h0), (1, .int p0), (2, .int p1), (3, .int p2), (4, .int p3), (5, .int p4)]) hx hb (show decode prog_15_method_4_code 103 = .ok (.iinc 6 1, 3) by decide +kernel) hl (k := 1) rfl (by decide +kernel) (by decide +kernel) rfl (fun ls hl => ?_)
  refine lv_goto (tgt := 22) hx hb (show decode prog_15_method_4_code 106 = .ok (.goto (-84), 3) by decide +kernel) (by decide +kernel) ?_
  refine lv_iload hx hb (show decode prog_15_method_4_code 22 = .ok (.iload 6, 2) by decide +kernel) (lv_at hl 0 rfl) ?_
  refine lv_bipush (v := 20) hx hb (show decode prog_15_method_4_code 24 = .ok (.bipush 20, 2) by decide +kernel) (by decide +kernel) ?_
  refine lv_icmp_ge (tgt := 109) hx hb (show decode prog_15_method_4_code 26 = .ok (.if_icmp .ge 83, 3) by decide +kernel) (by decide +kernel) (fun c_18 => absurd c_18 (by decide +kernel)) (fun c_18 => ?_)
  refine lv_iload hx hb (show decode prog_15_method_4_code 29 = .ok (.iload 6, 2) by decide +kernel) (lv_at hl 0 rfl) ?_
  refine lv_iconst (v := 4) hx hb (show decode prog_15_method_4_code 31 = .ok (.iconst 4, 1) by decide +kernel) (by decide +kernel) ?_
  refine lv_icmp_ge (tgt := 39) hx hb (show decode prog_15_method_4_code 32 = .ok (.if_icmp .ge 7, 3) by decide +kernel) (by decide +kernel) (fun c_19 => ?_) (fun c_19 => absurd c_19 (by decide +kernel))
  refine lv_iload hx hb (show decode prog_15_method_4_code 39 = .ok (.iload 6, 2) by decide +kernel) (lv_at hl 0 rfl) ?_
  refine lv_bipush (v := 8) hx hb (show decode prog_15_method_4_code 41 = .ok (.bipush 8, 2) by decide +kernel) (by decide +kernel) ?_
  refine lv_icmp_ge (tgt := 50) hx hb (show decode prog_15_method_4_code 43 = .ok (.if_icmp .ge 7, 3) by decide +kernel) (by decide +kernel) (fun c_20 => absurd c_20 (by decide +kernel)) (fun c_20 => ?_)
  refine lv_iload_n hx hb (show decode prog_15_method_4_code 46 = .ok (.iload_n 2, 1) by decide +kernel) rfl (lv_at hl 4 rfl) ?_
  refine lv_goto (tgt := 75) hx hb (show decode prog_15_method_4_code 47 = .ok (.goto 28, 3) by decide +kernel) (by decide +kernel) ?_
  refine lv_istore (lv' := [(7, .int p1), (6, .int 4), (0, .ref h0), (1, .int p0), (2, .int p1), (3, .int p2), (4, .int p3), (5, .int p4)]) hx hb (show decode prog_15_method_4_code 75 = .ok (.istore 7, 2) by decide +kernel) hl (by decide +kernel) rfl (fun ls hl => ?_)
  refine lv_aload_n hx hb (show decode prog_15_method_4_code 77 = .ok (.aload_n 0, 1) by decide +kernel) rfl (lv_at hl 2 rfl) ?_
  refine va_get (D := D) (ci := 1) (v := .ref q0) (C := R_MD) (T := F_MD) (N := 107) hx hb hts i_MD hown hK hP 0 rfl rfl 1 (by decide +kernel) (hts _ w_1563) (fun _ h9 => h9) (xg_ne (by decide +kernel) ha0) (show decode prog_15_method_4_code 78 = .ok (.getfield 10, 3) by decide +kernel) ?_
  refine lv_aload_n hx hb (show decode prog_15_method_4_code 81 = .ok (.aload_n 0, 1) by decide +kernel) rfl (lv_at hl 2 rfl) ?_
  refine va_get (D := D) (ci := 1) (v := .int 0) (C := R_MD) (T := F_MD) (N := 107) hx hb hts i_MD hown hK hP 0 rfl rfl 2 (by decide +kernel) (hts _ w_1564) (fun _ h9 => h9) (xg_ne (by decide +kernel) hf2) (show decode prog_15_method_4_code 82 = .ok (.getfield 210, 3) by decide +kernel) ?_
  refine lv_iload hx hb (show decode prog_15_method_4_code 85 = .ok (.iload 6, 2) by decide +kernel) (lv_at hl 1 rfl) ?_
  refine lv_iadd hx hb (show decode prog_15_method_4_code 87 = .ok (.iadd, 1) by decide +kernel) ?_
  refine xtopi (v := 4) (by decide +kernel) ?_
  refine lv_iload hx hb (show decode prog_15_method_4_code 88 = .ok (.iload 7, 2) by decide +kernel) (lv_at hl 0 rfl) ?_
  refine lv_bipush (v := 24) hx hb (show decode prog_15_method_4_code 90 = .ok (.bipush 24, 2) by decide +kernel) (by decide +kernel) ?_
  refine lv_bipush (v := 8) hx hb (show decode prog_15_method_4_code 92 = .ok (.bipush 8, 2) by decide +kernel) (by decide +kernel) ?_
  refine lv_iload hx hb (show decode prog_15_method_4_code 94 = .ok (.iload 6, 2) by decide +kernel) (lv_at hl 1 rfl) ?_
  refine lv_iconst (v := 4) hx hb (show decode prog_15_method_4_code 96 = .ok (.iconst 4, 1) by decide +kernel) (by decide +kernel) ?_
  refine lv_irem hx hb (show decode prog_15_method_4_code 97 = .ok (.irem, 1) by decide +kernel) (by decide +kernel) ?_
  refine xtopi (v := 0) (by decide +kernel) ?_
  refine lv_imul hx hb (show decode prog_15_method_4_code 98 = .ok (.imul, 1) by decide +kernel) ?_
  refine xtopi (v := 0) (by decide +kernel) ?_
  refine lv_isub hx hb (show decode prog_15_method_4_code 99 = .ok (.isub, 1) by decide +kernel) ?_
  refine xtopi (v := 24) (by decide +kernel) ?_
  refine lv_ishr hx hb (show decode prog_15_method_4_code 100 = .ok (.ishr, 1) by decide +kernel) ?_
  refine lv_i2b hx hb (show decode prog_15_method_4_code 101 = .ok (.i2b, 1) by decide +kernel) rfl ?_
  refine lv_topi (fun z_21 _ => ?_)
  refine va_bast hx hb hK hP hD hS 1 0 rfl rfl (by unfold vp_in; decide) (show decode prog_15_method_4_code 102 = .ok (.bastore, 1) by decide +kernel) (fun H locs hP hD hS => ?_)
  obtain ⟨g_22, hP, hD⟩ : ∃ g_22 : Nat → Int32, va_P D cl [(h0, .inr (1, (fs.set 0 (.int 0)))), (q0, .inl (cA0, 32768, .inl g_22))] H ∧ va_D _ [(h0, .inr (1, (fs.set 0 (.int 0)))), (q0, .inl (cA0, 32768, .inl g_22))] := ⟨_, hP, hD⟩
  refine lv_iinc (v := 5) (lv' := [(6, .int 5), (7, .int p1), (0, .ref h0), (1, .int p0), (2, .int p1), (3, .int p2), (4, .int p3), (5, .int p4)]) hx hb (show decode prog_15_method_4_code 103 = .ok (.iinc 6 1, 3) by decide +kernel) hl (k := 1) rfl (by decide +kernel) (by decide +kernel) rfl (fun ls hl => ?_)
  refine lv_goto (tgt := 22) hx hb (show decode prog_15_method_4_code 106 = .ok (.goto (-84), 3) by decide +kernel) (by decide +kernel) ?_
  refine lv_iload hx hb (show decode prog_15_method_4_code 22 = .ok (.iload 6, 2) by decide +kernel) (lv_at hl 0 rfl) ?_
  refine lv_bipush (v := 20) hx hb (show decode prog_15_method_4_code 24 = .ok (.bipush 20, 2) by decide +kernel) (by decide +kernel) ?_
  refine lv_icmp_ge (tgt := 109) hx hb (show decode prog_15_method_4_code 26 = .ok (.if_icmp .ge 83, 3) by decide +kernel) (by decide +kernel) (fun c_23 => absurd c_23 (by decide +kernel)) (fun c_23 => ?_)
  refine lv_iload hx hb (show decode prog_15_method_4_code 29 = .ok (.iload 6, 2) by decide +kernel) (lv_at hl 0 rfl) ?_
  refine lv_iconst (v := 4) hx hb (show decode prog_15_method_4_code 31 = .ok (.iconst 4, 1) by decide +kernel) (by decide +kernel) ?_
  refine lv_icmp_ge (tgt := 39) hx hb (show decode prog_15_method_4_code 32 = .ok (.if_icmp .ge 7, 3) by decide +kernel) (by decide +kernel) (fun c_24 => ?_) (fun c_24 => absurd c_24 (by decide +kernel))
  refine lv_iload hx hb (show decode prog_15_method_4_code 39 = .ok (.iload 6, 2) by decide +kernel) (lv_at hl 0 rfl) ?_
  refine lv_bipush (v := 8) hx hb (show decode prog_15_method_4_code 41 = .ok (.bipush 8, 2) by decide +kernel) (by decide +kernel) ?_
  refine lv_icmp_ge (tgt := 50) hx hb (show decode prog_15_method_4_code 43 = .ok (.if_icmp .ge 7, 3) by decide +kernel) (by decide +kernel) (fun c_25 => absurd c_25 (by decide +kernel)) (fun c_25 => ?_)
  refine lv_iload_n hx hb (show decode prog_15_method_4_code 46 = .ok (.iload_n 2, 1) by decide +kernel) rfl (lv_at hl 4 rfl) ?_
  refine lv_goto (tgt := 75) hx hb (show decode prog_15_method_4_code 47 = .ok (.goto 28, 3) by decide +kernel) (by decide +kernel) ?_
  refine lv_istore (lv' := [(7, .int p1), (6, .int 5), (0, .ref h0), (1, .int p0), (2, .int p1), (3, .int p2), (4, .int p3), (5, .int p4)]) hx hb (show decode prog_15_method_4_code 75 = .ok (.istore 7, 2) by decide +kernel) hl (by decide +kernel) rfl (fun ls hl => ?_)
  refine lv_aload_n hx hb (show decode prog_15_method_4_code 77 = .ok (.aload_n 0, 1) by decide +kernel) rfl (lv_at hl 2 rfl) ?_
  refine va_get (D := D) (ci := 1) (v := .ref q0) (C := R_MD) (T := F_MD) (N := 107) hx hb hts i_MD hown hK hP 0 rfl rfl 1 (by decide +kernel) (hts _ w_1563) (fun _ h9 => h9) (xg_ne (by decide +kernel) ha0) (show decode prog_15_method_4_code 78 = .ok (.getfield 10, 3) by decide +kernel) ?_
  refine lv_aload_n hx hb (show decode prog_15_method_4_code 81 = .ok (.aload_n 0, 1) by decide +kernel) rfl (lv_at hl 2 rfl) ?_
  refine va_get (D := D) (ci := 1) (v := .int 0) (C := R_MD) (T := F_MD) (N := 107) hx hb hts i_MD hown hK hP 0 rfl rfl 2 (by decide +kernel) (hts _ w_1564) (fun _ h9 => h9) (xg_ne (by decide +kernel) hf2) (show decode prog_15_method_4_code 82 = .ok (.getfield 210, 3) by decide +kernel) ?_
  refine lv_iload hx hb (show decode prog_15_method_4_code 85 = .ok (.iload 6, 2) by decide +kernel) (lv_at hl 1 rfl) ?_
  refine lv_iadd hx hb (show decode prog_15_method_4_code 87 = .ok (.iadd, 1) by decide +kernel) ?_
  refine xtopi (v := 5) (by decide +kernel) ?_
  refine lv_iload hx hb (show decode prog_15_method_4_code 88 = .ok (.iload 7, 2) by decide +kernel) (lv_at hl 0 rfl) ?_
  refine lv_bipush (v := 24) hx hb (show decode prog_15_method_4_code 90 = .ok (.bipush 24, 2) by decide +kernel) (by decide +kernel) ?_
  refine lv_bipush (v := 8) hx hb (show decode prog_15_method_4_code 92 = .ok (.bipush 8, 2) by decide +kernel) (by decide +kernel) ?_
  refine lv_iload hx hb (show decode prog_15_method_4_code 94 = .ok (.iload 6, 2) by decide +kernel) (lv_at hl 1 rfl) ?_
  refine lv_iconst (v := 4) hx hb (show decode prog_15_method_4_code 96 = .ok (.iconst 4, 1) by decide +kernel) (by decide +kernel) ?_
  refine lv_irem hx hb (show decode prog_15_method_4_code 97 = .ok (.irem, 1) by decide +kernel) (by decide +kernel) ?_
  refine xtopi (v := 1) (by decide +kernel) ?_
  refine lv_imul hx hb (show decode prog_15_method_4_code 98 = .ok (.imul, 1) by decide +kernel) ?_
  refine xtopi (v := 8) (by decide +kernel) ?_
  refine lv_isub hx hb (show decode prog_15_method_4_code 99 = .ok (.isub, 1) by decide +kernel) ?_
  refine xtopi (v := 16) (by decide +kernel) ?_
  refine lv_ishr hx hb (show decode prog_15_method_4_code 100 = .ok (.ishr, 1) by decide +kernel) ?_
  refine lv_i2b hx hb (show decode prog_15_method_4_code 101 = .ok (.i2b, 1) by decide +kernel) rfl ?_
  refine lv_topi (fun z_26 _ => ?_)
  refine va_bast hx hb hK hP hD hS 1 0 rfl rfl (by unfold vp_in; decide) (show decode prog_15_method_4_code 102 = .ok (.bastore, 1) by decide +kernel) (fun H locs hP hD hS => ?_)
  obtain ⟨g_27, hP, hD⟩ : ∃ g_27 : Nat → Int32, va_P D cl [(h0, .inr (1, (fs.set 0 (.int 0)))), (q0, .inl (cA0, 32768, .inl g_27))] H ∧ va_D _ [(h0, .inr (1, (fs.set 0 (.int 0)))), (q0, .inl (cA0, 32768, .inl g_27))] := ⟨_, hP, hD⟩
  refine lv_iinc (v := 6) (lv' := [(6, .int 6), (7, .int p1), (0, .ref h0), (1, .int p0), (2, .int p1), (3, .int p2), (4, .int p3), (5, .int p4)]) hx hb (show decode prog_15_method_4_code 103 = .ok (.iinc 6 1, 3) by decide +kernel) hl (k := 1) rfl (by decide +kernel) (by decide +kernel) rfl (fun ls hl => ?_)
  refine lv_goto (tgt := 22) hx hb (show decode prog_15_method_4_code 106 = .ok (.goto (-84), 3) by decide +kernel) (by decide +kernel) ?_
  refine lv_iload hx hb (show decode prog_15_method_4_code 22 = .ok (.iload 6, 2) by decide +kernel) (lv_at hl 0 rfl) ?_
  refine lv_bipush (v := 20) hx hb (show decode prog_15_method_4_code 24 = .ok (.bipush 20, 2) by decide +kernel) (by decide +kernel) ?_
  refine lv_icmp_ge (tgt := 109) hx hb (show decode prog_15_method_4_code 26 = .ok (.if_icmp .ge 83, 3) by decide +kernel) (by decide +kernel) (fun c_28 => absurd c_28 (by decide +kernel)) (fun c_28 => ?_)
  refine lv_iload hx hb (show decode prog_15_method_4_code 29 = .ok (.iload 6, 2) by decide +kernel) (lv_at hl 0 rfl) ?_
  refine lv_iconst (v := 4) hx hb (show decode prog_15_method_4_code 31 = .ok (.iconst 4, 1) by decide +kernel) (by decide +kernel) ?_
  refine lv_icmp_ge (tgt := 39) hx hb (show decode prog_15_method_4_code 32 = .ok (.if_icmp .ge 7, 3) by decide +kernel) (by decide +kernel) (fun c_29 => ?_) (fun c_29 => absurd c_29 (by decide +kernel))
  refine lv_iload hx hb (show decode prog_15_method_4_code 39 = .ok (.iload 6, 2) by decide +kernel) (lv_at hl 0 rfl) ?_
  refine lv_bipush (v := 8) hx hb (show decode prog_15_method_4_code 41 = .ok (.bipush 8, 2) by decide +kernel) (by decide +kernel) ?_
  refine lv_icmp_ge (tgt := 50) hx hb (show decode prog_15_method_4_code 43 = .ok (.if_icmp .ge 7, 3) by decide +kernel) (by decide +kernel) (fun c_30 => absurd c_30 (by decide +kernel)) (fun c_30 => ?_)
  refine lv_iload_n hx hb (show decode prog_15_method_4_code 46 = .ok (.iload_n 2, 1) by decide +kernel) rfl (lv_at hl 4 rfl) ?_
  refine lv_goto (tgt := 75) hx hb (show decode prog_15_method_4_code 47 = .ok (.goto 28, 3) by decide +kernel) (by decide +kernel) ?_
  refine lv_istore (lv' := [(7, .int p1), (6, .int 6), (0, .ref h0), (1, .int p0), (2, .int p1), (3, .int p2), (4, .int p3), (5, .int p4)]) hx hb (show decode prog_15_method_4_code 75 = .ok (.istore 7, 2) by decide +kernel) hl (by decide +kernel) rfl (fun ls hl => ?_)
  refine lv_aload_n hx hb (show decode prog_15_method_4_code 77 = .ok (.aload_n 0, 1) by decide +kernel) rfl (lv_at hl 2 rfl) ?_
  refine va_get (D := D) (ci := 1) (v := .ref q0) (C := R_MD) (T := F_MD) (N := 107) hx hb hts i_MD hown hK hP 0 rfl rfl 1 (by decide +kernel) (hts _ w_1563) (fun _ h9 => h9) (xg_ne (by decide +kernel) ha0) (show decode prog_15_method_4_code 78 = .ok (.getfield 10, 3) by decide +kernel) ?_
  refine lv_aload_n hx hb (show decode prog_15_method_4_code 81 = .ok (.aload_n 0, 1) by decide +kernel) rfl (lv_at hl 2 rfl) ?_
  refine va_get (D := D) (ci := 1) (v := .int 0) (C := R_MD) (T := F_MD) (N := 107) hx hb hts i_MD hown hK hP 0 rfl rfl 2 (by decide +kernel) (hts _ w_1564) (fun _ h9 => h9) (xg_ne (by decide +kernel) hf2) (show decode prog_15_method_4_code 82 = .ok (.getfield 210, 3) by decide +kernel) ?_
  refine lv_iload hx hb (show decode prog_15_method_4_code 85 = .ok (.iload 6, 2) by decide +kernel) (lv_at hl 1 rfl) ?_
  refine lv_iadd hx hb (show decode prog_15_method_4_code 87 = .ok (.iadd, 1) by decide +kernel) ?_
  refine xtopi (v := 6) (by decide +kernel) ?_
  refine lv_iload hx hb (show decode prog_15_method_4_code 88 = .ok (.iload 7, 2) by decide +kernel) (lv_at hl 0 rfl) ?_
  refine lv_bipush (v := 24) hx hb (show decode prog_15_method_4_code 90 = .ok (.bipush 24, 2) by decide +kernel) (by decide +kernel) ?_
  refine lv_bipush (v := 8) hx hb (show decode prog_15_method_4_code 92 = .ok (.bipush 8, 2) by decide +kernel) (by decide +kernel) ?_
  refine lv_iload hx hb (show decode prog_15_method_4_code 94 = .ok (.iload 6, 2) by decide +kernel) (lv_at hl 1 rfl) ?_
  refine lv_iconst (v := 4) hx hb (show decode prog_15_method_4_code 96 = .ok (.iconst 4, 1) by decide +kernel) (by decide +kernel) ?_
  refine lv_irem hx hb (show decode prog_15_method_4_code 97 = .ok (.irem, 1) by decide +kernel) (by decide +kernel) ?_
  refine xtopi (v := 2) (by decide +kernel) ?_
  refine lv_imul hx hb (show decode prog_15_method_4_code 98 = .ok (.imul, 1) by decide +kernel) ?_
  refine xtopi (v := 16) (by decide +kernel) ?_
  refine lv_isub hx hb (show decode prog_15_method_4_code 99 = .ok (.isub, 1) by decide +kernel) ?_
  refine xtopi (v := 8) (by decide +kernel) ?_
  refine lv_ishr hx hb (show decode prog_15_method_4_code 100 = .ok (.ishr, 1) by decide +kernel) ?_
  refine lv_i2b hx hb (show decode prog_15_method_4_code 101 = .ok (.i2b, 1) by decide +kernel) rfl ?_
  refine lv_topi (fun z_31 _ => ?_)
  refine va_bast hx hb hK hP hD hS 1 0 rfl rfl (by unfold vp_in; decide) (show decode prog_15_method_4_code 102 = .ok (.bastore, 1) by decide +kernel) (fun H locs hP hD hS => ?_)
  obtain ⟨g_32, hP, hD⟩ : ∃ g_32 : Nat → Int32, va_P D cl [(h0, .inr (1, (fs.set 0 (.int 0)))), (q0, .inl (cA0, 32768, .inl g_32))] H ∧ va_D _ [(h0, .inr (1, (fs.set 0 (.int 0)))), (q0, .inl (cA0, 32768, .inl g_32))] := ⟨_, hP, hD⟩
  refine lv_iinc (v := 7) (lv' := [(6, .int 7), (7, .int p1), (0, .ref h0), (1, .int p0), (2, .int p1), (3, .int p2), (4, .int p3), (5, .int p4)]) hx hb (show decode prog_15_method_4_code 103 = .ok (.iinc 6 1, 3) by decide +kernel) hl (k := 1) rfl (by decide +kernel) (by decide +kernel) rfl (fun ls hl => ?_)
  refine lv_goto (tgt := 22) hx hb (show decode prog_15_method_4_code 106 = .ok (.goto (-84), 3) by decide +kernel) (by decide +kernel) ?_
  refine lv_iload hx hb (show decode prog_15_method_4_code 22 = .ok (.iload 6, 2) by decide +kernel) (lv_at hl 0 rfl) ?_
  refine lv_bipush (v := 20) hx hb (show decode prog_15_method_4_code 24 = .ok (.bipush 20, 2) by decide +kernel) (by decide +kernel) ?_
  refine lv_icmp_ge (tgt := 109) hx hb (show decode prog_15_method_4_code 26 = .ok (.if_icmp .ge 83, 3) by decide +kernel) (by decide +kernel) (fun c_33 => absurd c_33 (by decide +kernel)) (fun c_33 => ?_)
  refine lv_iload hx hb (show decode prog_15_method_4_code 29 = .ok (.iload 6, 2) by decide +kernel) (lv_at hl 0 rfl) ?_
  refine lv_iconst (v := 4) hx hb (show decode prog_15_method_4_code 31 = .ok (.iconst 4, 1) by decide +kernel) (by decide +kernel) ?_
  refine lv_icmp_ge (tgt := 39) hx hb (show decode prog_15_method_4_code 32 = .ok (.if_icmp .ge 7, 3) by decide +kernel) (by decide +kernel) (fun c_34 => ?_) (fun c_34 => absurd c_34 (by decide +kernel))
  refine lv_iload hx hb (show decode prog_15_method_4_code 39 = .ok (.iload 6, 2) by decide +kernel) (lv_at hl 0 rfl) ?_
  refine lv_bipush (v := 8) hx hb (show decode prog_15_method_4_code 41 = .ok (.bipush 8, 2) by decide +kernel) (by decide +kernel) ?_
  refine lv_icmp_ge (tgt := 50) hx hb (show decode prog_15_method_4_code 43 = .ok (.if_icmp .ge 7, 3) by decide +kernel) (by decide +kernel) (fun c_35 => absurd c_35 (by decide +kernel)) (fun c_35 => ?_)
  refine lv_iload_n hx hb (show decode prog_15_method_4_code 46 = .ok (.iload_n 2, 1) by decide +kernel) rfl (lv_at hl 4 rfl) ?_
  refine lv_goto (tgt := 75) hx hb (show decode prog_15_method_4_code 47 = .ok (.goto 28, 3) by decide +kernel) (by decide +kernel) ?_
  refine lv_istore (lv' := [(7, .int p1), (6, .int 7), (0, .ref h0), (1, .int p0), (2, .int p1), (3, .int p2), (4, .int p3), (5, .int p4)]) hx hb (show decode prog_15_method_4_code 75 = .ok (.istore 7, 2) by decide +kernel) hl (by decide +kernel) rfl (fun ls hl => ?_)
  refine lv_aload_n hx hb (show decode prog_15_method_4_code 77 = .ok (.aload_n 0, 1) by decide +kernel) rfl (lv_at hl 2 rfl) ?_
  refine va_get (D := D) (ci := 1) (v := .ref q0) (C := R_MD) (T := F_MD) (N := 107) hx hb hts i_MD hown hK hP 0 rfl rfl 1 (by decide +kernel) (hts _ w_1563) (fun _ h9 => h9) (xg_ne (by decide +kernel) ha0) (show decode prog_15_method_4_code 78 = .ok (.getfield 10, 3) by decide +kernel) ?_
  refine lv_aload_n hx hb (show decode prog_15_method_4_code 81 = .ok (.aload_n 0, 1) by decide +kernel) rfl (lv_at hl 2 rfl) ?_
  refine va_get (D := D) (ci := 1) (v := .int 0) (C := R_MD) (T := F_MD) (N := 107) hx hb hts i_MD hown hK hP 0 rfl rfl 2 (by decide +kernel) (hts _ w_1564) (fun _ h9 => h9) (xg_ne (by decide +kernel) hf2) (show decode prog_15_method_4_code 82 = .ok (.getfield 210, 3) by decide +kernel) ?_
  refine lv_iload hx hb (show decode prog_15_method_4_code 85 = .ok (.iload 6, 2) by decide +kernel) (lv_at hl 1 rfl) ?_
  refine lv_iadd hx hb (show decode prog_15_method_4_code 87 = .ok (.iadd, 1) by decide +kernel) ?_
  refine xtopi (v := 7) (by decide +kernel) ?_
  refine lv_iload hx hb (show decode prog_15_method_4_code 88 = .ok (.iload 7, 2) by decide +kernel) (lv_at hl 0 rfl) ?_
  refine lv_bipush (v := 24) hx hb (show decode prog_15_method_4_code 90 = .ok (.bipush 24, 2) by decide +kernel) (by decide +kernel) ?_
  refine lv_bipush (v := 8) hx hb (show decode prog_15_method_4_code 92 = .ok (.bipush 8, 2) by decide +kernel) (by decide +kernel) ?_
  refine lv_iload hx hb (show decode prog_15_method_4_code 94 = .ok (.iload 6, 2) by decide +kernel) (lv_at hl 1 rfl) ?_
  refine lv_iconst (v := 4) hx hb (show decode prog_15_method_4_code 96 = .ok (.iconst 4, 1) by decide +kernel) (by decide +kernel) ?_
  refine lv_irem hx hb (show decode prog_15_method_4_code 97 = .ok (.irem, 1) by decide +kernel) (by decide +kernel) ?_
  refine xtopi (v := 3) (by decide +kernel) ?_
  refine lv_imul hx hb (show decode prog_15_method_4_code 98 = .ok (.imul, 1) by decide +kernel) ?_
  refine xtopi (v := 24) (by decide +kernel) ?_
  refine lv_isub hx hb (show decode prog_15_method_4_code 99 = .ok (.isub, 1) by decide +kernel) ?_
  refine xtopi (v := 0) (by decide +kernel) ?_
  refine lv_ishr hx hb (show decode prog_15_method_4_code 100 = .ok (.ishr, 1) by decide +kernel) ?_
  refine lv_i2b hx hb (show decode prog_15_method_4_code 101 = .ok (.i2b, 1) by decide +kernel) rfl ?_
  refine lv_topi (fun z_36 _ => ?_)
  refine va_bast hx hb hK hP hD hS 1 0 rfl rfl (by unfold vp_in; decide) (show decode prog_15_method_4_code 102 = .ok (.bastore, 1) by decide +kernel) (fun H locs hP hD hS => ?_)
  obtain ⟨g_37, hP, hD⟩ : ∃ g_37 : Nat → Int32, va_P D cl [(h0, .inr (1, (fs.set 0 (.int 0)))), (q0, .inl (cA0, 32768, .inl g_37))] H ∧ va_D _ [(h0, .inr (1, (fs.set 0 (.int 0)))), (q0, .inl (cA0, 32768, .inl g_37))] := ⟨_, hP, hD⟩
  refine lv_iinc (v := 8) (lv' := [(6, .int 8), (7, .int p1), (0, .ref h0), (1, .int p0), (2, .int p1), (3, .int p2), (4, .int p3), (5, .int p4)]) hx hb (show decode prog_15_method_4_code 103 = .ok (.iinc 6 1, 3) by decide +kernel) hl (k := 1) rfl (by decide +kernel) (by decide +kernel) rfl (fun ls hl => ?_)
  refine lv_goto (tgt := 22) hx hb (show decode prog_15_method_4_code 106 = .ok (.goto (-84), 3) by decide +kernel) (by decide +kernel) ?_
  refine lv_iload hx hb (show decode prog_15_method_4_code 22 = .ok (.iload 6, 2) by decide +kernel) (lv_at hl 0 rfl) ?_
  refine lv_bipush (v := 20) hx hb (show decode prog_15_method_4_code 24 = .ok (.bipush 20, 2) by decide +kernel) (by decide +kernel) ?_
  refine lv_icmp_ge (tgt := 109) hx hb (show decode prog_15_method_4_code 26 = .ok (.if_icmp .ge 83, 3) by decide +kernel) (by decide +kernel) (fun c_38 => absurd c_38 (by decide +kernel)) (fun c_38 => ?_)
  refine lv_iload hx hb (show decode prog_15_method_4_code 29 = .ok (.iload 6, 2) by decide +kernel) (lv_at hl 0 rfl) ?_
  refine lv_iconst (v := 4) hx hb (show decode prog_15_method_4_code 31 = .ok (.iconst 4, 1) by decide +kernel) (by decide +kernel) ?_
  refine lv_icmp_ge (tgt := 39) hx hb (show decode prog_15_method_4_code 32 = .ok (.if_icmp .ge 7, 3) by decide +kernel) (by decide +kernel) (fun c_39 => ?_) (fun c_39 => absurd c_39 (by decide +kernel))
  refine lv_iload hx hb (show decode prog_15_method_4_code 39 = .ok (.iload 6, 2) by decide +kernel) (lv_at hl 0 rfl) ?_
  refine lv_bipush (v := 8) hx hb (show decode prog_15_method_4_code 41 = .ok (.bipush 8, 2) by decide +kernel) (by decide +kernel) ?_
  refine lv_icmp_ge (tgt := 50) hx hb (show decode prog_15_method_4_code 43 = .ok (.if_icmp .ge 7, 3) by decide +kernel) (by decide +kernel) (fun c_40 => ?_) (fun c_40 => absurd c_40 (by decide +kernel))
  refine lv_iload hx hb (show decode prog_15_method_4_code 50 = .ok (.iload 6, 2) by decide +kernel) (lv_at hl 0 rfl) ?_
  refine lv_bipush (v := 12) hx hb (show decode prog_15_method_4_code 52 = .ok (.bipush 12, 2) by decide +kernel) (by decide +kernel) ?_
  refine lv_icmp_ge (tgt := 61) hx hb (show decode prog_15_method_4_code 54 = .ok (.if_icmp .ge 7, 3) by decide +kernel) (by decide +kernel) (fun c_41 => absurd c_41 (by decide +kernel)) (fun c_41 => ?_)
  refine lv_iload_n hx hb (show decode prog_15_method_4_code 57 = .ok (.iload_n 3, 1) by decide +kernel) rfl (lv_at hl 5 rfl) ?_
  refine lv_goto (tgt := 75) hx hb (show decode prog_15_method_4_code 58 = .ok (.goto 17, 3) by decide +kernel) (by decide +kernel) ?_
  refine lv_istore (lv' := [(7, .int p2), (6, .int 8), (0, .ref h0), (1, .int p0), (2, .int p1), (3, .int p2), (4, .int p3), (5, .int p4)]) hx hb (show decode prog_15_method_4_code 75 = .ok (.istore 7, 2) by decide +kernel) hl (by decide +kernel) rfl (fun ls hl => ?_)
  refine lv_aload_n hx hb (show decode prog_15_method_4_code 77 = .ok (.aload_n 0, 1) by decide +kernel) rfl (lv_at hl 2 rfl) ?_
  refine va_get (D := D) (ci := 1) (v := .ref q0) (C := R_MD) (T := F_MD) (N := 107) hx hb hts i_MD hown hK hP 0 rfl rfl 1 (by decide +kernel) (hts _ w_1563) (fun _ h9 => h9) (xg_ne (by decide +kernel) ha0) (show decode prog_15_method_4_code 78 = .ok (.getfield 10, 3) by decide +kernel) ?_
  refine lv_aload_n hx hb (show decode prog_15_method_4_code 81 = .ok (.aload_n 0, 1) by decide +kernel) rfl (lv_at hl 2 rfl) ?_
  refine va_get (D := D) (ci := 1) (v := .int 0) (C := R_MD) (T := F_MD) (N := 107) hx hb hts i_MD hown hK hP 0 rfl rfl 2 (by decide +kernel) (hts _ w_1564) (fun _ h9 => h9) (xg_ne (by decide +kernel) hf2) (show decode prog_15_method_4_code 82 = .ok (.getfield 210, 3) by decide +kernel) ?_
  refine lv_iload hx hb (show decode prog_15_method_4_code 85 = .ok (.iload 6, 2) by decide +kernel) (lv_at hl 1 rfl) ?_
  refine lv_iadd hx hb (show decode prog_15_method_4_code 87 = .ok (.iadd, 1) by decide +kernel) ?_
  refine xtopi (v := 8) (by decide +kernel) ?_
  refine lv_iload hx hb (show decode prog_15_method_4_code 88 = .ok (.iload 7, 2) by decide +kernel) (lv_at hl 0 rfl) ?_
  refine lv_bipush (v := 24) hx hb (show decode prog_15_method_4_code 90 = .ok (.bipush 24, 2) by decide +kernel) (by decide +kernel) ?_
  refine lv_bipush (v := 8) hx hb (show decode prog_15_method_4_code 92 = .ok (.bipush 8, 2) by decide +kernel) (by decide +kernel) ?_
  refine lv_iload hx hb (show decode prog_15_method_4_code 94 = .ok (.iload 6, 2) by decide +kernel) (lv_at hl 1 rfl) ?_
  refine lv_iconst (v := 4) hx hb (show decode prog_15_method_4_code 96 = .ok (.iconst 4, 1) by decide +kernel) (by decide +kernel) ?_
  refine lv_irem hx hb (show decode prog_15_method_4_code 97 = .ok (.irem, 1) by decide +kernel) (by decide +kernel) ?_
  refine xtopi (v := 0) (by decide +kernel) ?_
  refine lv_imul hx hb (show decode prog_15_method_4_code 98 = .ok (.imul, 1) by decide +kernel) ?_
  refine xtopi (v := 0) (by decide +kernel) ?_
  refine lv_isub hx hb (show decode prog_15_method_4_code 99 = .ok (.isub, 1) by decide +kernel) ?_
  refine xtopi (v := 24) (by decide +kernel) ?_
  refine lv_ishr hx hb (show decode prog_15_method_4_code 100 = .ok (.ishr, 1) by decide +kernel) ?_
  refine lv_i2b hx hb (show decode prog_15_method_4_code 101 = .ok (.i2b, 1) by decide +kernel) rfl ?_
  refine lv_topi (fun z_42 _ => ?_)
  refine va_bast hx hb hK hP hD hS 1 0 rfl rfl (by unfold vp_in; decide) (show decode prog_15_method_4_code 102 = .ok (.bastore, 1) by decide +kernel) (fun H locs hP hD hS => ?_)
  obtain ⟨g_43, hP, hD⟩ : ∃ g_43 : Nat → Int32, va_P D cl [(h0, .inr (1, (fs.set 0 (.int 0)))), (q0, .inl (cA0, 32768, .inl g_43))] H ∧ va_D _ [(h0, .inr (1, (fs.set 0 (.int 0)))), (q0, .inl (cA0, 32768, .inl g_43))] := ⟨_, hP, hD⟩
  refine lv_iinc (v := 9) (lv' := [(6, .int 9), (7, .int p2), (0, .ref h0), (1, .int p0), (2, .int p1), (3, .int p2), (4, .int p3), (5, .int p4)]) hx hb (show decode prog_15_method_4_code 103 = .ok (.iinc 6 1, 3) by decide +kernel) hl (k := 1) rfl (by decide +kernel) (by decide +kernel) rfl (fun ls hl => ?_)
  refine lv_goto (tgt := 22) hx hb (show decode prog_15_method_4_code 106 = .ok (.goto (-84), 3) by decide +kernel) (by decide +kernel) ?_
  refine lv_iload hx hb (show decode prog_15_method_4_code 22 = .ok (.iload 6, 2) by decide +kernel) (lv_at hl 0 rfl) ?_
  refine lv_bipush (v := 20) hx hb (show decode prog_15_method_4_code 24 = .ok (.bipush 20, 2) by decide +kernel) (by decide +kernel) ?_
  refine lv_icmp_ge (tgt := 109) hx hb (show decode prog_15_method_4_code 26 = .ok (.if_icmp .ge 83, 3) by decide +kernel) (by decide +kernel) (fun c_44 => absurd c_44 (by decide +kernel)) (fun c_44 => ?_)
  refine lv_iload hx hb (show decode prog_15_method_4_code 29 = .ok (.iload 6, 2) by decide +kernel) (lv_at hl 0 rfl) ?_
  refine lv_iconst (v := 4) hx hb (show decode prog_15_method_4_code 31 = .ok (.iconst 4, 1) by decide +kernel) (by decide +kernel) ?_
  refine lv_icmp_ge (tgt := 39) hx hb (show decode prog_15_method_4_code 32 = .ok (.if_icmp .ge 7, 3) by decide +kernel) (by decide +kernel) (fun c_45 => ?_) (fun c_45 => absurd c_45 (by decide +kernel))
  refine lv_iload hx hb (show decode prog_15_method_4_code 39 = .ok (.iload 6, 2) by decide +kernel) (lv_at hl 0 rfl) ?_
  refine lv_bipush (v := 8) hx hb (show decode prog_15_method_4_code 41 = .ok (.bipush 8, 2) by decide +kernel) (by decide +kernel) ?_
  refine lv_icmp_ge (tgt := 50) hx hb (show decode prog_15_method_4_code 43 = .ok (.if_icmp .ge 7, 3) by decide +kernel) (by decide +kernel) (fun c_46 => ?_) (fun c_46 => absurd c_46 (by decide +kernel))
  refine lv_iload hx hb (show decode prog_15_method_4_code 50 = .ok (.iload 6, 2) by decide +kernel) (lv_at hl 0 rfl) ?_
  refine lv_bipush (v := 12) hx hb (show decode prog_15_method_4_code 52 = .ok (.bipush 12, 2) by decide +kernel) (by decide +kernel) ?_
  refine lv_icmp_ge (tgt := 61) hx hb (show decode prog_15_method_4_code 54 = .ok (.if_icmp .ge 7, 3) by decide +kernel) (by decide +kernel) (fun c_47 => absurd c_47 (by decide +kernel)) (fun c_47 => ?_)
  refine lv_iload_n hx hb (show decode prog_15_method_4_code 57 = .ok (.iload_n 3, 1) by decide +kernel) rfl (lv_at hl 5 rfl) ?_
  refine lv_goto (tgt := 75) hx hb (show decode prog_15_method_4_code 58 = .ok (.goto 17, 3) by decide +kernel) (by decide +kernel) ?_
  refine lv_istore (lv' := [(7, .int p2), (6, .int 9), (0, .ref h0), (1, .int p0), (2, .int p1), (3, .int p2), (4, .int p3), (5, .int p4)]) hx hb (show decode prog_15_method_4_code 75 = .ok (.istore 7, 2) by decide +kernel) hl (by decide +kernel) rfl (fun ls hl => ?_)
  refine lv_aload_n hx hb (show decode prog_15_method_4_code 77 = .ok (.aload_n 0, 1) by decide +kernel) rfl (lv_at hl 2 rfl) ?_
  refine va_get (D := D) (ci := 1) (v := .ref q0) (C := R_MD) (T := F_MD) (N := 107) hx hb hts i_MD hown hK hP 0 rfl rfl 1 (by decide +kernel) (hts _ w_1563) (fun _ h9 => h9) (xg_ne (by decide +kernel) ha0) (show decode prog_15_method_4_code 78 = .ok (.getfield 10, 3) by decide +kernel) ?_
  refine lv_aload_n hx hb (show decode prog_15_method_4_code 81 = .ok (.aload_n 0, 1) by decide +kernel) rfl (lv_at hl 2 rfl) ?_
  refine va_get (D := D) (ci := 1) (v := .int 0) (C := R_MD) (T := F_MD) (N := 107) hx hb hts i_MD hown hK hP 0 rfl rfl 2 (by decide +kernel) (hts _ w_1564) (fun _ h9 => h9) (xg_ne (by decide +kernel) hf2) (show decode prog_15_method_4_code 82 = .ok (.getfield 210, 3) by decide +kernel) ?_
  refine lv_iload hx hb (show decode prog_15_method_4_code 85 = .ok (.iload 6, 2) by decide +kernel) (lv_at hl 1 rfl) ?_
  refine lv_iadd hx hb (show decode prog_15_method_4_code 87 = .ok (.iadd, 1) by decide +kernel) ?_
  refine xtopi (v := 9) (by decide +kernel) ?_
  refine lv_iload hx hb (show decode prog_15_method_4_code 88 = .ok (.iload 7, 2) by decide +kernel) (lv_at hl 0 rfl) ?_
  refine lv_bipush (v := 24) hx hb (show decode prog_15_method_4_code 90 = .ok (.bipush 24, 2) by decide +kernel) (by decide +kernel) ?_
  refine lv_bipush (v := 8) hx hb (show decode prog_15_method_4_code 92 = .ok (.bipush 8, 2) by decide +kernel) (by decide +kernel) ?_
  refine lv_iload hx hb (show decode prog_15_method_4_code 94 = .ok (.iload 6, 2) by decide +kernel) (lv_at hl 1 rfl) ?_
  refine lv_iconst (v := 4) hx hb (show decode prog_15_method_4_code 96 = .ok (.iconst 4, 1) by decide +kernel) (by decide +kernel) ?_
  refine lv_irem hx hb (show decode prog_15_method_4_code 97 = .ok (.irem, 1) by decide +kernel) (by decide +kernel) ?_
  refine xtopi (v := 1) (by decide +kernel) ?_
  refine lv_imul hx hb (show decode prog_15_method_4_code 98 = .ok (.imul, 1) by decide +kernel) ?_
  refine xtopi (v := 8) (by decide +kernel) ?_
  refine lv_isub hx hb (show decode prog_15_method_4_code 99 = .ok (.isub, 1) by decide +kernel) ?_
  refine xtopi (v := 16) (by decide +kernel) ?_
  refine lv_ishr hx hb (show decode prog_15_method_4_code 100 = .ok (.ishr, 1) by decide +kernel) ?_
  refine lv_i2b hx hb (show decode prog_15_method_4_code 101 = .ok (.i2b, 1) by decide +kernel) rfl ?_
  refine lv_topi (fun z_48 _ => ?_)
  refine va_bast hx hb hK hP hD hS 1 0 rfl rfl (by unfold vp_in; decide) (show decode prog_15_method_4_code 102 = .ok (.bastore, 1) by decide +kernel) (fun H locs hP hD hS => ?_)
  obtain ⟨g_49, hP, hD⟩ : ∃ g_49 : Nat → Int32, va_P D cl [(h0, .inr (1, (fs.set 0 (.int 0)))), (q0, .inl (cA0, 32768, .inl g_49))] H ∧ va_D _ [(h0, .inr (1, (fs.set 0 (.int 0)))), (q0, .inl (cA0, 32768, .inl g_49))] := ⟨_, hP, hD⟩
  refine lv_iinc (v := 10) (lv' := [(6, .int 10), (7, .int p2), (0, .ref h0), (1, .int p0), (2, .int p1), (3, .int p2), (4, .int p3), (5, .int p4)]) hx hb (show decode prog_15_method_4_code 103 = .ok (.iinc 6 1, 3) by decide +kernel) hl (k := 1) rfl (by decide +kernel) (by decide +kernel) rfl (fun ls hl => ?_)
  refine lv_goto (tgt := 22) hx hb (show decode prog_15_method_4_code 106 = .ok (.goto (-84), 3) by decide +kernel) (by decide +kernel) ?_
  refine lv_iload hx hb (show decode prog_15_method_4_code 22 = .ok (.iload 6, 2) by decide +kernel) (lv_at hl 0 rfl) ?_
  refine lv_bipush (v := 20) hx hb (show decode prog_15_method_4_code 24 = .ok (.bipush 20, 2) by decide +kernel) (by decide +kernel) ?_
  refine lv_icmp_ge (tgt := 109) hx hb (show decode prog_15_method_4_code 26 = .ok (.if_icmp .ge 83, 3) by decide +kernel) (by decide +kernel) (fun c_50 => absurd c_50 (by decide +kernel)) (fun c_50 => ?_)
  refine lv_iload hx hb (show decode prog_15_method_4_code 29 = .ok (.iload 6, 2) by decide +kernel) (lv_at hl 0 rfl) ?_
  refine lv_iconst (v := 4) hx hb (show decode prog_15_method_4_code 31 = .ok (.iconst 4, 1) by decide +kernel) (by decide +kernel) ?_
  refine lv_icmp_ge (tgt := 39) hx hb (show decode prog_15_method_4_code 32 = .ok (.if_icmp .ge 7, 3) by decide +kernel) (by decide +kernel) (fun c_51 => ?_) (fun c_51 => absurd c_51 (by decide +kernel))
  refine lv_iload hx hb (show decode prog_15_method_4_code 39 = .ok (.iload 6, 2) by decide +kernel) (lv_at hl 0 rfl) ?_
  refine lv_bipush (v := 8) hx hb (show decode prog_15_method_4_code 41 = .ok (.bipush 8, 2) by decide +kernel) (by decide +kernel) ?_
  refine lv_icmp_ge (tgt := 50) hx hb (show decode prog_15_method_4_code 43 = .ok (.if_icmp .ge 7, 3) by decide +kernel) (by decide +kernel) (fun c_52 => ?_) (fun c_52 => absurd c_52 (by decide +kernel))
  refine lv_iload hx hb (show decode prog_15_method_4_code 50 = .ok (.iload 6, 2) by decide +kernel) (lv_at hl 0 rfl) ?_
  refine lv_bipush (v := 12) hx hb (show decode prog_15_method_4_code 52 = .ok (.bipush 12, 2) by decide +kernel) (by decide +kernel) ?_
  refine lv_icmp_ge (tgt := 61) hx hb (show decode prog_15_method_4_code 54 = .ok (.if_icmp .ge 7, 3) by decide +kernel) (by decide +kernel) (fun c_53 => absurd c_53 (by decide +kernel)) (fun c_53 => ?_)
  refine lv_iload_n hx hb (show decode prog_15_method_4_code 57 = .ok (.iload_n 3, 1) by decide +kernel) rfl (lv_at hl 5 rfl) ?_
  refine lv_goto (tgt := 75) hx hb (show decode prog_15_method_4_code 58 = .ok (.goto 17, 3) by decide +kernel) (by decide +kernel) ?_
  refine lv_istore (lv' := [(7, .int p2), (6, .int 10), (0, .ref h0), (1, .int p0), (2, .int p1), (3, .int p2), (4, .int p3), (5, .int p4)]) hx hb (show decode prog_15_method_4_code 75 = .ok (.istore 7, 2) by decide +kernel) hl (by decide +kernel) rfl (fun ls hl => ?_)
  refine lv_aload_n hx hb (show decode prog_15_method_4_code 77 = .ok (.aload_n 0, 1) by decide +kernel) rfl (lv_at hl 2 rfl) ?_
  refine va_get (D := D) (ci := 1) (v := .ref q0) (C := R_MD) (T := F_MD) (N := 107) hx hb hts i_MD hown hK hP 0 rfl rfl 1 (by decide +kernel) (hts _ w_1563) (fun _ h9 => h9) (xg_ne (by decide +kernel) ha0) (show decode prog_15_method_4_code 78 = .ok (.getfield 10, 3) by decide +kernel) ?_
  refine lv_aload_n hx hb (show decode prog_15_method_4_code 81 = .ok (.aload_n 0, 1) by decide +kernel) rfl (lv_at hl 2 rfl) ?_
  refine va_get (D := D) (ci := 1) (v := .int 0) (C := R_MD) (T := F_MD) (N := 107) hx hb hts i_MD hown hK hP 0 rfl rfl 2 (by decide +kernel) (hts _ w_1564) (fun _ h9 => h9) (xg_ne (by decide +kernel) hf2) (show decode prog_15_method_4_code 82 = .ok (.getfield 210, 3) by decide +kernel) ?_
  refine lv_iload hx hb (show decode prog_15_method_4_code 85 = .ok (.iload 6, 2) by decide +kernel) (lv_at hl 1 rfl) ?_
  refine lv_iadd hx hb (show decode prog_15_method_4_code 87 = .ok (.iadd, 1) by decide +kernel) ?_
  refine xtopi (v := 10) (by decide +kernel) ?_
  refine lv_iload hx hb (show decode prog_15_method_4_code 88 = .ok (.iload 7, 2) by decide +kernel) (lv_at hl 0 rfl) ?_
  refine lv_bipush (v := 24) hx hb (show decode prog_15_method_4_code 90 = .ok (.bipush 24, 2) by decide +kernel) (by decide +kernel) ?_
  refine lv_bipush (v := 8) hx hb (show decode prog_15_method_4_code 92 = .ok (.bipush 8, 2) by decide +kernel) (by decide +kernel) ?_
  refine lv_iload hx hb (show decode prog_15_method_4_code 94 = .ok (.iload 6, 2) by decide +kernel) (lv_at hl 1 rfl) ?_
  refine lv_iconst (v := 4) hx hb (show decode prog_15_method_4_code 96 = .ok (.iconst 4, 1) by decide +kernel) (by decide +kernel) ?_
  refine lv_irem hx hb (show decode prog_15_method_4_code 97 = .ok (.irem, 1) by decide +kernel) (by decide +kernel) ?_
  refine xtopi (v := 2) (by decide +kernel) ?_
  refine lv_imul hx hb (show decode prog_15_method_4_code 98 = .ok (.imul, 1) by decide +kernel) ?_
  refine xtopi (v := 16) (by decide +kernel) ?_
  refine lv_isub hx hb (show decode prog_15_method_4_code 99 = .ok (.isub, 1) by decide +kernel) ?_
  refine xtopi (v := 8) (by decide +kernel) ?_
  refine lv_ishr hx hb (show decode prog_15_method_4_code 100 = .ok (.ishr, 1) by decide +kernel) ?_
  refine lv_i2b hx hb (show decode prog_15_method_4_code 101 = .ok (.i2b, 1) by decide +kernel) rfl ?_
  refine lv_topi (fun z_54 _ => ?_)
  refine va_bast hx hb hK hP hD hS 1 0 rfl rfl (by unfold vp_in; decide) (show decode prog_15_method_4_code 102 = .ok (.bastore, 1) by decide +kernel) (fun H locs hP hD hS => ?_)
  obtain ⟨g_55, hP, hD⟩ : ∃ g_55 : Nat → Int32, va_P D cl [(h0, .inr (1, (fs.set 0 (.int 0)))), (q0, .inl (cA0, 32768, .inl g_55))] H ∧ va_D _ [(h0, .inr (1, (fs.set 0 (.int 0)))), (q0, .inl (cA0, 32768, .inl g_55))] := ⟨_, hP, hD⟩
  refine lv_iinc (v := 11) (lv' := [(6, .int 11), (7, .int p2), (0, .ref h0), (1, .int p0), (2, .int p1), (3, .int p2), (4, .int p3), (5, .int p4)]) hx hb (show decode prog_15_method_4_code 103 = .ok (.iinc 6 1, 3) by decide +kernel) hl (k := 1) rfl (by decide +kernel) (by decide +kernel) rfl (fun ls hl => ?_)
  refine lv_goto (tgt := 22) hx hb (show decode prog_15_method_4_code 106 = .ok (.goto (-84), 3) by decide +kernel) (by decide +kernel) ?_
  refine lv_iload hx hb (show decode prog_15_method_4_code 22 = .ok (.iload 6, 2) by decide +kernel) (lv_at hl 0 rfl) ?_
  refine lv_bipush (v := 20) hx hb (show decode prog_15_method_4_code 24 = .ok (.bipush 20, 2) by decide +kernel) (by decide +kernel) ?_
  refine lv_icmp_ge (tgt := 109) hx hb (show decode prog_15_method_4_code 26 = .ok (.if_icmp .ge 83, 3) by decide +kernel) (by decide +kernel) (fun c_56 => absurd c_56 (by decide +kernel)) (fun c_56 => ?_)
  refine lv_iload hx hb (show decode prog_15_method_4_code 29 = .ok (.iload 6, 2) by decide +kernel) (lv_at hl 0 rfl) ?_
  refine lv_iconst (v := 4) hx hb (show decode prog_15_method_4_code 31 = .ok (.iconst 4, 1) by decide +kernel) (by decide +kernel) ?_
  refine lv_icmp_ge (tgt := 39) hx hb (show decode prog_15_method_4_code 32 = .ok (.if_icmp .ge 7, 3) by decide +kernel) (by decide +kernel) (fun c_57 => ?_) (fun c_57 => absurd c_57 (by decide +kernel))
  refine lv_iload hx hb (show decode prog_15_method_4_code 39 = .ok (.iload 6, 2) by decide +kernel) (lv_at hl 0 rfl) ?_
  refine lv_bipush (v := 8) hx hb (show decode prog_15_method_4_code 41 = .ok (.bipush 8, 2) by decide +kernel) (by decide +kernel) ?_
  refine lv_icmp_ge (tgt := 50) hx hb (show decode prog_15_method_4_code 43 = .ok (.if_icmp .ge 7, 3) by decide +kernel) (by decide +kernel) (fun c_58 => ?_) (fun c_58 => absurd c_58 (by decide +kernel))
  refine lv_iload hx hb (show decode prog_15_method_4_code 50 = .ok (.iload 6, 2) by decide +kernel) (lv_at hl 0 rfl) ?_
  refine lv_bipush (v := 12) hx hb (show decode prog_15_method_4_code 52 = .ok (.bipush 12, 2) by decide +kernel) (by decide +kernel) ?_
  refine lv_icmp_ge (tgt := 61) hx hb (show decode prog_15_method_4_code 54 = .ok (.if_icmp .ge 7, 3) by decide +kernel) (by decide +kernel) (fun c_59 => absurd c_59 (by decide +kernel)) (fun c_59 => ?_)
  refine lv_iload_n hx hb (show decode prog_15_method_4_code 57 = .ok (.iload_n 3, 1) by decide +kernel) rfl (lv_at hl 5 rfl) ?_
  refine lv_goto (tgt := 75) hx hb (show decode prog_15_method_4_code 58 = .ok (.goto 17, 3) by decide +kernel) (by decide +kernel) ?_
  refine lv_istore (lv' := [(7, .int p2), (6, .int 11), (0, .ref h0), (1, .int p0), (2, .int p1), (3, .int p2), (4, .int p3), (5, .int p4)]) hx hb (show decode prog_15_method_4_code 75 = .ok (.istore 7, 2) by decide +kernel) hl (by decide +kernel) rfl (fun ls hl => ?_)
  refine lv_aload_n hx hb (show decode prog_15_method_4_code 77 = .ok (.aload_n 0, 1) by decide +kernel) rfl (lv_at hl 2 rfl) ?_
  refine va_get (D := D) (ci := 1) (v := .ref q0) (C := R_MD) (T := F_MD) (N := 107) hx hb hts i_MD hown hK hP 0 rfl rfl 1 (by decide +kernel) (hts _ w_1563) (fun _ h9 => h9) (xg_ne (by decide +kernel) ha0) (show decode prog_15_method_4_code 78 = .ok (.getfield 10, 3) by decide +kernel) ?_
  refine lv_aload_n hx hb (show decode prog_15_method_4_code 81 = .ok (.aload_n 0, 1) by decide +kernel) rfl (lv_at hl 2 rfl) ?_
  refine va_get (D := D) (ci := 1) (v := .int 0) (C := R_MD) (T := F_MD) (N := 107) hx hb hts i_MD hown hK hP 0 rfl rfl 2 (by decide +kernel) (hts _ w_1564) (fun _ h9 => h9) (xg_ne (by decide +kernel) hf2) (show decode prog_15_method_4_code 82 = .ok (.getfield 210, 3) by decide +kernel) ?_
  refine lv_iload hx hb (show decode prog_15_method_4_code 85 = .ok (.iload 6, 2) by decide +kernel) (lv_at hl 1 rfl) ?_
  refine lv_iadd hx hb (show decode prog_15_method_4_code 87 = .ok (.iadd, 1) by decide +kernel) ?_
  refine xtopi (v := 11) (by decide +kernel) ?_
  refine lv_iload hx hb (show decode prog_15_method_4_code 88 = .ok (.iload 7, 2) by decide +kernel) (lv_at hl 0 rfl) ?_
  refine lv_bipush (v := 24) hx hb (show decode prog_15_method_4_code 90 = .ok (.bipush 24, 2) by decide +kernel) (by decide +kernel) ?_
  refine lv_bipush (v := 8) hx hb (show decode prog_15_method_4_code 92 = .ok (.bipush 8, 2) by decide +kernel) (by decide +kernel) ?_
  refine lv_iload hx hb (show decode prog_15_method_4_code 94 = .ok (.iload 6, 2) by decide +kernel) (lv_at hl 1 rfl) ?_
  refine lv_iconst (v := 4) hx hb (show decode prog_15_method_4_code 96 = .ok (.iconst 4, 1) by decide +kernel) (by decide +kernel) ?_
  refine lv_irem hx hb (show decode prog_15_method_4_code 97 = .ok (.irem, 1) by decide +kernel) (by decide +kernel) ?_
  refine xtopi (v := 3) (by decide +kernel) ?_
  refine lv_imul hx hb (show decode prog_15_method_4_code 98 = .ok (.imul, 1) by decide +kernel) ?_
  refine xtopi (v := 24) (by decide +kernel) ?_
  refine lv_isub hx hb (show decode prog_15_method_4_code 99 = .ok (.isub, 1) by decide +kernel) ?_
  refine xtopi (v := 0) (by decide +kernel) ?_
  refine lv_ishr hx hb (show decode prog_15_method_4_code 100 = .ok (.ishr, 1) by decide +kernel) ?_
  refine lv_i2b hx hb (show decode prog_15_method_4_code 101 = .ok (.i2b, 1) by decide +kernel) rfl ?_
  refine lv_topi (fun z_60 _ => ?_)
  refine va_bast hx hb hK hP hD hS 1 0 rfl rfl (by unfold vp_in; decide) (show decode prog_15_method_4_code 102 = .ok (.bastore, 1) by decide +kernel) (fun H locs hP hD hS => ?_)
  obtain ⟨g_61, hP, hD⟩ : ∃ g_61 : Nat → Int32, va_P D cl [(h0, .inr (1, (fs.set 0 (.int 0)))), (q0, .inl (cA0, 32768, .inl g_61))] H ∧ va_D _ [(h0, .inr (1, (fs.set 0 (.int 0)))), (q0, .inl (cA0, 32768, .inl g_61))] := ⟨_, hP, hD⟩
  refine lv_iinc (v := 12) (lv' := [(6, .int 12), (7, .int p2), (0, .ref h0), (1, .int p0), (2, .int p1), (3, .int p2), (4, .int p3), (5, .int p4)]) hx hb (show decode prog_15_method_4_code 103 = .ok (.iinc 6 1, 3) by decide +kernel) hl (k := 1) rfl (by decide +kernel) (by decide +kernel) rfl (fun ls hl => ?_)
  refine lv_goto (tgt := 22) hx hb (show decode prog_15_method_4_code 106 = .ok (.goto (-84), 3) by decide +kernel) (by decide +kernel) ?_
  refine lv_iload hx hb (show decode prog_15_method_4_code 22 = .ok (.iload 6, 2) by decide +kernel) (lv_at hl 0 rfl) ?_
  refine lv_bipush (v := 20) hx hb (show decode prog_15_method_4_code 24 = .ok (.bipush 20, 2) by decide +kernel) (by decide +kernel) ?_
  refine lv_icmp_ge (tgt := 109) hx hb (show decode prog_15_method_4_code 26 = .ok (.if_icmp .ge 83, 3) by decide +kernel) (by decide +kernel) (fun c_62 => absurd c_62 (by decide +kernel)) (fun c_62 => ?_)
  refine lv_iload hx hb (show decode prog_15_method_4_code 29 = .ok (.iload 6, 2) by decide +kernel) (lv_at hl 0 rfl) ?_
  refine lv_iconst (v := 4) hx hb (show decode prog_15_method_4_code 31 = .ok (.iconst 4, 1) by decide +kernel) (by decide +kernel) ?_
  refine lv_icmp_ge (tgt := 39) hx hb (show decode prog_15_method_4_code 32 = .ok (.if_icmp .ge 7, 3) by decide +kernel) (by decide +kernel) (fun c_63 => ?_) (fun c_63 => absurd c_63 (by decide +kernel))
  refine lv_iload hx hb (show decode prog_15_method_4_code 39 = .ok (.iload 6, 2) by decide +kernel) (lv_at hl 0 rfl) ?_
  refine lv_bipush (v := 8) hx hb (show decode prog_15_method_4_code 41 = .ok (.bipush 8, 2) by decide +kernel) (by decide +kernel) ?_
  refine lv_icmp_ge (tgt := 50) hx hb (show decode prog_15_method_4_code 43 = .ok (.if_icmp .ge 7, 3) by decide +kernel) (by decide +kernel) (fun c_64 => ?_) (fun c_64 => absurd c_64 (by decide +kernel))
  refine lv_iload hx hb (show decode prog_15_method_4_code 50 = .ok (.iload 6, 2) by decide +kernel) (lv_at hl 0 rfl) ?_
  refine lv_bipush (v := 12) hx hb (show decode prog_15_method_4_code 52 = .ok (.bipush 12, 2) by decide +kernel) (by decide +kernel) ?_
  refine lv_icmp_ge (tgt := 61) hx hb (show decode prog_15_method_4_code 54 = .ok (.if_icmp .ge 7, 3) by decide +kernel) (by decide +kernel) (fun c_65 => ?_) (fun c_65 => absurd c_65 (by decide +kernel))
  refine lv_iload hx hb (show decode prog_15_method_4_code 61 = .ok (.iload 6, 2) by decide +kernel) (lv_at hl 0 rfl) ?_
  refine lv_bipush (v := 16) hx hb (show decode prog_15_method_4_code 63 = .ok (.bipush 16, 2) by decide +kernel) (by decide +kernel) ?_
  refine lv_icmp_ge (tgt := 73) hx hb (show decode prog_15_method_4_code 65 = .ok (.if_icmp .ge 8, 3) by decide +kernel) (by decide +kernel) (fun c_66 => absurd c_66 (by decide +kernel)) (fun c_66 => ?_)
  refine lv_iload hx hb (show decode prog_15_method_4_code 68 = .ok (.iload 4, 2) by decide +kernel) (lv_at hl 6 rfl) ?_
  refine lv_goto (tgt := 75) hx hb (show decode prog_15_method_4_code 70 = .ok (.goto 5, 3) by decide +kernel) (by decide +kernel) ?_
  refine lv_istore (lv' := [(7, .int p3), (6, .int 12), (0, .ref h0), (1, .int p0), (2, .int p1), (3, .int p2), (4, .int p3), (5, .int p4)]) hx hb (show decode prog_15_method_4_code 75 = .ok (.istore 7, 2) by decide +kernel) hl (by decide +kernel) rfl (fun ls hl => ?_)
  refine lv_aload_n hx hb (show decode prog_15_method_4_code 77 = .ok (.aload_n 0, 1) by decide +kernel) rfl (lv_at hl 2 rfl) ?_
  refine va_get (D := D) (ci := 1) (v := .ref q0) (C := R_MD) (T := F_MD) (N := 107) hx hb hts i_MD hown hK hP 0 rfl rfl 1 (by decide +kernel) (hts _ w_1563) (fun _ h9 => h9) (xg_ne (by decide +kernel) ha0) (show decode prog_15_method_4_code 78 = .ok (.getfield 10, 3) by decide +kernel) ?_
  refine lv_aload_n hx hb (show decode prog_15_method_4_code 81 = .ok (.aload_n 0, 1) by decide +kernel) rfl (lv_at hl 2 rfl) ?_
  refine va_get (D := D) (ci := 1) (v := .int 0) (C := R_MD) (T := F_MD) (N := 107) hx hb hts i_MD hown hK hP 0 rfl rfl 2 (by decide +kernel) (hts _ w_1564) (fun _ h9 => h9) (xg_ne (by decide +kernel) hf2) (show decode prog_15_method_4_code 82 = .ok (.getfield 210, 3) by decide +kernel) ?_
  refine lv_iload hx hb (show decode prog_15_method_4_code 85 = .ok (.iload 6, 2) by decide +kernel) (lv_at hl 1 rfl) ?_
  refine lv_iadd hx hb (show decode prog_15_method_4_code 87 = .ok (.iadd, 1) by decide +kernel) ?_
  refine xtopi (v := 12) (by decide +kernel) ?_
  refine lv_iload hx hb (show decode prog_15_method_4_code 88 = .ok (.iload 7, 2) by decide +kernel) (lv_at hl 0 rfl) ?_
  refine lv_bipush (v := 24) hx hb (show decode prog_15_method_4_code 90 = .ok (.bipush 24, 2) by decide +kernel) (by decide +kernel) ?_
  refine lv_bipush (v := 8) hx hb (show decode prog_15_method_4_code 92 = .ok (.bipush 8, 2) by decide +kernel) (by decide +kernel) ?_
  refine lv_iload hx hb (show decode prog_15_method_4_code 94 = .ok (.iload 6, 2) by decide +kernel) (lv_at hl 1 rfl) ?_
  refine lv_iconst (v := 4) hx hb (show decode prog_15_method_4_code 96 = .ok (.iconst 4, 1) by decide +kernel) (by decide +kernel) ?_
  refine lv_irem hx hb (show decode prog_15_method_4_code 97 = .ok (.irem, 1) by decide +kernel) (by decide +kernel) ?_
  refine xtopi (v := 0) (by decide +kernel) ?_
  refine lv_imul hx hb (show decode prog_15_method_4_code 98 = .ok (.imul, 1) by decide +kernel) ?_
  refine xtopi (v := 0) (by decide +kernel) ?_
  refine lv_isub hx hb (show decode prog_15_method_4_code 99 = .ok (.isub, 1) by decide +kernel) ?_
  refine xtopi (v := 24) (by decide +kernel) ?_
  refine lv_ishr hx hb (show decode prog_15_method_4_code 100 = .ok (.ishr, 1) by decide +kernel) ?_
  refine lv_i2b hx hb (show decode prog_15_method_4_code 101 = .ok (.i2b, 1) by decide +kernel) rfl ?_
  refine lv_topi (fun z_67 _ => ?_)
  refine va_bast hx hb hK hP hD hS 1 0 rfl rfl (by unfold vp_in; decide) (show decode prog_15_method_4_code 102 = .ok (.bastore, 1) by decide +kernel) (fun H locs hP hD hS => ?_)
  obtain ⟨g_68, hP, hD⟩ : ∃ g_68 : Nat → Int32, va_P D cl [(h0, .inr (1, (fs.set 0 (.int 0)))), (q0, .inl (cA0, 32768, .inl g_68))] H ∧ va_D _ [(h0, .inr (1, (fs.set 0 (.int 0)))), (q0, .inl (cA0, 32768, .inl g_68))] := ⟨_, hP, hD⟩
  refine lv_iinc (v := 13) (lv' := [(6, .int 13), (7, .int p3), (0, .ref h0), (1, .int p0), (2, .int p1), (3, .int p2), (4, .int p3), (5, .int p4)]) hx hb (show decode prog_15_method_4_code 103 = .ok (.iinc 6 1, 3) by decide +kernel) hl (k := 1) rfl (by decide +kernel) (by decide +kernel) rfl (fun ls hl => ?_)
  refine lv_goto (tgt := 22) hx hb (show decode prog_15_method_4_code 106 = .ok (.goto (-84), 3) by decide +kernel) (by decide +kernel) ?_
  refine lv_iload hx hb (show decode prog_15_method_4_code 22 = .ok (.iload 6, 2) by decide +kernel) (lv_at hl 0 rfl) ?_
  refine lv_bipush (v := 20) hx hb (show decode prog_15_method_4_code 24 = .ok (.bipush 20, 2) by decide +kernel) (by decide +kernel) ?_
  refine lv_icmp_ge (tgt := 109) hx hb (show decode prog_15_method_4_code 26 = .ok (.if_icmp .ge 83, 3) by decide +kernel) (by decide +kernel) (fun c_69 => absurd c_69 (by decide +kernel)) (fun c_69 => ?_)
  refine lv_iload hx hb (show decode prog_15_method_4_code 29 = .ok (.iload 6, 2) by decide +kernel) (lv_at hl 0 rfl) ?_
  refine lv_iconst (v := 4) hx hb (show decode prog_15_method_4_code 31 = .ok (.iconst 4, 1) by decide +kernel) (by decide +kernel) ?_
  refine lv_icmp_ge (tgt := 39) hx hb (show decode prog_15_method_4_code 32 = .ok (.if_icmp .ge 7, 3) by decide +kernel) (by decide +kernel) (fun c_70 => ?_) (fun c_70 => absurd c_70 (by decide +kernel))
  refine lv_iload hx hb (show decode prog_15_method_4_code 39 = .ok (.iload 6, 2) by decide +kernel) (lv_at hl 0 rfl) ?_
  refine lv_bipush (v := 8) hx hb (show decode prog_15_method_4_code 41 = .ok (.bipush 8, 2) by decide +kernel) (by decide +kernel) ?_
  refine lv_icmp_ge (tgt := 50) hx hb (show decode prog_15_method_4_code 43 = .ok (.if_icmp .ge 7, 3) by decide +kernel) (by decide +kernel) (fun c_71 => ?_) (fun c_71 => absurd c_71 (by decide +kernel))
  refine lv_iload hx hb (show decode prog_15_method_4_code 50 = .ok (.iload 6, 2) by decide +kernel) (lv_at hl 0 rfl) ?_
  refine lv_bipush (v := 12) hx hb (show decode prog_15_method_4_code 52 = .ok (.bipush 12, 2) by decide +kernel) (by decide +kernel) ?_
  refine lv_icmp_ge (tgt := 61) hx hb (show decode prog_15_method_4_code 54 = .ok (.if_icmp .ge 7, 3) by decide +kernel) (by decide +kernel) (fun c_72 => ?_) (fun c_72 => absurd c_72 (by decide +kernel))
  refine lv_iload hx hb (show decode prog_15_method_4_code 61 = .ok (.iload 6, 2) by decide +kernel) (lv_at hl 0 rfl) ?_
  refine lv_bipush (v := 16) hx hb (show decode prog_15_method_4_code 63 = .ok (.bipush 16, 2) by decide +kernel) (by decide +kernel) ?_
  refine lv_icmp_ge (tgt := 73) hx hb (show decode prog_15_method_4_code 65 = .ok (.if_icmp .ge 8, 3) by decide +kernel) (by decide +kernel) (fun c_73 => absurd c_73 (by decide +kernel)) (fun c_73 => ?_)
  refine lv_iload hx hb (show decode prog_15_method_4_code 68 = .ok (.iload 4, 2) by decide +kernel) (lv_at hl 6 rfl) ?_
  refine lv_goto (tgt := 75) hx hb (show decode prog_15_method_4_code 70 = .ok (.goto 5, 3) by decide +kernel) (by decide +kernel) ?_
  refine lv_istore (lv' := [(7, .int p3), (6, .int 13), (0, .ref h0), (1, .int p0), (2, .int p1), (3, .int p2), (4, .int p3), (5, .int p4)]) hx hb (show decode prog_15_method_4_code 75 = .ok (.istore 7, 2) by decide +kernel) hl (by decide +kernel) rfl (fun ls hl => ?_)
  refine lv_aload_n hx hb (show decode prog_15_method_4_code 77 = .ok (.aload_n 0, 1) by decide +kernel) rfl (lv_at hl 2 rfl) ?_
  refine va_get (D := D) (ci := 1) (v := .ref q0) (C := R_MD) (T := F_MD) (N := 107) hx hb hts i_MD hown hK hP 0 rfl rfl 1 (by decide +kernel) (hts _ w_1563) (fun _ h9 => h9) (xg_ne (by decide +kernel) ha0) (show decode prog_15_method_4_code 78 = .ok (.getfield 10, 3) by decide +kernel) ?_
  refine lv_aload_n hx hb (show decode prog_15_method_4_code 81 = .ok (.aload_n 0, 1) by decide +kernel) rfl (lv_at hl 2 rfl) ?_
  refine va_get (D := D) (ci := 1) (v := .int 0) (C := R_MD) (T := F_MD) (N := 107) hx hb hts i_MD hown hK hP 0 rfl rfl 2 (by decide +kernel) (hts _ w_1564) (fun _ h9 => h9) (xg_ne (by decide +kernel) hf2) (show decode prog_15_method_4_code 82 = .ok (.getfield 210, 3) by decide +kernel) ?_
  refine lv_iload hx hb (show decode prog_15_method_4_code 85 = .ok (.iload 6, 2) by decide +kernel) (lv_at hl 1 rfl) ?_
  refine lv_iadd hx hb (show decode prog_15_method_4_code 87 = .ok (.iadd, 1) by decide +kernel) ?_
  refine xtopi (v := 13) (by decide +kernel) ?_
  refine lv_iload hx hb (show decode prog_15_method_4_code 88 = .ok (.iload 7, 2) by decide +kernel) (lv_at hl 0 rfl) ?_
  refine lv_bipush (v := 24) hx hb (show decode prog_15_method_4_code 90 = .ok (.bipush 24, 2) by decide +kernel) (by decide +kernel) ?_
  refine lv_bipush (v := 8) hx hb (show decode prog_15_method_4_code 92 = .ok (.bipush 8, 2) by decide +kernel) (by decide +kernel) ?_
  refine lv_iload hx hb (show decode prog_15_method_4_code 94 = .ok (.iload 6, 2) by decide +kernel) (lv_at hl 1 rfl) ?_
  refine lv_iconst (v := 4) hx hb (show decode prog_15_method_4_code 96 = .ok (.iconst 4, 1) by decide +kernel) (by decide +kernel) ?_
  refine lv_irem hx hb (show decode prog_15_method_4_code 97 = .ok (.irem, 1) by decide +kernel) (by decide +kernel) ?_
  refine xtopi (v := 1) (by decide +kernel) ?_
  refine lv_imul hx hb (show decode prog_15_method_4_code 98 = .ok (.imul, 1) by decide +kernel) ?_
  refine xtopi (v := 8) (by decide +kernel) ?_
  refine lv_isub hx hb (show decode prog_15_method_4_code 99 = .ok (.isub, 1) by decide +kernel) ?_
  refine xtopi (v := 16) (by decide +kernel) ?_
  refine lv_ishr hx hb (show decode prog_15_method_4_code 100 = .ok (.ishr, 1) by decide +kernel) ?_
  refine lv_i2b hx hb (show decode prog_15_method_4_code 101 = .ok (.i2b, 1) by decide +kernel) rfl ?_
  refine lv_topi (fun z_74 _ => ?_)
  refine va_bast hx hb hK hP hD hS 1 0 rfl rfl (by unfold vp_in; decide) (show decode prog_15_method_4_code 102 = .ok (.bastore, 1) by decide +kernel) (fun H locs hP hD hS => ?_)
  obtain ⟨g_75, hP, hD⟩ : ∃ g_75 : Nat → Int32, va_P D cl [(h0, .inr (1, (fs.set 0 (.int 0)))), (q0, .inl (cA0, 32768, .inl g_75))] H ∧ va_D _ [(h0, .inr (1, (fs.set 0 (.int 0)))), (q0, .inl (cA0, 32768, .inl g_75))] := ⟨_, hP, hD⟩
  refine lv_iinc (v := 14) (lv' := [(6, .int 14), (7, .int p3), (0, .ref h0), (1, .int p0), (2, .int p1), (3, .int p2), (4, .int p3), (5, .int p4)]) hx hb (show decode prog_15_method_4_code 103 = .ok (.iinc 6 1, 3) by decide +kernel) hl (k := 1) rfl (by decide +kernel) (by decide +kernel) rfl (fun ls hl => ?_)
  refine lv_goto (tgt := 22) hx hb (show decode prog_15_method_4_code 106 = .ok (.goto (-84), 3) by decide +kernel) (by decide +kernel) ?_
  refine lv_iload hx hb (show decode prog_15_method_4_code 22 = .ok (.iload 6, 2) by decide +kernel) (lv_at hl 0 rfl) ?_
  refine lv_bipush (v := 20) hx hb (show decode prog_15_method_4_code 24 = .ok (.bipush 20, 2) by decide +kernel) (by decide +kernel) ?_
  refine lv_icmp_ge (tgt := 109) hx hb (show decode prog_15_method_4_code 26 = .ok (.if_icmp .ge 83, 3) by decide +kernel) (by decide +kernel) (fun c_76 => absurd c_76 (by decide +kernel)) (fun c_76 => ?_)
  refine lv_iload hx hb (show decode prog_15_method_4_code 29 = .ok (.iload 6, 2) by decide +kernel) (lv_at hl 0 rfl) ?_
  refine lv_iconst (v := 4) hx hb (show decode prog_15_method_4_code 31 = .ok (.iconst 4, 1) by decide +kernel) (by decide +kernel) ?_
  refine lv_icmp_ge (tgt := 39) hx hb (show decode prog_15_method_4_code 32 = .ok (.if_icmp .ge 7, 3) by decide +kernel) (by decide +kernel) (fun c_77 => ?_) (fun c_77 => absurd c_77 (by decide +kernel))
  refine lv_iload hx hb (show decode prog_15_method_4_code 39 = .ok (.iload 6, 2) by decide +kernel) (lv_at hl 0 rfl) ?_
  refine lv_bipush (v := 8) hx hb (show decode prog_15_method_4_code 41 = .ok (.bipush 8, 2) by decide +kernel) (by decide +kernel) ?_
  refine lv_icmp_ge (tgt := 50) hx hb (show decode prog_15_method_4_code 43 = .ok (.if_icmp .ge 7, 3) by decide +kernel) (by decide +kernel) (fun c_78 => ?_) (fun c_78 => absurd c_78 (by decide +kernel))
  refine lv_iload hx hb (show decode prog_15_method_4_code 50 = .ok (.iload 6, 2) by decide +kernel) (lv_at hl 0 rfl) ?_
  refine lv_bipush (v := 12) hx hb (show decode prog_15_method_4_code 52 = .ok (.bipush 12, 2) by decide +kernel) (by decide +kernel) ?_
  refine lv_icmp_ge (tgt := 61) hx hb (show decode prog_15_method_4_code 54 = .ok (.if_icmp .ge 7, 3) by decide +kernel) (by decide +kernel) (fun c_79 => ?_) (fun c_79 => absurd c_79 (by decide +kernel))
  refine lv_iload hx hb (show decode prog_15_method_4_code 61 = .ok (.iload 6, 2) by decide +kernel) (lv_at hl 0 rfl) ?_
  refine lv_bipush (v := 16) hx hb (show decode prog_15_method_4_code 63 = .ok (.bipush 16, 2) by decide +kernel) (by decide +kernel) ?_
  refine lv_icmp_ge (tgt := 73) hx hb (show decode prog_15_method_4_code 65 = .ok (.if_icmp .ge 8, 3) by decide +kernel) (by decide +kernel) (fun c_80 => absurd c_80 (by decide +kernel)) (fun c_80 => ?_)
  refine lv_iload hx hb (show decode prog_15_method_4_code 68 = .ok (.iload 4, 2) by decide +kernel) (lv_at hl 6 rfl) ?_
  refine lv_goto (tgt := 75) hx hb (show decode prog_15_method_4_code 70 = .ok (.goto 5, 3) by decide +kernel) (by decide +kernel) ?_
  refine lv_istore (lv' := [(7, .int p3), (6, .int 14), (0, .ref h0), (1, .int p0), (2, .int p1), (3, .int p2), (4, .int p3), (5, .int p4)]) hx hb (show decode prog_15_method_4_code 75 = .ok (.istore 7, 2) by decide +kernel) hl (by decide +kernel) rfl (fun ls hl => ?_)
  refine lv_aload_n hx hb (show decode prog_15_method_4_code 77 = .ok (.aload_n 0, 1) by decide +kernel) rfl (lv_at hl 2 rfl) ?_
  refine va_get (D := D) (ci := 1) (v := .ref q0) (C := R_MD) (T := F_MD) (N := 107) hx hb hts i_MD hown hK hP 0 rfl rfl 1 (by decide +kernel) (hts _ w_1563) (fun _ h9 => h9) (xg_ne (by decide +kernel) ha0) (show decode prog_15_method_4_code 78 = .ok (.getfield 10, 3) by decide +kernel) ?_
  refine lv_aload_n hx hb (show decode prog_15_method_4_code 81 = .ok (.aload_n 0, 1) by decide +kernel) rfl (lv_at hl 2 rfl) ?_
  refine va_get (D := D) (ci := 1) (v := .int 0) (C := R_MD) (T := F_MD) (N := 107) hx hb hts i_MD hown hK hP 0 rfl rfl 2 (by decide +kernel) (hts _ w_1564) (fun _ h9 => h9) (xg_ne (by decide +kernel) hf2) (show decode prog_15_method_4_code 82 = .ok (.getfield 210, 3) by decide +kernel) ?_
  refine lv_iload hx hb (show decode prog_15_method_4_code 85 = .ok (.iload 6, 2) by decide +kernel) (lv_at hl 1 rfl) ?_
  refine lv_iadd hx hb (show decode prog_15_method_4_code 87 = .ok (.iadd, 1) by decide +kernel) ?_
  refine xtopi (v := 14) (by decide +kernel) ?_
  refine lv_iload hx hb (show decode prog_15_method_4_code 88 = .ok (.iload 7, 2) by decide +kernel) (lv_at hl 0 rfl) ?_
  refine lv_bipush (v := 24) hx hb (show decode prog_15_method_4_code 90 = .ok (.bipush 24, 2) by decide +kernel) (by decide +kernel) ?_
  refine lv_bipush (v := 8) hx hb (show decode prog_15_method_4_code 92 = .ok (.bipush 8, 2) by decide +kernel) (by decide +kernel) ?_
  refine lv_iload hx hb (show decode prog_15_method_4_code 94 = .ok (.iload 6, 2) by decide +kernel) (lv_at hl 1 rfl) ?_
  refine lv_iconst (v := 4) hx hb (show decode prog_15_method_4_code 96 = .ok (.iconst 4, 1) by decide +kernel) (by decide +kernel) ?_
  refine lv_irem hx hb (show decode prog_15_method_4_code 97 = .ok (.irem, 1) by decide +kernel) (by decide +kernel) ?_
  refine xtopi (v := 2) (by decide +kernel) ?_
  refine lv_imul hx hb (show decode prog_15_method_4_code 98 = .ok (.imul, 1) by decide +kernel) ?_
  refine xtopi (v := 16) (by decide +kernel) ?_
  refine lv_isub hx hb (show decode prog_15_method_4_code 99 = .ok (.isub, 1) by decide +kernel) ?_
  refine xtopi (v := 8) (by decide +kernel) ?_
  refine lv_ishr hx hb (show decode prog_15_method_4_code 100 = .ok (.ishr, 1) by decide +kernel) ?_
  refine lv_i2b hx hb (show decode prog_15_method_4_code 101 = .ok (.i2b, 1) by decide +kernel) rfl ?_
  refine lv_topi (fun z_81 _ => ?_)
  refine va_bast hx hb hK hP hD hS 1 0 rfl rfl (by unfold vp_in; decide) (show decode prog_15_method_4_code 102 = .ok (.bastore, 1) by decide +kernel) (fun H locs hP hD hS => ?_)
  obtain ⟨g_82, hP, hD⟩ : ∃ g_82 : Nat → Int32, va_P D cl [(h0, .inr (1, (fs.set 0 (.int 0)))), (q0, .inl (cA0, 32768, .inl g_82))] H ∧ va_D _ [(h0, .inr (1, (fs.set 0 (.int 0)))), (q0, .inl (cA0, 32768, .inl g_82))] := ⟨_, hP, hD⟩
  refine lv_iinc (v := 15) (lv' := [(6, .int 15), (7, .int p3), (0, .ref h0), (1, .int p0), (2, .int p1), (3, .int p2), (4, .int p3), (5, .int p4)]) hx hb (show decode prog_15_method_4_code 103 = .ok (.iinc 6 1, 3) by decide +kernel) hl (k := 1) rfl (by decide +kernel) (by decide +kernel) rfl (fun ls hl => ?_)
  refine lv_goto (tgt := 22) hx hb (show decode prog_15_method_4_code 106 = .ok (.goto (-84), 3) by decide +kernel) (by decide +kernel) ?_
  refine lv_iload hx hb (show decode prog_15_method_4_code 22 = .ok (.iload 6, 2) by decide +kernel) (lv_at hl 0 rfl) ?_
  refine lv_bipush (v := 20) hx hb (show decode prog_15_method_4_code 24 = .ok (.bipush 20, 2) by decide +kernel) (by decide +kernel) ?_
  refine lv_icmp_ge (tgt := 109) hx hb (show decode prog_15_method_4_code 26 = .ok (.if_icmp .ge 83, 3) by decide +kernel) (by decide +kernel) (fun c_83 => absurd c_83 (by decide +kernel)) (fun c_83 => ?_)
  refine lv_iload hx hb (show decode prog_15_method_4_code 29 = .ok (.iload 6, 2) by decide +kernel) (lv_at hl 0 rfl) ?_
  refine lv_iconst (v := 4) hx hb (show decode prog_15_method_4_code 31 = .ok (.iconst 4, 1) by decide +kernel) (by decide +kernel) ?_
  refine lv_icmp_ge (tgt := 39) hx hb (show decode prog_15_method_4_code 32 = .ok (.if_icmp .ge 7, 3) by decide +kernel) (by decide +kernel) (fun c_84 => ?_) (fun c_84 => absurd c_84 (by decide +kernel))
  refine lv_iload hx hb (show decode prog_15_method_4_code 39 = .ok (.iload 6, 2) by decide +kernel) (lv_at hl 0 rfl) ?_
  refine lv_bipush (v := 8) hx hb (show decode prog_15_method_4_code 41 = .ok (.bipush 8, 2) by decide +kernel) (by decide +kernel) ?_
  refine lv_icmp_ge (tgt := 50) hx hb (show decode prog_15_method_4_code 43 = .ok (.if_icmp .ge 7, 3) by decide +kernel) (by decide +kernel) (fun c_85 => ?_) (fun c_85 => absurd c_85 (by decide +kernel))
  refine lv_iload hx hb (show decode prog_15_method_4_code 50 = .ok (.iload 6, 2) by decide +kernel) (lv_at hl 0 rfl) ?_
  refine lv_bipush (v := 12) hx hb (show decode prog_15_method_4_code 52 = .ok (.bipush 12, 2) by decide +kernel) (by decide +kernel) ?_
  refine lv_icmp_ge (tgt := 61) hx hb (show decode prog_15_method_4_code 54 = .ok (.if_icmp .ge 7, 3) by decide +kernel) (by decide +kernel) (fun c_86 => ?_) (fun c_86 => absurd c_86 (by decide +kernel))
  refine lv_iload hx hb (show decode prog_15_method_4_code 61 = .ok (.iload 6, 2) by decide +kernel) (lv_at hl 0 rfl) ?_
  refine lv_bipush (v := 16) hx hb (show decode prog_15_method_4_code 63 = .ok (.bipush 16, 2) by decide +kernel) (by decide +kernel) ?_
  refine lv_icmp_ge (tgt := 73) hx hb (show decode prog_15_method_4_code 65 = .ok (.if_icmp .ge 8, 3) by decide +kernel) (by decide +kernel) (fun c_87 => absurd c_87 (by decide +kernel)) (fun c_87 => ?_)
  refine lv_iload hx hb (show decode prog_15_method_4_code 68 = .ok (.iload 4, 2) by decide +kernel) (lv_at hl 6 rfl) ?_
  refine lv_goto (tgt := 75) hx hb (show decode prog_15_method_4_code 70 = .ok (.goto 5, 3) by decide +kernel) (by decide +kernel) ?_
  refine lv_istore (lv' := [(7, .int p3), (6, .int 15), (0, .ref h0), (1, .int p0), (2, .int p1), (3, .int p2), (4, .int p3), (5, .int p4)]) hx hb (show decode prog_15_method_4_code 75 = .ok (.istore 7, 2) by decide +kernel) hl (by decide +kernel) rfl (fun ls hl => ?_)
  refine lv_aload_n hx hb (show decode prog_15_method_4_code 77 = .ok (.aload_n 0, 1) by decide +kernel) rfl (lv_at hl 2 rfl) ?_
  refine va_get (D := D) (ci := 1) (v := .ref q0) (C := R_MD) (T := F_MD) (N := 107) hx hb hts i_MD hown hK hP 0 rfl rfl 1 (by decide +kernel) (hts _ w_1563) (fun _ h9 => h9) (xg_ne (by decide +kernel) ha0) (show decode prog_15_method_4_code 78 = .ok (.getfield 10, 3) by decide +kernel) ?_
  refine lv_aload_n hx hb (show decode prog_15_method_4_code 81 = .ok (.aload_n 0, 1) by decide +kernel) rfl (lv_at hl 2 rfl) ?_
  refine va_get (D := D) (ci := 1) (v := .int 0) (C := R_MD) (T := F_MD) (N := 107) hx hb hts i_MD hown hK hP 0 rfl rfl 2 (by decide +kernel) (hts _ w_1564) (fun _ h9 => h9) (xg_ne (by decide +kernel) hf2) (show decode prog_15_method_4_code 82 = .ok (.getfield 210, 3) by decide +kernel) ?_
  refine lv_iload hx hb (show decode prog_15_method_4_code 85 = .ok (.iload 6, 2) by decide +kernel) (lv_at hl 1 rfl) ?_
  refine lv_iadd hx hb (show decode prog_15_method_4_code 87 = .ok (.iadd, 1) by decide +kernel) ?_
  refine xtopi (v := 15) (by decide +kernel) ?_
  refine lv_iload hx hb (show decode prog_15_method_4_code 88 = .ok (.iload 7, 2) by decide +kernel) (lv_at hl 0 rfl) ?_
  refine lv_bipush (v := 24) hx hb (show decode prog_15_method_4_code 90 = .ok (.bipush 24, 2) by decide +kernel) (by decide +kernel) ?_
  refine lv_bipush (v := 8) hx hb (show decode prog_15_method_4_code 92 = .ok (.bipush 8, 2) by decide +kernel) (by decide +kernel) ?_
  refine lv_iload hx hb (show decode prog_15_method_4_code 94 = .ok (.iload 6, 2) by decide +kernel) (lv_at hl 1 rfl) ?_
  refine lv_iconst (v := 4) hx hb (show decode prog_15_method_4_code 96 = .ok (.iconst 4, 1) by decide +kernel) (by decide +kernel) ?_
  refine lv_irem hx hb (show decode prog_15_method_4_code 97 = .ok (.irem, 1) by decide +kernel) (by decide +kernel) ?_
  refine xtopi (v := 3) (by decide +kernel) ?_
  refine lv_imul hx hb (show decode prog_15_method_4_code 98 = .ok (.imul, 1) by decide +kernel) ?_
  refine xtopi (v := 24) (by decide +kernel) ?_
  refine lv_isub hx hb (show decode prog_15_method_4_code 99 = .ok (.isub, 1) by decide +kernel) ?_
  refine xtopi (v := 0) (by decide +kernel) ?_
  refine lv_ishr hx hb (show decode prog_15_method_4_code 100 = .ok (.ishr, 1) by decide +kernel) ?_
  refine lv_i2b hx hb (show decode prog_15_method_4_code 101 = .ok (.i2b, 1) by decide +kernel) rfl ?_
  refine lv_topi (fun z_88 _ => ?_)
  refine va_bast hx hb hK hP hD hS 1 0 rfl rfl (by unfold vp_in; decide) (show decode prog_15_method_4_code 102 = .ok (.bastore, 1) by decide +kernel) (fun H locs hP hD hS => ?_)
  obtain ⟨g_89, hP, hD⟩ : ∃ g_89 : Nat → Int32, va_P D cl [(h0, .inr (1, (fs.set 0 (.int 0)))), (q0, .inl (cA0, 32768, .inl g_89))] H ∧ va_D _ [(h0, .inr (1, (fs.set 0 (.int 0)))), (q0, .inl (cA0, 32768, .inl g_89))] := ⟨_, hP, hD⟩
  refine lv_iinc (v := 16) (lv' := [(6, .int 16), (7, .int p3), (0, .ref h0), (1, .int p0), (2, .int p1), (3, .int p2), (4, .int p3), (5, .int p4)]) hx hb (show decode prog_15_method_4_code 103 = .ok (.iinc 6 1, 3) by decide +kernel) hl (k := 1) rfl (by decide +kernel) (by decide +kernel) rfl (fun ls hl => ?_)
  refine lv_goto (tgt := 22) hx hb (show decode prog_15_method_4_code 106 = .ok (.goto (-84), 3) by decide +kernel) (by decide +kernel) ?_
  refine lv_iload hx hb (show decode prog_15_method_4_code 22 = .ok (.iload 6, 2) by decide +kernel) (lv_at hl 0 rfl) ?_
  refine lv_bipush (v := 20) hx hb (show decode prog_15_method_4_code 24 = .ok (.bipush 20, 2) by decide +kernel) (by decide +kernel) ?_
  refine lv_icmp_ge (tgt := 109) hx hb (show decode prog_15_method_4_code 26 = .ok (.if_icmp .ge 83, 3) by decide +kernel) (by decide +kernel) (fun c_90 => absurd c_90 (by decide +kernel)) (fun c_90 => ?_)
  refine lv_iload hx hb (show decode prog_15_method_4_code 29 = .ok (.iload 6, 2) by decide +kernel) (lv_at hl 0 rfl) ?_
  refine lv_iconst (v := 4) hx hb (show decode prog_15_method_4_code 31 = .ok (.iconst 4, 1) by decide +kernel) (by decide +kernel) ?_
  refine lv_icmp_ge (tgt := 39) hx hb (show decode prog_15_method_4_code 32 = .ok (.if_icmp .ge 7, 3) by decide +kernel) (by decide +kernel) (fun c_91 => ?_) (fun c_91 => absurd c_91 (by decide +kernel))
  refine lv_iload hx hb (show decode prog_15_method_4_code 39 = .ok (.iload 6, 2) by decide +kernel) (lv_at hl 0 rfl) ?_
  refine lv_bipush (v := 8) hx hb (show decode prog_15_method_4_code 41 = .ok (.bipush 8, 2) by decide +kernel) (by decide +kernel) ?_
  refine lv_icmp_ge (tgt := 50) hx hb (show decode prog_15_method_4_code 43 = .ok (.if_icmp .ge 7, 3) by decide +kernel) (by decide +kernel) (fun c_92 => ?_) (fun c_92 => absurd c_92 (by decide +kernel))
  refine lv_iload hx hb (show decode prog_15_method_4_code 50 = .ok (.iload 6, 2) by decide +kernel) (lv_at hl 0 rfl) ?_
  refine lv_bipush (v := 12) hx hb (show decode prog_15_method_4_code 52 = .ok (.bipush 12, 2) by decide +kernel) (by decide +kernel) ?_
  refine lv_icmp_ge (tgt := 61) hx hb (show decode prog_15_method_4_code 54 = .ok (.if_icmp .ge 7, 3) by decide +kernel) (by decide +kernel) (fun c_93 => ?_) (fun c_93 => absurd c_93 (by decide +kernel))
  refine lv_iload hx hb (show decode prog_15_method_4_code 61 = .ok (.iload 6, 2) by decide +kernel) (lv_at hl 0 rfl) ?_
  refine lv_bipush (v := 16) hx hb (show decode prog_15_method_4_code 63 = .ok (.bipush 16, 2) by decide +kernel) (by decide +kernel) ?_
  refine lv_icmp_ge (tgt := 73) hx hb (show decode prog_15_method_4_code 65 = .ok (.if_icmp .ge 8, 3) by decide +kernel) (by decide +kernel) (fun c_94 => ?_) (fun c_94 => absurd c_94 (by decide +kernel))
  refine lv_iload hx hb (show decode prog_15_method_4_code 73 = .ok (.iload 5, 2) by decide +kernel) (lv_at hl 7 rfl) ?_
  refine lv_istore (lv' := [(7, .int p4), (6, .int 16), (0, .ref h0), (1, .int p0), (2, .int p1), (3, .int p2), (4, .int p3), (5, .int p4)]) hx hb (show decode prog_15_method_4_code 75 = .ok (.istore 7, 2) by decide +kernel) hl (by decide +kernel) rfl (fun ls hl => ?_)
  refine lv_aload_n hx hb (show decode prog_15_method_4_code 77 = .ok (.aload_n 0, 1) by decide +kernel) rfl (lv_at hl 2 rfl) ?_
  refine va_get (D := D) (ci := 1) (v := .ref q0) (C := R_MD) (T := F_MD) (N := 107) hx hb hts i_MD hown hK hP 0 rfl rfl 1 (by decide +kernel) (hts _ w_1563) (fun _ h9 => h9) (xg_ne (by decide +kernel) ha0) (show decode prog_15_method_4_code 78 = .ok (.getfield 10, 3) by decide +kernel) ?_
  refine lv_aload_n hx hb (show decode prog_15_method_4_code 81 = .ok (.aload_n 0, 1) by decide +kernel) rfl (lv_at hl 2 rfl) ?_
  refine va_get (D := D) (ci := 1) (v := .int 0) (C := R_MD) (T := F_MD) (N := 107) hx hb hts i_MD hown hK hP 0 rfl rfl 2 (by decide +kernel) (hts _ w_1564) (fun _ h9 => h9) (xg_ne (by decide +kernel) hf2) (show decode prog_15_method_4_code 82 = .ok (.getfield 210, 3) by decide +kernel) ?_
  refine lv_iload hx hb (show decode prog_15_method_4_code 85 = .ok (.iload 6, 2) by decide +kernel) (lv_at hl 1 rfl) ?_
  refine lv_iadd hx hb (show decode prog_15_method_4_code 87 = .ok (.iadd, 1) by decide +kernel) ?_
  refine xtopi (v := 16) (by decide +kernel) ?_
  refine lv_iload hx hb (show decode prog_15_method_4_code 88 = .ok (.iload 7, 2) by decide +kernel) (lv_at hl 0 rfl) ?_
  refine lv_bipush (v := 24) hx hb (show decode prog_15_method_4_code 90 = .ok (.bipush 24, 2) by decide +kernel) (by decide +kernel) ?_
  refine lv_bipush (v := 8) hx hb (show decode prog_15_method_4_code 92 = .ok (.bipush 8, 2) by decide +kernel) (by decide +kernel) ?_
  refine lv_iload hx hb (show decode prog_15_method_4_code 94 = .ok (.iload 6, 2) by decide +kernel) (lv_at hl 1 rfl) ?_
  refine lv_iconst (v := 4) hx hb (show decode prog_15_method_4_code 96 = .ok (.iconst 4, 1) by decide +kernel) (by decide +kernel) ?_
  refine lv_irem hx hb (show decode prog_15_method_4_code 97 = .ok (.irem, 1) by decide +kernel) (by decide +kernel) ?_
  refine xtopi (v := 0) (by decide +kernel) ?_
  refine lv_imul hx hb (show decode prog_15_method_4_code 98 = .ok (.imul, 1) by decide +kernel) ?_
  refine xtopi (v := 0) (by decide +kernel) ?_
  refine lv_isub hx hb (show decode prog_15_method_4_code 99 = .ok (.isub, 1) by decide +kernel) ?_
  refine xtopi (v := 24) (by decide +kernel) ?_
  refine lv_ishr hx hb (show decode prog_15_method_4_code 100 = .ok (.ishr, 1) by decide +kernel) ?_
  refine lv_i2b hx hb (show decode prog_15_method_4_code 101 = .ok (.i2b, 1) by decide +kernel) rfl ?_
  refine lv_topi (fun z_95 _ => ?_)
  refine va_bast hx hb hK hP hD hS 1 0 rfl rfl (by unfold vp_in; decide) (show decode prog_15_method_4_code 102 = .ok (.bastore, 1) by decide +kernel) (fun H locs hP hD hS => ?_)
  obtain ⟨g_96, hP, hD⟩ : ∃ g_96 : Nat → Int32, va_P D cl [(h0, .inr (1, (fs.set 0 (.int 0)))), (q0, .inl (cA0, 32768, .inl g_96))] H ∧ va_D _ [(h0, .inr (1, (fs.set 0 (.int 0)))), (q0, .inl (cA0, 32768, .inl g_96))] := ⟨_, hP, hD⟩
  refine lv_iinc (v := 17) (lv' := [(6, .int 17), (7, .int p4), (0, .ref h0), (1, .int p0), (2, .int p1), (3, .int p2), (4, .int p3), (5, .int p4)]) hx hb (show decode prog_15_method_4_code 103 = .ok (.iinc 6 1, 3) by decide +kernel) hl (k := 1) rfl (by decide +kernel) (by decide +kernel) rfl (fun ls hl => ?_)
  refine lv_goto (tgt := 22) hx hb (show decode prog_15_method_4_code 106 = .ok (.goto (-84), 3) by decide +kernel) (by decide +kernel) ?_
  refine lv_iload hx hb (show decode prog_15_method_4_code 22 = .ok (.iload 6, 2) by decide +kernel) (lv_at hl 0 rfl) ?_
  refine lv_bipush (v := 20) hx hb (show decode prog_15_method_4_code 24 = .ok (.bipush 20, 2) by decide +kernel) (by decide +kernel) ?_
  refine lv_icmp_ge (tgt := 109) hx hb (show decode prog_15_method_4_code 26 = .ok (.if_icmp .ge 83, 3) by decide +kernel) (by decide +kernel) (fun c_97 => absurd c_97 (by decide +kernel)) (fun c_97 => ?_)
  refine lv_iload hx hb (show decode prog_15_method_4_code 29 = .ok (.iload 6, 2) by decide +kernel) (lv_at hl 0 rfl) ?_
  refine lv_iconst (v := 4) hx hb (show decode prog_15_method_4_code 31 = .ok (.iconst 4, 1) by decide +kernel) (by decide +kernel) ?_
  refine lv_icmp_ge (tgt := 39) hx hb (show decode prog_15_method_4_code 32 = .ok (.if_icmp .ge 7, 3) by decide +kernel) (by decide +kernel) (fun c_98 => ?_) (fun c_98 => absurd c_98 (by decide +kernel))
  refine lv_iload hx hb (show decode prog_15_method_4_code 39 = .ok (.iload 6, 2) by decide +kernel) (lv_at hl 0 rfl) ?_
  refine lv_bipush (v := 8) hx hb (show decode prog_15_method_4_code 41 = .ok (.bipush 8, 2) by decide +kernel) (by decide +kernel) ?_
  refine lv_icmp_ge (tgt := 50) hx hb (show decode prog_15_method_4_code 43 = .ok (.if_icmp .ge 7, 3) by decide +kernel) (by decide +kernel) (fun c_99 => ?_) (fun c_99 => absurd c_99 (by decide +kernel))
  refine lv_iload hx hb (show decode prog_15_method_4_code 50 = .ok (.iload 6, 2) by decide +kernel) (lv_at hl 0 rfl) ?_
  refine lv_bipush (v := 12) hx hb (show decode prog_15_method_4_code 52 = .ok (.bipush 12, 2) by decide +kernel) (by decide +kernel) ?_
  refine lv_icmp_ge (tgt := 61) hx hb (show decode prog_15_method_4_code 54 = .ok (.if_icmp .ge 7, 3) by decide +kernel) (by decide +kernel) (fun c_100 => ?_) (fun c_100 => absurd c_100 (by decide +kernel))
  refine lv_iload hx hb (show decode prog_15_method_4_code 61 = .ok (.iload 6, 2) by decide +kernel) (lv_at hl 0 rfl) ?_
  refine lv_bipush (v := 16) hx hb (show decode prog_15_method_4_code 63 = .ok (.bipush 16, 2) by decide +kernel) (by decide +kernel) ?_
  refine lv_icmp_ge (tgt := 73) hx hb (show decode prog_15_method_4_code 65 = .ok (.if_icmp .ge 8, 3) by decide +kernel) (by decide +kernel) (fun c_101 => ?_) (fun c_101 => absurd c_101 (by decide +kernel))
  refine lv_iload hx hb (show decode prog_15_method_4_code 73 = .ok (.iload 5, 2) by decide +kernel) (lv_at hl 7 rfl) ?_
  refine lv_istore (lv' := [(7, .int p4), (6, .int 17), (0, .ref h0), (1, .int p0), (2, .int p1), (3, .int p2), (4, .int p3), (5, .int p4)]) hx hb (show decode prog_15_method_4_code 75 = .ok (.istore 7, 2) by decide +kernel) hl (by decide +kernel) rfl (fun ls hl => ?_)
  refine lv_aload_n hx hb (show decode prog_15_method_4_code 77 = .ok (.aload_n 0, 1) by decide +kernel) rfl (lv_at hl 2 rfl) ?_
  refine va_get (D := D) (ci := 1) (v := .ref q0) (C := R_MD) (T := F_MD) (N := 107) hx hb hts i_MD hown hK hP 0 rfl rfl 1 (by decide +kernel) (hts _ w_1563) (fun _ h9 => h9) (xg_ne (by decide +kernel) ha0) (show decode prog_15_method_4_code 78 = .ok (.getfield 10, 3) by decide +kernel) ?_
  refine lv_aload_n hx hb (show decode prog_15_method_4_code 81 = .ok (.aload_n 0, 1) by decide +kernel) rfl (lv_at hl 2 rfl) ?_
  refine va_get (D := D) (ci := 1) (v := .int 0) (C := R_MD) (T := F_MD) (N := 107) hx hb hts i_MD hown hK hP 0 rfl rfl 2 (by decide +kernel) (hts _ w_1564) (fun _ h9 => h9) (xg_ne (by decide +kernel) hf2) (show decode prog_15_method_4_code 82 = .ok (.getfield 210, 3) by decide +kernel) ?_
  refine lv_iload hx hb (show decode prog_15_method_4_code 85 = .ok (.iload 6, 2) by decide +kernel) (lv_at hl 1 rfl) ?_
  refine lv_iadd hx hb (show decode prog_15_method_4_code 87 = .ok (.iadd, 1) by decide +kernel) ?_
  refine xtopi (v := 17) (by decide +kernel) ?_
  refine lv_iload hx hb (show decode prog_15_method_4_code 88 = .ok (.iload 7, 2) by decide +kernel) (lv_at hl 0 rfl) ?_
  refine lv_bipush (v := 24) hx hb (show decode prog_15_method_4_code 90 = .ok (.bipush 24, 2) by decide +kernel) (by decide +kernel) ?_
  refine lv_bipush (v := 8) hx hb (show decode prog_15_method_4_code 92 = .ok (.bipush 8, 2) by decide +kernel) (by decide +kernel) ?_
  refine lv_iload hx hb (show decode prog_15_method_4_code 94 = .ok (.iload 6, 2) by decide +kernel) (lv_at hl 1 rfl) ?_
  refine lv_iconst (v := 4) hx hb (show decode prog_15_method_4_code 96 = .ok (.iconst 4, 1) by decide +kernel) (by decide +kernel) ?_
  refine lv_irem hx hb (show decode prog_15_method_4_code 97 = .ok (.irem, 1) by decide +kernel) (by decide +kernel) ?_
  refine xtopi (v := 1) (by decide +kernel) ?_
  refine lv_imul hx hb (show decode prog_15_method_4_code 98 = .ok (.imul, 1) by decide +kernel) ?_
  refine xtopi (v := 8) (by decide +kernel) ?_
  refine lv_isub hx hb (show decode prog_15_method_4_code 99 = .ok (.isub, 1) by decide +kernel) ?_
  refine xtopi (v := 16) (by decide +kernel) ?_
  refine lv_ishr hx hb (show decode prog_15_method_4_code 100 = .ok (.ishr, 1) by decide +kernel) ?_
  refine lv_i2b hx hb (show decode prog_15_method_4_code 101 = .ok (.i2b, 1) by decide +kernel) rfl ?_
  refine lv_topi (fun z_102 _ => ?_)
  refine va_bast hx hb hK hP hD hS 1 0 rfl rfl (by unfold vp_in; decide) (show decode prog_15_method_4_code 102 = .ok (.bastore, 1) by decide +kernel) (fun H locs hP hD hS => ?_)
  obtain ⟨g_103, hP, hD⟩ : ∃ g_103 : Nat → Int32, va_P D cl [(h0, .inr (1, (fs.set 0 (.int 0)))), (q0, .inl (cA0, 32768, .inl g_103))] H ∧ va_D _ [(h0, .inr (1, (fs.set 0 (.int 0)))), (q0, .inl (cA0, 32768, .inl g_103))] := ⟨_, hP, hD⟩
  refine lv_iinc (v := 18) (lv' := [(6, .int 18), (7, .int p4), (0, .ref h0), (1, .int p0), (2, .int p1), (3, .int p2), (4, .int p3), (5, .int p4)]) hx hb (show decode prog_15_method_4_code 103 = .ok (.iinc 6 1, 3) by decide +kernel) hl (k := 1) rfl (by decide +kernel) (by decide +kernel) rfl (fun ls hl => ?_)
  refine lv_goto (tgt := 22) hx hb (show decode prog_15_method_4_code 106 = .ok (.goto (-84), 3) by decide +kernel) (by decide +kernel) ?_
  refine lv_iload hx hb (show decode prog_15_method_4_code 22 = .ok (.iload 6, 2) by decide +kernel) (lv_at hl 0 rfl) ?_
  refine lv_bipush (v := 20) hx hb (show decode prog_15_method_4_code 24 = .ok (.bipush 20, 2) by decide +kernel) (by decide +kernel) ?_
  refine lv_icmp_ge (tgt := 109) hx hb (show decode prog_15_method_4_code 26 = .ok (.if_icmp .ge 83, 3) by decide +kernel) (by decide +kernel) (fun c_104 => absurd c_104 (by decide +kernel)) (fun c_104 => ?_)
  refine lv_iload hx hb (show decode prog_15_method_4_code 29 = .ok (.iload 6, 2) by decide +kernel) (lv_at hl 0 rfl) ?_
  refine lv_iconst (v := 4) hx hb (show decode prog_15_method_4_code 31 = .ok (.iconst 4, 1) by decide +kernel) (by decide +kernel) ?_
  refine lv_icmp_ge (tgt := 39) hx hb (show decode prog_15_method_4_code 32 = .ok (.if_icmp .ge 7, 3) by decide +kernel) (by decide +kernel) (fun c_105 => ?_) (fun c_105 => absurd c_105 (by decide +kernel))
  refine lv_iload hx hb (show decode prog_15_method_4_code 39 = .ok (.iload 6, 2) by decide +kernel) (lv_at hl 0 rfl) ?_
  refine lv_bipush (v := 8) hx hb (show decode prog_15_method_4_code 41 = .ok (.bipush 8, 2) by decide +kernel) (by decide +kernel) ?_
  refine lv_icmp_ge (tgt := 50) hx hb (show decode prog_15_method_4_code 43 = .ok (.if_icmp .ge 7, 3) by decide +kernel) (by decide +kernel) (fun c_106 => ?_) (fun c_106 => absurd c_106 (by decide +kernel))
  refine lv_iload hx hb (show decode prog_15_method_4_code 50 = .ok (.iload 6, 2) by decide +kernel) (lv_at hl 0 rfl) ?_
  refine lv_bipush (v := 12) hx hb (show decode prog_15_method_4_code 52 = .ok (.bipush 12, 2) by decide +kernel) (by decide +kernel) ?_
  refine lv_icmp_ge (tgt := 61) hx hb (show decode prog_15_method_4_code 54 = .ok (.if_icmp .ge 7, 3) by decide +kernel) (by decide +kernel) (fun c_107 => ?_) (fun c_107 => absurd c_107 (by decide +kernel))
  refine lv_iload hx hb (show decode prog_15_method_4_code 61 = .ok (.iload 6, 2) by decide +kernel) (lv_at hl 0 rfl) ?_
  refine lv_bipush (v := 16) hx hb (show decode prog_15_method_4_code 63 = .ok (.bipush 16, 2) by decide +kernel) (by decide +kernel) ?_
  refine lv_icmp_ge (tgt := 73) hx hb (show decode prog_15_method_4_code 65 = .ok (.if_icmp .ge 8, 3) by decide +kernel) (by decide +kernel) (fun c_108 => ?_) (fun c_108 => absurd c_108 (by decide +kernel))
  refine lv_iload hx hb (show decode prog_15_method_4_code 73 = .ok (.iload 5, 2) by decide +kernel) (lv_at hl 7 rfl) ?_
  refine lv_istore (lv' := [(7, .int p4), (6, .int 18), (0, .ref h0), (1, .int p0), (2, .int p1), (3, .int p2), (4, .int p3), (5, .int p4)]) hx hb (show decode prog_15_method_4_code 75 = .ok (.istore 7, 2) by decide +kernel) hl (by decide +kernel) rfl (fun ls hl => ?_)
  refine lv_aload_n hx hb (show decode prog_15_method_4_code 77 = .ok (.aload_n 0, 1) by decide +kernel) rfl (lv_at hl 2 rfl) ?_
  refine va_get (D := D) (ci := 1) (v := .ref q0) (C := R_MD) (T := F_MD) (N := 107) hx hb hts i_MD hown hK hP 0 rfl rfl 1 (by decide +kernel) (hts _ w_1563) (fun _ h9 => h9) (xg_ne (by decide +kernel) ha0) (show decode prog_15_method_4_code 78 = .ok (.getfield 10, 3) by decide +kernel) ?_
  refine lv_aload_n hx hb (show decode prog_15_method_4_code 81 = .ok (.aload_n 0, 1) by decide +kernel) rfl (lv_at hl 2 rfl) ?_
  refine va_get (D := D) (ci := 1) (v := .int 0) (C := R_MD) (T := F_MD) (N := 107) hx hb hts i_MD hown hK hP 0 rfl rfl 2 (by decide +kernel) (hts _ w_1564) (fun _ h9 => h9) (xg_ne (by decide +kernel) hf2) (show decode prog_15_method_4_code 82 = .ok (.getfield 210, 3) by decide +kernel) ?_
  refine lv_iload hx hb (show decode prog_15_method_4_code 85 = .ok (.iload 6, 2) by decide +kernel) (lv_at hl 1 rfl) ?_
  refine lv_iadd hx hb (show decode prog_15_method_4_code 87 = .ok (.iadd, 1) by decide +kernel) ?_
  refine xtopi (v := 18) (by decide +kernel) ?_
  refine lv_iload hx hb (show decode prog_15_method_4_code 88 = .ok (.iload 7, 2) by decide +kernel) (lv_at hl 0 rfl) ?_
  refine lv_bipush (v := 24) hx hb (show decode prog_15_method_4_code 90 = .ok (.bipush 24, 2) by decide +kernel) (by decide +kernel) ?_
  refine lv_bipush (v := 8) hx hb (show decode prog_15_method_4_code 92 = .ok (.bipush 8, 2) by decide +kernel) (by decide +kernel) ?_
  refine lv_iload hx hb (show decode prog_15_method_4_code 94 = .ok (.iload 6, 2) by decide +kernel) (lv_at hl 1 rfl) ?_
  refine lv_iconst (v := 4) hx hb (show decode prog_15_method_4_code 96 = .ok (.iconst 4, 1) by decide +kernel) (by decide +kernel) ?_
  refine lv_irem hx hb (show decode prog_15_method_4_code 97 = .ok (.irem, 1) by decide +kernel) (by decide +kernel) ?_
  refine xtopi (v := 2) (by decide +kernel) ?_
  refine lv_imul hx hb (show decode prog_15_method_4_code 98 = .ok (.imul, 1) by decide +kernel) ?_
  refine xtopi (v := 16) (by decide +kernel) ?_
  refine lv_isub hx hb (show decode prog_15_method_4_code 99 = .ok (.isub, 1) by decide +kernel) ?_
  refine xtopi (v := 8) (by decide +kernel) ?_
  refine lv_ishr hx hb (show decode prog_15_method_4_code 100 = .ok (.ishr, 1) by decide +kernel) ?_
  refine lv_i2b hx hb (show decode prog_15_method_4_code 101 = .ok (.i2b, 1) by decide +kernel) rfl ?_
  refine lv_topi (fun z_109 _ => ?_)
  refine va_bast hx hb hK hP hD hS 1 0 rfl rfl (by unfold vp_in; decide) (show decode prog_15_method_4_code 102 = .ok (.bastore, 1) by decide +kernel) (fun H locs hP hD hS => ?_)
  obtain ⟨g_110, hP, hD⟩ : ∃ g_110 : Nat → Int32, va_P D cl [(h0, .inr (1, (fs.set 0 (.int 0)))), (q0, .inl (cA0, 32768, .inl g_110))] H ∧ va_D _ [(h0, .inr (1, (fs.set 0 (.int 0)))), (q0, .inl (cA0, 32768, .inl g_110))] := ⟨_, hP, hD⟩
  refine lv_iinc (v := 19) (lv' := [(6, .int 19), (7, .int p4), (0, .ref h0), (1, .int p0), (2, .int p1), (3, .int p2), (4, .int p3), (5, .int p4)]) hx hb (show decode prog_15_method_4_code 103 = .ok (.iinc 6 1, 3) by decide +kernel) hl (k := 1) rfl (by decide +kernel) (by decide +kernel) rfl (fun ls hl => ?_)
  refine lv_goto (tgt := 22) hx hb (show decode prog_15_method_4_code 106 = .ok (.goto (-84), 3) by decide +kernel) (by decide +kernel) ?_
  refine lv_iload hx hb (show decode prog_15_method_4_code 22 = .ok (.iload 6, 2) by decide +kernel) (lv_at hl 0 rfl) ?_
  refine lv_bipush (v := 20) hx hb (show decode prog_15_method_4_code 24 = .ok (.bipush 20, 2) by decide +kernel) (by decide +kernel) ?_
  refine lv_icmp_ge (tgt := 109) hx hb (show decode prog_15_method_4_code 26 = .ok (.if_icmp .ge 83, 3) by decide +kernel) (by decide +kernel) (fun c_111 => absurd c_111 (by decide +kernel)) (fun c_111 => ?_)
  refine lv_iload hx hb (show decode prog_15_method_4_code 29 = .ok (.iload 6, 2) by decide +kernel) (lv_at hl 0 rfl) ?_
  refine lv_iconst (v := 4) hx hb (show decode prog_15_method_4_code 31 = .ok (.iconst 4, 1) by decide +kernel) (by decide +kernel) ?_
  refine lv_icmp_ge (tgt := 39) hx hb (show decode prog_15_method_4_code 32 = .ok (.if_icmp .ge 7, 3) by decide +kernel) (by decide +kernel) (fun c_112 => ?_) (fun c_112 => absurd c_112 (by decide +kernel))
  refine lv_iload hx hb (show decode prog_15_method_4_code 39 = .ok (.iload 6, 2) by decide +kernel) (lv_at hl 0 rfl) ?_
  refine lv_bipush (v := 8) hx hb (show decode prog_15_method_4_code 41 = .ok (.bipush 8, 2) by decide +kernel) (by decide +kernel) ?_
  refine lv_icmp_ge (tgt := 50) hx hb (show decode prog_15_method_4_code 43 = .ok (.if_icmp .ge 7, 3) by decide +kernel) (by decide +kernel) (fun c_113 => ?_) (fun c_113 => absurd c_113 (by decide +kernel))
  refine lv_iload hx hb (show decode prog_15_method_4_code 50 = .ok (.iload 6, 2) by decide +kernel) (lv_at hl 0 rfl) ?_
  refine lv_bipush (v := 12) hx hb (show decode prog_15_method_4_code 52 = .ok (.bipush 12, 2) by decide +kernel) (by decide +kernel) ?_
  refine lv_icmp_ge (tgt := 61) hx hb (show decode prog_15_method_4_code 54 = .ok (.if_icmp .ge 7, 3) by decide +kernel) (by decide +kernel) (fun c_114 => ?_) (fun c_114 => absurd c_114 (by decide +kernel))
  refine lv_iload hx hb (show decode prog_15_method_4_code 61 = .ok (.iload 6, 2) by decide +kernel) (lv_at hl 0 rfl) ?_
  refine lv_bipush (v := 16) hx hb (show decode prog_15_method_4_code 63 = .ok (.bipush 16, 2) by decide +kernel) (by decide +kernel) ?_
  refine lv_icmp_ge (tgt := 73) hx hb (show decode prog_15_method_4_code 65 = .ok (.if_icmp .ge 8, 3) by decide +kernel) (by decide +kernel) (fun c_115 => ?_) (fun c_115 => absurd c_115 (by decide +kernel))
  refine lv_iload hx hb (show decode prog_15_method_4_code 73 = .ok (.iload 5, 2) by decide +kernel) (lv_at hl 7 rfl) ?_
  refine lv_istore (lv' := [(7, .int p4), (6, .int 19), (0, .ref h0), (1, .int p0), (2, .int p1), (3, .int p2), (4, .int p3), (5, .int p4)]) hx hb (show decode prog_15_method_4_code 75 = .ok (.istore 7, 2) by decide +kernel) hl (by decide +kernel) rfl (fun ls hl => ?_)
  refine lv_aload_n hx hb (show decode prog_15_method_4_code 77 = .ok (.aload_n 0, 1) by decide +kernel) rfl (lv_at hl 2 rfl) ?_
  refine va_get (D := D) (ci := 1) (v := .ref q0) (C := R_MD) (T := F_MD) (N := 107) hx hb hts i_MD hown hK hP 0 rfl rfl 1 (by decide +kernel) (hts _ w_1563) (fun _ h9 => h9) (xg_ne (by decide +kernel) ha0) (show decode prog_15_method_4_code 78 = .ok (.getfield 10, 3) by decide +kernel) ?_
  refine lv_aload_n hx hb (show decode prog_15_method_4_code 81 = .ok (.aload_n 0, 1) by decide +kernel) rfl (lv_at hl 2 rfl) ?_
  refine va_get (D := D) (ci := 1) (v := .int 0) (C := R_MD) (T := F_MD) (N := 107) hx hb hts i_MD hown hK hP 0 rfl rfl 2 (by decide +kernel) (hts _ w_1564) (fun _ h9 => h9) (xg_ne (by decide +kernel) hf2) (show decode prog_15_method_4_code 82 = .ok (.getfield 210, 3) by decide +kernel) ?_
  refine lv_iload hx hb (show decode prog_15_method_4_code 85 = .ok (.iload 6, 2) by decide +kernel) (lv_at hl 1 rfl) ?_
  refine lv_iadd hx hb (show decode prog_15_method_4_code 87 = .ok (.iadd, 1) by decide +kernel) ?_
  refine xtopi (v := 19) (by decide +kernel) ?_
  refine lv_iload hx hb (show decode prog_15_method_4_code 88 = .ok (.iload 7, 2) by decide +kernel) (lv_at hl 0 rfl) ?_
  refine lv_bipush (v := 24) hx hb (show decode prog_15_method_4_code 90 = .ok (.bipush 24, 2) by decide +kernel) (by decide +kernel) ?_
  refine lv_bipush (v := 8) hx hb (show decode prog_15_method_4_code 92 = .ok (.bipush 8, 2) by decide +kernel) (by decide +kernel) ?_
  refine lv_iload hx hb (show decode prog_15_method_4_code 94 = .ok (.iload 6, 2) by decide +kernel) (lv_at hl 1 rfl) ?_
  refine lv_iconst (v := 4) hx hb (show decode prog_15_method_4_code 96 = .ok (.iconst 4, 1) by decide +kernel) (by decide +kernel) ?_
  refine lv_irem hx hb (show decode prog_15_method_4_code 97 = .ok (.irem, 1) by decide +kernel) (by decide +kernel) ?_
  refine xtopi (v := 3) (by decide +kernel) ?_
  refine lv_imul hx hb (show decode prog_15_method_4_code 98 = .ok (.imul, 1) by decide +kernel) ?_
  refine xtopi (v := 24) (by decide +kernel) ?_
  refine lv_isub hx hb (show decode prog_15_method_4_code 99 = .ok (.isub, 1) by decide +kernel) ?_
  refine xtopi (v := 0) (by decide +kernel) ?_
  refine lv_ishr hx hb (show decode prog_15_method_4_code 100 = .ok (.ishr, 1) by decide +kernel) ?_
  refine lv_i2b hx hb (show decode prog_15_method_4_code 101 = .ok (.i2b, 1) by decide +kernel) rfl ?_
  refine lv_topi (fun z_116 _ => ?_)
  refine va_bast hx hb hK hP hD hS 1 0 rfl rfl (by unfold vp_in; decide) (show decode prog_15_method_4_code 102 = .ok (.bastore, 1) by decide +kernel) (fun H locs hP hD hS => ?_)
  obtain ⟨g_117, hP, hD⟩ : ∃ g_117 : Nat → Int32, va_P D cl [(h0, .inr (1, (fs.set 0 (.int 0)))), (q0, .inl (cA0, 32768, .inl g_117))] H ∧ va_D _ [(h0, .inr (1, (fs.set 0 (.int 0)))), (q0, .inl (cA0, 32768, .inl g_117))] := ⟨_, hP, hD⟩
  refine lv_iinc (v := 20) (lv' := [(6, .int 20), (7, .int p4), (0, .ref h0), (1, .int p0), (2, .int p1), (3, .int p2), (4, .int p3), (5, .int p4)]) hx hb (show decode prog_15_method_4_code 103 = .ok (.iinc 6 1, 3) by decide +kernel) hl (k := 1) rfl (by decide +kernel) (by decide +kernel) rfl (fun ls hl => ?_)
  refine lv_goto (tgt := 22) hx hb (show decode prog_15_method_4_code 106 = .ok (.goto (-84), 3) by decide +kernel) (by decide +kernel) ?_
  refine lv_iload hx hb (show decode prog_15_method_4_code 22 = .ok (.iload 6, 2) by decide +kernel) (lv_at hl 0 rfl) ?_
  refine lv_bipush (v := 20) hx hb (show decode prog_15_method_4_code 24 = .ok (.bipush 20, 2) by decide +kernel) (by decide +kernel) ?_
  refine lv_icmp_ge (tgt := 109) hx hb (show decode prog_15_method_4_code 26 = .ok (.if_icmp .ge 83, 3) by decide +kernel) (by decide +kernel) (fun c_118 => ?_) (fun c_118 => absurd c_118 (by decide +kernel))
  refine lv_aload_n hx hb (show decode prog_15_method_4_code 109 = .ok (.aload_n 0, 1) by decide +kernel) rfl (lv_at hl 2 rfl) ?_
  refine lv_dup hx hb (show decode prog_15_method_4_code 110 = .ok (.dup, 1) by decide +kernel) rfl ?_
  refine va_get (D := D) (ci := 1) (v := .int 0) (C := R_MD) (T := F_MD) (N := 107) hx hb hts i_MD hown hK hP 0 rfl rfl 2 (by decide +kernel) (hts _ w_1564) (fun _ h9 => h9) (xg_ne (by decide +kernel) hf2) (show decode prog_15_method_4_code 111 = .ok (.getfield 210, 3) by decide +kernel) ?_
  refine lv_bipush (v := 20) hx hb (show decode prog_15_method_4_code 114 = .ok (.bipush 20, 2) by decide +kernel) (by decide +kernel) ?_
  refine lv_iadd hx hb (show decode prog_15_method_4_code 116 = .ok (.iadd, 1) by decide +kernel) ?_
  refine xtopi (v := 20) (by decide +kernel) ?_
  refine va_put (D := D) (ci := 1) (v := .int 20) (ty := .int) (C := R_MD) (T := F_MD) (N := 107) hx hb hts i_MD t_MD t_MD_ok n_MD hown hK hP hD hS 0 rfl rfl 2 (by decide +kernel) (hts _ w_1564) (fun _ h9 => h9) rfl (by decide +kernel) rfl rfl (by simp [hfl]) (show decode prog_15_method_4_code 117 = .ok (.putfield 210, 3) by decide +kernel) (fun H locs hP hD hS => ?_)
  have hP : va_P D cl [(h0, .inr (1, ((fs.set 0 (.int 0)).set 2 (.int 20)))), (q0, .inl (cA0, 32768, .inl g_117))] H := hP
  have hD : va_D _ [(h0, .inr (1, ((fs.set 0 (.int 0)).set 2 (.int 20)))), (q0, .inl (cA0, 32768, .inl g_117))] := hD
  refine lv_aload_n hx hb (show decode prog_15_method_4_code 120 = .ok (.aload_n 0, 1) by decide +kernel) rfl (lv_at hl 2 rfl) ?_
  refine lv_iconst (v := 1) hx hb (show decode prog_15_method_4_code 121 = .ok (.iconst 1, 1) by decide +kernel) (by decide +kernel) ?_
  refine va_put (D := D) (ci := 1) (v := .int 1) (ty := .boolean) (C := R_MD) (T := F_MD) (N := 107) hx hb hts i_MD t_MD t_MD_ok n_MD hown hK hP hD hS 0 rfl rfl 3 (by decide +kernel) (hts _ w_1565) (fun _ h9 => h9) rfl (by decide +kernel) (by decide +kernel) rfl (by simp [hfl]) (show decode prog_15_method_4_code 122 = .ok (.putfield 213, 3) by decide +kernel) (fun H locs hP hD hS => ?_)
  have hP : va_P D cl [(h0, .inr (1, (((fs.set 0 (.int 0)).set 2 (.int 20)).set 3 (.int 1)))), (q0, .inl (cA0, 32768, .inl g_117))] H := hP
  have hD : va_D _ [(h0, .inr (1, (((fs.set 0 (.int 0)).set 2 (.int 20)).set 3 (.int 1)))), (q0, .inl (cA0, 32768, .inl g_117))] := hD
  refine lv_aload_n hx hb (show decode prog_15_method_4_code 125 = .ok (.aload_n 0, 1) by decide +kernel) rfl (lv_at hl 2 rfl) ?_
  refine va_get (D := D) (ci := 1) (v := .int 20) (C := R_MD) (T := F_MD) (N := 107) hx hb hts i_MD hown hK hP 0 rfl rfl 2 (by decide +kernel) (hts _ w_1564) (fun _ h9 => h9) (xg_ne (by decide +kernel) (xg_eq (by simp [hfl]))) (show decode prog_15_method_4_code 126 = .ok (.getfield 210, 3) by decide +kernel) ?_
  exact W.iret (v := 20) hx hb hr (fun t ht hW => ⟨⟨20, g_117, rfl, rfl, by rw [ht]; exact hP, va_K.moved hW.alike hK, hD⟩, hS.F ht⟩) hS.2.2 (show decode prog_15_method_4_code 129 = .ok (.ireturn, 1) by decide +kernel)
