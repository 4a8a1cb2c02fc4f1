set_option maxHeartbeats 4000000 in
set_option maxRecDepth 100000 in
/-- SignalEngineModel.thrown -/
theorem c_MD_thrown1 (l : Launch) (D : va_G) (ad : Nat → Nat) (de sz : Nat) (h0 : Nat) (fs : List Value) (hfl : fs.length = 107) (hf0 : xfa fs 0 (.int 1))   : Met l ⟨"SignalEngineModel", "thrown", "()I"⟩ (tw ⟨"SignalEngineModel", "thrown", "()I"⟩ prog_15_method_2_code 1 (some (.int))) { frames := 0, cells := 0, slots := 0, locals := 0 } (va_Pc [.ref h0] (xp ad de D [(h0, .inr (1, fs))] [] sz)) (va_Qi (fun (r : Int32) (_ : Unit) => r = 1) (fun (_ : Unit) t => xq D (va_A [(h0, .inr (1, fs))] sz) [(h0, .inr (1, fs))] [] t) (va_A [(h0, .inr (1, fs))] sz)) 0 0 (va_A [(h0, .inr (1, fs))] sz) := by
  refine xMet (by decide +kernel) (Nat.le_of_ble_eq_true rfl) ?_
  intro p e s m below meth c hx hb hr hlocks hin hml hown hts hsz hP hK hD hE hA ls hl
  have hS : va_S _ s.heap s.heap [] := va_S.rf (A := va_A [(h0, .inr (1, fs))] sz)
  have hl : lv_has ls 1 [(0, .ref h0)] := hl
  refine lv_aload_n hx hb (show decode prog_15_method_2_code 0 = .ok (.aload_n 0, 1) by decide +kernel) rfl (lv_at hl 0 rfl) ?_
  refine va_get (D := D) (ci := 1) (v := .int 1) (C := R_MD) (T := F_MD) (N := 107) hx hb hts i_MD hown hK hP 0 rfl rfl 0 (by decide +kernel) (hts _ w_1562) (fun _ h9 => h9) hf0 (show decode prog_15_method_2_code 1 = .ok (.getfield 206, 3) by decide +kernel) ?_
  exact W.iret (v := 1) hx hb hr (fun t ht hW => ⟨⟨1, (), rfl, rfl, by rw [ht]; exact hP, va_K.moved hW.alike hK, hD⟩, hS.F ht⟩) hS.2.2 (show decode prog_15_method_2_code 4 = .ok (.ireturn, 1) by decide +kernel)
set_option maxHeartbeats 4000000 in
set_option maxRecDepth 100000 in
/-- SignalEngineModel.thrown -/
theorem c_MD_thrown0 (l : Launch) (D : va_G) (ad : Nat → Nat) (de sz : Nat) (h0 : Nat) (fs : List Value) (hfl : fs.length = 107) (hf0 : xfa fs 0 (.int 0))   : Met l ⟨"SignalEngineModel", "thrown", "()I"⟩ (tw ⟨"SignalEngineModel", "thrown", "()I"⟩ prog_15_method_2_code 1 (some (.int))) { frames := 0, cells := 0, slots := 0, locals := 0 } (va_Pc [.ref h0] (xp ad de D [(h0, .inr (1, fs))] [] sz)) (va_Qi (fun (r : Int32) (_ : Unit) => r = 0) (fun (_ : Unit) t => xq D (va_A [(h0, .inr (1, fs))] sz) [(h0, .inr (1, fs))] [] t) (va_A [(h0, .inr (1, fs))] sz)) 0 0 (va_A [(h0, .inr (1, fs))] sz) := by
  refine xMet (by decide +kernel) (Nat.le_of_ble_eq_true rfl) ?_
  intro p e s m below meth c hx hb hr hlocks hin hml hown hts hsz hP hK hD hE hA ls hl
  have hS : va_S _ s.heap s.heap [] := va_S.rf (A := va_A [(h0, .inr (1, fs))] sz)
  have hl : lv_has ls 1 [(0, .ref h0)] := hl
  refine lv_aload_n hx hb (show decode prog_15_method_2_code 0 = .ok (.aload_n 0, 1) by decide +kernel) rfl (lv_at hl 0 rfl) ?_
  refine va_get (D := D) (ci := 1) (v := .int 0) (C := R_MD) (T := F_MD) (N := 107) hx hb hts i_MD hown hK hP 0 rfl rfl 0 (by decide +kernel) (hts _ w_1562) (fun _ h9 => h9) hf0 (show decode prog_15_method_2_code 1 = .ok (.getfield 206, 3) by decide +kernel) ?_
  exact W.iret (v := 0) hx hb hr (fun t ht hW => ⟨⟨0, (), rfl, rfl, by rw [ht]; exact hP, va_K.moved hW.alike hK, hD⟩, hS.F ht⟩) hS.2.2 (show decode prog_15_method_2_code 4 = .ok (.ireturn, 1) by decide +kernel)
set_option maxHeartbeats 4000000 in
set_option maxRecDepth 100000 in
/-- SignalEngineModel.fails -/
theorem c_MD_fails10 (l : Launch) (D : va_G) (ad : Nat → Nat) (de sz : Nat) (h0 : Nat) (fs : List Value) (hfl : fs.length = 107)    : Met l ⟨"SignalEngineModel", "fails", "(ZZ)Z"⟩ (tw ⟨"SignalEngineModel", "fails", "(ZZ)Z"⟩ prog_15_method_3_code 3 (some (.boolean))) { frames := 0, cells := 0, slots := 0, locals := 0 } (va_Pc [.ref h0, .int 1, .int 0] (xp ad de D [(h0, .inr (1, fs))] [] sz)) (va_Qi (fun (r : Int32) (_ : Unit) => r = 1) (fun (_ : Unit) t => xq D (va_A [(h0, .inr (1, fs))] sz) [(h0, .inr (1, (fs.set 0 (.int 1))))] [] t) (va_A [(h0, .inr (1, fs))] sz)) 0 0 (va_A [(h0, .inr (1, fs))] sz) := by
  refine xMet (by decide +kernel) (Nat.le_of_ble_eq_true rfl) ?_
  intro p e s m below meth c hx hb hr hlocks hin hml hown hts hsz hP hK hD hE hA ls hl
  have hS : va_S _ s.heap s.heap [] := va_S.rf (A := va_A [(h0, .inr (1, fs))] sz)
  have hl : lv_has ls 3 [(0, .ref h0), (1, .int 1), (2, .int 0)] := hl
  refine lv_aload_n hx hb (show decode prog_15_method_3_code 0 = .ok (.aload_n 0, 1) by decide +kernel) rfl (lv_at hl 0 rfl) ?_
  refine lv_iload_n hx hb (show decode prog_15_method_3_code 1 = .ok (.iload_n 1, 1) by decide +kernel) rfl (lv_at hl 1 rfl) ?_
  refine lv_if_eq (tgt := 9) hx hb (show decode prog_15_method_3_code 2 = .ok (.ifCond .eq 7, 3) by decide +kernel) (by decide +kernel) (fun c_1 => absurd c_1 (by decide +kernel)) (fun c_1 => ?_)
  refine lv_iconst (v := 1) hx hb (show decode prog_15_method_3_code 5 = .ok (.iconst 1, 1) by decide +kernel) (by decide +kernel) ?_
  refine lv_goto (tgt := 18) hx hb (show decode prog_15_method_3_code 6 = .ok (.goto 12, 3) by decide +kernel) (by decide +kernel) ?_
  refine va_put (D := D) (ci := 1) (v := .int 1) (ty := .int) (C := R_MD) (T := F_MD) (N := 107) hx hb hts i_MD t_MD t_MD_ok n_MD hown hK hP hD hS 0 rfl rfl 0 (by decide +kernel) (hts _ w_1562) (fun _ h9 => h9) rfl (by decide +kernel) rfl rfl (by simp [hfl]) (show decode prog_15_method_3_code 18 = .ok (.putfield 206, 3) by decide +kernel) (fun H locs hP hD hS => ?_)
  have hP : va_P D cl [(h0, .inr (1, (fs.set 0 (.int 1))))] H := hP
  have hD : va_D _ [(h0, .inr (1, (fs.set 0 (.int 1))))] := hD
  refine lv_aload_n hx hb (show decode prog_15_method_3_code 21 = .ok (.aload_n 0, 1) by decide +kernel) rfl (lv_at hl 0 rfl) ?_
  refine va_get (D := D) (ci := 1) (v := .int 1) (C := R_MD) (T := F_MD) (N := 107) hx hb hts i_MD hown hK hP 0 rfl rfl 0 (by decide +kernel) (hts _ w_1562) (fun _ h9 => h9) (xg_eq (by simp [hfl])) (show decode prog_15_method_3_code 22 = .ok (.getfield 206, 3) by decide +kernel) ?_
  refine lv_if_le (tgt := 32) hx hb (show decode prog_15_method_3_code 25 = .ok (.ifCond .le 7, 3) by decide +kernel) (by decide +kernel) (fun c_2 => absurd c_2 (by decide +kernel)) (fun c_2 => ?_)
  refine lv_iconst (v := 1) hx hb (show decode prog_15_method_3_code 28 = .ok (.iconst 1, 1) by decide +kernel) (by decide +kernel) ?_
  refine lv_goto (tgt := 33) hx hb (show decode prog_15_method_3_code 29 = .ok (.goto 4, 3) by decide +kernel) (by decide +kernel) ?_
  exact W.zret (v := 1) hx hb hr (by decide +kernel) (fun t ht hW => ⟨⟨1, (), rfl, rfl, by rw [ht]; exact hP, va_K.moved hW.alike hK, hD⟩, hS.F ht⟩) hS.2.2 (show decode prog_15_method_3_code 33 = .ok (.ireturn, 1) by decide +kernel)
set_option maxHeartbeats 4000000 in
set_option maxRecDepth 100000 in
/-- SignalEngineModel.restart -/
theorem c_MD_restart0 (l : Launch) (D : va_G) (ad : Nat → Nat) (de sz : Nat) (h0 : Nat) (fs : List Value) (hfl : fs.length = 107) (hf41 : xfa fs 41 (.int 0))   : Met l ⟨"SignalEngineModel", "restart", "()I"⟩ (tw ⟨"SignalEngineModel", "restart", "()I"⟩ prog_15_method_79_code 2 (some (.int))) { frames := 1, cells := 0, slots := 0, locals := 22 } (va_Pc [.ref h0] (xp ad de D [(h0, .inr (1, fs))] [] sz)) (va_Qi (fun (r : Int32) (_ : Unit) => r = 0) (fun (_ : Unit) t => xq D (va_A [(h0, .inr (1, fs))] sz) [(h0, .inr (1, (fs.set 0 (.int 1))))] [] t) (va_A [(h0, .inr (1, fs))] sz)) 0 0 (va_A [(h0, .inr (1, fs))] sz) := by
  refine xMet (by decide +kernel) (Nat.le_of_ble_eq_true rfl) ?_
  intro p e s m below meth c hx hb hr hlocks hin hml hown hts hsz hP hK hD hE hA ls hl
  have hS : va_S _ s.heap s.heap [] := va_S.rf (A := va_A [(h0, .inr (1, fs))] sz)
  have hl : lv_has ls 2 [(0, .ref h0)] := hl
  refine lv_aload_n hx hb (show decode prog_15_method_79_code 0 = .ok (.aload_n 0, 1) by decide +kernel) rfl (lv_at hl 0 rfl) ?_
  refine lv_aload_n hx hb (show decode prog_15_method_79_code 1 = .ok (.aload_n 0, 1) by decide +kernel) rfl (lv_at hl 0 rfl) ?_
  refine va_get (D := D) (ci := 1) (v := .int 0) (C := R_MD) (T := F_MD) (N := 107) hx hb hts i_MD hown hK hP 0 rfl rfl 41 (by decide +kernel) (hts _ w_1603) (fun _ h9 => h9) hf41 (show decode prog_15_method_79_code 2 = .ok (.getfield 521, 3) by decide +kernel) ?_
  refine lv_if_ne (tgt := 12) hx hb (show decode prog_15_method_79_code 5 = .ok (.ifCond .ne 7, 3) by decide +kernel) (by decide +kernel) (fun c_1 => absurd c_1 (by decide +kernel)) (fun c_1 => ?_)
  refine lv_iconst (v := 1) hx hb (show decode prog_15_method_79_code 8 = .ok (.iconst 1, 1) by decide +kernel) (by decide +kernel) ?_
  refine lv_goto (tgt := 13) hx hb (show decode prog_15_method_79_code 9 = .ok (.goto 4, 3) by decide +kernel) (by decide +kernel) ?_
  refine lv_iconst (v := 0) hx hb (show decode prog_15_method_79_code 13 = .ok (.iconst 0, 1) by decide +kernel) (by decide +kernel) ?_
  refine xki (wr := []) (xrV (As := [.int 1, .int 0]) (rest := []) ⟨hx, hb, hml, hown, hts⟩ (c_MD_fails10 l D ad de s.heap.size h0 fs hfl) w_2155 w_2 w_2152 w_2154 wp_126 rfl rfl ⟨by decide +kernel, by decide +kernel, rfl⟩ ⟨by decide +kernel, by decide +kernel⟩ hP hK hD hE hS hA [0] [] rfl (by decide +kernel) rfl ⟨0, 1, _, _, rfl, rfl, rfl⟩ hl.1 rfl (Nat.le_of_ble_eq_true rfl) (show decode prog_15_method_79_code 14 = .ok (.invokevirtual 615, 3) by decide +kernel) ⟨by decide +kernel, by decide +kernel⟩) hP hK hD hS hA [0] [] rfl rfl (by decide +kernel) (by decide +kernel) (fun r_2 u_3 H locs hw_4 hP hK hD hS => ?_)
  obtain rfl : r_2 = 1 := hw_4
  have hP : va_P D cl [(h0, .inr (1, (fs.set 0 (.int 1))))] H := hP
  have hD : va_D _ [(h0, .inr (1, (fs.set 0 (.int 1))))] := hD
  refine W.widen (k := 0) (n := 0) (by decide +kernel) (by decide +kernel) ?_
  refine lv_if_eq (tgt := 22) hx hb (show decode prog_15_method_79_code 17 = .ok (.ifCond .eq 5, 3) by decide +kernel) (by decide +kernel) (fun c_5 => absurd c_5 (by decide +kernel)) (fun c_5 => ?_)
  refine lv_iconst (v := 0) hx hb (show decode prog_15_method_79_code 20 = .ok (.iconst 0, 1) by decide +kernel) (by decide +kernel) ?_
  exact W.iret (v := 0) hx hb hr (fun t ht hW => ⟨⟨0, (), rfl, rfl, by rw [ht]; exact hP, va_K.moved hW.alike hK, hD⟩, hS.F ht⟩) hS.2.2 (show decode prog_15_method_79_code 21 = .ok (.ireturn, 1) by decide +kernel)
set_option maxHeartbeats 4000000 in
set_option maxRecDepth 100000 in
/-- SignalEngineModel.instant -/
theorem c_MD_instant0 (l : Launch) (D : va_G) (ad : Nat → Nat) (de sz : Nat) (h0 : Nat) (fs : List Value) (hfl : fs.length = 107) (hf82 : xfa fs 82 (.int 0)) (hf45 : xfa fs 45 (.int 0))  (p0 : Int32) : Met l ⟨"SignalEngineModel", "instant", "(I)I"⟩ (tw ⟨"SignalEngineModel", "instant", "(I)I"⟩ prog_15_method_81_code 5 (some (.int))) { frames := 1, cells := 0, slots := 0, locals := 22 } (va_Pc [.ref h0, .int p0] (xp ad de D [(h0, .inr (1, fs))] [] sz)) (va_Qi (fun (r : Int32) (_ : Unit) => r = 0) (fun (_ : Unit) t => xq D (va_A [(h0, .inr (1, fs))] sz) [(h0, .inr (1, (fs.set 0 (.int 1))))] [] t) (va_A [(h0, .inr (1, fs))] sz)) 0 0 (va_A [(h0, .inr (1, fs))] sz) := by
  refine xMet (by decide +kernel) (Nat.le_of_ble_eq_true rfl) ?_
  intro p e s m below meth c hx hb hr hlocks hin hml hown hts hsz hP hK hD hE hA ls hl
  have hS : va_S _ s.heap s.heap [] := va_S.rf (A := va_A [(h0, .inr (1, fs))] sz)
  have hl : lv_has ls 5 [(0, .ref h0), (1, .int p0)] := hl
  refine lv_aload_n hx hb (show decode prog_15_method_81_code 0 = .ok (.aload_n 0, 1) by decide +kernel) rfl (lv_at hl 0 rfl) ?_
  refine va_get (D := D) (ci := 1) (v := .int 0) (C := R_MD) (T := F_MD) (N := 107) hx hb hts i_MD hown hK hP 0 rfl rfl 82 (by decide +kernel) (hts _ w_1644) (fun _ h9 => h9) hf82 (show decode prog_15_method_81_code 1 = .ok (.getfield 545, 3) by decide +kernel) ?_
  refine lv_iconst (v := 1) hx hb (show decode prog_15_method_81_code 4 = .ok (.iconst 1, 1) by decide +kernel) (by decide +kernel) ?_
  refine lv_icmp_ne (tgt := 12) hx hb (show decode prog_15_method_81_code 5 = .ok (.if_icmp .ne 7, 3) by decide +kernel) (by decide +kernel) (fun c_1 => ?_) (fun c_1 => absurd c_1 (by decide +kernel))
  refine lv_iconst (v := 0) hx hb (show decode prog_15_method_81_code 12 = .ok (.iconst 0, 1) by decide +kernel) (by decide +kernel) ?_
  refine lv_istore_n (lv' := [(2, .int 0), (0, .ref h0), (1, .int p0)]) hx hb (show decode prog_15_method_81_code 13 = .ok (.istore_n 2, 1) by decide +kernel) rfl hl (by decide +kernel) rfl (fun ls hl => ?_)
  refine lv_aload_n hx hb (show decode prog_15_method_81_code 14 = .ok (.aload_n 0, 1) by decide +kernel) rfl (lv_at hl 1 rfl) ?_
  refine lv_iload_n hx hb (show decode prog_15_method_81_code 15 = .ok (.iload_n 2, 1) by decide +kernel) rfl (lv_at hl 0 rfl) ?_
  refine lv_if_ne (tgt := 23) hx hb (show decode prog_15_method_81_code 16 = .ok (.ifCond .ne 7, 3) by decide +kernel) (by decide +kernel) (fun c_2 => absurd c_2 (by decide +kernel)) (fun c_2 => ?_)
  refine lv_iconst (v := 1) hx hb (show decode prog_15_method_81_code 19 = .ok (.iconst 1, 1) by decide +kernel) (by decide +kernel) ?_
  refine lv_goto (tgt := 24) hx hb (show decode prog_15_method_81_code 20 = .ok (.goto 4, 3) by decide +kernel) (by decide +kernel) ?_
  refine lv_iload_n hx hb (show decode prog_15_method_81_code 24 = .ok (.iload_n 2, 1) by decide +kernel) rfl (lv_at hl 0 rfl) ?_
  refine lv_if_eq (tgt := 40) hx hb (show decode prog_15_method_81_code 25 = .ok (.ifCond .eq 15, 3) by decide +kernel) (by decide +kernel) (fun c_3 => ?_) (fun c_3 => absurd c_3 (by decide +kernel))
  refine lv_iconst (v := 0) hx hb (show decode prog_15_method_81_code 40 = .ok (.iconst 0, 1) by decide +kernel) (by decide +kernel) ?_
  refine xki (wr := []) (xrV (As := [.int 1, .int 0]) (rest := []) ⟨hx, hb, hml, hown, hts⟩ (c_MD_fails10 l D ad de s.heap.size h0 fs hfl) w_2155 w_2 w_2152 w_2154 wp_126 rfl rfl ⟨by decide +kernel, by decide +kernel, rfl⟩ ⟨by decide +kernel, by decide +kernel⟩ hP hK hD hE hS hA [0] [] rfl (by decide +kernel) rfl ⟨0, 1, _, _, rfl, rfl, rfl⟩ hl.1 rfl (Nat.le_of_ble_eq_true rfl) (show decode prog_15_method_81_code 41 = .ok (.invokevirtual 615, 3) by decide +kernel) ⟨by decide +kernel, by decide +kernel⟩) hP hK hD hS hA [0] [] rfl rfl (by decide +kernel) (by decide +kernel) (fun r_4 u_5 H locs hw_6 hP hK hD hS => ?_)
  obtain rfl : r_4 = 1 := hw_6
  have hP : va_P D cl [(h0, .inr (1, (fs.set 0 (.int 1))))] H := hP
  have hD : va_D _ [(h0, .inr (1, (fs.set 0 (.int 1))))] := hD
  refine W.widen (k := 0) (n := 0) (by decide +kernel) (by decide +kernel) ?_
  refine lv_if_eq (tgt := 49) hx hb (show decode prog_15_method_81_code 44 = .ok (.ifCond .eq 5, 3) by decide +kernel) (by decide +kernel) (fun c_7 => absurd c_7 (by decide +kernel)) (fun c_7 => ?_)
  refine lv_iconst (v := 0) hx hb (show decode prog_15_method_81_code 47 = .ok (.iconst 0, 1) by decide +kernel) (by decide +kernel) ?_
  exact W.iret (v := 0) hx hb hr (fun t ht hW => ⟨⟨0, (), rfl, rfl, by rw [ht]; exact hP, va_K.moved hW.alike hK, hD⟩, hS.F ht⟩) hS.2.2 (show decode prog_15_method_81_code 48 = .ok (.ireturn, 1) by decide +kernel)
set_option maxHeartbeats 4000000 in
set_option maxRecDepth 100000 in
/-- SignalEngineModel.go -/
theorem c_MD_go0 (l : Launch) (D : va_G) (ad : Nat → Nat) (de sz : Nat) (h0 : Nat) (fs : List Value) (hfl : fs.length = 107) (hf85 : xfa fs 85 (.int 0))  (p0 : Int32) : Met l ⟨"SignalEngineModel", "go", "(I)V"⟩ (tw ⟨"SignalEngineModel", "go", "(I)V"⟩ prog_15_method_86_code 2 none) { frames := 1, cells := 0, slots := 0, locals := 22 } (va_Pc [.ref h0, .int p0] (xp ad de D [(h0, .inr (1, fs))] [] sz)) (va_Qv (fun (_ : Unit) => True) (fun (_ : Unit) t => xq D (va_A [(h0, .inr (1, fs))] sz) [(h0, .inr (1, (fs.set 0 (.int 1))))] [] t) (va_A [(h0, .inr (1, fs))] sz)) 0 0 (va_A [(h0, .inr (1, fs))] sz) := by
  refine xMet (by decide +kernel) (Nat.le_of_ble_eq_true rfl) ?_
  intro p e s m below meth c hx hb hr hlocks hin hml hown hts hsz hP hK hD hE hA ls hl
  have hS : va_S _ s.heap s.heap [] := va_S.rf (A := va_A [(h0, .inr (1, fs))] sz)
  have hl : lv_has ls 2 [(0, .ref h0), (1, .int p0)] := hl
  refine lv_aload_n hx hb (show decode prog_15_method_86_code 0 = .ok (.aload_n 0, 1) by decide +kernel) rfl (lv_at hl 0 rfl) ?_
  refine lv_aload_n hx hb (show decode prog_15_method_86_code 1 = .ok (.aload_n 0, 1) by decide +kernel) rfl (lv_at hl 0 rfl) ?_
  refine va_get (D := D) (ci := 1) (v := .int 0) (C := R_MD) (T := F_MD) (N := 107) hx hb hts i_MD hown hK hP 0 rfl rfl 85 (by decide +kernel) (hts _ w_1647) (fun _ h9 => h9) hf85 (show decode prog_15_method_86_code 2 = .ok (.getfield 518, 3) by decide +kernel) ?_
  refine lv_if_ne (tgt := 12) hx hb (show decode prog_15_method_86_code 5 = .ok (.ifCond .ne 7, 3) by decide +kernel) (by decide +kernel) (fun c_1 => absurd c_1 (by decide +kernel)) (fun c_1 => ?_)
  refine lv_iconst (v := 1) hx hb (show decode prog_15_method_86_code 8 = .ok (.iconst 1, 1) by decide +kernel) (by decide +kernel) ?_
  refine lv_goto (tgt := 13) hx hb (show decode prog_15_method_86_code 9 = .ok (.goto 4, 3) by decide +kernel) (by decide +kernel) ?_
  refine lv_aload_n hx hb (show decode prog_15_method_86_code 13 = .ok (.aload_n 0, 1) by decide +kernel) rfl (lv_at hl 0 rfl) ?_
  refine va_get (D := D) (ci := 1) (v := .int 0) (C := R_MD) (T := F_MD) (N := 107) hx hb hts i_MD hown hK hP 0 rfl rfl 85 (by decide +kernel) (hts _ w_1647) (fun _ h9 => h9) hf85 (show decode prog_15_method_86_code 14 = .ok (.getfield 518, 3) by decide +kernel) ?_
  refine lv_if_eq (tgt := 33) hx hb (show decode prog_15_method_86_code 17 = .ok (.ifCond .eq 16, 3) by decide +kernel) (by decide +kernel) (fun c_2 => ?_) (fun c_2 => absurd c_2 (by decide +kernel))
  refine lv_iconst (v := 0) hx hb (show decode prog_15_method_86_code 33 = .ok (.iconst 0, 1) by decide +kernel) (by decide +kernel) ?_
  refine xki (wr := []) (xrV (As := [.int 1, .int 0]) (rest := []) ⟨hx, hb, hml, hown, hts⟩ (c_MD_fails10 l D ad de s.heap.size h0 fs hfl) w_2155 w_2 w_2152 w_2154 wp_126 rfl rfl ⟨by decide +kernel, by decide +kernel, rfl⟩ ⟨by decide +kernel, by decide +kernel⟩ hP hK hD hE hS hA [0] [] rfl (by decide +kernel) rfl ⟨0, 1, _, _, rfl, rfl, rfl⟩ hl.1 rfl (Nat.le_of_ble_eq_true rfl) (show decode prog_15_method_86_code 34 = .ok (.invokevirtual 615, 3) by decide +kernel) ⟨by decide +kernel, by decide +kernel⟩) hP hK hD hS hA [0] [] rfl rfl (by decide +kernel) (by decide +kernel) (fun r_3 u_4 H locs hw_5 hP hK hD hS => ?_)
  obtain rfl : r_3 = 1 := hw_5
  have hP : va_P D cl [(h0, .inr (1, (fs.set 0 (.int 1))))] H := hP
  have hD : va_D _ [(h0, .inr (1, (fs.set 0 (.int 1))))] := hD
  refine W.widen (k := 0) (n := 0) (by decide +kernel) (by decide +kernel) ?_
  refine lv_if_eq (tgt := 41) hx hb (show decode prog_15_method_86_code 37 = .ok (.ifCond .eq 4, 3) by decide +kernel) (by decide +kernel) (fun c_6 => absurd c_6 (by decide +kernel)) (fun c_6 => ?_)
  exact W.vret hx hb hr (fun t ht hW => ⟨⟨(), rfl, trivial, by rw [ht]; exact hP, va_K.moved hW.alike hK, hD⟩, hS.F ht⟩) hS.2.2 (show decode prog_15_method_86_code 40 = .ok (.return_, 1) by decide +kernel)
set_option maxHeartbeats 4000000 in
set_option maxRecDepth 100000 in
/-- SignalEngineModel.explore -/
theorem c_MD_explore0 (l : Launch) (D : va_G) (ad : Nat → Nat) (de sz : Nat) (h0 : Nat) (fs : List Value) (hfl : fs.length = 107) (hf41 : xfa fs 41 (.int 0))   : Met l ⟨"SignalEngineModel", "explore", "()I"⟩ (tw ⟨"SignalEngineModel", "explore", "()I"⟩ prog_15_method_88_code 7 (some (.int))) { frames := 1, cells := 0, slots := 0, locals := 22 } (va_Pc [.ref h0] (xp ad de D [(h0, .inr (1, fs))] [] sz)) (va_Qi (fun (r : Int32) (_ : Unit) => r = 0) (fun (_ : Unit) t => xq D (va_A [(h0, .inr (1, fs))] sz) [(h0, .inr (1, (fs.set 0 (.int 1))))] [] t) (va_A [(h0, .inr (1, fs))] sz)) 0 0 (va_A [(h0, .inr (1, fs))] sz) := by
  refine xMet (by decide +kernel) (Nat.le_of_ble_eq_true rfl) ?_
  intro p e s m below meth c hx hb hr hlocks hin hml hown hts hsz hP hK hD hE hA ls hl
  have hS : va_S _ s.heap s.heap [] := va_S.rf (A := va_A [(h0, .inr (1, fs))] sz)
  have hl : lv_has ls 7 [(0, .ref h0)] := hl
  refine lv_aload_n hx hb (show decode prog_15_method_88_code 0 = .ok (.aload_n 0, 1) by decide +kernel) rfl (lv_at hl 0 rfl) ?_
  refine lv_aload_n hx hb (show decode prog_15_method_88_code 1 = .ok (.aload_n 0, 1) by decide +kernel) rfl (lv_at hl 0 rfl) ?_
  refine va_get (D := D) (ci := 1) (v := .int 0) (C := R_MD) (T := F_MD) (N := 107) hx hb hts i_MD hown hK hP 0 rfl rfl 41 (by decide +kernel) (hts _ w_1603) (fun _ h9 => h9) hf41 (show decode prog_15_method_88_code 2 = .ok (.getfield 521, 3) by decide +kernel) ?_
  refine lv_if_ne (tgt := 12) hx hb (show decode prog_15_method_88_code 5 = .ok (.ifCond .ne 7, 3) by decide +kernel) (by decide +kernel) (fun c_1 => absurd c_1 (by decide +kernel)) (fun c_1 => ?_)
  refine lv_iconst (v := 1) hx hb (show decode prog_15_method_88_code 8 = .ok (.iconst 1, 1) by decide +kernel) (by decide +kernel) ?_
  refine lv_goto (tgt := 13) hx hb (show decode prog_15_method_88_code 9 = .ok (.goto 4, 3) by decide +kernel) (by decide +kernel) ?_
  refine lv_iconst (v := 0) hx hb (show decode prog_15_method_88_code 13 = .ok (.iconst 0, 1) by decide +kernel) (by decide +kernel) ?_
  refine xki (wr := []) (xrV (As := [.int 1, .int 0]) (rest := []) ⟨hx, hb, hml, hown, hts⟩ (c_MD_fails10 l D ad de s.heap.size h0 fs hfl) w_2155 w_2 w_2152 w_2154 wp_126 rfl rfl ⟨by decide +kernel, by decide +kernel, rfl⟩ ⟨by decide +kernel, by decide +kernel⟩ hP hK hD hE hS hA [0] [] rfl (by decide +kernel) rfl ⟨0, 1, _, _, rfl, rfl, rfl⟩ hl.1 rfl (Nat.le_of_ble_eq_true rfl) (show decode prog_15_method_88_code 14 = .ok (.invokevirtual 615, 3) by decide +kernel) ⟨by decide +kernel, by decide +kernel⟩) hP hK hD hS hA [0] [] rfl rfl (by decide +kernel) (by decide +kernel) (fun r_2 u_3 H locs hw_4 hP hK hD hS => ?_)
  obtain rfl : r_2 = 1 := hw_4
  have hP : va_P D cl [(h0, .inr (1, (fs.set 0 (.int 1))))] H := hP
  have hD : va_D _ [(h0, .inr (1, (fs.set 0 (.int 1))))] := hD
  refine W.widen (k := 0) (n := 0) (by decide +kernel) (by decide +kernel) ?_
  refine lv_if_eq (tgt := 22) hx hb (show decode prog_15_method_88_code 17 = .ok (.ifCond .eq 5, 3) by decide +kernel) (by decide +kernel) (fun c_5 => absurd c_5 (by decide +kernel)) (fun c_5 => ?_)
  refine lv_iconst (v := 0) hx hb (show decode prog_15_method_88_code 20 = .ok (.iconst 0, 1) by decide +kernel) (by decide +kernel) ?_
  exact W.iret (v := 0) hx hb hr (fun t ht hW => ⟨⟨0, (), rfl, rfl, by rw [ht]; exact hP, va_K.moved hW.alike hK, hD⟩, hS.F ht⟩) hS.2.2 (show decode prog_15_method_88_code 21 = .ok (.ireturn, 1) by decide +kernel)
set_option maxHeartbeats 4000000 in
set_option maxRecDepth 100000 in
/-- SignalEngineModel.next -/
theorem c_MD_next0 (l : Launch) (D : va_G) (ad : Nat → Nat) (de sz : Nat) (h0 : Nat) (fs : List Value) (hfl : fs.length = 107) (hf85 : xfa fs 85 (.int 0))  (p0 : Int32) (p1 : Int32) : Met l ⟨"SignalEngineModel", "next", "(II)I"⟩ (tw ⟨"SignalEngineModel", "next", "(II)I"⟩ prog_15_method_95_code 3 (some (.int))) { frames := 1, cells := 0, slots := 0, locals := 22 } (va_Pc [.ref h0, .int p0, .int p1] (xp ad de D [(h0, .inr (1, fs))] [] sz)) (va_Qi (fun (r : Int32) (_ : Unit) => r = 0) (fun (_ : Unit) t => xq D (va_A [(h0, .inr (1, fs))] sz) [(h0, .inr (1, (fs.set 0 (.int 1))))] [] t) (va_A [(h0, .inr (1, fs))] sz)) 0 0 (va_A [(h0, .inr (1, fs))] sz) := by
  refine xMet (by decide +kernel) (Nat.le_of_ble_eq_true rfl) ?_
  intro p e s m below meth c hx hb hr hlocks hin hml hown hts hsz hP hK hD hE hA ls hl
  have hS : va_S _ s.heap s.heap [] := va_S.rf (A := va_A [(h0, .inr (1, fs))] sz)
  have hl : lv_has ls 3 [(0, .ref h0), (1, .int p0), (2, .int p1)] := hl
  refine lv_aload_n hx hb (show decode prog_15_method_95_code 0 = .ok (.aload_n 0, 1) by decide +kernel) rfl (lv_at hl 0 rfl) ?_
  refine lv_aload_n hx hb (show decode prog_15_method_95_code 1 = .ok (.aload_n 0, 1) by decide +kernel) rfl (lv_at hl 0 rfl) ?_
  refine va_get (D := D) (ci := 1) (v := .int 0) (C := R_MD) (T := F_MD) (N := 107) hx hb hts i_MD hown hK hP 0 rfl rfl 85 (by decide +kernel) (hts _ w_1647) (fun _ h9 => h9) hf85 (show decode prog_15_method_95_code 2 = .ok (.getfield 518, 3) by decide +kernel) ?_
  refine lv_if_ne (tgt := 12) hx hb (show decode prog_15_method_95_code 5 = .ok (.ifCond .ne 7, 3) by decide +kernel) (by decide +kernel) (fun c_1 => absurd c_1 (by decide +kernel)) (fun c_1 => ?_)
  refine lv_iconst (v := 1) hx hb (show decode prog_15_method_95_code 8 = .ok (.iconst 1, 1) by decide +kernel) (by decide +kernel) ?_
  refine lv_goto (tgt := 13) hx hb (show decode prog_15_method_95_code 9 = .ok (.goto 4, 3) by decide +kernel) (by decide +kernel) ?_
  refine lv_iconst (v := 0) hx hb (show decode prog_15_method_95_code 13 = .ok (.iconst 0, 1) by decide +kernel) (by decide +kernel) ?_
  refine xki (wr := []) (xrV (As := [.int 1, .int 0]) (rest := []) ⟨hx, hb, hml, hown, hts⟩ (c_MD_fails10 l D ad de s.heap.size h0 fs hfl) w_2155 w_2 w_2152 w_2154 wp_126 rfl rfl ⟨by decide +kernel, by decide +kernel, rfl⟩ ⟨by decide +kernel, by decide +kernel⟩ hP hK hD hE hS hA [0] [] rfl (by decide +kernel) rfl ⟨0, 1, _, _, rfl, rfl, rfl⟩ hl.1 rfl (Nat.le_of_ble_eq_true rfl) (show decode prog_15_method_95_code 14 = .ok (.invokevirtual 615, 3) by decide +kernel) ⟨by decide +kernel, by decide +kernel⟩) hP hK hD hS hA [0] [] rfl rfl (by decide +kernel) (by decide +kernel) (fun r_2 u_3 H locs hw_4 hP hK hD hS => ?_)
  obtain rfl : r_2 = 1 := hw_4
  have hP : va_P D cl [(h0, .inr (1, (fs.set 0 (.int 1))))] H := hP
  have hD : va_D _ [(h0, .inr (1, (fs.set 0 (.int 1))))] := hD
  refine W.widen (k := 0) (n := 0) (by decide +kernel) (by decide +kernel) ?_
  refine lv_if_eq (tgt := 24) hx hb (show decode prog_15_method_95_code 17 = .ok (.ifCond .eq 7, 3) by decide +kernel) (by decide +kernel) (fun c_5 => absurd c_5 (by decide +kernel)) (fun c_5 => ?_)
  refine lv_iconst (v := 0) hx hb (show decode prog_15_method_95_code 20 = .ok (.iconst 0, 1) by decide +kernel) (by decide +kernel) ?_
  refine lv_goto (tgt := 34) hx hb (show decode prog_15_method_95_code 21 = .ok (.goto 13, 3) by decide +kernel) (by decide +kernel) ?_
  exact W.iret (v := 0) hx hb hr (fun t ht hW => ⟨⟨0, (), rfl, rfl, by rw [ht]; exact hP, va_K.moved hW.alike hK, hD⟩, hS.F ht⟩) hS.2.2 (show decode prog_15_method_95_code 34 = .ok (.ireturn, 1) by decide +kernel)
set_option maxHeartbeats 4000000 in
set_option maxRecDepth 100000 in
/-- SignalEngineModel.shows -/
theorem c_MD_shows0 (l : Launch) (D : va_G) (ad : Nat → Nat) (de sz : Nat) (h0 : Nat) (fs : List Value) (hfl : fs.length = 107) (hf85 : xfa fs 85 (.int 0))  (p0 : Int32) (p1 : Int32) : Met l ⟨"SignalEngineModel", "shows", "(II)I"⟩ (tw ⟨"SignalEngineModel", "shows", "(II)I"⟩ prog_15_method_96_code 3 (some (.int))) { frames := 1, cells := 0, slots := 0, locals := 22 } (va_Pc [.ref h0, .int p0, .int p1] (xp ad de D [(h0, .inr (1, fs))] [] sz)) (va_Qi (fun (r : Int32) (_ : Unit) => r = 0) (fun (_ : Unit) t => xq D (va_A [(h0, .inr (1, fs))] sz) [(h0, .inr (1, (fs.set 0 (.int 1))))] [] t) (va_A [(h0, .inr (1, fs))] sz)) 0 0 (va_A [(h0, .inr (1, fs))] sz) := by
  refine xMet (by decide +kernel) (Nat.le_of_ble_eq_true rfl) ?_
  intro p e s m below meth c hx hb hr hlocks hin hml hown hts hsz hP hK hD hE hA ls hl
  have hS : va_S _ s.heap s.heap [] := va_S.rf (A := va_A [(h0, .inr (1, fs))] sz)
  have hl : lv_has ls 3 [(0, .ref h0), (1, .int p0), (2, .int p1)] := hl
  refine lv_aload_n hx hb (show decode prog_15_method_96_code 0 = .ok (.aload_n 0, 1) by decide +kernel) rfl (lv_at hl 0 rfl) ?_
  refine lv_aload_n hx hb (show decode prog_15_method_96_code 1 = .ok (.aload_n 0, 1) by decide +kernel) rfl (lv_at hl 0 rfl) ?_
  refine va_get (D := D) (ci := 1) (v := .int 0) (C := R_MD) (T := F_MD) (N := 107) hx hb hts i_MD hown hK hP 0 rfl rfl 85 (by decide +kernel) (hts _ w_1647) (fun _ h9 => h9) hf85 (show decode prog_15_method_96_code 2 = .ok (.getfield 518, 3) by decide +kernel) ?_
  refine lv_if_ne (tgt := 12) hx hb (show decode prog_15_method_96_code 5 = .ok (.ifCond .ne 7, 3) by decide +kernel) (by decide +kernel) (fun c_1 => absurd c_1 (by decide +kernel)) (fun c_1 => ?_)
  refine lv_iconst (v := 1) hx hb (show decode prog_15_method_96_code 8 = .ok (.iconst 1, 1) by decide +kernel) (by decide +kernel) ?_
  refine lv_goto (tgt := 13) hx hb (show decode prog_15_method_96_code 9 = .ok (.goto 4, 3) by decide +kernel) (by decide +kernel) ?_
  refine lv_iconst (v := 0) hx hb (show decode prog_15_method_96_code 13 = .ok (.iconst 0, 1) by decide +kernel) (by decide +kernel) ?_
  refine xki (wr := []) (xrV (As := [.int 1, .int 0]) (rest := []) ⟨hx, hb, hml, hown, hts⟩ (c_MD_fails10 l D ad de s.heap.size h0 fs hfl) w_2155 w_2 w_2152 w_2154 wp_126 rfl rfl ⟨by decide +kernel, by decide +kernel, rfl⟩ ⟨by decide +kernel, by decide +kernel⟩ hP hK hD hE hS hA [0] [] rfl (by decide +kernel) rfl ⟨0, 1, _, _, rfl, rfl, rfl⟩ hl.1 rfl (Nat.le_of_ble_eq_true rfl) (show decode prog_15_method_96_code 14 = .ok (.invokevirtual 615, 3) by decide +kernel) ⟨by decide +kernel, by decide +kernel⟩) hP hK hD hS hA [0] [] rfl rfl (by decide +kernel) (by decide +kernel) (fun r_2 u_3 H locs hw_4 hP hK hD hS => ?_)
  obtain rfl : r_2 = 1 := hw_4
  have hP : va_P D cl [(h0, .inr (1, (fs.set 0 (.int 1))))] H := hP
  have hD : va_D _ [(h0, .inr (1, (fs.set 0 (.int 1))))] := hD
  refine W.widen (k := 0) (n := 0) (by decide +kernel) (by decide +kernel) ?_
  refine lv_if_eq (tgt := 24) hx hb (show decode prog_15_method_96_code 17 = .ok (.ifCond .eq 7, 3) by decide +kernel) (by decide +kernel) (fun c_5 => absurd c_5 (by decide +kernel)) (fun c_5 => ?_)
  refine lv_iconst (v := 0) hx hb (show decode prog_15_method_96_code 20 = .ok (.iconst 0, 1) by decide +kernel) (by decide +kernel) ?_
  refine lv_goto (tgt := 34) hx hb (show decode prog_15_method_96_code 21 = .ok (.goto 13, 3) by decide +kernel) (by decide +kernel) ?_
  exact W.iret (v := 0) hx hb hr (fun t ht hW => ⟨⟨0, (), rfl, rfl, by rw [ht]; exact hP, va_K.moved hW.alike hK, hD⟩, hS.F ht⟩) hS.2.2 (show decode prog_15_method_96_code 34 = .ok (.ireturn, 1) by decide +kernel)
set_option maxHeartbeats 4000000 in
set_option maxRecDepth 100000 in
/-- SignalEngineModel.classes -/
theorem c_MD_classes0 (l : Launch) (D : va_G) (ad : Nat → Nat) (de sz : Nat) (h0 : Nat) (fs : List Value) (hfl : fs.length = 107) (hf85 : xfa fs 85 (.int 0))   : Met l ⟨"SignalEngineModel", "classes", "()I"⟩ (tw ⟨"SignalEngineModel", "classes", "()I"⟩ prog_15_method_102_code 3 (some (.int))) { frames := 1, cells := 0, slots := 0, locals := 22 } (va_Pc [.ref h0] (xp ad de D [(h0, .inr (1, fs))] [] sz)) (va_Qi (fun (r : Int32) (_ : Unit) => r = 0) (fun (_ : Unit) t => xq D (va_A [(h0, .inr (1, fs))] sz) [(h0, .inr (1, (fs.set 0 (.int 1))))] [] t) (va_A [(h0, .inr (1, fs))] sz)) 0 0 (va_A [(h0, .inr (1, fs))] sz) := by
  refine xMet (by decide +kernel) (Nat.le_of_ble_eq_true rfl) ?_
  intro p e s m below meth c hx hb hr hlocks hin hml hown hts hsz hP hK hD hE hA ls hl
  have hS : va_S _ s.heap s.heap [] := va_S.rf (A := va_A [(h0, .inr (1, fs))] sz)
  have hl : lv_has ls 3 [(0, .ref h0)] := hl
  refine lv_aload_n hx hb (show decode prog_15_method_102_code 0 = .ok (.aload_n 0, 1) by decide +kernel) rfl (lv_at hl 0 rfl) ?_
  refine lv_aload_n hx hb (show decode prog_15_method_102_code 1 = .ok (.aload_n 0, 1) by decide +kernel) rfl (lv_at hl 0 rfl) ?_
  refine va_get (D := D) (ci := 1) (v := .int 0) (C := R_MD) (T := F_MD) (N := 107) hx hb hts i_MD hown hK hP 0 rfl rfl 85 (by decide +kernel) (hts _ w_1647) (fun _ h9 => h9) hf85 (show decode prog_15_method_102_code 2 = .ok (.getfield 518, 3) by decide +kernel) ?_
  refine lv_if_ne (tgt := 12) hx hb (show decode prog_15_method_102_code 5 = .ok (.ifCond .ne 7, 3) by decide +kernel) (by decide +kernel) (fun c_1 => absurd c_1 (by decide +kernel)) (fun c_1 => ?_)
  refine lv_iconst (v := 1) hx hb (show decode prog_15_method_102_code 8 = .ok (.iconst 1, 1) by decide +kernel) (by decide +kernel) ?_
  refine lv_goto (tgt := 13) hx hb (show decode prog_15_method_102_code 9 = .ok (.goto 4, 3) by decide +kernel) (by decide +kernel) ?_
  refine lv_iconst (v := 0) hx hb (show decode prog_15_method_102_code 13 = .ok (.iconst 0, 1) by decide +kernel) (by decide +kernel) ?_
  refine xki (wr := []) (xrV (As := [.int 1, .int 0]) (rest := []) ⟨hx, hb, hml, hown, hts⟩ (c_MD_fails10 l D ad de s.heap.size h0 fs hfl) w_2155 w_2 w_2152 w_2154 wp_126 rfl rfl ⟨by decide +kernel, by decide +kernel, rfl⟩ ⟨by decide +kernel, by decide +kernel⟩ hP hK hD hE hS hA [0] [] rfl (by decide +kernel) rfl ⟨0, 1, _, _, rfl, rfl, rfl⟩ hl.1 rfl (Nat.le_of_ble_eq_true rfl) (show decode prog_15_method_102_code 14 = .ok (.invokevirtual 615, 3) by decide +kernel) ⟨by decide +kernel, by decide +kernel⟩) hP hK hD hS hA [0] [] rfl rfl (by decide +kernel) (by decide +kernel) (fun r_2 u_3 H locs hw_4 hP hK hD hS => ?_)
  obtain rfl : r_2 = 1 := hw_4
  have hP : va_P D cl [(h0, .inr (1, (fs.set 0 (.int 1))))] H := hP
  have hD : va_D _ [(h0, .inr (1, (fs.set 0 (.int 1))))] := hD
  refine W.widen (k := 0) (n := 0) (by decide +kernel) (by decide +kernel) ?_
  refine lv_if_eq (tgt := 22) hx hb (show decode prog_15_method_102_code 17 = .ok (.ifCond .eq 5, 3) by decide +kernel) (by decide +kernel) (fun c_5 => absurd c_5 (by decide +kernel)) (fun c_5 => ?_)
  refine lv_iconst (v := 0) hx hb (show decode prog_15_method_102_code 20 = .ok (.iconst 0, 1) by decide +kernel) (by decide +kernel) ?_
  exact W.iret (v := 0) hx hb hr (fun t ht hW => ⟨⟨0, (), rfl, rfl, by rw [ht]; exact hP, va_K.moved hW.alike hK, hD⟩, hS.F ht⟩) hS.2.2 (show decode prog_15_method_102_code 21 = .ok (.ireturn, 1) by decide +kernel)
set_option maxHeartbeats 4000000 in
set_option maxRecDepth 100000 in
/-- SignalEngineModel.lay -/
theorem c_MD_lay0 (l : Launch) (D : va_G) (ad : Nat → Nat) (de sz : Nat) (h0 : Nat) (fs : List Value) (hfl : fs.length = 107) (hf85 : xfa fs 85 (.int 0))   : Met l ⟨"SignalEngineModel", "lay", "()I"⟩ (tw ⟨"SignalEngineModel", "lay", "()I"⟩ prog_15_method_106_code 6 (some (.int))) { frames := 1, cells := 0, slots := 0, locals := 22 } (va_Pc [.ref h0] (xp ad de D [(h0, .inr (1, fs))] [] sz)) (va_Qi (fun (r : Int32) (_ : Unit) => r = 0) (fun (_ : Unit) t => xq D (va_A [(h0, .inr (1, fs))] sz) [(h0, .inr (1, (fs.set 0 (.int 1))))] [] t) (va_A [(h0, .inr (1, fs))] sz)) 0 0 (va_A [(h0, .inr (1, fs))] sz) := by
  refine xMet (by decide +kernel) (Nat.le_of_ble_eq_true rfl) ?_
  intro p e s m below meth c hx hb hr hlocks hin hml hown hts hsz hP hK hD hE hA ls hl
  have hS : va_S _ s.heap s.heap [] := va_S.rf (A := va_A [(h0, .inr (1, fs))] sz)
  have hl : lv_has ls 6 [(0, .ref h0)] := hl
  refine lv_aload_n hx hb (show decode prog_15_method_106_code 0 = .ok (.aload_n 0, 1) by decide +kernel) rfl (lv_at hl 0 rfl) ?_
  refine lv_aload_n hx hb (show decode prog_15_method_106_code 1 = .ok (.aload_n 0, 1) by decide +kernel) rfl (lv_at hl 0 rfl) ?_
  refine va_get (D := D) (ci := 1) (v := .int 0) (C := R_MD) (T := F_MD) (N := 107) hx hb hts i_MD hown hK hP 0 rfl rfl 85 (by decide +kernel) (hts _ w_1647) (fun _ h9 => h9) hf85 (show decode prog_15_method_106_code 2 = .ok (.getfield 518, 3) by decide +kernel) ?_
  refine lv_if_ne (tgt := 12) hx hb (show decode prog_15_method_106_code 5 = .ok (.ifCond .ne 7, 3) by decide +kernel) (by decide +kernel) (fun c_1 => absurd c_1 (by decide +kernel)) (fun c_1 => ?_)
  refine lv_iconst (v := 1) hx hb (show decode prog_15_method_106_code 8 = .ok (.iconst 1, 1) by decide +kernel) (by decide +kernel) ?_
  refine lv_goto (tgt := 13) hx hb (show decode prog_15_method_106_code 9 = .ok (.goto 4, 3) by decide +kernel) (by decide +kernel) ?_
  refine lv_iconst (v := 0) hx hb (show decode prog_15_method_106_code 13 = .ok (.iconst 0, 1) by decide +kernel) (by decide +kernel) ?_
  refine xki (wr := []) (xrV (As := [.int 1, .int 0]) (rest := []) ⟨hx, hb, hml, hown, hts⟩ (c_MD_fails10 l D ad de s.heap.size h0 fs hfl) w_2155 w_2 w_2152 w_2154 wp_126 rfl rfl ⟨by decide +kernel, by decide +kernel, rfl⟩ ⟨by decide +kernel, by decide +kernel⟩ hP hK hD hE hS hA [0] [] rfl (by decide +kernel) rfl ⟨0, 1, _, _, rfl, rfl, rfl⟩ hl.1 rfl (Nat.le_of_ble_eq_true rfl) (show decode prog_15_method_106_code 14 = .ok (.invokevirtual 615, 3) by decide +kernel) ⟨by decide +kernel, by decide +kernel⟩) hP hK hD hS hA [0] [] rfl rfl (by decide +kernel) (by decide +kernel) (fun r_2 u_3 H locs hw_4 hP hK hD hS => ?_)
  obtain rfl : r_2 = 1 := hw_4
  have hP : va_P D cl [(h0, .inr (1, (fs.set 0 (.int 1))))] H := hP
  have hD : va_D _ [(h0, .inr (1, (fs.set 0 (.int 1))))] := hD
  refine W.widen (k := 0) (n := 0) (by decide +kernel) (by decide +kernel) ?_
  refine lv_if_eq (tgt := 22) hx hb (show decode prog_15_method_106_code 17 = .ok (.ifCond .eq 5, 3) by decide +kernel) (by decide +kernel) (fun c_5 => absurd c_5 (by decide +kernel)) (fun c_5 => ?_)
  refine lv_iconst (v := 0) hx hb (show decode prog_15_method_106_code 20 = .ok (.iconst 0, 1) by decide +kernel) (by decide +kernel) ?_
  exact W.iret (v := 0) hx hb hr (fun t ht hW => ⟨⟨0, (), rfl, rfl, by rw [ht]; exact hP, va_K.moved hW.alike hK, hD⟩, hS.F ht⟩) hS.2.2 (show decode prog_15_method_106_code 21 = .ok (.ireturn, 1) by decide +kernel)
set_option maxHeartbeats 4000000 in
set_option maxRecDepth 100000 in
/-- SignalEngineModel.pass -/
theorem c_MD_pass0 (l : Launch) (D : va_G) (ad : Nat → Nat) (de sz : Nat) (h0 : Nat) (fs : List Value) (hfl : fs.length = 107) (hf86 : xfa fs 86 (.int 0))  (p0 : Int32) : Met l ⟨"SignalEngineModel", "pass", "(I)J"⟩ (tw ⟨"SignalEngineModel", "pass", "(I)J"⟩ prog_15_method_107_code 2 (some (.long))) { frames := 1, cells := 0, slots := 0, locals := 22 } (va_Pc [.ref h0, .int p0] (xp ad de D [(h0, .inr (1, fs))] [] sz)) (va_Ql (fun (r : Int64) (_ : Unit) => r = 0) (fun (_ : Unit) t => xq D (va_A [(h0, .inr (1, fs))] sz) [(h0, .inr (1, (fs.set 0 (.int 1))))] [] t) (va_A [(h0, .inr (1, fs))] sz)) 0 0 (va_A [(h0, .inr (1, fs))] sz) := by
  refine xMet (by decide +kernel) (Nat.le_of_ble_eq_true rfl) ?_
  intro p e s m below meth c hx hb hr hlocks hin hml hown hts hsz hP hK hD hE hA ls hl
  have hS : va_S _ s.heap s.heap [] := va_S.rf (A := va_A [(h0, .inr (1, fs))] sz)
  have hl : lv_has ls 2 [(0, .ref h0), (1, .int p0)] := hl
  refine lv_aload_n hx hb (show decode prog_15_method_107_code 0 = .ok (.aload_n 0, 1) by decide +kernel) rfl (lv_at hl 0 rfl) ?_
  refine lv_aload_n hx hb (show decode prog_15_method_107_code 1 = .ok (.aload_n 0, 1) by decide +kernel) rfl (lv_at hl 0 rfl) ?_
  refine va_get (D := D) (ci := 1) (v := .int 0) (C := R_MD) (T := F_MD) (N := 107) hx hb hts i_MD hown hK hP 0 rfl rfl 86 (by decide +kernel) (hts _ w_1648) (fun _ h9 => h9) hf86 (show decode prog_15_method_107_code 2 = .ok (.getfield 515, 3) by decide +kernel) ?_
  refine lv_if_ne (tgt := 12) hx hb (show decode prog_15_method_107_code 5 = .ok (.ifCond .ne 7, 3) by decide +kernel) (by decide +kernel) (fun c_1 => absurd c_1 (by decide +kernel)) (fun c_1 => ?_)
  refine lv_iconst (v := 1) hx hb (show decode prog_15_method_107_code 8 = .ok (.iconst 1, 1) by decide +kernel) (by decide +kernel) ?_
  refine lv_goto (tgt := 13) hx hb (show decode prog_15_method_107_code 9 = .ok (.goto 4, 3) by decide +kernel) (by decide +kernel) ?_
  refine lv_aload_n hx hb (show decode prog_15_method_107_code 13 = .ok (.aload_n 0, 1) by decide +kernel) rfl (lv_at hl 0 rfl) ?_
  refine va_get (D := D) (ci := 1) (v := .int 0) (C := R_MD) (T := F_MD) (N := 107) hx hb hts i_MD hown hK hP 0 rfl rfl 86 (by decide +kernel) (hts _ w_1648) (fun _ h9 => h9) hf86 (show decode prog_15_method_107_code 14 = .ok (.getfield 515, 3) by decide +kernel) ?_
  refine lv_if_eq (tgt := 35) hx hb (show decode prog_15_method_107_code 17 = .ok (.ifCond .eq 18, 3) by decide +kernel) (by decide +kernel) (fun c_2 => ?_) (fun c_2 => absurd c_2 (by decide +kernel))
  refine lv_iconst (v := 0) hx hb (show decode prog_15_method_107_code 35 = .ok (.iconst 0, 1) by decide +kernel) (by decide +kernel) ?_
  refine xki (wr := []) (xrV (As := [.int 1, .int 0]) (rest := []) ⟨hx, hb, hml, hown, hts⟩ (c_MD_fails10 l D ad de s.heap.size h0 fs hfl) w_2155 w_2 w_2152 w_2154 wp_126 rfl rfl ⟨by decide +kernel, by decide +kernel, rfl⟩ ⟨by decide +kernel, by decide +kernel⟩ hP hK hD hE hS hA [0] [] rfl (by decide +kernel) rfl ⟨0, 1, _, _, rfl, rfl, rfl⟩ hl.1 rfl (Nat.le_of_ble_eq_true rfl) (show decode prog_15_method_107_code 36 = .ok (.invokevirtual 615, 3) by decide +kernel) ⟨by decide +kernel, by decide +kernel⟩) hP hK hD hS hA [0] [] rfl rfl (by decide +kernel) (by decide +kernel) (fun r_3 u_4 H locs hw_5 hP hK hD hS => ?_)
  obtain rfl : r_3 = 1 := hw_5
  have hP : va_P D cl [(h0, .inr (1, (fs.set 0 (.int 1))))] H := hP
  have hD : va_D _ [(h0, .inr (1, (fs.set 0 (.int 1))))] := hD
  refine W.widen (k := 0) (n := 0) (by decide +kernel) (by decide +kernel) ?_
  refine lv_if_eq (tgt := 44) hx hb (show decode prog_15_method_107_code 39 = .ok (.ifCond .eq 5, 3) by decide +kernel) (by decide +kernel) (fun c_6 => absurd c_6 (by decide +kernel)) (fun c_6 => ?_)
  refine lv_lconst (v := 0) hx hb (show decode prog_15_method_107_code 42 = .ok (.lconst 0, 1) by decide +kernel) (by decide +kernel) ?_
  exact W.lret (v := 0) hx hb hr (fun t ht hW => ⟨⟨0, (), rfl, rfl, by rw [ht]; exact hP, va_K.moved hW.alike hK, hD⟩, hS.F ht⟩) hS.2.2 (show decode prog_15_method_107_code 43 = .ok (.lreturn, 1) by decide +kernel)
set_option maxHeartbeats 4000000 in
set_option maxRecDepth 100000 in
/-- SignalEngineModel.end -/
theorem c_MD_end0 (l : Launch) (D : va_G) (ad : Nat → Nat) (de sz : Nat) (h0 : Nat) (fs : List Value) (hfl : fs.length = 107) (hf3 : xfa fs 3 (.int 0))  (p0 : Int32) : Met l ⟨"SignalEngineModel", "end", "(I)I"⟩ (tw ⟨"SignalEngineModel", "end", "(I)I"⟩ prog_15_method_5_code 2 (some (.int))) { frames := 0, cells := 0, slots := 0, locals := 0 } (va_Pc [.ref h0, .int p0] (xp ad de D [(h0, .inr (1, fs))] [] sz)) (va_Qi (fun (r : Int32) (_ : Unit) => r = (-1)) (fun (_ : Unit) t => xq D (va_A [(h0, .inr (1, fs))] sz) [(h0, .inr (1, (fs.set 0 (.int 0))))] [] t) (va_A [(h0, .inr (1, fs))] sz)) 0 0 (va_A [(h0, .inr (1, fs))] sz) := by
  refine xMet (by decide +kernel) (Nat.le_of_ble_eq_true rfl) ?_
  intro p e s m below meth c hx hb hr hlocks hin hml hown hts hsz hP hK hD hE hA ls hl
  have hS : va_S _ s.heap s.heap [] := va_S.rf (A := va_A [(h0, .inr (1, fs))] sz)
  have hl : lv_has ls 2 [(0, .ref h0), (1, .int p0)] := hl
  refine lv_aload_n hx hb (show decode prog_15_method_5_code 0 = .ok (.aload_n 0, 1) by decide +kernel) rfl (lv_at hl 0 rfl) ?_
  refine lv_iconst (v := 0) hx hb (show decode prog_15_method_5_code 1 = .ok (.iconst 0, 1) by decide +kernel) (by decide +kernel) ?_
  refine va_put (D := D) (ci := 1) (v := .int 0) (ty := .int) (C := R_MD) (T := F_MD) (N := 107) hx hb hts i_MD t_MD t_MD_ok n_MD hown hK hP hD hS 0 rfl rfl 0 (by decide +kernel) (hts _ w_1562) (fun _ h9 => h9) rfl (by decide +kernel) rfl rfl (by simp [hfl]) (show decode prog_15_method_5_code 2 = .ok (.putfield 206, 3) by decide +kernel) (fun H locs hP hD hS => ?_)
  have hP : va_P D cl [(h0, .inr (1, (fs.set 0 (.int 0))))] H := hP
  have hD : va_D _ [(h0, .inr (1, (fs.set 0 (.int 0))))] := hD
  refine lv_aload_n hx hb (show decode prog_15_method_5_code 5 = .ok (.aload_n 0, 1) by decide +kernel) rfl (lv_at hl 0 rfl) ?_
  refine va_get (D := D) (ci := 1) (v := .int 0) (C := R_MD) (T := F_MD) (N := 107) hx hb hts i_MD hown hK hP 0 rfl rfl 3 (by decide +kernel) (hts _ w_1565) (fun _ h9 => h9) (xg_ne (by decide +kernel) hf3) (show decode prog_15_method_5_code 6 = .ok (.getfield 213, 3) by decide +kernel) ?_
  refine lv_if_eq (tgt := 22) hx hb (show decode prog_15_method_5_code 9 = .ok (.ifCond .eq 13, 3) by decide +kernel) (by decide +kernel) (fun c_1 => ?_) (fun c_1 => absurd c_1 (by decide +kernel))
  refine lv_iconst (v := (-1)) hx hb (show decode prog_15_method_5_code 22 = .ok (.iconst (-1), 1) by decide +kernel) (by decide +kernel) ?_
  exact W.iret (v := (-1)) hx hb hr (fun t ht hW => ⟨⟨(-1), (), rfl, rfl, by rw [ht]; exact hP, va_K.moved hW.alike hK, hD⟩, hS.F ht⟩) hS.2.2 (show decode prog_15_method_5_code 23 = .ok (.ireturn, 1) by decide +kernel)
set_option maxHeartbeats 4000000 in
set_option maxRecDepth 100000 in
/-- SignalEngineModel.node -/
theorem c_MD_node0 (l : Launch) (D : va_G) (ad : Nat → Nat) (de sz : Nat) (h0 : Nat) (fs : List Value) (hfl : fs.length = 107) (hf41 : xfa fs 41 (.int 0)) (hf42 : xfa fs 42 (.int 0))  (p0 : Int32) (p1 : Int32) : Met l ⟨"SignalEngineModel", "node", "(II)I"⟩ (tw ⟨"SignalEngineModel", "node", "(II)I"⟩ prog_15_method_60_code 3 (some (.int))) { frames := 0, cells := 0, slots := 0, locals := 0 } (va_Pc [.ref h0, .int p0, .int p1] (xp ad de D [(h0, .inr (1, fs))] [] sz)) (va_Qi (fun (r : Int32) (_ : Unit) => r = (-1)) (fun (_ : Unit) t => xq D (va_A [(h0, .inr (1, fs))] sz) [(h0, .inr (1, (fs.set 0 (.int 0))))] [] t) (va_A [(h0, .inr (1, fs))] sz)) 0 0 (va_A [(h0, .inr (1, fs))] sz) := by
  refine xMet (by decide +kernel) (Nat.le_of_ble_eq_true rfl) ?_
  intro p e s m below meth c hx hb hr hlocks hin hml hown hts hsz hP hK hD hE hA ls hl
  have hS : va_S _ s.heap s.heap [] := va_S.rf (A := va_A [(h0, .inr (1, fs))] sz)
  have hl : lv_has ls 3 [(0, .ref h0), (1, .int p0), (2, .int p1)] := hl
  refine lv_aload_n hx hb (show decode prog_15_method_60_code 0 = .ok (.aload_n 0, 1) by decide +kernel) rfl (lv_at hl 0 rfl) ?_
  refine lv_iconst (v := 0) hx hb (show decode prog_15_method_60_code 1 = .ok (.iconst 0, 1) by decide +kernel) (by decide +kernel) ?_
  refine va_put (D := D) (ci := 1) (v := .int 0) (ty := .int) (C := R_MD) (T := F_MD) (N := 107) hx hb hts i_MD t_MD t_MD_ok n_MD hown hK hP hD hS 0 rfl rfl 0 (by decide +kernel) (hts _ w_1562) (fun _ h9 => h9) rfl (by decide +kernel) rfl rfl (by simp [hfl]) (show decode prog_15_method_60_code 2 = .ok (.putfield 206, 3) by decide +kernel) (fun H locs hP hD hS => ?_)
  have hP : va_P D cl [(h0, .inr (1, (fs.set 0 (.int 0))))] H := hP
  have hD : va_D _ [(h0, .inr (1, (fs.set 0 (.int 0))))] := hD
  refine lv_iload_n hx hb (show decode prog_15_method_60_code 5 = .ok (.iload_n 1, 1) by decide +kernel) rfl (lv_at hl 1 rfl) ?_
  refine lv_if_lt (tgt := 17) hx hb (show decode prog_15_method_60_code 6 = .ok (.ifCond .lt 11, 3) by decide +kernel) (by decide +kernel) (fun c_1 => ?_) (fun c_1 => ?_)
  · skip
    refine lv_iconst (v := (-1)) hx hb (show decode prog_15_method_60_code 17 = .ok (.iconst (-1), 1) by decide +kernel) (by decide +kernel) ?_
    exact W.iret (v := (-1)) hx hb hr (fun t ht hW => ⟨⟨(-1), (), rfl, rfl, by rw [ht]; exact hP, va_K.moved hW.alike hK, hD⟩, hS.F ht⟩) hS.2.2 (show decode prog_15_method_60_code 18 = .ok (.ireturn, 1) by decide +kernel)
  · skip
    refine lv_iload_n hx hb (show decode prog_15_method_60_code 9 = .ok (.iload_n 1, 1) by decide +kernel) rfl (lv_at hl 1 rfl) ?_
    refine lv_aload_n hx hb (show decode prog_15_method_60_code 10 = .ok (.aload_n 0, 1) by decide +kernel) rfl (lv_at hl 0 rfl) ?_
    refine va_get (D := D) (ci := 1) (v := .int 0) (C := R_MD) (T := F_MD) (N := 107) hx hb hts i_MD hown hK hP 0 rfl rfl 42 (by decide +kernel) (hts _ w_1604) (fun _ h9 => h9) (xg_ne (by decide +kernel) hf42) (show decode prog_15_method_60_code 11 = .ok (.getfield 539, 3) by decide +kernel) ?_
    refine lv_icmp_lt (tgt := 19) hx hb (show decode prog_15_method_60_code 14 = .ok (.if_icmp .lt 5, 3) by decide +kernel) (by decide +kernel) (fun c_2 => absurd c_2 c_1) (fun c_2 => ?_)
    refine lv_iconst (v := (-1)) hx hb (show decode prog_15_method_60_code 17 = .ok (.iconst (-1), 1) by decide +kernel) (by decide +kernel) ?_
    exact W.iret (v := (-1)) hx hb hr (fun t ht hW => ⟨⟨(-1), (), rfl, rfl, by rw [ht]; exact hP, va_K.moved hW.alike hK, hD⟩, hS.F ht⟩) hS.2.2 (show decode prog_15_method_60_code 18 = .ok (.ireturn, 1) by decide +kernel)
set_option maxHeartbeats 4000000 in
set_option maxRecDepth 100000 in
/-- SignalEngineModel.piece -/
theorem c_MD_piece0 (l : Launch) (D : va_G) (ad : Nat → Nat) (de sz : Nat) (h0 : Nat) (fs : List Value) (hfl : fs.length = 107) (hf41 : xfa fs 41 (.int 0)) (hf43 : xfa fs 43 (.int 0))  (p0 : Int32) (p1 : Int32) : Met l ⟨"SignalEngineModel", "piece", "(II)I"⟩ (tw ⟨"SignalEngineModel", "piece", "(II)I"⟩ prog_15_method_61_code 3 (some (.int))) { frames := 0, cells := 0, slots := 0, locals := 0 } (va_Pc [.ref h0, .int p0, .int p1] (xp ad de D [(h0, .inr (1, fs))] [] sz)) (va_Qi (fun (r : Int32) (_ : Unit) => r = (-1)) (fun (_ : Unit) t => xq D (va_A [(h0, .inr (1, fs))] sz) [(h0, .inr (1, (fs.set 0 (.int 0))))] [] t) (va_A [(h0, .inr (1, fs))] sz)) 0 0 (va_A [(h0, .inr (1, fs))] sz) := by
  refine xMet (by decide +kernel) (Nat.le_of_ble_eq_true rfl) ?_
  intro p e s m below meth c hx hb hr hlocks hin hml hown hts hsz hP hK hD hE hA ls hl
  have hS : va_S _ s.heap s.heap [] := va_S.rf (A := va_A [(h0, .inr (1, fs))] sz)
  have hl : lv_has ls 3 [(0, .ref h0), (1, .int p0), (2, .int p1)] := hl
  refine lv_aload_n hx hb (show decode prog_15_method_61_code 0 = .ok (.aload_n 0, 1) by decide +kernel) rfl (lv_at hl 0 rfl) ?_
  refine lv_iconst (v := 0) hx hb (show decode prog_15_method_61_code 1 = .ok (.iconst 0, 1) by decide +kernel) (by decide +kernel) ?_
  refine va_put (D := D) (ci := 1) (v := .int 0) (ty := .int) (C := R_MD) (T := F_MD) (N := 107) hx hb hts i_MD t_MD t_MD_ok n_MD hown hK hP hD hS 0 rfl rfl 0 (by decide +kernel) (hts _ w_1562) (fun _ h9 => h9) rfl (by decide +kernel) rfl rfl (by simp [hfl]) (show decode prog_15_method_61_code 2 = .ok (.putfield 206, 3) by decide +kernel) (fun H locs hP hD hS => ?_)
  have hP : va_P D cl [(h0, .inr (1, (fs.set 0 (.int 0))))] H := hP
  have hD : va_D _ [(h0, .inr (1, (fs.set 0 (.int 0))))] := hD
  refine lv_iload_n hx hb (show decode prog_15_method_61_code 5 = .ok (.iload_n 1, 1) by decide +kernel) rfl (lv_at hl 1 rfl) ?_
  refine lv_if_lt (tgt := 17) hx hb (show decode prog_15_method_61_code 6 = .ok (.ifCond .lt 11, 3) by decide +kernel) (by decide +kernel) (fun c_1 => ?_) (fun c_1 => ?_)
  · skip
    refine lv_iconst (v := (-1)) hx hb (show decode prog_15_method_61_code 17 = .ok (.iconst (-1), 1) by decide +kernel) (by decide +kernel) ?_
    exact W.iret (v := (-1)) hx hb hr (fun t ht hW => ⟨⟨(-1), (), rfl, rfl, by rw [ht]; exact hP, va_K.moved hW.alike hK, hD⟩, hS.F ht⟩) hS.2.2 (show decode prog_15_method_61_code 18 = .ok (.ireturn, 1) by decide +kernel)
  · skip
    refine lv_iload_n hx hb (show decode prog_15_method_61_code 9 = .ok (.iload_n 1, 1) by decide +kernel) rfl (lv_at hl 1 rfl) ?_
    refine lv_aload_n hx hb (show decode prog_15_method_61_code 10 = .ok (.aload_n 0, 1) by decide +kernel) rfl (lv_at hl 0 rfl) ?_
    refine va_get (D := D) (ci := 1) (v := .int 0) (C := R_MD) (T := F_MD) (N := 107) hx hb hts i_MD hown hK hP 0 rfl rfl 43 (by decide +kernel) (hts _ w_1605) (fun _ h9 => h9) (xg_ne (by decide +kernel) hf43) (show decode prog_15_method_61_code 11 = .ok (.getfield 501, 3) by decide +kernel) ?_
    refine lv_icmp_lt (tgt := 19) hx hb (show decode prog_15_method_61_code 14 = .ok (.if_icmp .lt 5, 3) by decide +kernel) (by decide +kernel) (fun c_2 => absurd c_2 c_1) (fun c_2 => ?_)
    refine lv_iconst (v := (-1)) hx hb (show decode prog_15_method_61_code 17 = .ok (.iconst (-1), 1) by decide +kernel) (by decide +kernel) ?_
    exact W.iret (v := (-1)) hx hb hr (fun t ht hW => ⟨⟨(-1), (), rfl, rfl, by rw [ht]; exact hP, va_K.moved hW.alike hK, hD⟩, hS.F ht⟩) hS.2.2 (show decode prog_15_method_61_code 18 = .ok (.ireturn, 1) by decide +kernel)
set_option maxHeartbeats 4000000 in
set_option maxRecDepth 100000 in
/-- SignalEngineModel.letter -/
theorem c_MD_letter0 (l : Launch) (D : va_G) (ad : Nat → Nat) (de sz : Nat) (h0 : Nat) (fs : List Value) (hfl : fs.length = 107) (hf41 : xfa fs 41 (.int 0)) (hf44 : xfa fs 44 (.int 0))  (p0 : Int32) (p1 : Int32) : Met l ⟨"SignalEngineModel", "letter", "(II)I"⟩ (tw ⟨"SignalEngineModel", "letter", "(II)I"⟩ prog_15_method_62_code 3 (some (.int))) { frames := 0, cells := 0, slots := 0, locals := 0 } (va_Pc [.ref h0, .int p0, .int p1] (xp ad de D [(h0, .inr (1, fs))] [] sz)) (va_Qi (fun (r : Int32) (_ : Unit) => r = (-1)) (fun (_ : Unit) t => xq D (va_A [(h0, .inr (1, fs))] sz) [(h0, .inr (1, (fs.set 0 (.int 0))))] [] t) (va_A [(h0, .inr (1, fs))] sz)) 0 0 (va_A [(h0, .inr (1, fs))] sz) := by
  refine xMet (by decide +kernel) (Nat.le_of_ble_eq_true rfl) ?_
  intro p e s m below meth c hx hb hr hlocks hin hml hown hts hsz hP hK hD hE hA ls hl
  have hS : va_S _ s.heap s.heap [] := va_S.rf (A := va_A [(h0, .inr (1, fs))] sz)
  have hl : lv_has ls 3 [(0, .ref h0), (1, .int p0), (2, .int p1)] := hl
  refine lv_aload_n hx hb (show decode prog_15_method_62_code 0 = .ok (.aload_n 0, 1) by decide +kernel) rfl (lv_at hl 0 rfl) ?_
  refine lv_iconst (v := 0) hx hb (show decode prog_15_method_62_code 1 = .ok (.iconst 0, 1) by decide +kernel) (by decide +kernel) ?_
  refine va_put (D := D) (ci := 1) (v := .int 0) (ty := .int) (C := R_MD) (T := F_MD) (N := 107) hx hb hts i_MD t_MD t_MD_ok n_MD hown hK hP hD hS 0 rfl rfl 0 (by decide +kernel) (hts _ w_1562) (fun _ h9 => h9) rfl (by decide +kernel) rfl rfl (by simp [hfl]) (show decode prog_15_method_62_code 2 = .ok (.putfield 206, 3) by decide +kernel) (fun H locs hP hD hS => ?_)
  have hP : va_P D cl [(h0, .inr (1, (fs.set 0 (.int 0))))] H := hP
  have hD : va_D _ [(h0, .inr (1, (fs.set 0 (.int 0))))] := hD
  refine lv_iload_n hx hb (show decode prog_15_method_62_code 5 = .ok (.iload_n 1, 1) by decide +kernel) rfl (lv_at hl 1 rfl) ?_
  refine lv_if_lt (tgt := 31) hx hb (show decode prog_15_method_62_code 6 = .ok (.ifCond .lt 25, 3) by decide +kernel) (by decide +kernel) (fun c_1 => ?_) (fun c_1 => ?_)
  · skip
    refine lv_iconst (v := (-1)) hx hb (show decode prog_15_method_62_code 31 = .ok (.iconst (-1), 1) by decide +kernel) (by decide +kernel) ?_
    refine lv_goto (tgt := 46) hx hb (show decode prog_15_method_62_code 32 = .ok (.goto 14, 3) by decide +kernel) (by decide +kernel) ?_
    exact W.iret (v := (-1)) hx hb hr (fun t ht hW => ⟨⟨(-1), (), rfl, rfl, by rw [ht]; exact hP, va_K.moved hW.alike hK, hD⟩, hS.F ht⟩) hS.2.2 (show decode prog_15_method_62_code 46 = .ok (.ireturn, 1) by decide +kernel)
  · skip
    refine lv_iload_n hx hb (show decode prog_15_method_62_code 9 = .ok (.iload_n 1, 1) by decide +kernel) rfl (lv_at hl 1 rfl) ?_
    refine lv_aload_n hx hb (show decode prog_15_method_62_code 10 = .ok (.aload_n 0, 1) by decide +kernel) rfl (lv_at hl 0 rfl) ?_
    refine va_get (D := D) (ci := 1) (v := .int 0) (C := R_MD) (T := F_MD) (N := 107) hx hb hts i_MD hown hK hP 0 rfl rfl 44 (by decide +kernel) (hts _ w_1606) (fun _ h9 => h9) (xg_ne (by decide +kernel) hf44) (show decode prog_15_method_62_code 11 = .ok (.getfield 536, 3) by decide +kernel) ?_
    refine lv_icmp_ge (tgt := 31) hx hb (show decode prog_15_method_62_code 14 = .ok (.if_icmp .ge 17, 3) by decide +kernel) (by decide +kernel) (fun c_2 => ?_) (fun c_2 => absurd (Int32.not_lt.mp c_1) c_2)
    refine lv_iconst (v := (-1)) hx hb (show decode prog_15_method_62_code 31 = .ok (.iconst (-1), 1) by decide +kernel) (by decide +kernel) ?_
    refine lv_goto (tgt := 46) hx hb (show decode prog_15_method_62_code 32 = .ok (.goto 14, 3) by decide +kernel) (by decide +kernel) ?_
    exact W.iret (v := (-1)) hx hb hr (fun t ht hW => ⟨⟨(-1), (), rfl, rfl, by rw [ht]; exact hP, va_K.moved hW.alike hK, hD⟩, hS.F ht⟩) hS.2.2 (show decode prog_15_method_62_code 46 = .ok (.ireturn, 1) by decide +kernel)
set_option maxHeartbeats 4000000 in
set_option maxRecDepth 100000 in
/-- SignalEngineModel.status -/
theorem c_MD_status0 (l : Launch) (D : va_G) (ad : Nat → Nat) (de sz : Nat) (h0 : Nat) (fs : List Value) (hfl : fs.length = 107) (hf41 : xfa fs 41 (.int 0)) (hf45 : xfa fs 45 (.int 0)) (hf46 : xfa fs 46 (.int 0))  (p0 : Int32) : Met l ⟨"SignalEngineModel", "status", "(I)I"⟩ (tw ⟨"SignalEngineModel", "status", "(I)I"⟩ prog_15_method_82_code 2 (some (.int))) { frames := 0, cells := 0, slots := 0, locals := 0 } (va_Pc [.ref h0, .int p0] (xp ad de D [(h0, .inr (1, fs))] [] sz)) (va_Qi (fun (r : Int32) (_ : Unit) => r = 0) (fun (_ : Unit) t => xq D (va_A [(h0, .inr (1, fs))] sz) [(h0, .inr (1, (fs.set 0 (.int 0))))] [] t) (va_A [(h0, .inr (1, fs))] sz)) 0 0 (va_A [(h0, .inr (1, fs))] sz) := by
  refine xMet (by decide +kernel) (Nat.le_of_ble_eq_true rfl) ?_
  intro p e s m below meth c hx hb hr hlocks hin hml hown hts hsz hP hK hD hE hA ls hl
  have hS : va_S _ s.heap s.heap [] := va_S.rf (A := va_A [(h0, .inr (1, fs))] sz)
  have hl : lv_has ls 2 [(0, .ref h0), (1, .int p0)] := hl
  refine lv_aload_n hx hb (show decode prog_15_method_82_code 0 = .ok (.aload_n 0, 1) by decide +kernel) rfl (lv_at hl 0 rfl) ?_
  refine lv_iconst (v := 0) hx hb (show decode prog_15_method_82_code 1 = .ok (.iconst 0, 1) by decide +kernel) (by decide +kernel) ?_
  refine va_put (D := D) (ci := 1) (v := .int 0) (ty := .int) (C := R_MD) (T := F_MD) (N := 107) hx hb hts i_MD t_MD t_MD_ok n_MD hown hK hP hD hS 0 rfl rfl 0 (by decide +kernel) (hts _ w_1562) (fun _ h9 => h9) rfl (by decide +kernel) rfl rfl (by simp [hfl]) (show decode prog_15_method_82_code 2 = .ok (.putfield 206, 3) by decide +kernel) (fun H locs hP hD hS => ?_)
  have hP : va_P D cl [(h0, .inr (1, (fs.set 0 (.int 0))))] H := hP
  have hD : va_D _ [(h0, .inr (1, (fs.set 0 (.int 0))))] := hD
  refine lv_iload_n hx hb (show decode prog_15_method_82_code 5 = .ok (.iload_n 1, 1) by decide +kernel) rfl (lv_at hl 1 rfl) ?_
  refine lv_if_lt (tgt := 29) hx hb (show decode prog_15_method_82_code 6 = .ok (.ifCond .lt 23, 3) by decide +kernel) (by decide +kernel) (fun c_1 => ?_) (fun c_1 => ?_)
  · skip
    refine lv_iconst (v := 0) hx hb (show decode prog_15_method_82_code 29 = .ok (.iconst 0, 1) by decide +kernel) (by decide +kernel) ?_
    refine lv_goto (tgt := 39) hx hb (show decode prog_15_method_82_code 30 = .ok (.goto 9, 3) by decide +kernel) (by decide +kernel) ?_
    exact W.iret (v := 0) hx hb hr (fun t ht hW => ⟨⟨0, (), rfl, rfl, by rw [ht]; exact hP, va_K.moved hW.alike hK, hD⟩, hS.F ht⟩) hS.2.2 (show decode prog_15_method_82_code 39 = .ok (.ireturn, 1) by decide +kernel)
  · skip
    refine lv_iload_n hx hb (show decode prog_15_method_82_code 9 = .ok (.iload_n 1, 1) by decide +kernel) rfl (lv_at hl 1 rfl) ?_
    refine lv_aload_n hx hb (show decode prog_15_method_82_code 10 = .ok (.aload_n 0, 1) by decide +kernel) rfl (lv_at hl 0 rfl) ?_
    refine va_get (D := D) (ci := 1) (v := .int 0) (C := R_MD) (T := F_MD) (N := 107) hx hb hts i_MD hown hK hP 0 rfl rfl 45 (by decide +kernel) (hts _ w_1607) (fun _ h9 => h9) (xg_ne (by decide +kernel) hf45) (show decode prog_15_method_82_code 11 = .ok (.getfield 533, 3) by decide +kernel) ?_
    refine lv_aload_n hx hb (show decode prog_15_method_82_code 14 = .ok (.aload_n 0, 1) by decide +kernel) rfl (lv_at hl 0 rfl) ?_
    refine va_get (D := D) (ci := 1) (v := .int 0) (C := R_MD) (T := F_MD) (N := 107) hx hb hts i_MD hown hK hP 0 rfl rfl 46 (by decide +kernel) (hts _ w_1608) (fun _ h9 => h9) (xg_ne (by decide +kernel) hf46) (show decode prog_15_method_82_code 15 = .ok (.getfield 530, 3) by decide +kernel) ?_
    refine lv_iadd hx hb (show decode prog_15_method_82_code 18 = .ok (.iadd, 1) by decide +kernel) ?_
    refine xtopi (v := 0) (by decide +kernel) ?_
    refine lv_icmp_ge (tgt := 29) hx hb (show decode prog_15_method_82_code 19 = .ok (.if_icmp .ge 10, 3) by decide +kernel) (by decide +kernel) (fun c_2 => ?_) (fun c_2 => absurd (Int32.not_lt.mp c_1) c_2)
    refine lv_iconst (v := 0) hx hb (show decode prog_15_method_82_code 29 = .ok (.iconst 0, 1) by decide +kernel) (by decide +kernel) ?_
    refine lv_goto (tgt := 39) hx hb (show decode prog_15_method_82_code 30 = .ok (.goto 9, 3) by decide +kernel) (by decide +kernel) ?_
    exact W.iret (v := 0) hx hb hr (fun t ht hW => ⟨⟨0, (), rfl, rfl, by rw [ht]; exact hP, va_K.moved hW.alike hK, hD⟩, hS.F ht⟩) hS.2.2 (show decode prog_15_method_82_code 39 = .ok (.ireturn, 1) by decide +kernel)
set_option maxHeartbeats 4000000 in
set_option maxRecDepth 100000 in
/-- SignalEngineModel.selected -/
theorem c_MD_selected0 (l : Launch) (D : va_G) (ad : Nat → Nat) (de sz : Nat) (h0 : Nat) (fs : List Value) (hfl : fs.length = 107) (hf47 : xfa fs 47 (.int 0))  (p0 : Int32) : Met l ⟨"SignalEngineModel", "selected", "(I)Z"⟩ (tw ⟨"SignalEngineModel", "selected", "(I)Z"⟩ prog_15_method_83_code 2 (some (.boolean))) { frames := 0, cells := 0, slots := 0, locals := 0 } (va_Pc [.ref h0, .int p0] (xp ad de D [(h0, .inr (1, fs))] [] sz)) (va_Qi (fun (r : Int32) (_ : Unit) => r = 0) (fun (_ : Unit) t => xq D (va_A [(h0, .inr (1, fs))] sz) [(h0, .inr (1, (fs.set 0 (.int 0))))] [] t) (va_A [(h0, .inr (1, fs))] sz)) 0 0 (va_A [(h0, .inr (1, fs))] sz) := by
  refine xMet (by decide +kernel) (Nat.le_of_ble_eq_true rfl) ?_
  intro p e s m below meth c hx hb hr hlocks hin hml hown hts hsz hP hK hD hE hA ls hl
  have hS : va_S _ s.heap s.heap [] := va_S.rf (A := va_A [(h0, .inr (1, fs))] sz)
  have hl : lv_has ls 2 [(0, .ref h0), (1, .int p0)] := hl
  refine lv_aload_n hx hb (show decode prog_15_method_83_code 0 = .ok (.aload_n 0, 1) by decide +kernel) rfl (lv_at hl 0 rfl) ?_
  refine lv_iconst (v := 0) hx hb (show decode prog_15_method_83_code 1 = .ok (.iconst 0, 1) by decide +kernel) (by decide +kernel) ?_
  refine va_put (D := D) (ci := 1) (v := .int 0) (ty := .int) (C := R_MD) (T := F_MD) (N := 107) hx hb hts i_MD t_MD t_MD_ok n_MD hown hK hP hD hS 0 rfl rfl 0 (by decide +kernel) (hts _ w_1562) (fun _ h9 => h9) rfl (by decide +kernel) rfl rfl (by simp [hfl]) (show decode prog_15_method_83_code 2 = .ok (.putfield 206, 3) by decide +kernel) (fun H locs hP hD hS => ?_)
  have hP : va_P D cl [(h0, .inr (1, (fs.set 0 (.int 0))))] H := hP
  have hD : va_D _ [(h0, .inr (1, (fs.set 0 (.int 0))))] := hD
  refine lv_iload_n hx hb (show decode prog_15_method_83_code 5 = .ok (.iload_n 1, 1) by decide +kernel) rfl (lv_at hl 1 rfl) ?_
  refine lv_if_lt (tgt := 30) hx hb (show decode prog_15_method_83_code 6 = .ok (.ifCond .lt 24, 3) by decide +kernel) (by decide +kernel) (fun c_1 => ?_) (fun c_1 => ?_)
  · skip
    refine lv_iconst (v := 0) hx hb (show decode prog_15_method_83_code 30 = .ok (.iconst 0, 1) by decide +kernel) (by decide +kernel) ?_
    exact W.zret (v := 0) hx hb hr (by decide +kernel) (fun t ht hW => ⟨⟨0, (), rfl, rfl, by rw [ht]; exact hP, va_K.moved hW.alike hK, hD⟩, hS.F ht⟩) hS.2.2 (show decode prog_15_method_83_code 31 = .ok (.ireturn, 1) by decide +kernel)
  · skip
    refine lv_iload_n hx hb (show decode prog_15_method_83_code 9 = .ok (.iload_n 1, 1) by decide +kernel) rfl (lv_at hl 1 rfl) ?_
    refine lv_aload_n hx hb (show decode prog_15_method_83_code 10 = .ok (.aload_n 0, 1) by decide +kernel) rfl (lv_at hl 0 rfl) ?_
    refine va_get (D := D) (ci := 1) (v := .int 0) (C := R_MD) (T := F_MD) (N := 107) hx hb hts i_MD hown hK hP 0 rfl rfl 47 (by decide +kernel) (hts _ w_1609) (fun _ h9 => h9) (xg_ne (by decide +kernel) hf47) (show decode prog_15_method_83_code 11 = .ok (.getfield 498, 3) by decide +kernel) ?_
    refine lv_icmp_ge (tgt := 30) hx hb (show decode prog_15_method_83_code 14 = .ok (.if_icmp .ge 16, 3) by decide +kernel) (by decide +kernel) (fun c_2 => ?_) (fun c_2 => absurd (Int32.not_lt.mp c_1) c_2)
    refine lv_iconst (v := 0) hx hb (show decode prog_15_method_83_code 30 = .ok (.iconst 0, 1) by decide +kernel) (by decide +kernel) ?_
    exact W.zret (v := 0) hx hb hr (by decide +kernel) (fun t ht hW => ⟨⟨0, (), rfl, rfl, by rw [ht]; exact hP, va_K.moved hW.alike hK, hD⟩, hS.F ht⟩) hS.2.2 (show decode prog_15_method_83_code 31 = .ok (.ireturn, 1) by decide +kernel)
set_option maxHeartbeats 4000000 in
set_option maxRecDepth 100000 in
/-- SignalEngineModel.placeOf -/
theorem c_MD_placeOf0 (l : Launch) (D : va_G) (ad : Nat → Nat) (de sz : Nat) (h0 : Nat) (fs : List Value) (hfl : fs.length = 107) (hf85 : xfa fs 85 (.int 0))  (p0 : Int32) : Met l ⟨"SignalEngineModel", "placeOf", "(I)I"⟩ (tw ⟨"SignalEngineModel", "placeOf", "(I)I"⟩ prog_15_method_85_code 2 (some (.int))) { frames := 0, cells := 0, slots := 0, locals := 0 } (va_Pc [.ref h0, .int p0] (xp ad de D [(h0, .inr (1, fs))] [] sz)) (va_Qi (fun (r : Int32) (_ : Unit) => r = (-1)) (fun (_ : Unit) t => xq D (va_A [(h0, .inr (1, fs))] sz) [(h0, .inr (1, fs))] [] t) (va_A [(h0, .inr (1, fs))] sz)) 0 0 (va_A [(h0, .inr (1, fs))] sz) := by
  refine xMet (by decide +kernel) (Nat.le_of_ble_eq_true rfl) ?_
  intro p e s m below meth c hx hb hr hlocks hin hml hown hts hsz hP hK hD hE hA ls hl
  have hS : va_S _ s.heap s.heap [] := va_S.rf (A := va_A [(h0, .inr (1, fs))] sz)
  have hl : lv_has ls 2 [(0, .ref h0), (1, .int p0)] := hl
  refine lv_aload_n hx hb (show decode prog_15_method_85_code 0 = .ok (.aload_n 0, 1) by decide +kernel) rfl (lv_at hl 0 rfl) ?_
  refine va_get (D := D) (ci := 1) (v := .int 0) (C := R_MD) (T := F_MD) (N := 107) hx hb hts i_MD hown hK hP 0 rfl rfl 85 (by decide +kernel) (hts _ w_1647) (fun _ h9 => h9) hf85 (show decode prog_15_method_85_code 1 = .ok (.getfield 518, 3) by decide +kernel) ?_
  refine lv_if_eq (tgt := 15) hx hb (show decode prog_15_method_85_code 4 = .ok (.ifCond .eq 11, 3) by decide +kernel) (by decide +kernel) (fun c_1 => ?_) (fun c_1 => absurd c_1 (by decide +kernel))
  refine lv_iconst (v := (-1)) hx hb (show decode prog_15_method_85_code 15 = .ok (.iconst (-1), 1) by decide +kernel) (by decide +kernel) ?_
  exact W.iret (v := (-1)) hx hb hr (fun t ht hW => ⟨⟨(-1), (), rfl, rfl, by rw [ht]; exact hP, va_K.moved hW.alike hK, hD⟩, hS.F ht⟩) hS.2.2 (show decode prog_15_method_85_code 16 = .ok (.ireturn, 1) by decide +kernel)
set_option maxHeartbeats 4000000 in
set_option maxRecDepth 100000 in
/-- SignalEngineModel.distance -/
theorem c_MD_distance0 (l : Launch) (D : va_G) (ad : Nat → Nat) (de sz : Nat) (h0 : Nat) (fs : List Value) (hfl : fs.length = 107) (hf85 : xfa fs 85 (.int 0))  (p0 : Int32) : Met l ⟨"SignalEngineModel", "distance", "(I)I"⟩ (tw ⟨"SignalEngineModel", "distance", "(I)I"⟩ prog_15_method_92_code 3 (some (.int))) { frames := 1, cells := 0, slots := 0, locals := 21 } (va_Pc [.ref h0, .int p0] (xp ad de D [(h0, .inr (1, fs))] [] sz)) (va_Qi (fun (r : Int32) (_ : Unit) => r = (-1)) (fun (_ : Unit) t => xq D (va_A [(h0, .inr (1, fs))] sz) [(h0, .inr (1, (fs.set 0 (.int 0))))] [] t) (va_A [(h0, .inr (1, fs))] sz)) 0 0 (va_A [(h0, .inr (1, fs))] sz) := by
  refine xMet (by decide +kernel) (Nat.le_of_ble_eq_true rfl) ?_
  intro p e s m below meth c hx hb hr hlocks hin hml hown hts hsz hP hK hD hE hA ls hl
  have hS : va_S _ s.heap s.heap [] := va_S.rf (A := va_A [(h0, .inr (1, fs))] sz)
  have hl : lv_has ls 3 [(0, .ref h0), (1, .int p0)] := hl
  refine lv_aload_n hx hb (show decode prog_15_method_92_code 0 = .ok (.aload_n 0, 1) by decide +kernel) rfl (lv_at hl 0 rfl) ?_
  refine lv_iconst (v := 0) hx hb (show decode prog_15_method_92_code 1 = .ok (.iconst 0, 1) by decide +kernel) (by decide +kernel) ?_
  refine va_put (D := D) (ci := 1) (v := .int 0) (ty := .int) (C := R_MD) (T := F_MD) (N := 107) hx hb hts i_MD t_MD t_MD_ok n_MD hown hK hP hD hS 0 rfl rfl 0 (by decide +kernel) (hts _ w_1562) (fun _ h9 => h9) rfl (by decide +kernel) rfl rfl (by simp [hfl]) (show decode prog_15_method_92_code 2 = .ok (.putfield 206, 3) by decide +kernel) (fun H locs hP hD hS => ?_)
  have hP : va_P D cl [(h0, .inr (1, (fs.set 0 (.int 0))))] H := hP
  have hD : va_D _ [(h0, .inr (1, (fs.set 0 (.int 0))))] := hD
  refine lv_aload_n hx hb (show decode prog_15_method_92_code 5 = .ok (.aload_n 0, 1) by decide +kernel) rfl (lv_at hl 0 rfl) ?_
  refine lv_iload_n hx hb (show decode prog_15_method_92_code 6 = .ok (.iload_n 1, 1) by decide +kernel) rfl (lv_at hl 1 rfl) ?_
  refine xki (wr := []) (xrV (As := [.int p0]) (rest := []) ⟨hx, hb, hml, hown, hts⟩ (c_MD_placeOf0 l D ad de H.size h0 (fs.set 0 (.int 0)) (by simp [hfl]) (xg_ne (by decide +kernel) hf85) p0) w_2271 w_2 w_2268 w_2270 wp_149 rfl rfl ⟨by decide +kernel, by decide +kernel, rfl⟩ ⟨by decide +kernel, by decide +kernel⟩ hP hK hD hE hS hA [0] [] rfl (by decide +kernel) rfl ⟨0, 1, _, _, rfl, rfl, rfl⟩ hl.1 rfl (Nat.le_of_ble_eq_true rfl) (show decode prog_15_method_92_code 7 = .ok (.invokevirtual 648, 3) by decide +kernel) ⟨by decide +kernel, by decide +kernel⟩) hP hK hD hS hA [0] [] rfl rfl (by decide +kernel) (by decide +kernel) (fun r_1 u_2 H locs hw_3 hP hK hD hS => ?_)
  obtain rfl : r_1 = (-1) := hw_3
  have hP : va_P D cl [(h0, .inr (1, (fs.set 0 (.int 0))))] H := hP
  have hD : va_D _ [(h0, .inr (1, (fs.set 0 (.int 0))))] := hD
  refine W.widen (k := 0) (n := 0) (by decide +kernel) (by decide +kernel) ?_
  refine lv_istore_n (lv' := [(2, .int (-1)), (0, .ref h0), (1, .int p0)]) hx hb (show decode prog_15_method_92_code 10 = .ok (.istore_n 2, 1) by decide +kernel) rfl hl (by decide +kernel) rfl (fun ls hl => ?_)
  refine lv_iload_n hx hb (show decode prog_15_method_92_code 11 = .ok (.iload_n 2, 1) by decide +kernel) rfl (lv_at hl 0 rfl) ?_
  refine lv_iconst (v := (-1)) hx hb (show decode prog_15_method_92_code 12 = .ok (.iconst (-1), 1) by decide +kernel) (by decide +kernel) ?_
  refine lv_icmp_ne (tgt := 20) hx hb (show decode prog_15_method_92_code 13 = .ok (.if_icmp .ne 7, 3) by decide +kernel) (by decide +kernel) (fun c_4 => absurd c_4 (by decide +kernel)) (fun c_4 => ?_)
  refine lv_iconst (v := (-1)) hx hb (show decode prog_15_method_92_code 16 = .ok (.iconst (-1), 1) by decide +kernel) (by decide +kernel) ?_
  refine lv_goto (tgt := 26) hx hb (show decode prog_15_method_92_code 17 = .ok (.goto 9, 3) by decide +kernel) (by decide +kernel) ?_
  exact W.iret (v := (-1)) hx hb hr (fun t ht hW => ⟨⟨(-1), (), rfl, rfl, by rw [ht]; exact hP, va_K.moved hW.alike hK, hD⟩, hS.F ht⟩) hS.2.2 (show decode prog_15_method_92_code 26 = .ok (.ireturn, 1) by decide +kernel)
set_option maxHeartbeats 4000000 in
set_option maxRecDepth 100000 in
/-- SignalEngineModel.path -/
theorem c_MD_path0 (l : Launch) (D : va_G) (ad : Nat → Nat) (de sz : Nat) (h0 : Nat) (fs : List Value) (hfl : fs.length = 107) (hf85 : xfa fs 85 (.int 0))  (p0 : Int32) (p1 : Int32) : Met l ⟨"SignalEngineModel", "path", "(II)I"⟩ (tw ⟨"SignalEngineModel", "path", "(II)I"⟩ prog_15_method_93_code 4 (some (.int))) { frames := 1, cells := 0, slots := 0, locals := 21 } (va_Pc [.ref h0, .int p0, .int p1] (xp ad de D [(h0, .inr (1, fs))] [] sz)) (va_Qi (fun (r : Int32) (_ : Unit) => r = (-1)) (fun (_ : Unit) t => xq D (va_A [(h0, .inr (1, fs))] sz) [(h0, .inr (1, (fs.set 0 (.int 0))))] [] t) (va_A [(h0, .inr (1, fs))] sz)) 0 0 (va_A [(h0, .inr (1, fs))] sz) := by
  refine xMet (by decide +kernel) (Nat.le_of_ble_eq_true rfl) ?_
  intro p e s m below meth c hx hb hr hlocks hin hml hown hts hsz hP hK hD hE hA ls hl
  have hS : va_S _ s.heap s.heap [] := va_S.rf (A := va_A [(h0, .inr (1, fs))] sz)
  have hl : lv_has ls 4 [(0, .ref h0), (1, .int p0), (2, .int p1)] := hl
  refine lv_aload_n hx hb (show decode prog_15_method_93_code 0 = .ok (.aload_n 0, 1) by decide +kernel) rfl (lv_at hl 0 rfl) ?_
  refine lv_iconst (v := 0) hx hb (show decode prog_15_method_93_code 1 = .ok (.iconst 0, 1) by decide +kernel) (by decide +kernel) ?_
  refine va_put (D := D) (ci := 1) (v := .int 0) (ty := .int) (C := R_MD) (T := F_MD) (N := 107) hx hb hts i_MD t_MD t_MD_ok n_MD hown hK hP hD hS 0 rfl rfl 0 (by decide +kernel) (hts _ w_1562) (fun _ h9 => h9) rfl (by decide +kernel) rfl rfl (by simp [hfl]) (show decode prog_15_method_93_code 2 = .ok (.putfield 206, 3) by decide +kernel) (fun H locs hP hD hS => ?_)
  have hP : va_P D cl [(h0, .inr (1, (fs.set 0 (.int 0))))] H := hP
  have hD : va_D _ [(h0, .inr (1, (fs.set 0 (.int 0))))] := hD
  refine lv_aload_n hx hb (show decode prog_15_method_93_code 5 = .ok (.aload_n 0, 1) by decide +kernel) rfl (lv_at hl 0 rfl) ?_
  refine lv_iload_n hx hb (show decode prog_15_method_93_code 6 = .ok (.iload_n 1, 1) by decide +kernel) rfl (lv_at hl 1 rfl) ?_
  refine xki (wr := []) (xrV (As := [.int p0]) (rest := []) ⟨hx, hb, hml, hown, hts⟩ (c_MD_placeOf0 l D ad de H.size h0 (fs.set 0 (.int 0)) (by simp [hfl]) (xg_ne (by decide +kernel) hf85) p0) w_2271 w_2 w_2268 w_2270 wp_149 rfl rfl ⟨by decide +kernel, by decide +kernel, rfl⟩ ⟨by decide +kernel, by decide +kernel⟩ hP hK hD hE hS hA [0] [] rfl (by decide +kernel) rfl ⟨0, 1, _, _, rfl, rfl, rfl⟩ hl.1 rfl (Nat.le_of_ble_eq_true rfl) (show decode prog_15_method_93_code 7 = .ok (.invokevirtual 648, 3) by decide +kernel) ⟨by decide +kernel, by decide +kernel⟩) hP hK hD hS hA [0] [] rfl rfl (by decide +kernel) (by decide +kernel) (fun r_1 u_2 H locs hw_3 hP hK hD hS => ?_)
  obtain rfl : r_1 = (-1) := hw_3
  have hP : va_P D cl [(h0, .inr (1, (fs.set 0 (.int 0))))] H := hP
  have hD : va_D _ [(h0, .inr (1, (fs.set 0 (.int 0))))] := hD
  refine W.widen (k := 0) (n := 0) (by decide +kernel) (by decide +kernel) ?_
  refine lv_istore_n (lv' := [(3, .int (-1)), (0, .ref h0), (1, .int p0), (2, .int p1)]) hx hb (show decode prog_15_method_93_code 10 = .ok (.istore_n 3, 1) by decide +kernel) rfl hl (by decide +kernel) rfl (fun ls hl => ?_)
  refine lv_iload_n hx hb (show decode prog_15_method_93_code 11 = .ok (.iload_n 3, 1) by decide +kernel) rfl (lv_at hl 0 rfl) ?_
  refine lv_iconst (v := (-1)) hx hb (show decode prog_15_method_93_code 12 = .ok (.iconst (-1), 1) by decide +kernel) (by decide +kernel) ?_
  refine lv_icmp_eq (tgt := 30) hx hb (show decode prog_15_method_93_code 13 = .ok (.if_icmp .eq 17, 3) by decide +kernel) (by decide +kernel) (fun c_4 => ?_) (fun c_4 => absurd c_4 (by decide +kernel))
  refine lv_iconst (v := (-1)) hx hb (show decode prog_15_method_93_code 30 = .ok (.iconst (-1), 1) by decide +kernel) (by decide +kernel) ?_
  exact W.iret (v := (-1)) hx hb hr (fun t ht hW => ⟨⟨(-1), (), rfl, rfl, by rw [ht]; exact hP, va_K.moved hW.alike hK, hD⟩, hS.F ht⟩) hS.2.2 (show decode prog_15_method_93_code 31 = .ok (.ireturn, 1) by decide +kernel)
set_option maxHeartbeats 4000000 in
set_option maxRecDepth 100000 in
/-- SignalEngineModel.doubt -/
theorem c_MD_doubt0 (l : Launch) (D : va_G) (ad : Nat → Nat) (de sz : Nat) (h0 : Nat) (fs : List Value) (hfl : fs.length = 107) (hf87 : xfa fs 87 (.int 0)) (hf85 : xfa fs 85 (.int 0)) (hf45 : xfa fs 45 (.int 0))  (p0 : Int32) : Met l ⟨"SignalEngineModel", "doubt", "(I)I"⟩ (tw ⟨"SignalEngineModel", "doubt", "(I)I"⟩ prog_15_method_97_code 8 (some (.int))) { frames := 0, cells := 0, slots := 0, locals := 0 } (va_Pc [.ref h0, .int p0] (xp ad de D [(h0, .inr (1, fs))] [] sz)) (va_Qi (fun (r : Int32) (_ : Unit) => r = (-1)) (fun (_ : Unit) t => xq D (va_A [(h0, .inr (1, fs))] sz) [(h0, .inr (1, (fs.set 0 (.int 0))))] [] t) (va_A [(h0, .inr (1, fs))] sz)) 0 0 (va_A [(h0, .inr (1, fs))] sz) := by
  refine xMet (by decide +kernel) (Nat.le_of_ble_eq_true rfl) ?_
  intro p e s m below meth c hx hb hr hlocks hin hml hown hts hsz hP hK hD hE hA ls hl
  have hS : va_S _ s.heap s.heap [] := va_S.rf (A := va_A [(h0, .inr (1, fs))] sz)
  have hl : lv_has ls 8 [(0, .ref h0), (1, .int p0)] := hl
  refine lv_aload_n hx hb (show decode prog_15_method_97_code 0 = .ok (.aload_n 0, 1) by decide +kernel) rfl (lv_at hl 0 rfl) ?_
  refine lv_iconst (v := 0) hx hb (show decode prog_15_method_97_code 1 = .ok (.iconst 0, 1) by decide +kernel) (by decide +kernel) ?_
  refine va_put (D := D) (ci := 1) (v := .int 0) (ty := .int) (C := R_MD) (T := F_MD) (N := 107) hx hb hts i_MD t_MD t_MD_ok n_MD hown hK hP hD hS 0 rfl rfl 0 (by decide +kernel) (hts _ w_1562) (fun _ h9 => h9) rfl (by decide +kernel) rfl rfl (by simp [hfl]) (show decode prog_15_method_97_code 2 = .ok (.putfield 206, 3) by decide +kernel) (fun H locs hP hD hS => ?_)
  have hP : va_P D cl [(h0, .inr (1, (fs.set 0 (.int 0))))] H := hP
  have hD : va_D _ [(h0, .inr (1, (fs.set 0 (.int 0))))] := hD
  refine lv_iconst (v := (-1)) hx hb (show decode prog_15_method_97_code 5 = .ok (.iconst (-1), 1) by decide +kernel) (by decide +kernel) ?_
  refine lv_istore_n (lv' := [(2, .int (-1)), (0, .ref h0), (1, .int p0)]) hx hb (show decode prog_15_method_97_code 6 = .ok (.istore_n 2, 1) by decide +kernel) rfl hl (by decide +kernel) rfl (fun ls hl => ?_)
  refine lv_iconst (v := 0) hx hb (show decode prog_15_method_97_code 7 = .ok (.iconst 0, 1) by decide +kernel) (by decide +kernel) ?_
  refine lv_istore_n (lv' := [(3, .int 0), (2, .int (-1)), (0, .ref h0), (1, .int p0)]) hx hb (show decode prog_15_method_97_code 8 = .ok (.istore_n 3, 1) by decide +kernel) rfl hl (by decide +kernel) rfl (fun ls hl => ?_)
  refine lv_iconst (v := 0) hx hb (show decode prog_15_method_97_code 9 = .ok (.iconst 0, 1) by decide +kernel) (by decide +kernel) ?_
  refine lv_istore (lv' := [(4, .int 0), (3, .int 0), (2, .int (-1)), (0, .ref h0), (1, .int p0)]) hx hb (show decode prog_15_method_97_code 10 = .ok (.istore 4, 2) by decide +kernel) hl (by decide +kernel) rfl (fun ls hl => ?_)
  refine lv_iload hx hb (show decode prog_15_method_97_code 12 = .ok (.iload 4, 2) by decide +kernel) (lv_at hl 0 rfl) ?_
  refine lv_aload_n hx hb (show decode prog_15_method_97_code 14 = .ok (.aload_n 0, 1) by decide +kernel) rfl (lv_at hl 3 rfl) ?_
  refine va_get (D := D) (ci := 1) (v := .int 0) (C := R_MD) (T := F_MD) (N := 107) hx hb hts i_MD hown hK hP 0 rfl rfl 87 (by decide +kernel) (hts _ w_1649) (fun _ h9 => h9) (xg_ne (by decide +kernel) hf87) (show decode prog_15_method_97_code 15 = .ok (.getfield 527, 3) by decide +kernel) ?_
  refine lv_icmp_ge (tgt := 148) hx hb (show decode prog_15_method_97_code 18 = .ok (.if_icmp .ge 130, 3) by decide +kernel) (by decide +kernel) (fun c_1 => ?_) (fun c_1 => absurd c_1 (by decide +kernel))
  refine lv_iload_n hx hb (show decode prog_15_method_97_code 148 = .ok (.iload_n 2, 1) by decide +kernel) rfl (lv_at hl 2 rfl) ?_
  refine lv_iconst (v := (-1)) hx hb (show decode prog_15_method_97_code 149 = .ok (.iconst (-1), 1) by decide +kernel) (by decide +kernel) ?_
  refine lv_icmp_ne (tgt := 157) hx hb (show decode prog_15_method_97_code 150 = .ok (.if_icmp .ne 7, 3) by decide +kernel) (by decide +kernel) (fun c_2 => absurd c_2 (by decide +kernel)) (fun c_2 => ?_)
  refine lv_iconst (v := (-1)) hx hb (show decode prog_15_method_97_code 153 = .ok (.iconst (-1), 1) by decide +kernel) (by decide +kernel) ?_
  refine lv_goto (tgt := 194) hx hb (show decode prog_15_method_97_code 154 = .ok (.goto 40, 3) by decide +kernel) (by decide +kernel) ?_
  exact W.iret (v := (-1)) hx hb hr (fun t ht hW => ⟨⟨(-1), (), rfl, rfl, by rw [ht]; exact hP, va_K.moved hW.alike hK, hD⟩, hS.F ht⟩) hS.2.2 (show decode prog_15_method_97_code 194 = .ok (.ireturn, 1) by decide +kernel)
set_option maxHeartbeats 4000000 in
set_option maxRecDepth 100000 in
/-- SignalEngineModel.ever -/
theorem c_MD_ever0 (l : Launch) (D : va_G) (ad : Nat → Nat) (de sz : Nat) (h0 : Nat) (fs : List Value) (hfl : fs.length = 107) (hf85 : xfa fs 85 (.int 0)) (hf46 : xfa fs 46 (.int 0))  (p0 : Int32) : Met l ⟨"SignalEngineModel", "ever", "(I)I"⟩ (tw ⟨"SignalEngineModel", "ever", "(I)I"⟩ prog_15_method_99_code 3 (some (.int))) { frames := 0, cells := 0, slots := 0, locals := 0 } (va_Pc [.ref h0, .int p0] (xp ad de D [(h0, .inr (1, fs))] [] sz)) (va_Qi (fun (r : Int32) (_ : Unit) => r = (-1)) (fun (_ : Unit) t => xq D (va_A [(h0, .inr (1, fs))] sz) [(h0, .inr (1, (fs.set 0 (.int 0))))] [] t) (va_A [(h0, .inr (1, fs))] sz)) 0 0 (va_A [(h0, .inr (1, fs))] sz) := by
  refine xMet (by decide +kernel) (Nat.le_of_ble_eq_true rfl) ?_
  intro p e s m below meth c hx hb hr hlocks hin hml hown hts hsz hP hK hD hE hA ls hl
  have hS : va_S _ s.heap s.heap [] := va_S.rf (A := va_A [(h0, .inr (1, fs))] sz)
  have hl : lv_has ls 3 [(0, .ref h0), (1, .int p0)] := hl
  refine lv_aload_n hx hb (show decode prog_15_method_99_code 0 = .ok (.aload_n 0, 1) by decide +kernel) rfl (lv_at hl 0 rfl) ?_
  refine lv_iconst (v := 0) hx hb (show decode prog_15_method_99_code 1 = .ok (.iconst 0, 1) by decide +kernel) (by decide +kernel) ?_
  refine va_put (D := D) (ci := 1) (v := .int 0) (ty := .int) (C := R_MD) (T := F_MD) (N := 107) hx hb hts i_MD t_MD t_MD_ok n_MD hown hK hP hD hS 0 rfl rfl 0 (by decide +kernel) (hts _ w_1562) (fun _ h9 => h9) rfl (by decide +kernel) rfl rfl (by simp [hfl]) (show decode prog_15_method_99_code 2 = .ok (.putfield 206, 3) by decide +kernel) (fun H locs hP hD hS => ?_)
  have hP : va_P D cl [(h0, .inr (1, (fs.set 0 (.int 0))))] H := hP
  have hD : va_D _ [(h0, .inr (1, (fs.set 0 (.int 0))))] := hD
  refine lv_aload_n hx hb (show decode prog_15_method_99_code 5 = .ok (.aload_n 0, 1) by decide +kernel) rfl (lv_at hl 0 rfl) ?_
  refine va_get (D := D) (ci := 1) (v := .int 0) (C := R_MD) (T := F_MD) (N := 107) hx hb hts i_MD hown hK hP 0 rfl rfl 85 (by decide +kernel) (hts _ w_1647) (fun _ h9 => h9) (xg_ne (by decide +kernel) hf85) (show decode prog_15_method_99_code 6 = .ok (.getfield 518, 3) by decide +kernel) ?_
  refine lv_if_eq (tgt := 32) hx hb (show decode prog_15_method_99_code 9 = .ok (.ifCond .eq 23, 3) by decide +kernel) (by decide +kernel) (fun c_1 => ?_) (fun c_1 => absurd c_1 (by decide +kernel))
  refine lv_iconst (v := (-1)) hx hb (show decode prog_15_method_99_code 32 = .ok (.iconst (-1), 1) by decide +kernel) (by decide +kernel) ?_
  exact W.iret (v := (-1)) hx hb hr (fun t ht hW => ⟨⟨(-1), (), rfl, rfl, by rw [ht]; exact hP, va_K.moved hW.alike hK, hD⟩, hS.F ht⟩) hS.2.2 (show decode prog_15_method_99_code 33 = .ok (.ireturn, 1) by decide +kernel)
set_option maxHeartbeats 4000000 in
set_option maxRecDepth 100000 in
/-- SignalEngineModel.together -/
theorem c_MD_together0 (l : Launch) (D : va_G) (ad : Nat → Nat) (de sz : Nat) (h0 : Nat) (fs : List Value) (hfl : fs.length = 107) (hf85 : xfa fs 85 (.int 0)) (hf46 : xfa fs 46 (.int 0))  (p0 : Int32) (p1 : Int32) : Met l ⟨"SignalEngineModel", "together", "(II)I"⟩ (tw ⟨"SignalEngineModel", "together", "(II)I"⟩ prog_15_method_100_code 4 (some (.int))) { frames := 0, cells := 0, slots := 0, locals := 0 } (va_Pc [.ref h0, .int p0, .int p1] (xp ad de D [(h0, .inr (1, fs))] [] sz)) (va_Qi (fun (r : Int32) (_ : Unit) => r = (-1)) (fun (_ : Unit) t => xq D (va_A [(h0, .inr (1, fs))] sz) [(h0, .inr (1, (fs.set 0 (.int 0))))] [] t) (va_A [(h0, .inr (1, fs))] sz)) 0 0 (va_A [(h0, .inr (1, fs))] sz) := by
  refine xMet (by decide +kernel) (Nat.le_of_ble_eq_true rfl) ?_
  intro p e s m below meth c hx hb hr hlocks hin hml hown hts hsz hP hK hD hE hA ls hl
  have hS : va_S _ s.heap s.heap [] := va_S.rf (A := va_A [(h0, .inr (1, fs))] sz)
  have hl : lv_has ls 4 [(0, .ref h0), (1, .int p0), (2, .int p1)] := hl
  refine lv_aload_n hx hb (show decode prog_15_method_100_code 0 = .ok (.aload_n 0, 1) by decide +kernel) rfl (lv_at hl 0 rfl) ?_
  refine lv_iconst (v := 0) hx hb (show decode prog_15_method_100_code 1 = .ok (.iconst 0, 1) by decide +kernel) (by decide +kernel) ?_
  refine va_put (D := D) (ci := 1) (v := .int 0) (ty := .int) (C := R_MD) (T := F_MD) (N := 107) hx hb hts i_MD t_MD t_MD_ok n_MD hown hK hP hD hS 0 rfl rfl 0 (by decide +kernel) (hts _ w_1562) (fun _ h9 => h9) rfl (by decide +kernel) rfl rfl (by simp [hfl]) (show decode prog_15_method_100_code 2 = .ok (.putfield 206, 3) by decide +kernel) (fun H locs hP hD hS => ?_)
  have hP : va_P D cl [(h0, .inr (1, (fs.set 0 (.int 0))))] H := hP
  have hD : va_D _ [(h0, .inr (1, (fs.set 0 (.int 0))))] := hD
  refine lv_aload_n hx hb (show decode prog_15_method_100_code 5 = .ok (.aload_n 0, 1) by decide +kernel) rfl (lv_at hl 0 rfl) ?_
  refine va_get (D := D) (ci := 1) (v := .int 0) (C := R_MD) (T := F_MD) (N := 107) hx hb hts i_MD hown hK hP 0 rfl rfl 85 (by decide +kernel) (hts _ w_1647) (fun _ h9 => h9) (xg_ne (by decide +kernel) hf85) (show decode prog_15_method_100_code 6 = .ok (.getfield 518, 3) by decide +kernel) ?_
  refine lv_if_eq (tgt := 44) hx hb (show decode prog_15_method_100_code 9 = .ok (.ifCond .eq 35, 3) by decide +kernel) (by decide +kernel) (fun c_1 => ?_) (fun c_1 => absurd c_1 (by decide +kernel))
  refine lv_iconst (v := 1) hx hb (show decode prog_15_method_100_code 44 = .ok (.iconst 1, 1) by decide +kernel) (by decide +kernel) ?_
  refine lv_goto (tgt := 49) hx hb (show decode prog_15_method_100_code 45 = .ok (.goto 4, 3) by decide +kernel) (by decide +kernel) ?_
  refine lv_istore_n (lv' := [(3, .int 1), (0, .ref h0), (1, .int p0), (2, .int p1)]) hx hb (show decode prog_15_method_100_code 49 = .ok (.istore_n 3, 1) by decide +kernel) rfl hl (by decide +kernel) rfl (fun ls hl => ?_)
  refine lv_iload_n hx hb (show decode prog_15_method_100_code 50 = .ok (.iload_n 3, 1) by decide +kernel) rfl (lv_at hl 0 rfl) ?_
  refine lv_if_eq (tgt := 58) hx hb (show decode prog_15_method_100_code 51 = .ok (.ifCond .eq 7, 3) by decide +kernel) (by decide +kernel) (fun c_2 => absurd c_2 (by decide +kernel)) (fun c_2 => ?_)
  refine lv_iconst (v := (-1)) hx hb (show decode prog_15_method_100_code 54 = .ok (.iconst (-1), 1) by decide +kernel) (by decide +kernel) ?_
  refine lv_goto (tgt := 69) hx hb (show decode prog_15_method_100_code 55 = .ok (.goto 14, 3) by decide +kernel) (by decide +kernel) ?_
  exact W.iret (v := (-1)) hx hb hr (fun t ht hW => ⟨⟨(-1), (), rfl, rfl, by rw [ht]; exact hP, va_K.moved hW.alike hK, hD⟩, hS.F ht⟩) hS.2.2 (show decode prog_15_method_100_code 69 = .ok (.ireturn, 1) by decide +kernel)
set_option maxHeartbeats 4000000 in
set_option maxRecDepth 100000 in
/-- SignalEngineModel.alike -/
theorem c_MD_alike0 (l : Launch) (D : va_G) (ad : Nat → Nat) (de sz : Nat) (h0 : Nat) (fs : List Value) (hfl : fs.length = 107) (hf85 : xfa fs 85 (.int 0))  (p0 : Int32) : Met l ⟨"SignalEngineModel", "alike", "(I)I"⟩ (tw ⟨"SignalEngineModel", "alike", "(I)I"⟩ prog_15_method_103_code 3 (some (.int))) { frames := 1, cells := 0, slots := 0, locals := 21 } (va_Pc [.ref h0, .int p0] (xp ad de D [(h0, .inr (1, fs))] [] sz)) (va_Qi (fun (r : Int32) (_ : Unit) => r = (-1)) (fun (_ : Unit) t => xq D (va_A [(h0, .inr (1, fs))] sz) [(h0, .inr (1, (fs.set 0 (.int 0))))] [] t) (va_A [(h0, .inr (1, fs))] sz)) 0 0 (va_A [(h0, .inr (1, fs))] sz) := by
  refine xMet (by decide +kernel) (Nat.le_of_ble_eq_true rfl) ?_
  intro p e s m below meth c hx hb hr hlocks hin hml hown hts hsz hP hK hD hE hA ls hl
  have hS : va_S _ s.heap s.heap [] := va_S.rf (A := va_A [(h0, .inr (1, fs))] sz)
  have hl : lv_has ls 3 [(0, .ref h0), (1, .int p0)] := hl
  refine lv_aload_n hx hb (show decode prog_15_method_103_code 0 = .ok (.aload_n 0, 1) by decide +kernel) rfl (lv_at hl 0 rfl) ?_
  refine lv_iconst (v := 0) hx hb (show decode prog_15_method_103_code 1 = .ok (.iconst 0, 1) by decide +kernel) (by decide +kernel) ?_
  refine va_put (D := D) (ci := 1) (v := .int 0) (ty := .int) (C := R_MD) (T := F_MD) (N := 107) hx hb hts i_MD t_MD t_MD_ok n_MD hown hK hP hD hS 0 rfl rfl 0 (by decide +kernel) (hts _ w_1562) (fun _ h9 => h9) rfl (by decide +kernel) rfl rfl (by simp [hfl]) (show decode prog_15_method_103_code 2 = .ok (.putfield 206, 3) by decide +kernel) (fun H locs hP hD hS => ?_)
  have hP : va_P D cl [(h0, .inr (1, (fs.set 0 (.int 0))))] H := hP
  have hD : va_D _ [(h0, .inr (1, (fs.set 0 (.int 0))))] := hD
  refine lv_aload_n hx hb (show decode prog_15_method_103_code 5 = .ok (.aload_n 0, 1) by decide +kernel) rfl (lv_at hl 0 rfl) ?_
  refine lv_iload_n hx hb (show decode prog_15_method_103_code 6 = .ok (.iload_n 1, 1) by decide +kernel) rfl (lv_at hl 1 rfl) ?_
  refine xki (wr := []) (xrV (As := [.int p0]) (rest := []) ⟨hx, hb, hml, hown, hts⟩ (c_MD_placeOf0 l D ad de H.size h0 (fs.set 0 (.int 0)) (by simp [hfl]) (xg_ne (by decide +kernel) hf85) p0) w_2271 w_2 w_2268 w_2270 wp_149 rfl rfl ⟨by decide +kernel, by decide +kernel, rfl⟩ ⟨by decide +kernel, by decide +kernel⟩ hP hK hD hE hS hA [0] [] rfl (by decide +kernel) rfl ⟨0, 1, _, _, rfl, rfl, rfl⟩ hl.1 rfl (Nat.le_of_ble_eq_true rfl) (show decode prog_15_method_103_code 7 = .ok (.invokevirtual 648, 3) by decide +kernel) ⟨by decide +kernel, by decide +kernel⟩) hP hK hD hS hA [0] [] rfl rfl (by decide +kernel) (by decide +kernel) (fun r_1 u_2 H locs hw_3 hP hK hD hS => ?_)
  obtain rfl : r_1 = (-1) := hw_3
  have hP : va_P D cl [(h0, .inr (1, (fs.set 0 (.int 0))))] H := hP
  have hD : va_D _ [(h0, .inr (1, (fs.set 0 (.int 0))))] := hD
  refine W.widen (k := 0) (n := 0) (by decide +kernel) (by decide +kernel) ?_
  refine lv_istore_n (lv' := [(2, .int (-1)), (0, .ref h0), (1, .int p0)]) hx hb (show decode prog_15_method_103_code 10 = .ok (.istore_n 2, 1) by decide +kernel) rfl hl (by decide +kernel) rfl (fun ls hl => ?_)
  refine lv_iload_n hx hb (show decode prog_15_method_103_code 11 = .ok (.iload_n 2, 1) by decide +kernel) rfl (lv_at hl 0 rfl) ?_
  refine lv_iconst (v := (-1)) hx hb (show decode prog_15_method_103_code 12 = .ok (.iconst (-1), 1) by decide +kernel) (by decide +kernel) ?_
  refine lv_icmp_ne (tgt := 20) hx hb (show decode prog_15_method_103_code 13 = .ok (.if_icmp .ne 7, 3) by decide +kernel) (by decide +kernel) (fun c_4 => absurd c_4 (by decide +kernel)) (fun c_4 => ?_)
  refine lv_iconst (v := (-1)) hx hb (show decode prog_15_method_103_code 16 = .ok (.iconst (-1), 1) by decide +kernel) (by decide +kernel) ?_
  refine lv_goto (tgt := 25) hx hb (show decode prog_15_method_103_code 17 = .ok (.goto 8, 3) by decide +kernel) (by decide +kernel) ?_
  exact W.iret (v := (-1)) hx hb hr (fun t ht hW => ⟨⟨(-1), (), rfl, rfl, by rw [ht]; exact hP, va_K.moved hW.alike hK, hD⟩, hS.F ht⟩) hS.2.2 (show decode prog_15_method_103_code 25 = .ok (.ireturn, 1) by decide +kernel)
set_option maxHeartbeats 4000000 in
set_option maxRecDepth 100000 in
/-- SignalEngineModel.level -/
theorem c_MD_level0 (l : Launch) (D : va_G) (ad : Nat → Nat) (de sz : Nat) (h0 : Nat) (fs : List Value) (hfl : fs.length = 107) (hf106 : xfa fs 106 (.int 0)) (hf86 : xfa fs 86 (.int 0))  (p0 : Int32) : Met l ⟨"SignalEngineModel", "level", "(I)I"⟩ (tw ⟨"SignalEngineModel", "level", "(I)I"⟩ prog_15_method_108_code 4 (some (.int))) { frames := 0, cells := 0, slots := 0, locals := 0 } (va_Pc [.ref h0, .int p0] (xp ad de D [(h0, .inr (1, fs))] [] sz)) (va_Qi (fun (r : Int32) (_ : Unit) => r = 0) (fun (_ : Unit) t => xq D (va_A [(h0, .inr (1, fs))] sz) [(h0, .inr (1, (fs.set 0 (.int 0))))] [] t) (va_A [(h0, .inr (1, fs))] sz)) 0 0 (va_A [(h0, .inr (1, fs))] sz) := by
  refine xMet (by decide +kernel) (Nat.le_of_ble_eq_true rfl) ?_
  intro p e s m below meth c hx hb hr hlocks hin hml hown hts hsz hP hK hD hE hA ls hl
  have hS : va_S _ s.heap s.heap [] := va_S.rf (A := va_A [(h0, .inr (1, fs))] sz)
  have hl : lv_has ls 4 [(0, .ref h0), (1, .int p0)] := hl
  refine lv_aload_n hx hb (show decode prog_15_method_108_code 0 = .ok (.aload_n 0, 1) by decide +kernel) rfl (lv_at hl 0 rfl) ?_
  refine lv_iconst (v := 0) hx hb (show decode prog_15_method_108_code 1 = .ok (.iconst 0, 1) by decide +kernel) (by decide +kernel) ?_
  refine va_put (D := D) (ci := 1) (v := .int 0) (ty := .int) (C := R_MD) (T := F_MD) (N := 107) hx hb hts i_MD t_MD t_MD_ok n_MD hown hK hP hD hS 0 rfl rfl 0 (by decide +kernel) (hts _ w_1562) (fun _ h9 => h9) rfl (by decide +kernel) rfl rfl (by simp [hfl]) (show decode prog_15_method_108_code 2 = .ok (.putfield 206, 3) by decide +kernel) (fun H locs hP hD hS => ?_)
  have hP : va_P D cl [(h0, .inr (1, (fs.set 0 (.int 0))))] H := hP
  have hD : va_D _ [(h0, .inr (1, (fs.set 0 (.int 0))))] := hD
  refine lv_iconst (v := 0) hx hb (show decode prog_15_method_108_code 5 = .ok (.iconst 0, 1) by decide +kernel) (by decide +kernel) ?_
  refine lv_istore_n (lv' := [(2, .int 0), (0, .ref h0), (1, .int p0)]) hx hb (show decode prog_15_method_108_code 6 = .ok (.istore_n 2, 1) by decide +kernel) rfl hl (by decide +kernel) rfl (fun ls hl => ?_)
  refine lv_iconst (v := 0) hx hb (show decode prog_15_method_108_code 7 = .ok (.iconst 0, 1) by decide +kernel) (by decide +kernel) ?_
  refine lv_istore_n (lv' := [(3, .int 0), (2, .int 0), (0, .ref h0), (1, .int p0)]) hx hb (show decode prog_15_method_108_code 8 = .ok (.istore_n 3, 1) by decide +kernel) rfl hl (by decide +kernel) rfl (fun ls hl => ?_)
  refine lv_iload_n hx hb (show decode prog_15_method_108_code 9 = .ok (.iload_n 3, 1) by decide +kernel) rfl (lv_at hl 0 rfl) ?_
  refine lv_aload_n hx hb (show decode prog_15_method_108_code 10 = .ok (.aload_n 0, 1) by decide +kernel) rfl (lv_at hl 2 rfl) ?_
  refine va_get (D := D) (ci := 1) (v := .int 0) (C := R_MD) (T := F_MD) (N := 107) hx hb hts i_MD hown hK hP 0 rfl rfl 106 (by decide +kernel) (hts _ w_1668) (fun _ h9 => h9) (xg_ne (by decide +kernel) hf106) (show decode prog_15_method_108_code 11 = .ok (.getfield 524, 3) by decide +kernel) ?_
  refine lv_icmp_ge (tgt := 48) hx hb (show decode prog_15_method_108_code 14 = .ok (.if_icmp .ge 34, 3) by decide +kernel) (by decide +kernel) (fun c_1 => ?_) (fun c_1 => absurd c_1 (by decide +kernel))
  refine lv_iload_n hx hb (show decode prog_15_method_108_code 48 = .ok (.iload_n 2, 1) by decide +kernel) rfl (lv_at hl 1 rfl) ?_
  exact W.iret (v := 0) hx hb hr (fun t ht hW => ⟨⟨0, (), rfl, rfl, by rw [ht]; exact hP, va_K.moved hW.alike hK, hD⟩, hS.F ht⟩) hS.2.2 (show decode prog_15_method_108_code 49 = .ok (.ireturn, 1) by decide +kernel)
set_option maxHeartbeats 4000000 in
set_option maxRecDepth 100000 in
/-- SignalEngineModel.size -/
theorem c_MD_size0 (l : Launch) (D : va_G) (ad : Nat → Nat) (de sz : Nat) (h0 : Nat) (fs : List Value) (hfl : fs.length = 107) (hf86 : xfa fs 86 (.int 0)) (hf46 : xfa fs 46 (.int 0)) (hf47 : xfa fs 47 (.int 0))  (p0 : Int32) : Met l ⟨"SignalEngineModel", "size", "(I)I"⟩ (tw ⟨"SignalEngineModel", "size", "(I)I"⟩ prog_15_method_109_code 4 (some (.int))) { frames := 0, cells := 0, slots := 0, locals := 0 } (va_Pc [.ref h0, .int p0] (xp ad de D [(h0, .inr (1, fs))] [] sz)) (va_Qi (fun (r : Int32) (_ : Unit) => r = (-1)) (fun (_ : Unit) t => xq D (va_A [(h0, .inr (1, fs))] sz) [(h0, .inr (1, (fs.set 0 (.int 0))))] [] t) (va_A [(h0, .inr (1, fs))] sz)) 0 0 (va_A [(h0, .inr (1, fs))] sz) := by
  refine xMet (by decide +kernel) (Nat.le_of_ble_eq_true rfl) ?_
  intro p e s m below meth c hx hb hr hlocks hin hml hown hts hsz hP hK hD hE hA ls hl
  have hS : va_S _ s.heap s.heap [] := va_S.rf (A := va_A [(h0, .inr (1, fs))] sz)
  have hl : lv_has ls 4 [(0, .ref h0), (1, .int p0)] := hl
  refine lv_aload_n hx hb (show decode prog_15_method_109_code 0 = .ok (.aload_n 0, 1) by decide +kernel) rfl (lv_at hl 0 rfl) ?_
  refine lv_iconst (v := 0) hx hb (show decode prog_15_method_109_code 1 = .ok (.iconst 0, 1) by decide +kernel) (by decide +kernel) ?_
  refine va_put (D := D) (ci := 1) (v := .int 0) (ty := .int) (C := R_MD) (T := F_MD) (N := 107) hx hb hts i_MD t_MD t_MD_ok n_MD hown hK hP hD hS 0 rfl rfl 0 (by decide +kernel) (hts _ w_1562) (fun _ h9 => h9) rfl (by decide +kernel) rfl rfl (by simp [hfl]) (show decode prog_15_method_109_code 2 = .ok (.putfield 206, 3) by decide +kernel) (fun H locs hP hD hS => ?_)
  have hP : va_P D cl [(h0, .inr (1, (fs.set 0 (.int 0))))] H := hP
  have hD : va_D _ [(h0, .inr (1, (fs.set 0 (.int 0))))] := hD
  refine lv_aload_n hx hb (show decode prog_15_method_109_code 5 = .ok (.aload_n 0, 1) by decide +kernel) rfl (lv_at hl 0 rfl) ?_
  refine va_get (D := D) (ci := 1) (v := .int 0) (C := R_MD) (T := F_MD) (N := 107) hx hb hts i_MD hown hK hP 0 rfl rfl 86 (by decide +kernel) (hts _ w_1648) (fun _ h9 => h9) (xg_ne (by decide +kernel) hf86) (show decode prog_15_method_109_code 6 = .ok (.getfield 515, 3) by decide +kernel) ?_
  refine lv_if_eq (tgt := 29) hx hb (show decode prog_15_method_109_code 9 = .ok (.ifCond .eq 20, 3) by decide +kernel) (by decide +kernel) (fun c_1 => ?_) (fun c_1 => absurd c_1 (by decide +kernel))
  refine lv_iconst (v := (-1)) hx hb (show decode prog_15_method_109_code 29 = .ok (.iconst (-1), 1) by decide +kernel) (by decide +kernel) ?_
  exact W.iret (v := (-1)) hx hb hr (fun t ht hW => ⟨⟨(-1), (), rfl, rfl, by rw [ht]; exact hP, va_K.moved hW.alike hK, hD⟩, hS.F ht⟩) hS.2.2 (show decode prog_15_method_109_code 30 = .ok (.ireturn, 1) by decide +kernel)
