set_option maxHeartbeats 4000000 in
set_option maxRecDepth 100000 in
/-- SignalEngine.count -/
theorem c_SE_count0 (l : Launch) (D : va_G) (ad : Nat → Nat) (de sz : Nat) (h0 : Nat) (fs : List Value) (hfl : fs.length = 14) (hf1 : xfa fs 1 (.int 0)) (hf3 : xfa fs 3 (.null))  (p0 : Int32) : Met l ⟨"SignalEngine", "count", "(I)I"⟩ (tw ⟨"SignalEngine", "count", "(I)I"⟩ prog_1_method_30_code 2 (some (.int))) { frames := 0, cells := 0, slots := 0, locals := 0 } (va_Pc [.ref h0, .int p0] (xp ad de D [(h0, .inr (0, fs))] [] sz)) (va_Qi (fun (r : Int32) (_ : Unit) => r = cnt p0) (fun (_ : Unit) t => xq D (va_A [(h0, .inr (0, fs))] sz) [(h0, .inr (0, fs))] [] t) (va_A [(h0, .inr (0, fs))] sz)) 0 0 (va_A [(h0, .inr (0, fs))] sz) := by
  refine xMet (by decide +kernel) (Nat.le_of_ble_eq_true rfl) ?_
  intro p e s m below meth c hx hb hr hlocks hin hml hown hts hsz hP hK hD hE hA ls hl
  have hS : va_S _ s.heap s.heap [] := va_S.rf (A := va_A [(h0, .inr (0, fs))] sz)
  have hl : lv_has ls 2 [(0, .ref h0), (1, .int p0)] := hl
  refine lv_iload_n hx hb (show decode prog_1_method_30_code 0 = .ok (.iload_n 1, 1) by decide +kernel) rfl (lv_at hl 1 rfl) ?_
  refine lv_if_lt (tgt := 10) hx hb (show decode prog_1_method_30_code 1 = .ok (.ifCond .lt 9, 3) by decide +kernel) (by decide +kernel) (fun c_1 => ?_) (fun c_1 => ?_)
  · skip
    refine lv_iconst (v := (-1)) hx hb (show decode prog_1_method_30_code 10 = .ok (.iconst (-1), 1) by decide +kernel) (by decide +kernel) ?_
    exact W.iret (v := (-1)) hx hb hr (fun t ht hW => ⟨⟨(-1), (), rfl, (by simp [cnt, c_1]), by rw [ht]; exact hP, va_K.moved hW.alike hK, hD⟩, hS.F ht⟩) hS.2.2 (show decode prog_1_method_30_code 11 = .ok (.ireturn, 1) by decide +kernel)
  · skip
    refine lv_iload_n hx hb (show decode prog_1_method_30_code 4 = .ok (.iload_n 1, 1) by decide +kernel) rfl (lv_at hl 1 rfl) ?_
    refine lv_bipush (v := 15) hx hb (show decode prog_1_method_30_code 5 = .ok (.bipush 15, 2) by decide +kernel) (by decide +kernel) ?_
    refine lv_icmp_le (tgt := 12) hx hb (show decode prog_1_method_30_code 7 = .ok (.if_icmp .le 5, 3) by decide +kernel) (by decide +kernel) (fun c_2 => ?_) (fun c_2 => ?_)
    · skip
      refine lv_iload_n hx hb (show decode prog_1_method_30_code 12 = .ok (.iload_n 1, 1) by decide +kernel) rfl (lv_at hl 1 rfl) ?_
      refine lv_bipush (v := 9) hx hb (show decode prog_1_method_30_code 13 = .ok (.bipush 9, 2) by decide +kernel) (by decide +kernel) ?_
      refine lv_icmp_ne (tgt := 23) hx hb (show decode prog_1_method_30_code 15 = .ok (.if_icmp .ne 8, 3) by decide +kernel) (by decide +kernel) (fun c_3 => ?_) (fun c_3 => ?_)
      · skip
        refine lv_aload_n hx hb (show decode prog_1_method_30_code 23 = .ok (.aload_n 0, 1) by decide +kernel) rfl (lv_at hl 0 rfl) ?_
        refine va_get (D := D) (ci := 0) (v := .null) (C := R_SE) (T := F_SE) (N := 14) hx hb hts i_SE hown hK hP 0 rfl rfl 3 (by decide +kernel) (hts _ w_45) (fun _ h9 => h9) hf3 (show decode prog_1_method_30_code 24 = .ok (.getfield 52, 3) by decide +kernel) ?_
        refine lv_ifnonnullN hx hb (show decode prog_1_method_30_code 27 = .ok (.ifnonnull 5, 3) by decide +kernel) ?_
        refine lv_iconst (v := 0) hx hb (show decode prog_1_method_30_code 30 = .ok (.iconst 0, 1) by decide +kernel) (by decide +kernel) ?_
        exact W.iret (v := 0) hx hb hr (fun t ht hW => ⟨⟨0, (), rfl, (by simp [cnt, c_1, c_2, c_3]), by rw [ht]; exact hP, va_K.moved hW.alike hK, hD⟩, hS.F ht⟩) hS.2.2 (show decode prog_1_method_30_code 31 = .ok (.ireturn, 1) by decide +kernel)
      · skip
        refine lv_aload_n hx hb (show decode prog_1_method_30_code 18 = .ok (.aload_n 0, 1) by decide +kernel) rfl (lv_at hl 0 rfl) ?_
        refine va_get (D := D) (ci := 0) (v := .int 0) (C := R_SE) (T := F_SE) (N := 14) hx hb hts i_SE hown hK hP 0 rfl rfl 1 (by decide +kernel) (hts _ w_43) (fun _ h9 => h9) hf1 (show decode prog_1_method_30_code 19 = .ok (.getfield 13, 3) by decide +kernel) ?_
        exact W.iret (v := 0) hx hb hr (fun t ht hW => ⟨⟨0, (), rfl, (by simp [cnt, c_1, c_2, c_3]), by rw [ht]; exact hP, va_K.moved hW.alike hK, hD⟩, hS.F ht⟩) hS.2.2 (show decode prog_1_method_30_code 22 = .ok (.ireturn, 1) by decide +kernel)
    · skip
      refine lv_iconst (v := (-1)) hx hb (show decode prog_1_method_30_code 10 = .ok (.iconst (-1), 1) by decide +kernel) (by decide +kernel) ?_
      exact W.iret (v := (-1)) hx hb hr (fun t ht hW => ⟨⟨(-1), (), rfl, (by simp [cnt, c_1, c_2]), by rw [ht]; exact hP, va_K.moved hW.alike hK, hD⟩, hS.F ht⟩) hS.2.2 (show decode prog_1_method_30_code 11 = .ok (.ireturn, 1) by decide +kernel)
set_option maxHeartbeats 4000000 in
set_option maxRecDepth 100000 in
/-- SignalEngineModel.count -/
theorem c_MD_count_0 (l : Launch) (D : va_G) (ad : Nat → Nat) (de sz : Nat) (h0 : Nat) (fs : List Value) (hfl : fs.length = 107) (hf42 : xfa fs 42 (.int 0)) (hf43 : xfa fs 43 (.int 0)) (hf45 : xfa fs 45 (.int 0)) (hf46 : xfa fs 46 (.int 0)) (hf44 : xfa fs 44 (.int 0)) (hf47 : xfa fs 47 (.int 0)) (hf48 : xfa fs 48 (.int 0)) (hf49 : xfa fs 49 (.int 0)) (hf41 : xfa fs 41 (.int 0)) (hf2 : xfa fs 2 (.int 0)) (hf83 : xfa fs 83 (.int 0)) (hf82 : xfa fs 82 (.int 0)) (hf85 : xfa fs 85 (.int 0)) (hf87 : xfa fs 87 (.int 0)) (hf86 : xfa fs 86 (.int 0)) (hf106 : xfa fs 106 (.int 0))   : Met l ⟨"SignalEngineModel", "count", "(I)I"⟩ (tw ⟨"SignalEngineModel", "count", "(I)I"⟩ prog_15_method_110_code 4 (some (.int))) { frames := 0, cells := 0, slots := 0, locals := 0 } (va_Pc [.ref h0, .int 0] (xp ad de D [(h0, .inr (1, fs))] [] sz)) (va_Qi (fun (r : Int32) (_ : Unit) => r = cnt 0) (fun (_ : Unit) t => xq D (va_A [(h0, .inr (1, fs))] sz) [(h0, .inr (1, (fs.set 0 (.int 0))))] [] t) (va_A [(h0, .inr (1, fs))] sz)) 0 0 (va_A [(h0, .inr (1, fs))] sz) := by
  refine xMet (by decide +kernel) (Nat.le_of_ble_eq_true rfl) ?_
  intro p e s m below meth c hx hb hr hlocks hin hml hown hts hsz hP hK hD hE hA ls hl
  have hS : va_S _ s.heap s.heap [] := va_S.rf (A := va_A [(h0, .inr (1, fs))] sz)
  have hl : lv_has ls 4 [(0, .ref h0), (1, .int 0)] := hl
  refine lv_aload_n hx hb (show decode prog_15_method_110_code 0 = .ok (.aload_n 0, 1) by decide +kernel) rfl (lv_at hl 0 rfl) ?_
  refine lv_iconst (v := 0) hx hb (show decode prog_15_method_110_code 1 = .ok (.iconst 0, 1) by decide +kernel) (by decide +kernel) ?_
  refine va_put (D := D) (ci := 1) (v := .int 0) (ty := .int) (C := R_MD) (T := F_MD) (N := 107) hx hb hts i_MD t_MD t_MD_ok n_MD hown hK hP hD hS 0 rfl rfl 0 (by decide +kernel) (hts _ w_1562) (fun _ h9 => h9) rfl (by decide +kernel) rfl rfl (by simp [hfl]) (show decode prog_15_method_110_code 2 = .ok (.putfield 206, 3) by decide +kernel) (fun H locs hP hD hS => ?_)
  have hP : va_P D cl [(h0, .inr (1, (fs.set 0 (.int 0))))] H := hP
  have hD : va_D _ [(h0, .inr (1, (fs.set 0 (.int 0))))] := hD
  refine lv_iconst (v := 0) hx hb (show decode prog_15_method_110_code 5 = .ok (.iconst 0, 1) by decide +kernel) (by decide +kernel) ?_
  refine lv_istore_n (lv' := [(2, .int 0), (0, .ref h0), (1, .int 0)]) hx hb (show decode prog_15_method_110_code 6 = .ok (.istore_n 2, 1) by decide +kernel) rfl hl (by decide +kernel) rfl (fun ls hl => ?_)
  refine lv_iload_n hx hb (show decode prog_15_method_110_code 7 = .ok (.iload_n 1, 1) by decide +kernel) rfl (lv_at hl 2 rfl) ?_
  refine lv_tableIn (off := 80) (tgt := 88) hx hb dsw_prog_15_method_110_code_8 (by decide +kernel) (by decide +kernel) (by decide +kernel) (by decide +kernel) ?_
  refine lv_aload_n hx hb (show decode prog_15_method_110_code 88 = .ok (.aload_n 0, 1) by decide +kernel) rfl (lv_at hl 1 rfl) ?_
  refine va_get (D := D) (ci := 1) (v := .int 0) (C := R_MD) (T := F_MD) (N := 107) hx hb hts i_MD hown hK hP 0 rfl rfl 42 (by decide +kernel) (hts _ w_1604) (fun _ h9 => h9) (xg_ne (by decide +kernel) hf42) (show decode prog_15_method_110_code 89 = .ok (.getfield 539, 3) by decide +kernel) ?_
  exact W.iret (v := 0) hx hb hr (fun t ht hW => ⟨⟨0, (), rfl, (by decide +kernel), by rw [ht]; exact hP, va_K.moved hW.alike hK, hD⟩, hS.F ht⟩) hS.2.2 (show decode prog_15_method_110_code 92 = .ok (.ireturn, 1) by decide +kernel)
set_option maxHeartbeats 4000000 in
set_option maxRecDepth 100000 in
/-- SignalEngineModel.count -/
theorem c_MD_count_1 (l : Launch) (D : va_G) (ad : Nat → Nat) (de sz : Nat) (h0 : Nat) (fs : List Value) (hfl : fs.length = 107) (hf42 : xfa fs 42 (.int 0)) (hf43 : xfa fs 43 (.int 0)) (hf45 : xfa fs 45 (.int 0)) (hf46 : xfa fs 46 (.int 0)) (hf44 : xfa fs 44 (.int 0)) (hf47 : xfa fs 47 (.int 0)) (hf48 : xfa fs 48 (.int 0)) (hf49 : xfa fs 49 (.int 0)) (hf41 : xfa fs 41 (.int 0)) (hf2 : xfa fs 2 (.int 0)) (hf83 : xfa fs 83 (.int 0)) (hf82 : xfa fs 82 (.int 0)) (hf85 : xfa fs 85 (.int 0)) (hf87 : xfa fs 87 (.int 0)) (hf86 : xfa fs 86 (.int 0)) (hf106 : xfa fs 106 (.int 0))   : Met l ⟨"SignalEngineModel", "count", "(I)I"⟩ (tw ⟨"SignalEngineModel", "count", "(I)I"⟩ prog_15_method_110_code 4 (some (.int))) { frames := 0, cells := 0, slots := 0, locals := 0 } (va_Pc [.ref h0, .int 1] (xp ad de D [(h0, .inr (1, fs))] [] sz)) (va_Qi (fun (r : Int32) (_ : Unit) => r = cnt 1) (fun (_ : Unit) t => xq D (va_A [(h0, .inr (1, fs))] sz) [(h0, .inr (1, (fs.set 0 (.int 0))))] [] t) (va_A [(h0, .inr (1, fs))] sz)) 0 0 (va_A [(h0, .inr (1, fs))] sz) := by
  refine xMet (by decide +kernel) (Nat.le_of_ble_eq_true rfl) ?_
  intro p e s m below meth c hx hb hr hlocks hin hml hown hts hsz hP hK hD hE hA ls hl
  have hS : va_S _ s.heap s.heap [] := va_S.rf (A := va_A [(h0, .inr (1, fs))] sz)
  have hl : lv_has ls 4 [(0, .ref h0), (1, .int 1)] := hl
  refine lv_aload_n hx hb (show decode prog_15_method_110_code 0 = .ok (.aload_n 0, 1) by decide +kernel) rfl (lv_at hl 0 rfl) ?_
  refine lv_iconst (v := 0) hx hb (show decode prog_15_method_110_code 1 = .ok (.iconst 0, 1) by decide +kernel) (by decide +kernel) ?_
  refine va_put (D := D) (ci := 1) (v := .int 0) (ty := .int) (C := R_MD) (T := F_MD) (N := 107) hx hb hts i_MD t_MD t_MD_ok n_MD hown hK hP hD hS 0 rfl rfl 0 (by decide +kernel) (hts _ w_1562) (fun _ h9 => h9) rfl (by decide +kernel) rfl rfl (by simp [hfl]) (show decode prog_15_method_110_code 2 = .ok (.putfield 206, 3) by decide +kernel) (fun H locs hP hD hS => ?_)
  have hP : va_P D cl [(h0, .inr (1, (fs.set 0 (.int 0))))] H := hP
  have hD : va_D _ [(h0, .inr (1, (fs.set 0 (.int 0))))] := hD
  refine lv_iconst (v := 0) hx hb (show decode prog_15_method_110_code 5 = .ok (.iconst 0, 1) by decide +kernel) (by decide +kernel) ?_
  refine lv_istore_n (lv' := [(2, .int 0), (0, .ref h0), (1, .int 1)]) hx hb (show decode prog_15_method_110_code 6 = .ok (.istore_n 2, 1) by decide +kernel) rfl hl (by decide +kernel) rfl (fun ls hl => ?_)
  refine lv_iload_n hx hb (show decode prog_15_method_110_code 7 = .ok (.iload_n 1, 1) by decide +kernel) rfl (lv_at hl 2 rfl) ?_
  refine lv_tableIn (off := 85) (tgt := 93) hx hb dsw_prog_15_method_110_code_8 (by decide +kernel) (by decide +kernel) (by decide +kernel) (by decide +kernel) ?_
  refine lv_aload_n hx hb (show decode prog_15_method_110_code 93 = .ok (.aload_n 0, 1) by decide +kernel) rfl (lv_at hl 1 rfl) ?_
  refine va_get (D := D) (ci := 1) (v := .int 0) (C := R_MD) (T := F_MD) (N := 107) hx hb hts i_MD hown hK hP 0 rfl rfl 43 (by decide +kernel) (hts _ w_1605) (fun _ h9 => h9) (xg_ne (by decide +kernel) hf43) (show decode prog_15_method_110_code 94 = .ok (.getfield 501, 3) by decide +kernel) ?_
  exact W.iret (v := 0) hx hb hr (fun t ht hW => ⟨⟨0, (), rfl, (by decide +kernel), by rw [ht]; exact hP, va_K.moved hW.alike hK, hD⟩, hS.F ht⟩) hS.2.2 (show decode prog_15_method_110_code 97 = .ok (.ireturn, 1) by decide +kernel)
set_option maxHeartbeats 4000000 in
set_option maxRecDepth 100000 in
/-- SignalEngineModel.count -/
theorem c_MD_count_2 (l : Launch) (D : va_G) (ad : Nat → Nat) (de sz : Nat) (h0 : Nat) (fs : List Value) (hfl : fs.length = 107) (hf42 : xfa fs 42 (.int 0)) (hf43 : xfa fs 43 (.int 0)) (hf45 : xfa fs 45 (.int 0)) (hf46 : xfa fs 46 (.int 0)) (hf44 : xfa fs 44 (.int 0)) (hf47 : xfa fs 47 (.int 0)) (hf48 : xfa fs 48 (.int 0)) (hf49 : xfa fs 49 (.int 0)) (hf41 : xfa fs 41 (.int 0)) (hf2 : xfa fs 2 (.int 0)) (hf83 : xfa fs 83 (.int 0)) (hf82 : xfa fs 82 (.int 0)) (hf85 : xfa fs 85 (.int 0)) (hf87 : xfa fs 87 (.int 0)) (hf86 : xfa fs 86 (.int 0)) (hf106 : xfa fs 106 (.int 0))   : Met l ⟨"SignalEngineModel", "count", "(I)I"⟩ (tw ⟨"SignalEngineModel", "count", "(I)I"⟩ prog_15_method_110_code 4 (some (.int))) { frames := 0, cells := 0, slots := 0, locals := 0 } (va_Pc [.ref h0, .int 2] (xp ad de D [(h0, .inr (1, fs))] [] sz)) (va_Qi (fun (r : Int32) (_ : Unit) => r = cnt 2) (fun (_ : Unit) t => xq D (va_A [(h0, .inr (1, fs))] sz) [(h0, .inr (1, (fs.set 0 (.int 0))))] [] t) (va_A [(h0, .inr (1, fs))] sz)) 0 0 (va_A [(h0, .inr (1, fs))] sz) := by
  refine xMet (by decide +kernel) (Nat.le_of_ble_eq_true rfl) ?_
  intro p e s m below meth c hx hb hr hlocks hin hml hown hts hsz hP hK hD hE hA ls hl
  have hS : va_S _ s.heap s.heap [] := va_S.rf (A := va_A [(h0, .inr (1, fs))] sz)
  have hl : lv_has ls 4 [(0, .ref h0), (1, .int 2)] := hl
  refine lv_aload_n hx hb (show decode prog_15_method_110_code 0 = .ok (.aload_n 0, 1) by decide +kernel) rfl (lv_at hl 0 rfl) ?_
  refine lv_iconst (v := 0) hx hb (show decode prog_15_method_110_code 1 = .ok (.iconst 0, 1) by decide +kernel) (by decide +kernel) ?_
  refine va_put (D := D) (ci := 1) (v := .int 0) (ty := .int) (C := R_MD) (T := F_MD) (N := 107) hx hb hts i_MD t_MD t_MD_ok n_MD hown hK hP hD hS 0 rfl rfl 0 (by decide +kernel) (hts _ w_1562) (fun _ h9 => h9) rfl (by decide +kernel) rfl rfl (by simp [hfl]) (show decode prog_15_method_110_code 2 = .ok (.putfield 206, 3) by decide +kernel) (fun H locs hP hD hS => ?_)
  have hP : va_P D cl [(h0, .inr (1, (fs.set 0 (.int 0))))] H := hP
  have hD : va_D _ [(h0, .inr (1, (fs.set 0 (.int 0))))] := hD
  refine lv_iconst (v := 0) hx hb (show decode prog_15_method_110_code 5 = .ok (.iconst 0, 1) by decide +kernel) (by decide +kernel) ?_
  refine lv_istore_n (lv' := [(2, .int 0), (0, .ref h0), (1, .int 2)]) hx hb (show decode prog_15_method_110_code 6 = .ok (.istore_n 2, 1) by decide +kernel) rfl hl (by decide +kernel) rfl (fun ls hl => ?_)
  refine lv_iload_n hx hb (show decode prog_15_method_110_code 7 = .ok (.iload_n 1, 1) by decide +kernel) rfl (lv_at hl 2 rfl) ?_
  refine lv_tableIn (off := 90) (tgt := 98) hx hb dsw_prog_15_method_110_code_8 (by decide +kernel) (by decide +kernel) (by decide +kernel) (by decide +kernel) ?_
  refine lv_aload_n hx hb (show decode prog_15_method_110_code 98 = .ok (.aload_n 0, 1) by decide +kernel) rfl (lv_at hl 1 rfl) ?_
  refine va_get (D := D) (ci := 1) (v := .int 0) (C := R_MD) (T := F_MD) (N := 107) hx hb hts i_MD hown hK hP 0 rfl rfl 45 (by decide +kernel) (hts _ w_1607) (fun _ h9 => h9) (xg_ne (by decide +kernel) hf45) (show decode prog_15_method_110_code 99 = .ok (.getfield 533, 3) by decide +kernel) ?_
  exact W.iret (v := 0) hx hb hr (fun t ht hW => ⟨⟨0, (), rfl, (by decide +kernel), by rw [ht]; exact hP, va_K.moved hW.alike hK, hD⟩, hS.F ht⟩) hS.2.2 (show decode prog_15_method_110_code 102 = .ok (.ireturn, 1) by decide +kernel)
set_option maxHeartbeats 4000000 in
set_option maxRecDepth 100000 in
/-- SignalEngineModel.count -/
theorem c_MD_count_3 (l : Launch) (D : va_G) (ad : Nat → Nat) (de sz : Nat) (h0 : Nat) (fs : List Value) (hfl : fs.length = 107) (hf42 : xfa fs 42 (.int 0)) (hf43 : xfa fs 43 (.int 0)) (hf45 : xfa fs 45 (.int 0)) (hf46 : xfa fs 46 (.int 0)) (hf44 : xfa fs 44 (.int 0)) (hf47 : xfa fs 47 (.int 0)) (hf48 : xfa fs 48 (.int 0)) (hf49 : xfa fs 49 (.int 0)) (hf41 : xfa fs 41 (.int 0)) (hf2 : xfa fs 2 (.int 0)) (hf83 : xfa fs 83 (.int 0)) (hf82 : xfa fs 82 (.int 0)) (hf85 : xfa fs 85 (.int 0)) (hf87 : xfa fs 87 (.int 0)) (hf86 : xfa fs 86 (.int 0)) (hf106 : xfa fs 106 (.int 0))   : Met l ⟨"SignalEngineModel", "count", "(I)I"⟩ (tw ⟨"SignalEngineModel", "count", "(I)I"⟩ prog_15_method_110_code 4 (some (.int))) { frames := 0, cells := 0, slots := 0, locals := 0 } (va_Pc [.ref h0, .int 3] (xp ad de D [(h0, .inr (1, fs))] [] sz)) (va_Qi (fun (r : Int32) (_ : Unit) => r = cnt 3) (fun (_ : Unit) t => xq D (va_A [(h0, .inr (1, fs))] sz) [(h0, .inr (1, (fs.set 0 (.int 0))))] [] t) (va_A [(h0, .inr (1, fs))] sz)) 0 0 (va_A [(h0, .inr (1, fs))] sz) := by
  refine xMet (by decide +kernel) (Nat.le_of_ble_eq_true rfl) ?_
  intro p e s m below meth c hx hb hr hlocks hin hml hown hts hsz hP hK hD hE hA ls hl
  have hS : va_S _ s.heap s.heap [] := va_S.rf (A := va_A [(h0, .inr (1, fs))] sz)
  have hl : lv_has ls 4 [(0, .ref h0), (1, .int 3)] := hl
  refine lv_aload_n hx hb (show decode prog_15_method_110_code 0 = .ok (.aload_n 0, 1) by decide +kernel) rfl (lv_at hl 0 rfl) ?_
  refine lv_iconst (v := 0) hx hb (show decode prog_15_method_110_code 1 = .ok (.iconst 0, 1) by decide +kernel) (by decide +kernel) ?_
  refine va_put (D := D) (ci := 1) (v := .int 0) (ty := .int) (C := R_MD) (T := F_MD) (N := 107) hx hb hts i_MD t_MD t_MD_ok n_MD hown hK hP hD hS 0 rfl rfl 0 (by decide +kernel) (hts _ w_1562) (fun _ h9 => h9) rfl (by decide +kernel) rfl rfl (by simp [hfl]) (show decode prog_15_method_110_code 2 = .ok (.putfield 206, 3) by decide +kernel) (fun H locs hP hD hS => ?_)
  have hP : va_P D cl [(h0, .inr (1, (fs.set 0 (.int 0))))] H := hP
  have hD : va_D _ [(h0, .inr (1, (fs.set 0 (.int 0))))] := hD
  refine lv_iconst (v := 0) hx hb (show decode prog_15_method_110_code 5 = .ok (.iconst 0, 1) by decide +kernel) (by decide +kernel) ?_
  refine lv_istore_n (lv' := [(2, .int 0), (0, .ref h0), (1, .int 3)]) hx hb (show decode prog_15_method_110_code 6 = .ok (.istore_n 2, 1) by decide +kernel) rfl hl (by decide +kernel) rfl (fun ls hl => ?_)
  refine lv_iload_n hx hb (show decode prog_15_method_110_code 7 = .ok (.iload_n 1, 1) by decide +kernel) rfl (lv_at hl 2 rfl) ?_
  refine lv_tableIn (off := 95) (tgt := 103) hx hb dsw_prog_15_method_110_code_8 (by decide +kernel) (by decide +kernel) (by decide +kernel) (by decide +kernel) ?_
  refine lv_aload_n hx hb (show decode prog_15_method_110_code 103 = .ok (.aload_n 0, 1) by decide +kernel) rfl (lv_at hl 1 rfl) ?_
  refine va_get (D := D) (ci := 1) (v := .int 0) (C := R_MD) (T := F_MD) (N := 107) hx hb hts i_MD hown hK hP 0 rfl rfl 46 (by decide +kernel) (hts _ w_1608) (fun _ h9 => h9) (xg_ne (by decide +kernel) hf46) (show decode prog_15_method_110_code 104 = .ok (.getfield 530, 3) by decide +kernel) ?_
  exact W.iret (v := 0) hx hb hr (fun t ht hW => ⟨⟨0, (), rfl, (by decide +kernel), by rw [ht]; exact hP, va_K.moved hW.alike hK, hD⟩, hS.F ht⟩) hS.2.2 (show decode prog_15_method_110_code 107 = .ok (.ireturn, 1) by decide +kernel)
set_option maxHeartbeats 4000000 in
set_option maxRecDepth 100000 in
/-- SignalEngineModel.count -/
theorem c_MD_count_4 (l : Launch) (D : va_G) (ad : Nat → Nat) (de sz : Nat) (h0 : Nat) (fs : List Value) (hfl : fs.length = 107) (hf42 : xfa fs 42 (.int 0)) (hf43 : xfa fs 43 (.int 0)) (hf45 : xfa fs 45 (.int 0)) (hf46 : xfa fs 46 (.int 0)) (hf44 : xfa fs 44 (.int 0)) (hf47 : xfa fs 47 (.int 0)) (hf48 : xfa fs 48 (.int 0)) (hf49 : xfa fs 49 (.int 0)) (hf41 : xfa fs 41 (.int 0)) (hf2 : xfa fs 2 (.int 0)) (hf83 : xfa fs 83 (.int 0)) (hf82 : xfa fs 82 (.int 0)) (hf85 : xfa fs 85 (.int 0)) (hf87 : xfa fs 87 (.int 0)) (hf86 : xfa fs 86 (.int 0)) (hf106 : xfa fs 106 (.int 0))   : Met l ⟨"SignalEngineModel", "count", "(I)I"⟩ (tw ⟨"SignalEngineModel", "count", "(I)I"⟩ prog_15_method_110_code 4 (some (.int))) { frames := 0, cells := 0, slots := 0, locals := 0 } (va_Pc [.ref h0, .int 4] (xp ad de D [(h0, .inr (1, fs))] [] sz)) (va_Qi (fun (r : Int32) (_ : Unit) => r = cnt 4) (fun (_ : Unit) t => xq D (va_A [(h0, .inr (1, fs))] sz) [(h0, .inr (1, (fs.set 0 (.int 0))))] [] t) (va_A [(h0, .inr (1, fs))] sz)) 0 0 (va_A [(h0, .inr (1, fs))] sz) := by
  refine xMet (by decide +kernel) (Nat.le_of_ble_eq_true rfl) ?_
  intro p e s m below meth c hx hb hr hlocks hin hml hown hts hsz hP hK hD hE hA ls hl
  have hS : va_S _ s.heap s.heap [] := va_S.rf (A := va_A [(h0, .inr (1, fs))] sz)
  have hl : lv_has ls 4 [(0, .ref h0), (1, .int 4)] := hl
  refine lv_aload_n hx hb (show decode prog_15_method_110_code 0 = .ok (.aload_n 0, 1) by decide +kernel) rfl (lv_at hl 0 rfl) ?_
  refine lv_iconst (v := 0) hx hb (show decode prog_15_method_110_code 1 = .ok (.iconst 0, 1) by decide +kernel) (by decide +kernel) ?_
  refine va_put (D := D) (ci := 1) (v := .int 0) (ty := .int) (C := R_MD) (T := F_MD) (N := 107) hx hb hts i_MD t_MD t_MD_ok n_MD hown hK hP hD hS 0 rfl rfl 0 (by decide +kernel) (hts _ w_1562) (fun _ h9 => h9) rfl (by decide +kernel) rfl rfl (by simp [hfl]) (show decode prog_15_method_110_code 2 = .ok (.putfield 206, 3) by decide +kernel) (fun H locs hP hD hS => ?_)
  have hP : va_P D cl [(h0, .inr (1, (fs.set 0 (.int 0))))] H := hP
  have hD : va_D _ [(h0, .inr (1, (fs.set 0 (.int 0))))] := hD
  refine lv_iconst (v := 0) hx hb (show decode prog_15_method_110_code 5 = .ok (.iconst 0, 1) by decide +kernel) (by decide +kernel) ?_
  refine lv_istore_n (lv' := [(2, .int 0), (0, .ref h0), (1, .int 4)]) hx hb (show decode prog_15_method_110_code 6 = .ok (.istore_n 2, 1) by decide +kernel) rfl hl (by decide +kernel) rfl (fun ls hl => ?_)
  refine lv_iload_n hx hb (show decode prog_15_method_110_code 7 = .ok (.iload_n 1, 1) by decide +kernel) rfl (lv_at hl 2 rfl) ?_
  refine lv_tableIn (off := 100) (tgt := 108) hx hb dsw_prog_15_method_110_code_8 (by decide +kernel) (by decide +kernel) (by decide +kernel) (by decide +kernel) ?_
  refine lv_aload_n hx hb (show decode prog_15_method_110_code 108 = .ok (.aload_n 0, 1) by decide +kernel) rfl (lv_at hl 1 rfl) ?_
  refine va_get (D := D) (ci := 1) (v := .int 0) (C := R_MD) (T := F_MD) (N := 107) hx hb hts i_MD hown hK hP 0 rfl rfl 44 (by decide +kernel) (hts _ w_1606) (fun _ h9 => h9) (xg_ne (by decide +kernel) hf44) (show decode prog_15_method_110_code 109 = .ok (.getfield 536, 3) by decide +kernel) ?_
  refine lv_aload_n hx hb (show decode prog_15_method_110_code 112 = .ok (.aload_n 0, 1) by decide +kernel) rfl (lv_at hl 1 rfl) ?_
  refine va_get (D := D) (ci := 1) (v := .int 0) (C := R_MD) (T := F_MD) (N := 107) hx hb hts i_MD hown hK hP 0 rfl rfl 45 (by decide +kernel) (hts _ w_1607) (fun _ h9 => h9) (xg_ne (by decide +kernel) hf45) (show decode prog_15_method_110_code 113 = .ok (.getfield 533, 3) by decide +kernel) ?_
  refine lv_isub hx hb (show decode prog_15_method_110_code 116 = .ok (.isub, 1) by decide +kernel) ?_
  refine xtopi (v := 0) (by decide +kernel) ?_
  refine lv_aload_n hx hb (show decode prog_15_method_110_code 117 = .ok (.aload_n 0, 1) by decide +kernel) rfl (lv_at hl 1 rfl) ?_
  refine va_get (D := D) (ci := 1) (v := .int 0) (C := R_MD) (T := F_MD) (N := 107) hx hb hts i_MD hown hK hP 0 rfl rfl 46 (by decide +kernel) (hts _ w_1608) (fun _ h9 => h9) (xg_ne (by decide +kernel) hf46) (show decode prog_15_method_110_code 118 = .ok (.getfield 530, 3) by decide +kernel) ?_
  refine lv_isub hx hb (show decode prog_15_method_110_code 121 = .ok (.isub, 1) by decide +kernel) ?_
  refine xtopi (v := 0) (by decide +kernel) ?_
  exact W.iret (v := 0) hx hb hr (fun t ht hW => ⟨⟨0, (), rfl, (by decide +kernel), by rw [ht]; exact hP, va_K.moved hW.alike hK, hD⟩, hS.F ht⟩) hS.2.2 (show decode prog_15_method_110_code 122 = .ok (.ireturn, 1) by decide +kernel)
set_option maxHeartbeats 4000000 in
set_option maxRecDepth 100000 in
/-- SignalEngineModel.count -/
theorem c_MD_count_5 (l : Launch) (D : va_G) (ad : Nat → Nat) (de sz : Nat) (h0 : Nat) (fs : List Value) (hfl : fs.length = 107) (hf42 : xfa fs 42 (.int 0)) (hf43 : xfa fs 43 (.int 0)) (hf45 : xfa fs 45 (.int 0)) (hf46 : xfa fs 46 (.int 0)) (hf44 : xfa fs 44 (.int 0)) (hf47 : xfa fs 47 (.int 0)) (hf48 : xfa fs 48 (.int 0)) (hf49 : xfa fs 49 (.int 0)) (hf41 : xfa fs 41 (.int 0)) (hf2 : xfa fs 2 (.int 0)) (hf83 : xfa fs 83 (.int 0)) (hf82 : xfa fs 82 (.int 0)) (hf85 : xfa fs 85 (.int 0)) (hf87 : xfa fs 87 (.int 0)) (hf86 : xfa fs 86 (.int 0)) (hf106 : xfa fs 106 (.int 0))   : Met l ⟨"SignalEngineModel", "count", "(I)I"⟩ (tw ⟨"SignalEngineModel", "count", "(I)I"⟩ prog_15_method_110_code 4 (some (.int))) { frames := 0, cells := 0, slots := 0, locals := 0 } (va_Pc [.ref h0, .int 5] (xp ad de D [(h0, .inr (1, fs))] [] sz)) (va_Qi (fun (r : Int32) (_ : Unit) => r = cnt 5) (fun (_ : Unit) t => xq D (va_A [(h0, .inr (1, fs))] sz) [(h0, .inr (1, (fs.set 0 (.int 0))))] [] t) (va_A [(h0, .inr (1, fs))] sz)) 0 0 (va_A [(h0, .inr (1, fs))] sz) := by
  refine xMet (by decide +kernel) (Nat.le_of_ble_eq_true rfl) ?_
  intro p e s m below meth c hx hb hr hlocks hin hml hown hts hsz hP hK hD hE hA ls hl
  have hS : va_S _ s.heap s.heap [] := va_S.rf (A := va_A [(h0, .inr (1, fs))] sz)
  have hl : lv_has ls 4 [(0, .ref h0), (1, .int 5)] := hl
  refine lv_aload_n hx hb (show decode prog_15_method_110_code 0 = .ok (.aload_n 0, 1) by decide +kernel) rfl (lv_at hl 0 rfl) ?_
  refine lv_iconst (v := 0) hx hb (show decode prog_15_method_110_code 1 = .ok (.iconst 0, 1) by decide +kernel) (by decide +kernel) ?_
  refine va_put (D := D) (ci := 1) (v := .int 0) (ty := .int) (C := R_MD) (T := F_MD) (N := 107) hx hb hts i_MD t_MD t_MD_ok n_MD hown hK hP hD hS 0 rfl rfl 0 (by decide +kernel) (hts _ w_1562) (fun _ h9 => h9) rfl (by decide +kernel) rfl rfl (by simp [hfl]) (show decode prog_15_method_110_code 2 = .ok (.putfield 206, 3) by decide +kernel) (fun H locs hP hD hS => ?_)
  have hP : va_P D cl [(h0, .inr (1, (fs.set 0 (.int 0))))] H := hP
  have hD : va_D _ [(h0, .inr (1, (fs.set 0 (.int 0))))] := hD
  refine lv_iconst (v := 0) hx hb (show decode prog_15_method_110_code 5 = .ok (.iconst 0, 1) by decide +kernel) (by decide +kernel) ?_
  refine lv_istore_n (lv' := [(2, .int 0), (0, .ref h0), (1, .int 5)]) hx hb (show decode prog_15_method_110_code 6 = .ok (.istore_n 2, 1) by decide +kernel) rfl hl (by decide +kernel) rfl (fun ls hl => ?_)
  refine lv_iload_n hx hb (show decode prog_15_method_110_code 7 = .ok (.iload_n 1, 1) by decide +kernel) rfl (lv_at hl 2 rfl) ?_
  refine lv_tableIn (off := 115) (tgt := 123) hx hb dsw_prog_15_method_110_code_8 (by decide +kernel) (by decide +kernel) (by decide +kernel) (by decide +kernel) ?_
  refine lv_aload_n hx hb (show decode prog_15_method_110_code 123 = .ok (.aload_n 0, 1) by decide +kernel) rfl (lv_at hl 1 rfl) ?_
  refine va_get (D := D) (ci := 1) (v := .int 0) (C := R_MD) (T := F_MD) (N := 107) hx hb hts i_MD hown hK hP 0 rfl rfl 47 (by decide +kernel) (hts _ w_1609) (fun _ h9 => h9) (xg_ne (by decide +kernel) hf47) (show decode prog_15_method_110_code 124 = .ok (.getfield 498, 3) by decide +kernel) ?_
  exact W.iret (v := 0) hx hb hr (fun t ht hW => ⟨⟨0, (), rfl, (by decide +kernel), by rw [ht]; exact hP, va_K.moved hW.alike hK, hD⟩, hS.F ht⟩) hS.2.2 (show decode prog_15_method_110_code 127 = .ok (.ireturn, 1) by decide +kernel)
set_option maxHeartbeats 4000000 in
set_option maxRecDepth 100000 in
/-- SignalEngineModel.count -/
theorem c_MD_count_6 (l : Launch) (D : va_G) (ad : Nat → Nat) (de sz : Nat) (h0 : Nat) (fs : List Value) (hfl : fs.length = 107) (hf42 : xfa fs 42 (.int 0)) (hf43 : xfa fs 43 (.int 0)) (hf45 : xfa fs 45 (.int 0)) (hf46 : xfa fs 46 (.int 0)) (hf44 : xfa fs 44 (.int 0)) (hf47 : xfa fs 47 (.int 0)) (hf48 : xfa fs 48 (.int 0)) (hf49 : xfa fs 49 (.int 0)) (hf41 : xfa fs 41 (.int 0)) (hf2 : xfa fs 2 (.int 0)) (hf83 : xfa fs 83 (.int 0)) (hf82 : xfa fs 82 (.int 0)) (hf85 : xfa fs 85 (.int 0)) (hf87 : xfa fs 87 (.int 0)) (hf86 : xfa fs 86 (.int 0)) (hf106 : xfa fs 106 (.int 0))   : Met l ⟨"SignalEngineModel", "count", "(I)I"⟩ (tw ⟨"SignalEngineModel", "count", "(I)I"⟩ prog_15_method_110_code 4 (some (.int))) { frames := 0, cells := 0, slots := 0, locals := 0 } (va_Pc [.ref h0, .int 6] (xp ad de D [(h0, .inr (1, fs))] [] sz)) (va_Qi (fun (r : Int32) (_ : Unit) => r = cnt 6) (fun (_ : Unit) t => xq D (va_A [(h0, .inr (1, fs))] sz) [(h0, .inr (1, (fs.set 0 (.int 0))))] [] t) (va_A [(h0, .inr (1, fs))] sz)) 0 0 (va_A [(h0, .inr (1, fs))] sz) := by
  refine xMet (by decide +kernel) (Nat.le_of_ble_eq_true rfl) ?_
  intro p e s m below meth c hx hb hr hlocks hin hml hown hts hsz hP hK hD hE hA ls hl
  have hS : va_S _ s.heap s.heap [] := va_S.rf (A := va_A [(h0, .inr (1, fs))] sz)
  have hl : lv_has ls 4 [(0, .ref h0), (1, .int 6)] := hl
  refine lv_aload_n hx hb (show decode prog_15_method_110_code 0 = .ok (.aload_n 0, 1) by decide +kernel) rfl (lv_at hl 0 rfl) ?_
  refine lv_iconst (v := 0) hx hb (show decode prog_15_method_110_code 1 = .ok (.iconst 0, 1) by decide +kernel) (by decide +kernel) ?_
  refine va_put (D := D) (ci := 1) (v := .int 0) (ty := .int) (C := R_MD) (T := F_MD) (N := 107) hx hb hts i_MD t_MD t_MD_ok n_MD hown hK hP hD hS 0 rfl rfl 0 (by decide +kernel) (hts _ w_1562) (fun _ h9 => h9) rfl (by decide +kernel) rfl rfl (by simp [hfl]) (show decode prog_15_method_110_code 2 = .ok (.putfield 206, 3) by decide +kernel) (fun H locs hP hD hS => ?_)
  have hP : va_P D cl [(h0, .inr (1, (fs.set 0 (.int 0))))] H := hP
  have hD : va_D _ [(h0, .inr (1, (fs.set 0 (.int 0))))] := hD
  refine lv_iconst (v := 0) hx hb (show decode prog_15_method_110_code 5 = .ok (.iconst 0, 1) by decide +kernel) (by decide +kernel) ?_
  refine lv_istore_n (lv' := [(2, .int 0), (0, .ref h0), (1, .int 6)]) hx hb (show decode prog_15_method_110_code 6 = .ok (.istore_n 2, 1) by decide +kernel) rfl hl (by decide +kernel) rfl (fun ls hl => ?_)
  refine lv_iload_n hx hb (show decode prog_15_method_110_code 7 = .ok (.iload_n 1, 1) by decide +kernel) rfl (lv_at hl 2 rfl) ?_
  refine lv_tableIn (off := 120) (tgt := 128) hx hb dsw_prog_15_method_110_code_8 (by decide +kernel) (by decide +kernel) (by decide +kernel) (by decide +kernel) ?_
  refine lv_aload_n hx hb (show decode prog_15_method_110_code 128 = .ok (.aload_n 0, 1) by decide +kernel) rfl (lv_at hl 1 rfl) ?_
  refine va_get (D := D) (ci := 1) (v := .int 0) (C := R_MD) (T := F_MD) (N := 107) hx hb hts i_MD hown hK hP 0 rfl rfl 48 (by decide +kernel) (hts _ w_1610) (fun _ h9 => h9) (xg_ne (by decide +kernel) hf48) (show decode prog_15_method_110_code 129 = .ok (.getfield 507, 3) by decide +kernel) ?_
  exact W.iret (v := 0) hx hb hr (fun t ht hW => ⟨⟨0, (), rfl, (by decide +kernel), by rw [ht]; exact hP, va_K.moved hW.alike hK, hD⟩, hS.F ht⟩) hS.2.2 (show decode prog_15_method_110_code 132 = .ok (.ireturn, 1) by decide +kernel)
set_option maxHeartbeats 4000000 in
set_option maxRecDepth 100000 in
/-- SignalEngineModel.count -/
theorem c_MD_count_7 (l : Launch) (D : va_G) (ad : Nat → Nat) (de sz : Nat) (h0 : Nat) (fs : List Value) (hfl : fs.length = 107) (hf42 : xfa fs 42 (.int 0)) (hf43 : xfa fs 43 (.int 0)) (hf45 : xfa fs 45 (.int 0)) (hf46 : xfa fs 46 (.int 0)) (hf44 : xfa fs 44 (.int 0)) (hf47 : xfa fs 47 (.int 0)) (hf48 : xfa fs 48 (.int 0)) (hf49 : xfa fs 49 (.int 0)) (hf41 : xfa fs 41 (.int 0)) (hf2 : xfa fs 2 (.int 0)) (hf83 : xfa fs 83 (.int 0)) (hf82 : xfa fs 82 (.int 0)) (hf85 : xfa fs 85 (.int 0)) (hf87 : xfa fs 87 (.int 0)) (hf86 : xfa fs 86 (.int 0)) (hf106 : xfa fs 106 (.int 0))   : Met l ⟨"SignalEngineModel", "count", "(I)I"⟩ (tw ⟨"SignalEngineModel", "count", "(I)I"⟩ prog_15_method_110_code 4 (some (.int))) { frames := 0, cells := 0, slots := 0, locals := 0 } (va_Pc [.ref h0, .int 7] (xp ad de D [(h0, .inr (1, fs))] [] sz)) (va_Qi (fun (r : Int32) (_ : Unit) => r = cnt 7) (fun (_ : Unit) t => xq D (va_A [(h0, .inr (1, fs))] sz) [(h0, .inr (1, (fs.set 0 (.int 0))))] [] t) (va_A [(h0, .inr (1, fs))] sz)) 0 0 (va_A [(h0, .inr (1, fs))] sz) := by
  refine xMet (by decide +kernel) (Nat.le_of_ble_eq_true rfl) ?_
  intro p e s m below meth c hx hb hr hlocks hin hml hown hts hsz hP hK hD hE hA ls hl
  have hS : va_S _ s.heap s.heap [] := va_S.rf (A := va_A [(h0, .inr (1, fs))] sz)
  have hl : lv_has ls 4 [(0, .ref h0), (1, .int 7)] := hl
  refine lv_aload_n hx hb (show decode prog_15_method_110_code 0 = .ok (.aload_n 0, 1) by decide +kernel) rfl (lv_at hl 0 rfl) ?_
  refine lv_iconst (v := 0) hx hb (show decode prog_15_method_110_code 1 = .ok (.iconst 0, 1) by decide +kernel) (by decide +kernel) ?_
  refine va_put (D := D) (ci := 1) (v := .int 0) (ty := .int) (C := R_MD) (T := F_MD) (N := 107) hx hb hts i_MD t_MD t_MD_ok n_MD hown hK hP hD hS 0 rfl rfl 0 (by decide +kernel) (hts _ w_1562) (fun _ h9 => h9) rfl (by decide +kernel) rfl rfl (by simp [hfl]) (show decode prog_15_method_110_code 2 = .ok (.putfield 206, 3) by decide +kernel) (fun H locs hP hD hS => ?_)
  have hP : va_P D cl [(h0, .inr (1, (fs.set 0 (.int 0))))] H := hP
  have hD : va_D _ [(h0, .inr (1, (fs.set 0 (.int 0))))] := hD
  refine lv_iconst (v := 0) hx hb (show decode prog_15_method_110_code 5 = .ok (.iconst 0, 1) by decide +kernel) (by decide +kernel) ?_
  refine lv_istore_n (lv' := [(2, .int 0), (0, .ref h0), (1, .int 7)]) hx hb (show decode prog_15_method_110_code 6 = .ok (.istore_n 2, 1) by decide +kernel) rfl hl (by decide +kernel) rfl (fun ls hl => ?_)
  refine lv_iload_n hx hb (show decode prog_15_method_110_code 7 = .ok (.iload_n 1, 1) by decide +kernel) rfl (lv_at hl 2 rfl) ?_
  refine lv_tableIn (off := 125) (tgt := 133) hx hb dsw_prog_15_method_110_code_8 (by decide +kernel) (by decide +kernel) (by decide +kernel) (by decide +kernel) ?_
  refine lv_aload_n hx hb (show decode prog_15_method_110_code 133 = .ok (.aload_n 0, 1) by decide +kernel) rfl (lv_at hl 1 rfl) ?_
  refine va_get (D := D) (ci := 1) (v := .int 0) (C := R_MD) (T := F_MD) (N := 107) hx hb hts i_MD hown hK hP 0 rfl rfl 49 (by decide +kernel) (hts _ w_1611) (fun _ h9 => h9) (xg_ne (by decide +kernel) hf49) (show decode prog_15_method_110_code 134 = .ok (.getfield 504, 3) by decide +kernel) ?_
  exact W.iret (v := 0) hx hb hr (fun t ht hW => ⟨⟨0, (), rfl, (by decide +kernel), by rw [ht]; exact hP, va_K.moved hW.alike hK, hD⟩, hS.F ht⟩) hS.2.2 (show decode prog_15_method_110_code 137 = .ok (.ireturn, 1) by decide +kernel)
set_option maxHeartbeats 4000000 in
set_option maxRecDepth 100000 in
/-- SignalEngineModel.count -/
theorem c_MD_count_8 (l : Launch) (D : va_G) (ad : Nat → Nat) (de sz : Nat) (h0 : Nat) (fs : List Value) (hfl : fs.length = 107) (hf42 : xfa fs 42 (.int 0)) (hf43 : xfa fs 43 (.int 0)) (hf45 : xfa fs 45 (.int 0)) (hf46 : xfa fs 46 (.int 0)) (hf44 : xfa fs 44 (.int 0)) (hf47 : xfa fs 47 (.int 0)) (hf48 : xfa fs 48 (.int 0)) (hf49 : xfa fs 49 (.int 0)) (hf41 : xfa fs 41 (.int 0)) (hf2 : xfa fs 2 (.int 0)) (hf83 : xfa fs 83 (.int 0)) (hf82 : xfa fs 82 (.int 0)) (hf85 : xfa fs 85 (.int 0)) (hf87 : xfa fs 87 (.int 0)) (hf86 : xfa fs 86 (.int 0)) (hf106 : xfa fs 106 (.int 0))   : Met l ⟨"SignalEngineModel", "count", "(I)I"⟩ (tw ⟨"SignalEngineModel", "count", "(I)I"⟩ prog_15_method_110_code 4 (some (.int))) { frames := 0, cells := 0, slots := 0, locals := 0 } (va_Pc [.ref h0, .int 8] (xp ad de D [(h0, .inr (1, fs))] [] sz)) (va_Qi (fun (r : Int32) (_ : Unit) => r = cnt 8) (fun (_ : Unit) t => xq D (va_A [(h0, .inr (1, fs))] sz) [(h0, .inr (1, (fs.set 0 (.int 0))))] [] t) (va_A [(h0, .inr (1, fs))] sz)) 0 0 (va_A [(h0, .inr (1, fs))] sz) := by
  refine xMet (by decide +kernel) (Nat.le_of_ble_eq_true rfl) ?_
  intro p e s m below meth c hx hb hr hlocks hin hml hown hts hsz hP hK hD hE hA ls hl
  have hS : va_S _ s.heap s.heap [] := va_S.rf (A := va_A [(h0, .inr (1, fs))] sz)
  have hl : lv_has ls 4 [(0, .ref h0), (1, .int 8)] := hl
  refine lv_aload_n hx hb (show decode prog_15_method_110_code 0 = .ok (.aload_n 0, 1) by decide +kernel) rfl (lv_at hl 0 rfl) ?_
  refine lv_iconst (v := 0) hx hb (show decode prog_15_method_110_code 1 = .ok (.iconst 0, 1) by decide +kernel) (by decide +kernel) ?_
  refine va_put (D := D) (ci := 1) (v := .int 0) (ty := .int) (C := R_MD) (T := F_MD) (N := 107) hx hb hts i_MD t_MD t_MD_ok n_MD hown hK hP hD hS 0 rfl rfl 0 (by decide +kernel) (hts _ w_1562) (fun _ h9 => h9) rfl (by decide +kernel) rfl rfl (by simp [hfl]) (show decode prog_15_method_110_code 2 = .ok (.putfield 206, 3) by decide +kernel) (fun H locs hP hD hS => ?_)
  have hP : va_P D cl [(h0, .inr (1, (fs.set 0 (.int 0))))] H := hP
  have hD : va_D _ [(h0, .inr (1, (fs.set 0 (.int 0))))] := hD
  refine lv_iconst (v := 0) hx hb (show decode prog_15_method_110_code 5 = .ok (.iconst 0, 1) by decide +kernel) (by decide +kernel) ?_
  refine lv_istore_n (lv' := [(2, .int 0), (0, .ref h0), (1, .int 8)]) hx hb (show decode prog_15_method_110_code 6 = .ok (.istore_n 2, 1) by decide +kernel) rfl hl (by decide +kernel) rfl (fun ls hl => ?_)
  refine lv_iload_n hx hb (show decode prog_15_method_110_code 7 = .ok (.iload_n 1, 1) by decide +kernel) rfl (lv_at hl 2 rfl) ?_
  refine lv_tableIn (off := 130) (tgt := 138) hx hb dsw_prog_15_method_110_code_8 (by decide +kernel) (by decide +kernel) (by decide +kernel) (by decide +kernel) ?_
  refine lv_aload_n hx hb (show decode prog_15_method_110_code 138 = .ok (.aload_n 0, 1) by decide +kernel) rfl (lv_at hl 1 rfl) ?_
  refine va_get (D := D) (ci := 1) (v := .int 0) (C := R_MD) (T := F_MD) (N := 107) hx hb hts i_MD hown hK hP 0 rfl rfl 41 (by decide +kernel) (hts _ w_1603) (fun _ h9 => h9) (xg_ne (by decide +kernel) hf41) (show decode prog_15_method_110_code 139 = .ok (.getfield 521, 3) by decide +kernel) ?_
  refine lv_if_eq (tgt := 154) hx hb (show decode prog_15_method_110_code 142 = .ok (.ifCond .eq 12, 3) by decide +kernel) (by decide +kernel) (fun c_1 => ?_) (fun c_1 => absurd c_1 (by decide +kernel))
  refine lv_iconst (v := 0) hx hb (show decode prog_15_method_110_code 154 = .ok (.iconst 0, 1) by decide +kernel) (by decide +kernel) ?_
  exact W.iret (v := 0) hx hb hr (fun t ht hW => ⟨⟨0, (), rfl, (by decide +kernel), by rw [ht]; exact hP, va_K.moved hW.alike hK, hD⟩, hS.F ht⟩) hS.2.2 (show decode prog_15_method_110_code 155 = .ok (.ireturn, 1) by decide +kernel)
set_option maxHeartbeats 4000000 in
set_option maxRecDepth 100000 in
/-- SignalEngineModel.count -/
theorem c_MD_count_9 (l : Launch) (D : va_G) (ad : Nat → Nat) (de sz : Nat) (h0 : Nat) (fs : List Value) (hfl : fs.length = 107) (hf42 : xfa fs 42 (.int 0)) (hf43 : xfa fs 43 (.int 0)) (hf45 : xfa fs 45 (.int 0)) (hf46 : xfa fs 46 (.int 0)) (hf44 : xfa fs 44 (.int 0)) (hf47 : xfa fs 47 (.int 0)) (hf48 : xfa fs 48 (.int 0)) (hf49 : xfa fs 49 (.int 0)) (hf41 : xfa fs 41 (.int 0)) (hf2 : xfa fs 2 (.int 0)) (hf83 : xfa fs 83 (.int 0)) (hf82 : xfa fs 82 (.int 0)) (hf85 : xfa fs 85 (.int 0)) (hf87 : xfa fs 87 (.int 0)) (hf86 : xfa fs 86 (.int 0)) (hf106 : xfa fs 106 (.int 0))   : Met l ⟨"SignalEngineModel", "count", "(I)I"⟩ (tw ⟨"SignalEngineModel", "count", "(I)I"⟩ prog_15_method_110_code 4 (some (.int))) { frames := 0, cells := 0, slots := 0, locals := 0 } (va_Pc [.ref h0, .int 9] (xp ad de D [(h0, .inr (1, fs))] [] sz)) (va_Qi (fun (r : Int32) (_ : Unit) => r = cnt 9) (fun (_ : Unit) t => xq D (va_A [(h0, .inr (1, fs))] sz) [(h0, .inr (1, (fs.set 0 (.int 0))))] [] t) (va_A [(h0, .inr (1, fs))] sz)) 0 0 (va_A [(h0, .inr (1, fs))] sz) := by
  refine xMet (by decide +kernel) (Nat.le_of_ble_eq_true rfl) ?_
  intro p e s m below meth c hx hb hr hlocks hin hml hown hts hsz hP hK hD hE hA ls hl
  have hS : va_S _ s.heap s.heap [] := va_S.rf (A := va_A [(h0, .inr (1, fs))] sz)
  have hl : lv_has ls 4 [(0, .ref h0), (1, .int 9)] := hl
  refine lv_aload_n hx hb (show decode prog_15_method_110_code 0 = .ok (.aload_n 0, 1) by decide +kernel) rfl (lv_at hl 0 rfl) ?_
  refine lv_iconst (v := 0) hx hb (show decode prog_15_method_110_code 1 = .ok (.iconst 0, 1) by decide +kernel) (by decide +kernel) ?_
  refine va_put (D := D) (ci := 1) (v := .int 0) (ty := .int) (C := R_MD) (T := F_MD) (N := 107) hx hb hts i_MD t_MD t_MD_ok n_MD hown hK hP hD hS 0 rfl rfl 0 (by decide +kernel) (hts _ w_1562) (fun _ h9 => h9) rfl (by decide +kernel) rfl rfl (by simp [hfl]) (show decode prog_15_method_110_code 2 = .ok (.putfield 206, 3) by decide +kernel) (fun H locs hP hD hS => ?_)
  have hP : va_P D cl [(h0, .inr (1, (fs.set 0 (.int 0))))] H := hP
  have hD : va_D _ [(h0, .inr (1, (fs.set 0 (.int 0))))] := hD
  refine lv_iconst (v := 0) hx hb (show decode prog_15_method_110_code 5 = .ok (.iconst 0, 1) by decide +kernel) (by decide +kernel) ?_
  refine lv_istore_n (lv' := [(2, .int 0), (0, .ref h0), (1, .int 9)]) hx hb (show decode prog_15_method_110_code 6 = .ok (.istore_n 2, 1) by decide +kernel) rfl hl (by decide +kernel) rfl (fun ls hl => ?_)
  refine lv_iload_n hx hb (show decode prog_15_method_110_code 7 = .ok (.iload_n 1, 1) by decide +kernel) rfl (lv_at hl 2 rfl) ?_
  refine lv_tableIn (off := 148) (tgt := 156) hx hb dsw_prog_15_method_110_code_8 (by decide +kernel) (by decide +kernel) (by decide +kernel) (by decide +kernel) ?_
  refine lv_aload_n hx hb (show decode prog_15_method_110_code 156 = .ok (.aload_n 0, 1) by decide +kernel) rfl (lv_at hl 1 rfl) ?_
  refine va_get (D := D) (ci := 1) (v := .int 0) (C := R_MD) (T := F_MD) (N := 107) hx hb hts i_MD hown hK hP 0 rfl rfl 2 (by decide +kernel) (hts _ w_1564) (fun _ h9 => h9) (xg_ne (by decide +kernel) hf2) (show decode prog_15_method_110_code 157 = .ok (.getfield 210, 3) by decide +kernel) ?_
  exact W.iret (v := 0) hx hb hr (fun t ht hW => ⟨⟨0, (), rfl, (by decide +kernel), by rw [ht]; exact hP, va_K.moved hW.alike hK, hD⟩, hS.F ht⟩) hS.2.2 (show decode prog_15_method_110_code 160 = .ok (.ireturn, 1) by decide +kernel)
set_option maxHeartbeats 4000000 in
set_option maxRecDepth 100000 in
/-- SignalEngineModel.count -/
theorem c_MD_count_10 (l : Launch) (D : va_G) (ad : Nat → Nat) (de sz : Nat) (h0 : Nat) (fs : List Value) (hfl : fs.length = 107) (hf42 : xfa fs 42 (.int 0)) (hf43 : xfa fs 43 (.int 0)) (hf45 : xfa fs 45 (.int 0)) (hf46 : xfa fs 46 (.int 0)) (hf44 : xfa fs 44 (.int 0)) (hf47 : xfa fs 47 (.int 0)) (hf48 : xfa fs 48 (.int 0)) (hf49 : xfa fs 49 (.int 0)) (hf41 : xfa fs 41 (.int 0)) (hf2 : xfa fs 2 (.int 0)) (hf83 : xfa fs 83 (.int 0)) (hf82 : xfa fs 82 (.int 0)) (hf85 : xfa fs 85 (.int 0)) (hf87 : xfa fs 87 (.int 0)) (hf86 : xfa fs 86 (.int 0)) (hf106 : xfa fs 106 (.int 0))   : Met l ⟨"SignalEngineModel", "count", "(I)I"⟩ (tw ⟨"SignalEngineModel", "count", "(I)I"⟩ prog_15_method_110_code 4 (some (.int))) { frames := 0, cells := 0, slots := 0, locals := 0 } (va_Pc [.ref h0, .int 10] (xp ad de D [(h0, .inr (1, fs))] [] sz)) (va_Qi (fun (r : Int32) (_ : Unit) => r = cnt 10) (fun (_ : Unit) t => xq D (va_A [(h0, .inr (1, fs))] sz) [(h0, .inr (1, (fs.set 0 (.int 0))))] [] t) (va_A [(h0, .inr (1, fs))] sz)) 0 0 (va_A [(h0, .inr (1, fs))] sz) := by
  refine xMet (by decide +kernel) (Nat.le_of_ble_eq_true rfl) ?_
  intro p e s m below meth c hx hb hr hlocks hin hml hown hts hsz hP hK hD hE hA ls hl
  have hS : va_S _ s.heap s.heap [] := va_S.rf (A := va_A [(h0, .inr (1, fs))] sz)
  have hl : lv_has ls 4 [(0, .ref h0), (1, .int 10)] := hl
  refine lv_aload_n hx hb (show decode prog_15_method_110_code 0 = .ok (.aload_n 0, 1) by decide +kernel) rfl (lv_at hl 0 rfl) ?_
  refine lv_iconst (v := 0) hx hb (show decode prog_15_method_110_code 1 = .ok (.iconst 0, 1) by decide +kernel) (by decide +kernel) ?_
  refine va_put (D := D) (ci := 1) (v := .int 0) (ty := .int) (C := R_MD) (T := F_MD) (N := 107) hx hb hts i_MD t_MD t_MD_ok n_MD hown hK hP hD hS 0 rfl rfl 0 (by decide +kernel) (hts _ w_1562) (fun _ h9 => h9) rfl (by decide +kernel) rfl rfl (by simp [hfl]) (show decode prog_15_method_110_code 2 = .ok (.putfield 206, 3) by decide +kernel) (fun H locs hP hD hS => ?_)
  have hP : va_P D cl [(h0, .inr (1, (fs.set 0 (.int 0))))] H := hP
  have hD : va_D _ [(h0, .inr (1, (fs.set 0 (.int 0))))] := hD
  refine lv_iconst (v := 0) hx hb (show decode prog_15_method_110_code 5 = .ok (.iconst 0, 1) by decide +kernel) (by decide +kernel) ?_
  refine lv_istore_n (lv' := [(2, .int 0), (0, .ref h0), (1, .int 10)]) hx hb (show decode prog_15_method_110_code 6 = .ok (.istore_n 2, 1) by decide +kernel) rfl hl (by decide +kernel) rfl (fun ls hl => ?_)
  refine lv_iload_n hx hb (show decode prog_15_method_110_code 7 = .ok (.iload_n 1, 1) by decide +kernel) rfl (lv_at hl 2 rfl) ?_
  refine lv_tableIn (off := 153) (tgt := 161) hx hb dsw_prog_15_method_110_code_8 (by decide +kernel) (by decide +kernel) (by decide +kernel) (by decide +kernel) ?_
  refine lv_aload_n hx hb (show decode prog_15_method_110_code 161 = .ok (.aload_n 0, 1) by decide +kernel) rfl (lv_at hl 1 rfl) ?_
  refine va_get (D := D) (ci := 1) (v := .int 0) (C := R_MD) (T := F_MD) (N := 107) hx hb hts i_MD hown hK hP 0 rfl rfl 83 (by decide +kernel) (hts _ w_1645) (fun _ h9 => h9) (xg_ne (by decide +kernel) hf83) (show decode prog_15_method_110_code 162 = .ok (.getfield 542, 3) by decide +kernel) ?_
  exact W.iret (v := 0) hx hb hr (fun t ht hW => ⟨⟨0, (), rfl, (by decide +kernel), by rw [ht]; exact hP, va_K.moved hW.alike hK, hD⟩, hS.F ht⟩) hS.2.2 (show decode prog_15_method_110_code 165 = .ok (.ireturn, 1) by decide +kernel)
set_option maxHeartbeats 4000000 in
set_option maxRecDepth 100000 in
/-- SignalEngineModel.count -/
theorem c_MD_count_11 (l : Launch) (D : va_G) (ad : Nat → Nat) (de sz : Nat) (h0 : Nat) (fs : List Value) (hfl : fs.length = 107) (hf42 : xfa fs 42 (.int 0)) (hf43 : xfa fs 43 (.int 0)) (hf45 : xfa fs 45 (.int 0)) (hf46 : xfa fs 46 (.int 0)) (hf44 : xfa fs 44 (.int 0)) (hf47 : xfa fs 47 (.int 0)) (hf48 : xfa fs 48 (.int 0)) (hf49 : xfa fs 49 (.int 0)) (hf41 : xfa fs 41 (.int 0)) (hf2 : xfa fs 2 (.int 0)) (hf83 : xfa fs 83 (.int 0)) (hf82 : xfa fs 82 (.int 0)) (hf85 : xfa fs 85 (.int 0)) (hf87 : xfa fs 87 (.int 0)) (hf86 : xfa fs 86 (.int 0)) (hf106 : xfa fs 106 (.int 0))   : Met l ⟨"SignalEngineModel", "count", "(I)I"⟩ (tw ⟨"SignalEngineModel", "count", "(I)I"⟩ prog_15_method_110_code 4 (some (.int))) { frames := 0, cells := 0, slots := 0, locals := 0 } (va_Pc [.ref h0, .int 11] (xp ad de D [(h0, .inr (1, fs))] [] sz)) (va_Qi (fun (r : Int32) (_ : Unit) => r = cnt 11) (fun (_ : Unit) t => xq D (va_A [(h0, .inr (1, fs))] sz) [(h0, .inr (1, (fs.set 0 (.int 0))))] [] t) (va_A [(h0, .inr (1, fs))] sz)) 0 0 (va_A [(h0, .inr (1, fs))] sz) := by
  refine xMet (by decide +kernel) (Nat.le_of_ble_eq_true rfl) ?_
  intro p e s m below meth c hx hb hr hlocks hin hml hown hts hsz hP hK hD hE hA ls hl
  have hS : va_S _ s.heap s.heap [] := va_S.rf (A := va_A [(h0, .inr (1, fs))] sz)
  have hl : lv_has ls 4 [(0, .ref h0), (1, .int 11)] := hl
  refine lv_aload_n hx hb (show decode prog_15_method_110_code 0 = .ok (.aload_n 0, 1) by decide +kernel) rfl (lv_at hl 0 rfl) ?_
  refine lv_iconst (v := 0) hx hb (show decode prog_15_method_110_code 1 = .ok (.iconst 0, 1) by decide +kernel) (by decide +kernel) ?_
  refine va_put (D := D) (ci := 1) (v := .int 0) (ty := .int) (C := R_MD) (T := F_MD) (N := 107) hx hb hts i_MD t_MD t_MD_ok n_MD hown hK hP hD hS 0 rfl rfl 0 (by decide +kernel) (hts _ w_1562) (fun _ h9 => h9) rfl (by decide +kernel) rfl rfl (by simp [hfl]) (show decode prog_15_method_110_code 2 = .ok (.putfield 206, 3) by decide +kernel) (fun H locs hP hD hS => ?_)
  have hP : va_P D cl [(h0, .inr (1, (fs.set 0 (.int 0))))] H := hP
  have hD : va_D _ [(h0, .inr (1, (fs.set 0 (.int 0))))] := hD
  refine lv_iconst (v := 0) hx hb (show decode prog_15_method_110_code 5 = .ok (.iconst 0, 1) by decide +kernel) (by decide +kernel) ?_
  refine lv_istore_n (lv' := [(2, .int 0), (0, .ref h0), (1, .int 11)]) hx hb (show decode prog_15_method_110_code 6 = .ok (.istore_n 2, 1) by decide +kernel) rfl hl (by decide +kernel) rfl (fun ls hl => ?_)
  refine lv_iload_n hx hb (show decode prog_15_method_110_code 7 = .ok (.iload_n 1, 1) by decide +kernel) rfl (lv_at hl 2 rfl) ?_
  refine lv_tableIn (off := 158) (tgt := 166) hx hb dsw_prog_15_method_110_code_8 (by decide +kernel) (by decide +kernel) (by decide +kernel) (by decide +kernel) ?_
  refine lv_aload_n hx hb (show decode prog_15_method_110_code 166 = .ok (.aload_n 0, 1) by decide +kernel) rfl (lv_at hl 1 rfl) ?_
  refine va_get (D := D) (ci := 1) (v := .int 0) (C := R_MD) (T := F_MD) (N := 107) hx hb hts i_MD hown hK hP 0 rfl rfl 82 (by decide +kernel) (hts _ w_1644) (fun _ h9 => h9) (xg_ne (by decide +kernel) hf82) (show decode prog_15_method_110_code 167 = .ok (.getfield 545, 3) by decide +kernel) ?_
  exact W.iret (v := 0) hx hb hr (fun t ht hW => ⟨⟨0, (), rfl, (by decide +kernel), by rw [ht]; exact hP, va_K.moved hW.alike hK, hD⟩, hS.F ht⟩) hS.2.2 (show decode prog_15_method_110_code 170 = .ok (.ireturn, 1) by decide +kernel)
set_option maxHeartbeats 4000000 in
set_option maxRecDepth 100000 in
/-- SignalEngineModel.count -/
theorem c_MD_count_12 (l : Launch) (D : va_G) (ad : Nat → Nat) (de sz : Nat) (h0 : Nat) (fs : List Value) (hfl : fs.length = 107) (hf42 : xfa fs 42 (.int 0)) (hf43 : xfa fs 43 (.int 0)) (hf45 : xfa fs 45 (.int 0)) (hf46 : xfa fs 46 (.int 0)) (hf44 : xfa fs 44 (.int 0)) (hf47 : xfa fs 47 (.int 0)) (hf48 : xfa fs 48 (.int 0)) (hf49 : xfa fs 49 (.int 0)) (hf41 : xfa fs 41 (.int 0)) (hf2 : xfa fs 2 (.int 0)) (hf83 : xfa fs 83 (.int 0)) (hf82 : xfa fs 82 (.int 0)) (hf85 : xfa fs 85 (.int 0)) (hf87 : xfa fs 87 (.int 0)) (hf86 : xfa fs 86 (.int 0)) (hf106 : xfa fs 106 (.int 0))   : Met l ⟨"SignalEngineModel", "count", "(I)I"⟩ (tw ⟨"SignalEngineModel", "count", "(I)I"⟩ prog_15_method_110_code 4 (some (.int))) { frames := 0, cells := 0, slots := 0, locals := 0 } (va_Pc [.ref h0, .int 12] (xp ad de D [(h0, .inr (1, fs))] [] sz)) (va_Qi (fun (r : Int32) (_ : Unit) => r = cnt 12) (fun (_ : Unit) t => xq D (va_A [(h0, .inr (1, fs))] sz) [(h0, .inr (1, (fs.set 0 (.int 0))))] [] t) (va_A [(h0, .inr (1, fs))] sz)) 0 0 (va_A [(h0, .inr (1, fs))] sz) := by
  refine xMet (by decide +kernel) (Nat.le_of_ble_eq_true rfl) ?_
  intro p e s m below meth c hx hb hr hlocks hin hml hown hts hsz hP hK hD hE hA ls hl
  have hS : va_S _ s.heap s.heap [] := va_S.rf (A := va_A [(h0, .inr (1, fs))] sz)
  have hl : lv_has ls 4 [(0, .ref h0), (1, .int 12)] := hl
  refine lv_aload_n hx hb (show decode prog_15_method_110_code 0 = .ok (.aload_n 0, 1) by decide +kernel) rfl (lv_at hl 0 rfl) ?_
  refine lv_iconst (v := 0) hx hb (show decode prog_15_method_110_code 1 = .ok (.iconst 0, 1) by decide +kernel) (by decide +kernel) ?_
  refine va_put (D := D) (ci := 1) (v := .int 0) (ty := .int) (C := R_MD) (T := F_MD) (N := 107) hx hb hts i_MD t_MD t_MD_ok n_MD hown hK hP hD hS 0 rfl rfl 0 (by decide +kernel) (hts _ w_1562) (fun _ h9 => h9) rfl (by decide +kernel) rfl rfl (by simp [hfl]) (show decode prog_15_method_110_code 2 = .ok (.putfield 206, 3) by decide +kernel) (fun H locs hP hD hS => ?_)
  have hP : va_P D cl [(h0, .inr (1, (fs.set 0 (.int 0))))] H := hP
  have hD : va_D _ [(h0, .inr (1, (fs.set 0 (.int 0))))] := hD
  refine lv_iconst (v := 0) hx hb (show decode prog_15_method_110_code 5 = .ok (.iconst 0, 1) by decide +kernel) (by decide +kernel) ?_
  refine lv_istore_n (lv' := [(2, .int 0), (0, .ref h0), (1, .int 12)]) hx hb (show decode prog_15_method_110_code 6 = .ok (.istore_n 2, 1) by decide +kernel) rfl hl (by decide +kernel) rfl (fun ls hl => ?_)
  refine lv_iload_n hx hb (show decode prog_15_method_110_code 7 = .ok (.iload_n 1, 1) by decide +kernel) rfl (lv_at hl 2 rfl) ?_
  refine lv_tableIn (off := 163) (tgt := 171) hx hb dsw_prog_15_method_110_code_8 (by decide +kernel) (by decide +kernel) (by decide +kernel) (by decide +kernel) ?_
  refine lv_iconst (v := 0) hx hb (show decode prog_15_method_110_code 171 = .ok (.iconst 0, 1) by decide +kernel) (by decide +kernel) ?_
  refine lv_istore_n (lv' := [(3, .int 0), (2, .int 0), (0, .ref h0), (1, .int 12)]) hx hb (show decode prog_15_method_110_code 172 = .ok (.istore_n 3, 1) by decide +kernel) rfl hl (by decide +kernel) rfl (fun ls hl => ?_)
  refine lv_iload_n hx hb (show decode prog_15_method_110_code 173 = .ok (.iload_n 3, 1) by decide +kernel) rfl (lv_at hl 0 rfl) ?_
  refine lv_aload_n hx hb (show decode prog_15_method_110_code 174 = .ok (.aload_n 0, 1) by decide +kernel) rfl (lv_at hl 2 rfl) ?_
  refine va_get (D := D) (ci := 1) (v := .int 0) (C := R_MD) (T := F_MD) (N := 107) hx hb hts i_MD hown hK hP 0 rfl rfl 47 (by decide +kernel) (hts _ w_1609) (fun _ h9 => h9) (xg_ne (by decide +kernel) hf47) (show decode prog_15_method_110_code 175 = .ok (.getfield 498, 3) by decide +kernel) ?_
  refine lv_icmp_ge (tgt := 204) hx hb (show decode prog_15_method_110_code 178 = .ok (.if_icmp .ge 26, 3) by decide +kernel) (by decide +kernel) (fun c_1 => ?_) (fun c_1 => absurd c_1 (by decide +kernel))
  refine lv_iload_n hx hb (show decode prog_15_method_110_code 204 = .ok (.iload_n 2, 1) by decide +kernel) rfl (lv_at hl 1 rfl) ?_
  exact W.iret (v := 0) hx hb hr (fun t ht hW => ⟨⟨0, (), rfl, (by decide +kernel), by rw [ht]; exact hP, va_K.moved hW.alike hK, hD⟩, hS.F ht⟩) hS.2.2 (show decode prog_15_method_110_code 205 = .ok (.ireturn, 1) by decide +kernel)
set_option maxHeartbeats 4000000 in
set_option maxRecDepth 100000 in
/-- SignalEngineModel.count -/
theorem c_MD_count_13 (l : Launch) (D : va_G) (ad : Nat → Nat) (de sz : Nat) (h0 : Nat) (fs : List Value) (hfl : fs.length = 107) (hf42 : xfa fs 42 (.int 0)) (hf43 : xfa fs 43 (.int 0)) (hf45 : xfa fs 45 (.int 0)) (hf46 : xfa fs 46 (.int 0)) (hf44 : xfa fs 44 (.int 0)) (hf47 : xfa fs 47 (.int 0)) (hf48 : xfa fs 48 (.int 0)) (hf49 : xfa fs 49 (.int 0)) (hf41 : xfa fs 41 (.int 0)) (hf2 : xfa fs 2 (.int 0)) (hf83 : xfa fs 83 (.int 0)) (hf82 : xfa fs 82 (.int 0)) (hf85 : xfa fs 85 (.int 0)) (hf87 : xfa fs 87 (.int 0)) (hf86 : xfa fs 86 (.int 0)) (hf106 : xfa fs 106 (.int 0))   : Met l ⟨"SignalEngineModel", "count", "(I)I"⟩ (tw ⟨"SignalEngineModel", "count", "(I)I"⟩ prog_15_method_110_code 4 (some (.int))) { frames := 0, cells := 0, slots := 0, locals := 0 } (va_Pc [.ref h0, .int 13] (xp ad de D [(h0, .inr (1, fs))] [] sz)) (va_Qi (fun (r : Int32) (_ : Unit) => r = cnt 13) (fun (_ : Unit) t => xq D (va_A [(h0, .inr (1, fs))] sz) [(h0, .inr (1, (fs.set 0 (.int 0))))] [] t) (va_A [(h0, .inr (1, fs))] sz)) 0 0 (va_A [(h0, .inr (1, fs))] sz) := by
  refine xMet (by decide +kernel) (Nat.le_of_ble_eq_true rfl) ?_
  intro p e s m below meth c hx hb hr hlocks hin hml hown hts hsz hP hK hD hE hA ls hl
  have hS : va_S _ s.heap s.heap [] := va_S.rf (A := va_A [(h0, .inr (1, fs))] sz)
  have hl : lv_has ls 4 [(0, .ref h0), (1, .int 13)] := hl
  refine lv_aload_n hx hb (show decode prog_15_method_110_code 0 = .ok (.aload_n 0, 1) by decide +kernel) rfl (lv_at hl 0 rfl) ?_
  refine lv_iconst (v := 0) hx hb (show decode prog_15_method_110_code 1 = .ok (.iconst 0, 1) by decide +kernel) (by decide +kernel) ?_
  refine va_put (D := D) (ci := 1) (v := .int 0) (ty := .int) (C := R_MD) (T := F_MD) (N := 107) hx hb hts i_MD t_MD t_MD_ok n_MD hown hK hP hD hS 0 rfl rfl 0 (by decide +kernel) (hts _ w_1562) (fun _ h9 => h9) rfl (by decide +kernel) rfl rfl (by simp [hfl]) (show decode prog_15_method_110_code 2 = .ok (.putfield 206, 3) by decide +kernel) (fun H locs hP hD hS => ?_)
  have hP : va_P D cl [(h0, .inr (1, (fs.set 0 (.int 0))))] H := hP
  have hD : va_D _ [(h0, .inr (1, (fs.set 0 (.int 0))))] := hD
  refine lv_iconst (v := 0) hx hb (show decode prog_15_method_110_code 5 = .ok (.iconst 0, 1) by decide +kernel) (by decide +kernel) ?_
  refine lv_istore_n (lv' := [(2, .int 0), (0, .ref h0), (1, .int 13)]) hx hb (show decode prog_15_method_110_code 6 = .ok (.istore_n 2, 1) by decide +kernel) rfl hl (by decide +kernel) rfl (fun ls hl => ?_)
  refine lv_iload_n hx hb (show decode prog_15_method_110_code 7 = .ok (.iload_n 1, 1) by decide +kernel) rfl (lv_at hl 2 rfl) ?_
  refine lv_tableIn (off := 198) (tgt := 206) hx hb dsw_prog_15_method_110_code_8 (by decide +kernel) (by decide +kernel) (by decide +kernel) (by decide +kernel) ?_
  refine lv_aload_n hx hb (show decode prog_15_method_110_code 206 = .ok (.aload_n 0, 1) by decide +kernel) rfl (lv_at hl 1 rfl) ?_
  refine va_get (D := D) (ci := 1) (v := .int 0) (C := R_MD) (T := F_MD) (N := 107) hx hb hts i_MD hown hK hP 0 rfl rfl 85 (by decide +kernel) (hts _ w_1647) (fun _ h9 => h9) (xg_ne (by decide +kernel) hf85) (show decode prog_15_method_110_code 207 = .ok (.getfield 518, 3) by decide +kernel) ?_
  refine lv_if_eq (tgt := 220) hx hb (show decode prog_15_method_110_code 210 = .ok (.ifCond .eq 10, 3) by decide +kernel) (by decide +kernel) (fun c_1 => ?_) (fun c_1 => absurd c_1 (by decide +kernel))
  refine lv_iconst (v := 0) hx hb (show decode prog_15_method_110_code 220 = .ok (.iconst 0, 1) by decide +kernel) (by decide +kernel) ?_
  exact W.iret (v := 0) hx hb hr (fun t ht hW => ⟨⟨0, (), rfl, (by decide +kernel), by rw [ht]; exact hP, va_K.moved hW.alike hK, hD⟩, hS.F ht⟩) hS.2.2 (show decode prog_15_method_110_code 221 = .ok (.ireturn, 1) by decide +kernel)
set_option maxHeartbeats 4000000 in
set_option maxRecDepth 100000 in
/-- SignalEngineModel.count -/
theorem c_MD_count_14 (l : Launch) (D : va_G) (ad : Nat → Nat) (de sz : Nat) (h0 : Nat) (fs : List Value) (hfl : fs.length = 107) (hf42 : xfa fs 42 (.int 0)) (hf43 : xfa fs 43 (.int 0)) (hf45 : xfa fs 45 (.int 0)) (hf46 : xfa fs 46 (.int 0)) (hf44 : xfa fs 44 (.int 0)) (hf47 : xfa fs 47 (.int 0)) (hf48 : xfa fs 48 (.int 0)) (hf49 : xfa fs 49 (.int 0)) (hf41 : xfa fs 41 (.int 0)) (hf2 : xfa fs 2 (.int 0)) (hf83 : xfa fs 83 (.int 0)) (hf82 : xfa fs 82 (.int 0)) (hf85 : xfa fs 85 (.int 0)) (hf87 : xfa fs 87 (.int 0)) (hf86 : xfa fs 86 (.int 0)) (hf106 : xfa fs 106 (.int 0))   : Met l ⟨"SignalEngineModel", "count", "(I)I"⟩ (tw ⟨"SignalEngineModel", "count", "(I)I"⟩ prog_15_method_110_code 4 (some (.int))) { frames := 0, cells := 0, slots := 0, locals := 0 } (va_Pc [.ref h0, .int 14] (xp ad de D [(h0, .inr (1, fs))] [] sz)) (va_Qi (fun (r : Int32) (_ : Unit) => r = cnt 14) (fun (_ : Unit) t => xq D (va_A [(h0, .inr (1, fs))] sz) [(h0, .inr (1, (fs.set 0 (.int 0))))] [] t) (va_A [(h0, .inr (1, fs))] sz)) 0 0 (va_A [(h0, .inr (1, fs))] sz) := by
  refine xMet (by decide +kernel) (Nat.le_of_ble_eq_true rfl) ?_
  intro p e s m below meth c hx hb hr hlocks hin hml hown hts hsz hP hK hD hE hA ls hl
  have hS : va_S _ s.heap s.heap [] := va_S.rf (A := va_A [(h0, .inr (1, fs))] sz)
  have hl : lv_has ls 4 [(0, .ref h0), (1, .int 14)] := hl
  refine lv_aload_n hx hb (show decode prog_15_method_110_code 0 = .ok (.aload_n 0, 1) by decide +kernel) rfl (lv_at hl 0 rfl) ?_
  refine lv_iconst (v := 0) hx hb (show decode prog_15_method_110_code 1 = .ok (.iconst 0, 1) by decide +kernel) (by decide +kernel) ?_
  refine va_put (D := D) (ci := 1) (v := .int 0) (ty := .int) (C := R_MD) (T := F_MD) (N := 107) hx hb hts i_MD t_MD t_MD_ok n_MD hown hK hP hD hS 0 rfl rfl 0 (by decide +kernel) (hts _ w_1562) (fun _ h9 => h9) rfl (by decide +kernel) rfl rfl (by simp [hfl]) (show decode prog_15_method_110_code 2 = .ok (.putfield 206, 3) by decide +kernel) (fun H locs hP hD hS => ?_)
  have hP : va_P D cl [(h0, .inr (1, (fs.set 0 (.int 0))))] H := hP
  have hD : va_D _ [(h0, .inr (1, (fs.set 0 (.int 0))))] := hD
  refine lv_iconst (v := 0) hx hb (show decode prog_15_method_110_code 5 = .ok (.iconst 0, 1) by decide +kernel) (by decide +kernel) ?_
  refine lv_istore_n (lv' := [(2, .int 0), (0, .ref h0), (1, .int 14)]) hx hb (show decode prog_15_method_110_code 6 = .ok (.istore_n 2, 1) by decide +kernel) rfl hl (by decide +kernel) rfl (fun ls hl => ?_)
  refine lv_iload_n hx hb (show decode prog_15_method_110_code 7 = .ok (.iload_n 1, 1) by decide +kernel) rfl (lv_at hl 2 rfl) ?_
  refine lv_tableIn (off := 214) (tgt := 222) hx hb dsw_prog_15_method_110_code_8 (by decide +kernel) (by decide +kernel) (by decide +kernel) (by decide +kernel) ?_
  refine lv_iconst (v := 0) hx hb (show decode prog_15_method_110_code 222 = .ok (.iconst 0, 1) by decide +kernel) (by decide +kernel) ?_
  refine lv_istore_n (lv' := [(3, .int 0), (2, .int 0), (0, .ref h0), (1, .int 14)]) hx hb (show decode prog_15_method_110_code 223 = .ok (.istore_n 3, 1) by decide +kernel) rfl hl (by decide +kernel) rfl (fun ls hl => ?_)
  refine lv_iload_n hx hb (show decode prog_15_method_110_code 224 = .ok (.iload_n 3, 1) by decide +kernel) rfl (lv_at hl 0 rfl) ?_
  refine lv_aload_n hx hb (show decode prog_15_method_110_code 225 = .ok (.aload_n 0, 1) by decide +kernel) rfl (lv_at hl 2 rfl) ?_
  refine va_get (D := D) (ci := 1) (v := .int 0) (C := R_MD) (T := F_MD) (N := 107) hx hb hts i_MD hown hK hP 0 rfl rfl 87 (by decide +kernel) (hts _ w_1649) (fun _ h9 => h9) (xg_ne (by decide +kernel) hf87) (show decode prog_15_method_110_code 226 = .ok (.getfield 527, 3) by decide +kernel) ?_
  refine lv_icmp_ge (tgt := 261) hx hb (show decode prog_15_method_110_code 229 = .ok (.if_icmp .ge 32, 3) by decide +kernel) (by decide +kernel) (fun c_1 => ?_) (fun c_1 => absurd c_1 (by decide +kernel))
  refine lv_iload_n hx hb (show decode prog_15_method_110_code 261 = .ok (.iload_n 2, 1) by decide +kernel) rfl (lv_at hl 1 rfl) ?_
  exact W.iret (v := 0) hx hb hr (fun t ht hW => ⟨⟨0, (), rfl, (by decide +kernel), by rw [ht]; exact hP, va_K.moved hW.alike hK, hD⟩, hS.F ht⟩) hS.2.2 (show decode prog_15_method_110_code 262 = .ok (.ireturn, 1) by decide +kernel)
set_option maxHeartbeats 4000000 in
set_option maxRecDepth 100000 in
/-- SignalEngineModel.count -/
theorem c_MD_count_15 (l : Launch) (D : va_G) (ad : Nat → Nat) (de sz : Nat) (h0 : Nat) (fs : List Value) (hfl : fs.length = 107) (hf42 : xfa fs 42 (.int 0)) (hf43 : xfa fs 43 (.int 0)) (hf45 : xfa fs 45 (.int 0)) (hf46 : xfa fs 46 (.int 0)) (hf44 : xfa fs 44 (.int 0)) (hf47 : xfa fs 47 (.int 0)) (hf48 : xfa fs 48 (.int 0)) (hf49 : xfa fs 49 (.int 0)) (hf41 : xfa fs 41 (.int 0)) (hf2 : xfa fs 2 (.int 0)) (hf83 : xfa fs 83 (.int 0)) (hf82 : xfa fs 82 (.int 0)) (hf85 : xfa fs 85 (.int 0)) (hf87 : xfa fs 87 (.int 0)) (hf86 : xfa fs 86 (.int 0)) (hf106 : xfa fs 106 (.int 0))   : Met l ⟨"SignalEngineModel", "count", "(I)I"⟩ (tw ⟨"SignalEngineModel", "count", "(I)I"⟩ prog_15_method_110_code 4 (some (.int))) { frames := 0, cells := 0, slots := 0, locals := 0 } (va_Pc [.ref h0, .int 15] (xp ad de D [(h0, .inr (1, fs))] [] sz)) (va_Qi (fun (r : Int32) (_ : Unit) => r = cnt 15) (fun (_ : Unit) t => xq D (va_A [(h0, .inr (1, fs))] sz) [(h0, .inr (1, (fs.set 0 (.int 0))))] [] t) (va_A [(h0, .inr (1, fs))] sz)) 0 0 (va_A [(h0, .inr (1, fs))] sz) := by
  refine xMet (by decide +kernel) (Nat.le_of_ble_eq_true rfl) ?_
  intro p e s m below meth c hx hb hr hlocks hin hml hown hts hsz hP hK hD hE hA ls hl
  have hS : va_S _ s.heap s.heap [] := va_S.rf (A := va_A [(h0, .inr (1, fs))] sz)
  have hl : lv_has ls 4 [(0, .ref h0), (1, .int 15)] := hl
  refine lv_aload_n hx hb (show decode prog_15_method_110_code 0 = .ok (.aload_n 0, 1) by decide +kernel) rfl (lv_at hl 0 rfl) ?_
  refine lv_iconst (v := 0) hx hb (show decode prog_15_method_110_code 1 = .ok (.iconst 0, 1) by decide +kernel) (by decide +kernel) ?_
  refine va_put (D := D) (ci := 1) (v := .int 0) (ty := .int) (C := R_MD) (T := F_MD) (N := 107) hx hb hts i_MD t_MD t_MD_ok n_MD hown hK hP hD hS 0 rfl rfl 0 (by decide +kernel) (hts _ w_1562) (fun _ h9 => h9) rfl (by decide +kernel) rfl rfl (by simp [hfl]) (show decode prog_15_method_110_code 2 = .ok (.putfield 206, 3) by decide +kernel) (fun H locs hP hD hS => ?_)
  have hP : va_P D cl [(h0, .inr (1, (fs.set 0 (.int 0))))] H := hP
  have hD : va_D _ [(h0, .inr (1, (fs.set 0 (.int 0))))] := hD
  refine lv_iconst (v := 0) hx hb (show decode prog_15_method_110_code 5 = .ok (.iconst 0, 1) by decide +kernel) (by decide +kernel) ?_
  refine lv_istore_n (lv' := [(2, .int 0), (0, .ref h0), (1, .int 15)]) hx hb (show decode prog_15_method_110_code 6 = .ok (.istore_n 2, 1) by decide +kernel) rfl hl (by decide +kernel) rfl (fun ls hl => ?_)
  refine lv_iload_n hx hb (show decode prog_15_method_110_code 7 = .ok (.iload_n 1, 1) by decide +kernel) rfl (lv_at hl 2 rfl) ?_
  refine lv_tableIn (off := 255) (tgt := 263) hx hb dsw_prog_15_method_110_code_8 (by decide +kernel) (by decide +kernel) (by decide +kernel) (by decide +kernel) ?_
  refine lv_aload_n hx hb (show decode prog_15_method_110_code 263 = .ok (.aload_n 0, 1) by decide +kernel) rfl (lv_at hl 1 rfl) ?_
  refine va_get (D := D) (ci := 1) (v := .int 0) (C := R_MD) (T := F_MD) (N := 107) hx hb hts i_MD hown hK hP 0 rfl rfl 86 (by decide +kernel) (hts _ w_1648) (fun _ h9 => h9) (xg_ne (by decide +kernel) hf86) (show decode prog_15_method_110_code 264 = .ok (.getfield 515, 3) by decide +kernel) ?_
  refine lv_if_eq (tgt := 277) hx hb (show decode prog_15_method_110_code 267 = .ok (.ifCond .eq 10, 3) by decide +kernel) (by decide +kernel) (fun c_1 => ?_) (fun c_1 => absurd c_1 (by decide +kernel))
  refine lv_iconst (v := 0) hx hb (show decode prog_15_method_110_code 277 = .ok (.iconst 0, 1) by decide +kernel) (by decide +kernel) ?_
  exact W.iret (v := 0) hx hb hr (fun t ht hW => ⟨⟨0, (), rfl, (by decide +kernel), by rw [ht]; exact hP, va_K.moved hW.alike hK, hD⟩, hS.F ht⟩) hS.2.2 (show decode prog_15_method_110_code 278 = .ok (.ireturn, 1) by decide +kernel)
set_option maxHeartbeats 4000000 in
set_option maxRecDepth 100000 in
/-- SignalEngineModel.count -/
theorem c_MD_count_x (l : Launch) (D : va_G) (ad : Nat → Nat) (de sz : Nat) (h0 : Nat) (fs : List Value) (hfl : fs.length = 107) (hf42 : xfa fs 42 (.int 0)) (hf43 : xfa fs 43 (.int 0)) (hf45 : xfa fs 45 (.int 0)) (hf46 : xfa fs 46 (.int 0)) (hf44 : xfa fs 44 (.int 0)) (hf47 : xfa fs 47 (.int 0)) (hf48 : xfa fs 48 (.int 0)) (hf49 : xfa fs 49 (.int 0)) (hf41 : xfa fs 41 (.int 0)) (hf2 : xfa fs 2 (.int 0)) (hf83 : xfa fs 83 (.int 0)) (hf82 : xfa fs 82 (.int 0)) (hf85 : xfa fs 85 (.int 0)) (hf87 : xfa fs 87 (.int 0)) (hf86 : xfa fs 86 (.int 0)) (hf106 : xfa fs 106 (.int 0))  (p0 : Int32) (ho : p0.toInt < 0 ∨ 15 < p0.toInt) : Met l ⟨"SignalEngineModel", "count", "(I)I"⟩ (tw ⟨"SignalEngineModel", "count", "(I)I"⟩ prog_15_method_110_code 4 (some (.int))) { frames := 0, cells := 0, slots := 0, locals := 0 } (va_Pc [.ref h0, .int p0] (xp ad de D [(h0, .inr (1, fs))] [] sz)) (va_Qi (fun (r : Int32) (_ : Unit) => r = cnt p0) (fun (_ : Unit) t => xq D (va_A [(h0, .inr (1, fs))] sz) [(h0, .inr (1, (fs.set 0 (.int 0))))] [] t) (va_A [(h0, .inr (1, fs))] sz)) 0 0 (va_A [(h0, .inr (1, fs))] sz) := by
  refine xMet (by decide +kernel) (Nat.le_of_ble_eq_true rfl) ?_
  intro p e s m below meth c hx hb hr hlocks hin hml hown hts hsz hP hK hD hE hA ls hl
  have hS : va_S _ s.heap s.heap [] := va_S.rf (A := va_A [(h0, .inr (1, fs))] sz)
  have hl : lv_has ls 4 [(0, .ref h0), (1, .int p0)] := hl
  refine lv_aload_n hx hb (show decode prog_15_method_110_code 0 = .ok (.aload_n 0, 1) by decide +kernel) rfl (lv_at hl 0 rfl) ?_
  refine lv_iconst (v := 0) hx hb (show decode prog_15_method_110_code 1 = .ok (.iconst 0, 1) by decide +kernel) (by decide +kernel) ?_
  refine va_put (D := D) (ci := 1) (v := .int 0) (ty := .int) (C := R_MD) (T := F_MD) (N := 107) hx hb hts i_MD t_MD t_MD_ok n_MD hown hK hP hD hS 0 rfl rfl 0 (by decide +kernel) (hts _ w_1562) (fun _ h9 => h9) rfl (by decide +kernel) rfl rfl (by simp [hfl]) (show decode prog_15_method_110_code 2 = .ok (.putfield 206, 3) by decide +kernel) (fun H locs hP hD hS => ?_)
  have hP : va_P D cl [(h0, .inr (1, (fs.set 0 (.int 0))))] H := hP
  have hD : va_D _ [(h0, .inr (1, (fs.set 0 (.int 0))))] := hD
  refine lv_iconst (v := 0) hx hb (show decode prog_15_method_110_code 5 = .ok (.iconst 0, 1) by decide +kernel) (by decide +kernel) ?_
  refine lv_istore_n (lv' := [(2, .int 0), (0, .ref h0), (1, .int p0)]) hx hb (show decode prog_15_method_110_code 6 = .ok (.istore_n 2, 1) by decide +kernel) rfl hl (by decide +kernel) rfl (fun ls hl => ?_)
  refine lv_iload_n hx hb (show decode prog_15_method_110_code 7 = .ok (.iload_n 1, 1) by decide +kernel) rfl (lv_at hl 2 rfl) ?_
  refine lv_tableOut (tgt := 279) hx hb dsw_prog_15_method_110_code_8 ho (by decide +kernel) ?_
  refine lv_iconst (v := (-1)) hx hb (show decode prog_15_method_110_code 279 = .ok (.iconst (-1), 1) by decide +kernel) (by decide +kernel) ?_
  exact W.iret (v := (-1)) hx hb hr (fun t ht hW => ⟨⟨(-1), (), rfl, (cnt_out ho), by rw [ht]; exact hP, va_K.moved hW.alike hK, hD⟩, hS.F ht⟩) hS.2.2 (show decode prog_15_method_110_code 280 = .ok (.ireturn, 1) by decide +kernel)
