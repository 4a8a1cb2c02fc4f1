set_option maxHeartbeats 4000000 in
set_option maxRecDepth 100000 in
/-- SignalEngine.restart -/
theorem c_SE_restart0 (l : Launch) (hlt : l.stackTraces = false) (D : va_G) (ad : Nat → Nat) (de sz : Nat) (h0 : Nat) (fs : List Value) (hfl : fs.length = 14) (hf3 : xfa fs 3 (.null))   : xc_Met l ⟨"SignalEngine", "restart", "()I"⟩ (tw ⟨"SignalEngine", "restart", "()I"⟩ prog_1_method_10_code 2 (some (.int))) { frames := 6, cells := 1, slots := 6, locals := 90 } (va_Pc [.ref h0] (xp ad de D [(h0, .inr (0, fs))] [] sz)) (xc_Q "java/lang/IllegalStateException" (fun (_ : Unit) => True) (fun (_ : Unit) t => xq D (va_A [(h0, .inr (0, fs))] sz) [(h0, .inr (0, fs))] [] t) (va_A [(h0, .inr (0, fs))] sz)) 1 6 (va_A [(h0, .inr (0, fs))] sz) := by
  refine xMetT (by decide +kernel) (Nat.le_of_ble_eq_true rfl) ?_
  intro p e s m below meth c hx hb hr hlocks hout hml hown hts hsz hP hK hD hE hA ls hl
  have hS : va_S _ s.heap s.heap [] := va_S.rf (A := va_A [(h0, .inr (0, fs))] sz)
  have hl : lv_has ls 2 [(0, .ref h0)] := hl
  refine lv_aload_n hx hb (show decode prog_1_method_10_code 0 = .ok (.aload_n 0, 1) by decide +kernel) rfl (lv_at hl 0 rfl) ?_
  refine va_get (D := D) (ci := 0) (v := .null) (C := R_SE) (T := F_SE) (N := 14) hx hb hts i_SE hown hK hP 0 rfl rfl 3 (by decide +kernel) (hts _ w_45) (fun _ h9 => h9) hf3 (show decode prog_1_method_10_code 1 = .ok (.getfield 52, 3) by decide +kernel) ?_
  refine lv_ifnonnullN hx hb (show decode prog_1_method_10_code 4 = .ok (.ifnonnull 11, 3) by decide +kernel) ?_
  refine W.widen (k := 0) (n := 0) (by decide +kernel) (by decide +kernel) ?_
  exact xc_raise (own := "SignalEngine") (cls := "java/lang/IllegalStateException") (names := ex_up) (ia := 140) (ic := 142) hx hb hlt hown (by decide +kernel) (by decide +kernel) (fun w h => xn_at (exA_SignalEngine_142 w h) hts hE.1) exA_SignalEngine_142_two (hE.2.1.kept hS.2.1) (hl.1.trans hml.symm) (show decode prog_1_method_10_code 7 = .ok (.new 140, 3) by decide +kernel) (show decode prog_1_method_10_code 10 = .ok (.dup, 1) by decide +kernel) (show decode prog_1_method_10_code 11 = .ok (.invokespecial 142, 3) by decide +kernel) (show decode prog_1_method_10_code 14 = .ok (.athrow, 1) by decide +kernel) (fun x h => hout x h _) (Nat.le_of_ble_eq_true rfl) (Nat.le_of_ble_eq_true rfl) (Nat.le_of_ble_eq_true rfl) (Nat.le_of_ble_eq_true rfl) hS.2.2 (fun t hz hk hob hW => xc_fin (x := s.heap.size) hP hK hD hS hz hk hob hW) hlocks
set_option maxHeartbeats 4000000 in
set_option maxRecDepth 100000 in
/-- SignalEngine.instant -/
theorem c_SE_instant0 (l : Launch) (hlt : l.stackTraces = false) (D : va_G) (ad : Nat → Nat) (de sz : Nat) (h0 : Nat) (fs : List Value) (hfl : fs.length = 14) (hf3 : xfa fs 3 (.null))  (p0 : Int32) : xc_Met l ⟨"SignalEngine", "instant", "(I)I"⟩ (tw ⟨"SignalEngine", "instant", "(I)I"⟩ prog_1_method_12_code 3 (some (.int))) { frames := 6, cells := 1, slots := 6, locals := 90 } (va_Pc [.ref h0, .int p0] (xp ad de D [(h0, .inr (0, fs))] [] sz)) (xc_Q "java/lang/IllegalStateException" (fun (_ : Unit) => True) (fun (_ : Unit) t => xq D (va_A [(h0, .inr (0, fs))] sz) [(h0, .inr (0, fs))] [] t) (va_A [(h0, .inr (0, fs))] sz)) 1 6 (va_A [(h0, .inr (0, fs))] sz) := by
  refine xMetT (by decide +kernel) (Nat.le_of_ble_eq_true rfl) ?_
  intro p e s m below meth c hx hb hr hlocks hout hml hown hts hsz hP hK hD hE hA ls hl
  have hS : va_S _ s.heap s.heap [] := va_S.rf (A := va_A [(h0, .inr (0, fs))] sz)
  have hl : lv_has ls 3 [(0, .ref h0), (1, .int p0)] := hl
  refine lv_aload_n hx hb (show decode prog_1_method_12_code 0 = .ok (.aload_n 0, 1) by decide +kernel) rfl (lv_at hl 0 rfl) ?_
  refine va_get (D := D) (ci := 0) (v := .null) (C := R_SE) (T := F_SE) (N := 14) hx hb hts i_SE hown hK hP 0 rfl rfl 3 (by decide +kernel) (hts _ w_45) (fun _ h9 => h9) hf3 (show decode prog_1_method_12_code 1 = .ok (.getfield 52, 3) by decide +kernel) ?_
  refine lv_ifnullN (tgt := 14) hx hb (show decode prog_1_method_12_code 4 = .ok (.ifnull 10, 3) by decide +kernel) (by decide +kernel) ?_
  refine W.widen (k := 0) (n := 0) (by decide +kernel) (by decide +kernel) ?_
  exact xc_raise (own := "SignalEngine") (cls := "java/lang/IllegalStateException") (names := ex_up) (ia := 140) (ic := 142) hx hb hlt hown (by decide +kernel) (by decide +kernel) (fun w h => xn_at (exA_SignalEngine_142 w h) hts hE.1) exA_SignalEngine_142_two (hE.2.1.kept hS.2.1) (hl.1.trans hml.symm) (show decode prog_1_method_12_code 14 = .ok (.new 140, 3) by decide +kernel) (show decode prog_1_method_12_code 17 = .ok (.dup, 1) by decide +kernel) (show decode prog_1_method_12_code 18 = .ok (.invokespecial 142, 3) by decide +kernel) (show decode prog_1_method_12_code 21 = .ok (.athrow, 1) by decide +kernel) (fun x h => hout x h _) (Nat.le_of_ble_eq_true rfl) (Nat.le_of_ble_eq_true rfl) (Nat.le_of_ble_eq_true rfl) (Nat.le_of_ble_eq_true rfl) hS.2.2 (fun t hz hk hob hW => xc_fin (x := s.heap.size) hP hK hD hS hz hk hob hW) hlocks
set_option maxHeartbeats 4000000 in
set_option maxRecDepth 100000 in
/-- SignalEngine.go -/
theorem c_SE_go0 (l : Launch) (hlt : l.stackTraces = false) (D : va_G) (ad : Nat → Nat) (de sz : Nat) (h0 : Nat) (fs : List Value) (hfl : fs.length = 14) (hf12 : xfa fs 12 (.int 0))  (p0 : Int32) : xc_Met l ⟨"SignalEngine", "go", "(I)V"⟩ (tw ⟨"SignalEngine", "go", "(I)V"⟩ prog_1_method_15_code 2 none) { frames := 6, cells := 1, slots := 6, locals := 90 } (va_Pc [.ref h0, .int p0] (xp ad de D [(h0, .inr (0, fs))] [] sz)) (xc_Q "java/lang/IllegalStateException" (fun (_ : Unit) => True) (fun (_ : Unit) t => xq D (va_A [(h0, .inr (0, fs))] sz) [(h0, .inr (0, fs))] [] t) (va_A [(h0, .inr (0, fs))] sz)) 1 6 (va_A [(h0, .inr (0, fs))] sz) := by
  refine xMetT (by decide +kernel) (Nat.le_of_ble_eq_true rfl) ?_
  intro p e s m below meth c hx hb hr hlocks hout hml hown hts hsz hP hK hD hE hA ls hl
  have hS : va_S _ s.heap s.heap [] := va_S.rf (A := va_A [(h0, .inr (0, fs))] sz)
  have hl : lv_has ls 2 [(0, .ref h0), (1, .int p0)] := hl
  refine lv_aload_n hx hb (show decode prog_1_method_15_code 0 = .ok (.aload_n 0, 1) by decide +kernel) rfl (lv_at hl 0 rfl) ?_
  refine va_get (D := D) (ci := 0) (v := .int 0) (C := R_SE) (T := F_SE) (N := 14) hx hb hts i_SE hown hK hP 0 rfl rfl 12 (by decide +kernel) (hts _ w_54) (fun _ h9 => h9) hf12 (show decode prog_1_method_15_code 1 = .ok (.getfield 91, 3) by decide +kernel) ?_
  refine lv_if_ne (tgt := 15) hx hb (show decode prog_1_method_15_code 4 = .ok (.ifCond .ne 11, 3) by decide +kernel) (by decide +kernel) (fun c_1 => absurd c_1 (by decide +kernel)) (fun c_1 => ?_)
  refine W.widen (k := 0) (n := 0) (by decide +kernel) (by decide +kernel) ?_
  exact xc_raise (own := "SignalEngine") (cls := "java/lang/IllegalStateException") (names := ex_up) (ia := 140) (ic := 142) hx hb hlt hown (by decide +kernel) (by decide +kernel) (fun w h => xn_at (exA_SignalEngine_142 w h) hts hE.1) exA_SignalEngine_142_two (hE.2.1.kept hS.2.1) (hl.1.trans hml.symm) (show decode prog_1_method_15_code 7 = .ok (.new 140, 3) by decide +kernel) (show decode prog_1_method_15_code 10 = .ok (.dup, 1) by decide +kernel) (show decode prog_1_method_15_code 11 = .ok (.invokespecial 142, 3) by decide +kernel) (show decode prog_1_method_15_code 14 = .ok (.athrow, 1) by decide +kernel) (fun x h => hout x h _) (Nat.le_of_ble_eq_true rfl) (Nat.le_of_ble_eq_true rfl) (Nat.le_of_ble_eq_true rfl) (Nat.le_of_ble_eq_true rfl) hS.2.2 (fun t hz hk hob hW => xc_fin (x := s.heap.size) hP hK hD hS hz hk hob hW) hlocks
set_option maxHeartbeats 4000000 in
set_option maxRecDepth 100000 in
/-- SignalEngine.explore -/
theorem c_SE_explore0 (l : Launch) (hlt : l.stackTraces = false) (D : va_G) (ad : Nat → Nat) (de sz : Nat) (h0 : Nat) (fs : List Value) (hfl : fs.length = 14) (hf3 : xfa fs 3 (.null))   : xc_Met l ⟨"SignalEngine", "explore", "()I"⟩ (tw ⟨"SignalEngine", "explore", "()I"⟩ prog_1_method_16_code 1 (some (.int))) { frames := 6, cells := 1, slots := 6, locals := 90 } (va_Pc [.ref h0] (xp ad de D [(h0, .inr (0, fs))] [] sz)) (xc_Q "java/lang/IllegalStateException" (fun (_ : Unit) => True) (fun (_ : Unit) t => xq D (va_A [(h0, .inr (0, fs))] sz) [(h0, .inr (0, fs))] [] t) (va_A [(h0, .inr (0, fs))] sz)) 1 6 (va_A [(h0, .inr (0, fs))] sz) := by
  refine xMetT (by decide +kernel) (Nat.le_of_ble_eq_true rfl) ?_
  intro p e s m below meth c hx hb hr hlocks hout hml hown hts hsz hP hK hD hE hA ls hl
  have hS : va_S _ s.heap s.heap [] := va_S.rf (A := va_A [(h0, .inr (0, fs))] sz)
  have hl : lv_has ls 1 [(0, .ref h0)] := hl
  refine lv_aload_n hx hb (show decode prog_1_method_16_code 0 = .ok (.aload_n 0, 1) by decide +kernel) rfl (lv_at hl 0 rfl) ?_
  refine va_get (D := D) (ci := 0) (v := .null) (C := R_SE) (T := F_SE) (N := 14) hx hb hts i_SE hown hK hP 0 rfl rfl 3 (by decide +kernel) (hts _ w_45) (fun _ h9 => h9) hf3 (show decode prog_1_method_16_code 1 = .ok (.getfield 52, 3) by decide +kernel) ?_
  refine lv_ifnonnullN hx hb (show decode prog_1_method_16_code 4 = .ok (.ifnonnull 11, 3) by decide +kernel) ?_
  refine W.widen (k := 0) (n := 0) (by decide +kernel) (by decide +kernel) ?_
  exact xc_raise (own := "SignalEngine") (cls := "java/lang/IllegalStateException") (names := ex_up) (ia := 140) (ic := 142) hx hb hlt hown (by decide +kernel) (by decide +kernel) (fun w h => xn_at (exA_SignalEngine_142 w h) hts hE.1) exA_SignalEngine_142_two (hE.2.1.kept hS.2.1) (hl.1.trans hml.symm) (show decode prog_1_method_16_code 7 = .ok (.new 140, 3) by decide +kernel) (show decode prog_1_method_16_code 10 = .ok (.dup, 1) by decide +kernel) (show decode prog_1_method_16_code 11 = .ok (.invokespecial 142, 3) by decide +kernel) (show decode prog_1_method_16_code 14 = .ok (.athrow, 1) by decide +kernel) (fun x h => hout x h _) (Nat.le_of_ble_eq_true rfl) (Nat.le_of_ble_eq_true rfl) (Nat.le_of_ble_eq_true rfl) (Nat.le_of_ble_eq_true rfl) hS.2.2 (fun t hz hk hob hW => xc_fin (x := s.heap.size) hP hK hD hS hz hk hob hW) hlocks
set_option maxHeartbeats 4000000 in
set_option maxRecDepth 100000 in
/-- SignalEngine.next -/
theorem c_SE_next0 (l : Launch) (hlt : l.stackTraces = false) (D : va_G) (ad : Nat → Nat) (de sz : Nat) (h0 : Nat) (fs : List Value) (hfl : fs.length = 14) (hf12 : xfa fs 12 (.int 0))  (p0 : Int32) (p1 : Int32) : xc_Met l ⟨"SignalEngine", "next", "(II)I"⟩ (tw ⟨"SignalEngine", "next", "(II)I"⟩ prog_1_method_19_code 3 (some (.int))) { frames := 6, cells := 1, slots := 6, locals := 90 } (va_Pc [.ref h0, .int p0, .int p1] (xp ad de D [(h0, .inr (0, fs))] [] sz)) (xc_Q "java/lang/IllegalStateException" (fun (_ : Unit) => True) (fun (_ : Unit) t => xq D (va_A [(h0, .inr (0, fs))] sz) [(h0, .inr (0, fs))] [] t) (va_A [(h0, .inr (0, fs))] sz)) 1 6 (va_A [(h0, .inr (0, fs))] sz) := by
  refine xMetT (by decide +kernel) (Nat.le_of_ble_eq_true rfl) ?_
  intro p e s m below meth c hx hb hr hlocks hout hml hown hts hsz hP hK hD hE hA ls hl
  have hS : va_S _ s.heap s.heap [] := va_S.rf (A := va_A [(h0, .inr (0, fs))] sz)
  have hl : lv_has ls 3 [(0, .ref h0), (1, .int p0), (2, .int p1)] := hl
  refine lv_aload_n hx hb (show decode prog_1_method_19_code 0 = .ok (.aload_n 0, 1) by decide +kernel) rfl (lv_at hl 0 rfl) ?_
  refine va_get (D := D) (ci := 0) (v := .int 0) (C := R_SE) (T := F_SE) (N := 14) hx hb hts i_SE hown hK hP 0 rfl rfl 12 (by decide +kernel) (hts _ w_54) (fun _ h9 => h9) hf12 (show decode prog_1_method_19_code 1 = .ok (.getfield 91, 3) by decide +kernel) ?_
  refine lv_if_ne (tgt := 15) hx hb (show decode prog_1_method_19_code 4 = .ok (.ifCond .ne 11, 3) by decide +kernel) (by decide +kernel) (fun c_1 => absurd c_1 (by decide +kernel)) (fun c_1 => ?_)
  refine W.widen (k := 0) (n := 0) (by decide +kernel) (by decide +kernel) ?_
  exact xc_raise (own := "SignalEngine") (cls := "java/lang/IllegalStateException") (names := ex_up) (ia := 140) (ic := 142) hx hb hlt hown (by decide +kernel) (by decide +kernel) (fun w h => xn_at (exA_SignalEngine_142 w h) hts hE.1) exA_SignalEngine_142_two (hE.2.1.kept hS.2.1) (hl.1.trans hml.symm) (show decode prog_1_method_19_code 7 = .ok (.new 140, 3) by decide +kernel) (show decode prog_1_method_19_code 10 = .ok (.dup, 1) by decide +kernel) (show decode prog_1_method_19_code 11 = .ok (.invokespecial 142, 3) by decide +kernel) (show decode prog_1_method_19_code 14 = .ok (.athrow, 1) by decide +kernel) (fun x h => hout x h _) (Nat.le_of_ble_eq_true rfl) (Nat.le_of_ble_eq_true rfl) (Nat.le_of_ble_eq_true rfl) (Nat.le_of_ble_eq_true rfl) hS.2.2 (fun t hz hk hob hW => xc_fin (x := s.heap.size) hP hK hD hS hz hk hob hW) hlocks
set_option maxHeartbeats 4000000 in
set_option maxRecDepth 100000 in
/-- SignalEngine.shows -/
theorem c_SE_shows0 (l : Launch) (hlt : l.stackTraces = false) (D : va_G) (ad : Nat → Nat) (de sz : Nat) (h0 : Nat) (fs : List Value) (hfl : fs.length = 14) (hf12 : xfa fs 12 (.int 0))  (p0 : Int32) (p1 : Int32) : xc_Met l ⟨"SignalEngine", "shows", "(II)I"⟩ (tw ⟨"SignalEngine", "shows", "(II)I"⟩ prog_1_method_20_code 3 (some (.int))) { frames := 6, cells := 1, slots := 6, locals := 90 } (va_Pc [.ref h0, .int p0, .int p1] (xp ad de D [(h0, .inr (0, fs))] [] sz)) (xc_Q "java/lang/IllegalStateException" (fun (_ : Unit) => True) (fun (_ : Unit) t => xq D (va_A [(h0, .inr (0, fs))] sz) [(h0, .inr (0, fs))] [] t) (va_A [(h0, .inr (0, fs))] sz)) 1 6 (va_A [(h0, .inr (0, fs))] sz) := by
  refine xMetT (by decide +kernel) (Nat.le_of_ble_eq_true rfl) ?_
  intro p e s m below meth c hx hb hr hlocks hout hml hown hts hsz hP hK hD hE hA ls hl
  have hS : va_S _ s.heap s.heap [] := va_S.rf (A := va_A [(h0, .inr (0, fs))] sz)
  have hl : lv_has ls 3 [(0, .ref h0), (1, .int p0), (2, .int p1)] := hl
  refine lv_aload_n hx hb (show decode prog_1_method_20_code 0 = .ok (.aload_n 0, 1) by decide +kernel) rfl (lv_at hl 0 rfl) ?_
  refine va_get (D := D) (ci := 0) (v := .int 0) (C := R_SE) (T := F_SE) (N := 14) hx hb hts i_SE hown hK hP 0 rfl rfl 12 (by decide +kernel) (hts _ w_54) (fun _ h9 => h9) hf12 (show decode prog_1_method_20_code 1 = .ok (.getfield 91, 3) by decide +kernel) ?_
  refine lv_if_ne (tgt := 15) hx hb (show decode prog_1_method_20_code 4 = .ok (.ifCond .ne 11, 3) by decide +kernel) (by decide +kernel) (fun c_1 => absurd c_1 (by decide +kernel)) (fun c_1 => ?_)
  refine W.widen (k := 0) (n := 0) (by decide +kernel) (by decide +kernel) ?_
  exact xc_raise (own := "SignalEngine") (cls := "java/lang/IllegalStateException") (names := ex_up) (ia := 140) (ic := 142) hx hb hlt hown (by decide +kernel) (by decide +kernel) (fun w h => xn_at (exA_SignalEngine_142 w h) hts hE.1) exA_SignalEngine_142_two (hE.2.1.kept hS.2.1) (hl.1.trans hml.symm) (show decode prog_1_method_20_code 7 = .ok (.new 140, 3) by decide +kernel) (show decode prog_1_method_20_code 10 = .ok (.dup, 1) by decide +kernel) (show decode prog_1_method_20_code 11 = .ok (.invokespecial 142, 3) by decide +kernel) (show decode prog_1_method_20_code 14 = .ok (.athrow, 1) by decide +kernel) (fun x h => hout x h _) (Nat.le_of_ble_eq_true rfl) (Nat.le_of_ble_eq_true rfl) (Nat.le_of_ble_eq_true rfl) (Nat.le_of_ble_eq_true rfl) hS.2.2 (fun t hz hk hob hW => xc_fin (x := s.heap.size) hP hK hD hS hz hk hob hW) hlocks
set_option maxHeartbeats 4000000 in
set_option maxRecDepth 100000 in
/-- SignalEngine.classes -/
theorem c_SE_classes0 (l : Launch) (hlt : l.stackTraces = false) (D : va_G) (ad : Nat → Nat) (de sz : Nat) (h0 : Nat) (fs : List Value) (hfl : fs.length = 14) (hf12 : xfa fs 12 (.int 0))   : xc_Met l ⟨"SignalEngine", "classes", "()I"⟩ (tw ⟨"SignalEngine", "classes", "()I"⟩ prog_1_method_24_code 1 (some (.int))) { frames := 6, cells := 1, slots := 6, locals := 90 } (va_Pc [.ref h0] (xp ad de D [(h0, .inr (0, fs))] [] sz)) (xc_Q "java/lang/IllegalStateException" (fun (_ : Unit) => True) (fun (_ : Unit) t => xq D (va_A [(h0, .inr (0, fs))] sz) [(h0, .inr (0, fs))] [] t) (va_A [(h0, .inr (0, fs))] sz)) 1 6 (va_A [(h0, .inr (0, fs))] sz) := by
  refine xMetT (by decide +kernel) (Nat.le_of_ble_eq_true rfl) ?_
  intro p e s m below meth c hx hb hr hlocks hout hml hown hts hsz hP hK hD hE hA ls hl
  have hS : va_S _ s.heap s.heap [] := va_S.rf (A := va_A [(h0, .inr (0, fs))] sz)
  have hl : lv_has ls 1 [(0, .ref h0)] := hl
  refine lv_aload_n hx hb (show decode prog_1_method_24_code 0 = .ok (.aload_n 0, 1) by decide +kernel) rfl (lv_at hl 0 rfl) ?_
  refine va_get (D := D) (ci := 0) (v := .int 0) (C := R_SE) (T := F_SE) (N := 14) hx hb hts i_SE hown hK hP 0 rfl rfl 12 (by decide +kernel) (hts _ w_54) (fun _ h9 => h9) hf12 (show decode prog_1_method_24_code 1 = .ok (.getfield 91, 3) by decide +kernel) ?_
  refine lv_if_ne (tgt := 15) hx hb (show decode prog_1_method_24_code 4 = .ok (.ifCond .ne 11, 3) by decide +kernel) (by decide +kernel) (fun c_1 => absurd c_1 (by decide +kernel)) (fun c_1 => ?_)
  refine W.widen (k := 0) (n := 0) (by decide +kernel) (by decide +kernel) ?_
  exact xc_raise (own := "SignalEngine") (cls := "java/lang/IllegalStateException") (names := ex_up) (ia := 140) (ic := 142) hx hb hlt hown (by decide +kernel) (by decide +kernel) (fun w h => xn_at (exA_SignalEngine_142 w h) hts hE.1) exA_SignalEngine_142_two (hE.2.1.kept hS.2.1) (hl.1.trans hml.symm) (show decode prog_1_method_24_code 7 = .ok (.new 140, 3) by decide +kernel) (show decode prog_1_method_24_code 10 = .ok (.dup, 1) by decide +kernel) (show decode prog_1_method_24_code 11 = .ok (.invokespecial 142, 3) by decide +kernel) (show decode prog_1_method_24_code 14 = .ok (.athrow, 1) by decide +kernel) (fun x h => hout x h _) (Nat.le_of_ble_eq_true rfl) (Nat.le_of_ble_eq_true rfl) (Nat.le_of_ble_eq_true rfl) (Nat.le_of_ble_eq_true rfl) hS.2.2 (fun t hz hk hob hW => xc_fin (x := s.heap.size) hP hK hD hS hz hk hob hW) hlocks
set_option maxHeartbeats 4000000 in
set_option maxRecDepth 100000 in
/-- SignalEngine.lay -/
theorem c_SE_lay0 (l : Launch) (hlt : l.stackTraces = false) (D : va_G) (ad : Nat → Nat) (de sz : Nat) (h0 : Nat) (fs : List Value) (hfl : fs.length = 14) (hf12 : xfa fs 12 (.int 0))   : xc_Met l ⟨"SignalEngine", "lay", "()I"⟩ (tw ⟨"SignalEngine", "lay", "()I"⟩ prog_1_method_26_code 1 (some (.int))) { frames := 6, cells := 1, slots := 6, locals := 90 } (va_Pc [.ref h0] (xp ad de D [(h0, .inr (0, fs))] [] sz)) (xc_Q "java/lang/IllegalStateException" (fun (_ : Unit) => True) (fun (_ : Unit) t => xq D (va_A [(h0, .inr (0, fs))] sz) [(h0, .inr (0, fs))] [] t) (va_A [(h0, .inr (0, fs))] sz)) 1 6 (va_A [(h0, .inr (0, fs))] sz) := by
  refine xMetT (by decide +kernel) (Nat.le_of_ble_eq_true rfl) ?_
  intro p e s m below meth c hx hb hr hlocks hout hml hown hts hsz hP hK hD hE hA ls hl
  have hS : va_S _ s.heap s.heap [] := va_S.rf (A := va_A [(h0, .inr (0, fs))] sz)
  have hl : lv_has ls 1 [(0, .ref h0)] := hl
  refine lv_aload_n hx hb (show decode prog_1_method_26_code 0 = .ok (.aload_n 0, 1) by decide +kernel) rfl (lv_at hl 0 rfl) ?_
  refine va_get (D := D) (ci := 0) (v := .int 0) (C := R_SE) (T := F_SE) (N := 14) hx hb hts i_SE hown hK hP 0 rfl rfl 12 (by decide +kernel) (hts _ w_54) (fun _ h9 => h9) hf12 (show decode prog_1_method_26_code 1 = .ok (.getfield 91, 3) by decide +kernel) ?_
  refine lv_if_ne (tgt := 15) hx hb (show decode prog_1_method_26_code 4 = .ok (.ifCond .ne 11, 3) by decide +kernel) (by decide +kernel) (fun c_1 => absurd c_1 (by decide +kernel)) (fun c_1 => ?_)
  refine W.widen (k := 0) (n := 0) (by decide +kernel) (by decide +kernel) ?_
  exact xc_raise (own := "SignalEngine") (cls := "java/lang/IllegalStateException") (names := ex_up) (ia := 140) (ic := 142) hx hb hlt hown (by decide +kernel) (by decide +kernel) (fun w h => xn_at (exA_SignalEngine_142 w h) hts hE.1) exA_SignalEngine_142_two (hE.2.1.kept hS.2.1) (hl.1.trans hml.symm) (show decode prog_1_method_26_code 7 = .ok (.new 140, 3) by decide +kernel) (show decode prog_1_method_26_code 10 = .ok (.dup, 1) by decide +kernel) (show decode prog_1_method_26_code 11 = .ok (.invokespecial 142, 3) by decide +kernel) (show decode prog_1_method_26_code 14 = .ok (.athrow, 1) by decide +kernel) (fun x h => hout x h _) (Nat.le_of_ble_eq_true rfl) (Nat.le_of_ble_eq_true rfl) (Nat.le_of_ble_eq_true rfl) (Nat.le_of_ble_eq_true rfl) hS.2.2 (fun t hz hk hob hW => xc_fin (x := s.heap.size) hP hK hD hS hz hk hob hW) hlocks
set_option maxHeartbeats 4000000 in
set_option maxRecDepth 100000 in
/-- SignalEngine.pass -/
theorem c_SE_pass0 (l : Launch) (hlt : l.stackTraces = false) (D : va_G) (ad : Nat → Nat) (de sz : Nat) (h0 : Nat) (fs : List Value) (hfl : fs.length = 14) (hf13 : xfa fs 13 (.int 0))  (p0 : Int32) : xc_Met l ⟨"SignalEngine", "pass", "(I)J"⟩ (tw ⟨"SignalEngine", "pass", "(I)J"⟩ prog_1_method_27_code 2 (some (.long))) { frames := 6, cells := 1, slots := 6, locals := 90 } (va_Pc [.ref h0, .int p0] (xp ad de D [(h0, .inr (0, fs))] [] sz)) (xc_Q "java/lang/IllegalStateException" (fun (_ : Unit) => True) (fun (_ : Unit) t => xq D (va_A [(h0, .inr (0, fs))] sz) [(h0, .inr (0, fs))] [] t) (va_A [(h0, .inr (0, fs))] sz)) 1 6 (va_A [(h0, .inr (0, fs))] sz) := by
  refine xMetT (by decide +kernel) (Nat.le_of_ble_eq_true rfl) ?_
  intro p e s m below meth c hx hb hr hlocks hout hml hown hts hsz hP hK hD hE hA ls hl
  have hS : va_S _ s.heap s.heap [] := va_S.rf (A := va_A [(h0, .inr (0, fs))] sz)
  have hl : lv_has ls 2 [(0, .ref h0), (1, .int p0)] := hl
  refine lv_aload_n hx hb (show decode prog_1_method_27_code 0 = .ok (.aload_n 0, 1) by decide +kernel) rfl (lv_at hl 0 rfl) ?_
  refine va_get (D := D) (ci := 0) (v := .int 0) (C := R_SE) (T := F_SE) (N := 14) hx hb hts i_SE hown hK hP 0 rfl rfl 13 (by decide +kernel) (hts _ w_55) (fun _ h9 => h9) hf13 (show decode prog_1_method_27_code 1 = .ok (.getfield 94, 3) by decide +kernel) ?_
  refine lv_if_ne (tgt := 15) hx hb (show decode prog_1_method_27_code 4 = .ok (.ifCond .ne 11, 3) by decide +kernel) (by decide +kernel) (fun c_1 => absurd c_1 (by decide +kernel)) (fun c_1 => ?_)
  refine W.widen (k := 0) (n := 0) (by decide +kernel) (by decide +kernel) ?_
  exact xc_raise (own := "SignalEngine") (cls := "java/lang/IllegalStateException") (names := ex_up) (ia := 140) (ic := 142) hx hb hlt hown (by decide +kernel) (by decide +kernel) (fun w h => xn_at (exA_SignalEngine_142 w h) hts hE.1) exA_SignalEngine_142_two (hE.2.1.kept hS.2.1) (hl.1.trans hml.symm) (show decode prog_1_method_27_code 7 = .ok (.new 140, 3) by decide +kernel) (show decode prog_1_method_27_code 10 = .ok (.dup, 1) by decide +kernel) (show decode prog_1_method_27_code 11 = .ok (.invokespecial 142, 3) by decide +kernel) (show decode prog_1_method_27_code 14 = .ok (.athrow, 1) by decide +kernel) (fun x h => hout x h _) (Nat.le_of_ble_eq_true rfl) (Nat.le_of_ble_eq_true rfl) (Nat.le_of_ble_eq_true rfl) (Nat.le_of_ble_eq_true rfl) hS.2.2 (fun t hz hk hob hW => xc_fin (x := s.heap.size) hP hK hD hS hz hk hob hW) hlocks
