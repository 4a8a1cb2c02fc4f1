set_option maxHeartbeats 4000000 in
set_option maxRecDepth 100000 in
/-- SignalEngineLaw.restart -/
theorem c_LW_restart0 (l : Launch) (hlt : l.stackTraces = false) (D : va_G) (ad : Nat → Nat) (de sz : Nat) (h0 : Nat) (fs : List Value) (hfl : fs.length = 14) (hf3 : xfa fs 3 (.null))  (o0 : Nat) : Met l ⟨"SignalEngineLaw", "restart", "(LSignalEngine;[J)I"⟩ (.codeWith ⟨"SignalEngineLaw", "restart", "(LSignalEngine;[J)I"⟩ method_3_code 3 (some (.int)) [(0, 8, 11, 13)] :: tt) { frames := 7, cells := 1, slots := 6, locals := 111 } (va_Pc [.ref h0, .ref o0] (xp ad de D [(h0, .inr (0, fs))] [] sz)) (va_Qi (fun (r : Int32) (_ : Unit) => r = 1) (fun (_ : Unit) t => xq D (va_A [(h0, .inr (0, fs))] sz) [(h0, .inr (0, fs))] [] t) (va_A [(h0, .inr (0, fs))] sz)) 1 6 (va_A [(h0, .inr (0, fs))] sz) := by
  refine xMetH (by decide +kernel) (Nat.le_of_ble_eq_true rfl) ?_
  intro p e s m below meth c hx hb hr hlocks htab hml hown hts hsz hP hK hD hE hA ls hl
  have hS : va_S _ s.heap s.heap [] := va_S.rf (A := va_A [(h0, .inr (0, fs))] sz)
  have hl : lv_has ls 3 [(0, .ref h0), (1, .ref o0)] := hl
  refine lv_aload_n hx hb (show decode method_3_code 0 = .ok (.aload_n 1, 1) by decide +kernel) rfl (lv_at hl 1 rfl) ?_
  refine lv_iconst (v := 0) hx hb (show decode method_3_code 1 = .ok (.iconst 0, 1) by decide +kernel) (by decide +kernel) ?_
  refine lv_aload_n hx hb (show decode method_3_code 2 = .ok (.aload_n 0, 1) by decide +kernel) rfl (lv_at hl 0 rfl) ?_
  refine xkc (own := "SignalEngineLaw") (wr := []) (xrT (As := []) (rest := [.int 0, .ref o0]) ⟨hx, hb, hml, hown, hts⟩ (c_SE_restart0 l hlt D ad de s.heap.size h0 fs hfl hf3) w_1152 w_1 w_1149 w_1150 w_1151 rfl rfl ⟨by decide +kernel, by decide +kernel, rfl⟩ ⟨by decide +kernel, by decide +kernel⟩ hP hK hD hE hS hA [0] [] rfl (by decide +kernel) rfl ⟨0, 0, _, _, rfl, rfl, rfl⟩ hl.1 rfl (Nat.le_of_ble_eq_true rfl) (show decode method_3_code 3 = .ok (.invokevirtual 7, 3) by decide +kernel) ⟨by decide +kernel, by decide +kernel⟩) hP hK hD hS hA [0] [] rfl rfl (by decide +kernel) (by decide +kernel) hown htab (by decide +kernel) (by decide +kernel) (hts _ w_1148) (fun u x H locs hob hw hP hK hD hS => ?_)
  have hP : va_P D cl [(h0, .inr (0, fs))] H := hP
  have hD : va_D _ [(h0, .inr (0, fs))] := hD
  refine W.widen (k := 1) (n := 6) (by decide +kernel) (by decide +kernel) ?_
  refine lv_astore_n (lv' := [(2, .ref x), (0, .ref h0), (1, .ref o0)]) hx hb (show decode method_3_code 11 = .ok (.astore_n 2, 1) by decide +kernel) rfl hl (by decide +kernel) rfl (fun ls hl => ?_)
  refine lv_iconst (v := 1) hx hb (show decode method_3_code 12 = .ok (.iconst 1, 1) by decide +kernel) (by decide +kernel) ?_
  exact W.iret (v := 1) hx hb hr (fun t ht hW => ⟨⟨1, (), rfl, rfl, by rw [ht]; exact hP, va_K.moved hW.alike hK, hD⟩, hS.F ht⟩) hS.2.2 (show decode method_3_code 13 = .ok (.ireturn, 1) by decide +kernel)
set_option maxHeartbeats 4000000 in
set_option maxRecDepth 100000 in
/-- SignalEngineLaw.instant -/
theorem c_LW_instant0 (l : Launch) (hlt : l.stackTraces = false) (D : va_G) (ad : Nat → Nat) (de sz : Nat) (h0 : Nat) (fs : List Value) (hfl : fs.length = 14) (hf3 : xfa fs 3 (.null))  (p0 : Int32) (o1 : Nat) : Met l ⟨"SignalEngineLaw", "instant", "(LSignalEngine;I[J)I"⟩ (.codeWith ⟨"SignalEngineLaw", "instant", "(LSignalEngine;I[J)I"⟩ method_4_code 4 (some (.int)) [(0, 9, 12, 13), (0, 9, 15, 19)] :: tt) { frames := 7, cells := 1, slots := 6, locals := 112 } (va_Pc [.ref h0, .int p0, .ref o1] (xp ad de D [(h0, .inr (0, fs))] [] sz)) (va_Qi (fun (r : Int32) (_ : Unit) => r = 1) (fun (_ : Unit) t => xq D (va_A [(h0, .inr (0, fs))] sz) [(h0, .inr (0, fs))] [] t) (va_A [(h0, .inr (0, fs))] sz)) 1 6 (va_A [(h0, .inr (0, fs))] sz) := by
  refine xMetH (by decide +kernel) (Nat.le_of_ble_eq_true rfl) ?_
  intro p e s m below meth c hx hb hr hlocks htab hml hown hts hsz hP hK hD hE hA ls hl
  have hS : va_S _ s.heap s.heap [] := va_S.rf (A := va_A [(h0, .inr (0, fs))] sz)
  have hl : lv_has ls 4 [(0, .ref h0), (1, .int p0), (2, .ref o1)] := hl
  refine lv_aload_n hx hb (show decode method_4_code 0 = .ok (.aload_n 2, 1) by decide +kernel) rfl (lv_at hl 2 rfl) ?_
  refine lv_iconst (v := 0) hx hb (show decode method_4_code 1 = .ok (.iconst 0, 1) by decide +kernel) (by decide +kernel) ?_
  refine lv_aload_n hx hb (show decode method_4_code 2 = .ok (.aload_n 0, 1) by decide +kernel) rfl (lv_at hl 0 rfl) ?_
  refine lv_iload_n hx hb (show decode method_4_code 3 = .ok (.iload_n 1, 1) by decide +kernel) rfl (lv_at hl 1 rfl) ?_
  refine xkc (own := "SignalEngineLaw") (wr := []) (xrT (As := [.int p0]) (rest := [.int 0, .ref o1]) ⟨hx, hb, hml, hown, hts⟩ (c_SE_instant0 l hlt D ad de s.heap.size h0 fs hfl hf3 p0) w_1182 w_1 w_1179 w_1180 w_1181 rfl rfl ⟨by decide +kernel, by decide +kernel, rfl⟩ ⟨by decide +kernel, by decide +kernel⟩ hP hK hD hE hS hA [0] [] rfl (by decide +kernel) rfl ⟨0, 0, _, _, rfl, rfl, rfl⟩ hl.1 rfl (Nat.le_of_ble_eq_true rfl) (show decode method_4_code 4 = .ok (.invokevirtual 15, 3) by decide +kernel) ⟨by decide +kernel, by decide +kernel⟩) hP hK hD hS hA [0] [] rfl rfl (by decide +kernel) (by decide +kernel) hown htab (by decide +kernel) (by decide +kernel) (hts _ w_1148) (fun u x H locs hob hw hP hK hD hS => ?_)
  have hP : va_P D cl [(h0, .inr (0, fs))] H := hP
  have hD : va_D _ [(h0, .inr (0, fs))] := hD
  refine W.widen (k := 1) (n := 6) (by decide +kernel) (by decide +kernel) ?_
  refine lv_astore_n (lv' := [(3, .ref x), (0, .ref h0), (1, .int p0), (2, .ref o1)]) hx hb (show decode method_4_code 12 = .ok (.astore_n 3, 1) by decide +kernel) rfl hl (by decide +kernel) rfl (fun ls hl => ?_)
  refine lv_iconst (v := 1) hx hb (show decode method_4_code 13 = .ok (.iconst 1, 1) by decide +kernel) (by decide +kernel) ?_
  exact W.iret (v := 1) hx hb hr (fun t ht hW => ⟨⟨1, (), rfl, rfl, by rw [ht]; exact hP, va_K.moved hW.alike hK, hD⟩, hS.F ht⟩) hS.2.2 (show decode method_4_code 14 = .ok (.ireturn, 1) by decide +kernel)
set_option maxHeartbeats 4000000 in
set_option maxRecDepth 100000 in
/-- SignalEngineLaw.go -/
theorem c_LW_go0 (l : Launch) (hlt : l.stackTraces = false) (D : va_G) (ad : Nat → Nat) (de sz : Nat) (h0 : Nat) (fs : List Value) (hfl : fs.length = 14) (hf12 : xfa fs 12 (.int 0))  (p0 : Int32) : Met l ⟨"SignalEngineLaw", "go", "(LSignalEngine;I)I"⟩ (.codeWith ⟨"SignalEngineLaw", "go", "(LSignalEngine;I)I"⟩ method_5_code 3 (some (.int)) [(0, 5, 8, 13), (0, 5, 11, 19)] :: tt) { frames := 7, cells := 1, slots := 6, locals := 111 } (va_Pc [.ref h0, .int p0] (xp ad de D [(h0, .inr (0, fs))] [] sz)) (va_Qi (fun (r : Int32) (_ : Unit) => r = 1) (fun (_ : Unit) t => xq D (va_A [(h0, .inr (0, fs))] sz) [(h0, .inr (0, fs))] [] t) (va_A [(h0, .inr (0, fs))] sz)) 1 6 (va_A [(h0, .inr (0, fs))] sz) := by
  refine xMetH (by decide +kernel) (Nat.le_of_ble_eq_true rfl) ?_
  intro p e s m below meth c hx hb hr hlocks htab hml hown hts hsz hP hK hD hE hA ls hl
  have hS : va_S _ s.heap s.heap [] := va_S.rf (A := va_A [(h0, .inr (0, fs))] sz)
  have hl : lv_has ls 3 [(0, .ref h0), (1, .int p0)] := hl
  refine lv_aload_n hx hb (show decode method_5_code 0 = .ok (.aload_n 0, 1) by decide +kernel) rfl (lv_at hl 0 rfl) ?_
  refine lv_iload_n hx hb (show decode method_5_code 1 = .ok (.iload_n 1, 1) by decide +kernel) rfl (lv_at hl 1 rfl) ?_
  refine xkc (own := "SignalEngineLaw") (wr := []) (xrT (As := [.int p0]) (rest := []) ⟨hx, hb, hml, hown, hts⟩ (c_SE_go0 l hlt D ad de s.heap.size h0 fs hfl hf12 p0) w_1302 w_1 w_1299 w_1300 w_1301 rfl rfl ⟨by decide +kernel, by decide +kernel, rfl⟩ ⟨by decide +kernel, by decide +kernel⟩ hP hK hD hE hS hA [0] [] rfl (by decide +kernel) rfl ⟨0, 0, _, _, rfl, rfl, rfl⟩ hl.1 rfl (Nat.le_of_ble_eq_true rfl) (show decode method_5_code 2 = .ok (.invokevirtual 21, 3) by decide +kernel) ⟨by decide +kernel, by decide +kernel⟩) hP hK hD hS hA [0] [] rfl rfl (by decide +kernel) (by decide +kernel) hown htab (by decide +kernel) (by decide +kernel) (hts _ w_1148) (fun u x H locs hob hw hP hK hD hS => ?_)
  have hP : va_P D cl [(h0, .inr (0, fs))] H := hP
  have hD : va_D _ [(h0, .inr (0, fs))] := hD
  refine W.widen (k := 1) (n := 6) (by decide +kernel) (by decide +kernel) ?_
  refine lv_astore_n (lv' := [(2, .ref x), (0, .ref h0), (1, .int p0)]) hx hb (show decode method_5_code 8 = .ok (.astore_n 2, 1) by decide +kernel) rfl hl (by decide +kernel) rfl (fun ls hl => ?_)
  refine lv_iconst (v := 1) hx hb (show decode method_5_code 9 = .ok (.iconst 1, 1) by decide +kernel) (by decide +kernel) ?_
  exact W.iret (v := 1) hx hb hr (fun t ht hW => ⟨⟨1, (), rfl, rfl, by rw [ht]; exact hP, va_K.moved hW.alike hK, hD⟩, hS.F ht⟩) hS.2.2 (show decode method_5_code 10 = .ok (.ireturn, 1) by decide +kernel)
set_option maxHeartbeats 4000000 in
set_option maxRecDepth 100000 in
/-- SignalEngineLaw.explore -/
theorem c_LW_explore0 (l : Launch) (hlt : l.stackTraces = false) (D : va_G) (ad : Nat → Nat) (de sz : Nat) (h0 : Nat) (fs : List Value) (hfl : fs.length = 14) (hf3 : xfa fs 3 (.null))  (o0 : Nat) : Met l ⟨"SignalEngineLaw", "explore", "(LSignalEngine;[J)I"⟩ (.codeWith ⟨"SignalEngineLaw", "explore", "(LSignalEngine;[J)I"⟩ method_6_code 3 (some (.int)) [(0, 8, 11, 13)] :: tt) { frames := 7, cells := 1, slots := 6, locals := 110 } (va_Pc [.ref h0, .ref o0] (xp ad de D [(h0, .inr (0, fs))] [] sz)) (va_Qi (fun (r : Int32) (_ : Unit) => r = 1) (fun (_ : Unit) t => xq D (va_A [(h0, .inr (0, fs))] sz) [(h0, .inr (0, fs))] [] t) (va_A [(h0, .inr (0, fs))] sz)) 1 6 (va_A [(h0, .inr (0, fs))] sz) := by
  refine xMetH (by decide +kernel) (Nat.le_of_ble_eq_true rfl) ?_
  intro p e s m below meth c hx hb hr hlocks htab hml hown hts hsz hP hK hD hE hA ls hl
  have hS : va_S _ s.heap s.heap [] := va_S.rf (A := va_A [(h0, .inr (0, fs))] sz)
  have hl : lv_has ls 3 [(0, .ref h0), (1, .ref o0)] := hl
  refine lv_aload_n hx hb (show decode method_6_code 0 = .ok (.aload_n 1, 1) by decide +kernel) rfl (lv_at hl 1 rfl) ?_
  refine lv_iconst (v := 0) hx hb (show decode method_6_code 1 = .ok (.iconst 0, 1) by decide +kernel) (by decide +kernel) ?_
  refine lv_aload_n hx hb (show decode method_6_code 2 = .ok (.aload_n 0, 1) by decide +kernel) rfl (lv_at hl 0 rfl) ?_
  refine xkc (own := "SignalEngineLaw") (wr := []) (xrT (As := []) (rest := [.int 0, .ref o0]) ⟨hx, hb, hml, hown, hts⟩ (c_SE_explore0 l hlt D ad de s.heap.size h0 fs hfl hf3) w_1309 w_1 w_1306 w_1307 w_1308 rfl rfl ⟨by decide +kernel, by decide +kernel, rfl⟩ ⟨by decide +kernel, by decide +kernel⟩ hP hK hD hE hS hA [0] [] rfl (by decide +kernel) rfl ⟨0, 0, _, _, rfl, rfl, rfl⟩ hl.1 rfl (Nat.le_of_ble_eq_true rfl) (show decode method_6_code 3 = .ok (.invokevirtual 25, 3) by decide +kernel) ⟨by decide +kernel, by decide +kernel⟩) hP hK hD hS hA [0] [] rfl rfl (by decide +kernel) (by decide +kernel) hown htab (by decide +kernel) (by decide +kernel) (hts _ w_1148) (fun u x H locs hob hw hP hK hD hS => ?_)
  have hP : va_P D cl [(h0, .inr (0, fs))] H := hP
  have hD : va_D _ [(h0, .inr (0, fs))] := hD
  refine W.widen (k := 1) (n := 6) (by decide +kernel) (by decide +kernel) ?_
  refine lv_astore_n (lv' := [(2, .ref x), (0, .ref h0), (1, .ref o0)]) hx hb (show decode method_6_code 11 = .ok (.astore_n 2, 1) by decide +kernel) rfl hl (by decide +kernel) rfl (fun ls hl => ?_)
  refine lv_iconst (v := 1) hx hb (show decode method_6_code 12 = .ok (.iconst 1, 1) by decide +kernel) (by decide +kernel) ?_
  exact W.iret (v := 1) hx hb hr (fun t ht hW => ⟨⟨1, (), rfl, rfl, by rw [ht]; exact hP, va_K.moved hW.alike hK, hD⟩, hS.F ht⟩) hS.2.2 (show decode method_6_code 13 = .ok (.ireturn, 1) by decide +kernel)
set_option maxHeartbeats 4000000 in
set_option maxRecDepth 100000 in
/-- SignalEngineLaw.next -/
theorem c_LW_next0 (l : Launch) (hlt : l.stackTraces = false) (D : va_G) (ad : Nat → Nat) (de sz : Nat) (h0 : Nat) (fs : List Value) (hfl : fs.length = 14) (hf12 : xfa fs 12 (.int 0))  (p0 : Int32) (p1 : Int32) (o2 : Nat) : Met l ⟨"SignalEngineLaw", "next", "(LSignalEngine;II[J)I"⟩ (.codeWith ⟨"SignalEngineLaw", "next", "(LSignalEngine;II[J)I"⟩ method_7_code 5 (some (.int)) [(0, 10, 13, 13)] :: tt) { frames := 7, cells := 1, slots := 6, locals := 112 } (va_Pc [.ref h0, .int p0, .int p1, .ref o2] (xp ad de D [(h0, .inr (0, fs))] [] sz)) (va_Qi (fun (r : Int32) (_ : Unit) => r = 1) (fun (_ : Unit) t => xq D (va_A [(h0, .inr (0, fs))] sz) [(h0, .inr (0, fs))] [] t) (va_A [(h0, .inr (0, fs))] sz)) 1 6 (va_A [(h0, .inr (0, fs))] sz) := by
  refine xMetH (by decide +kernel) (Nat.le_of_ble_eq_true rfl) ?_
  intro p e s m below meth c hx hb hr hlocks htab hml hown hts hsz hP hK hD hE hA ls hl
  have hS : va_S _ s.heap s.heap [] := va_S.rf (A := va_A [(h0, .inr (0, fs))] sz)
  have hl : lv_has ls 5 [(0, .ref h0), (1, .int p0), (2, .int p1), (3, .ref o2)] := hl
  refine lv_aload_n hx hb (show decode method_7_code 0 = .ok (.aload_n 3, 1) by decide +kernel) rfl (lv_at hl 3 rfl) ?_
  refine lv_iconst (v := 0) hx hb (show decode method_7_code 1 = .ok (.iconst 0, 1) by decide +kernel) (by decide +kernel) ?_
  refine lv_aload_n hx hb (show decode method_7_code 2 = .ok (.aload_n 0, 1) by decide +kernel) rfl (lv_at hl 0 rfl) ?_
  refine lv_iload_n hx hb (show decode method_7_code 3 = .ok (.iload_n 1, 1) by decide +kernel) rfl (lv_at hl 1 rfl) ?_
  refine lv_iload_n hx hb (show decode method_7_code 4 = .ok (.iload_n 2, 1) by decide +kernel) rfl (lv_at hl 2 rfl) ?_
  refine xkc (own := "SignalEngineLaw") (wr := []) (xrT (As := [.int p0, .int p1]) (rest := [.int 0, .ref o2]) ⟨hx, hb, hml, hown, hts⟩ (c_SE_next0 l hlt D ad de s.heap.size h0 fs hfl hf12 p0 p1) w_1425 w_1 w_1422 w_1423 w_1424 rfl rfl ⟨by decide +kernel, by decide +kernel, rfl⟩ ⟨by decide +kernel, by decide +kernel⟩ hP hK hD hE hS hA [0] [] rfl (by decide +kernel) rfl ⟨0, 0, _, _, rfl, rfl, rfl⟩ hl.1 rfl (Nat.le_of_ble_eq_true rfl) (show decode method_7_code 5 = .ok (.invokevirtual 28, 3) by decide +kernel) ⟨by decide +kernel, by decide +kernel⟩) hP hK hD hS hA [0] [] rfl rfl (by decide +kernel) (by decide +kernel) hown htab (by decide +kernel) (by decide +kernel) (hts _ w_1148) (fun u x H locs hob hw hP hK hD hS => ?_)
  have hP : va_P D cl [(h0, .inr (0, fs))] H := hP
  have hD : va_D _ [(h0, .inr (0, fs))] := hD
  refine W.widen (k := 1) (n := 6) (by decide +kernel) (by decide +kernel) ?_
  refine lv_astore (lv' := [(4, .ref x), (0, .ref h0), (1, .int p0), (2, .int p1), (3, .ref o2)]) hx hb (show decode method_7_code 13 = .ok (.astore 4, 2) by decide +kernel) hl (by decide +kernel) rfl (fun ls hl => ?_)
  refine lv_iconst (v := 1) hx hb (show decode method_7_code 15 = .ok (.iconst 1, 1) by decide +kernel) (by decide +kernel) ?_
  exact W.iret (v := 1) hx hb hr (fun t ht hW => ⟨⟨1, (), rfl, rfl, by rw [ht]; exact hP, va_K.moved hW.alike hK, hD⟩, hS.F ht⟩) hS.2.2 (show decode method_7_code 16 = .ok (.ireturn, 1) by decide +kernel)
set_option maxHeartbeats 4000000 in
set_option maxRecDepth 100000 in
/-- SignalEngineLaw.shows -/
theorem c_LW_shows0 (l : Launch) (hlt : l.stackTraces = false) (D : va_G) (ad : Nat → Nat) (de sz : Nat) (h0 : Nat) (fs : List Value) (hfl : fs.length = 14) (hf12 : xfa fs 12 (.int 0))  (p0 : Int32) (p1 : Int32) (o2 : Nat) : Met l ⟨"SignalEngineLaw", "shows", "(LSignalEngine;II[J)I"⟩ (.codeWith ⟨"SignalEngineLaw", "shows", "(LSignalEngine;II[J)I"⟩ method_8_code 5 (some (.int)) [(0, 10, 13, 13)] :: tt) { frames := 7, cells := 1, slots := 6, locals := 112 } (va_Pc [.ref h0, .int p0, .int p1, .ref o2] (xp ad de D [(h0, .inr (0, fs))] [] sz)) (va_Qi (fun (r : Int32) (_ : Unit) => r = 1) (fun (_ : Unit) t => xq D (va_A [(h0, .inr (0, fs))] sz) [(h0, .inr (0, fs))] [] t) (va_A [(h0, .inr (0, fs))] sz)) 1 6 (va_A [(h0, .inr (0, fs))] sz) := by
  refine xMetH (by decide +kernel) (Nat.le_of_ble_eq_true rfl) ?_
  intro p e s m below meth c hx hb hr hlocks htab hml hown hts hsz hP hK hD hE hA ls hl
  have hS : va_S _ s.heap s.heap [] := va_S.rf (A := va_A [(h0, .inr (0, fs))] sz)
  have hl : lv_has ls 5 [(0, .ref h0), (1, .int p0), (2, .int p1), (3, .ref o2)] := hl
  refine lv_aload_n hx hb (show decode method_8_code 0 = .ok (.aload_n 3, 1) by decide +kernel) rfl (lv_at hl 3 rfl) ?_
  refine lv_iconst (v := 0) hx hb (show decode method_8_code 1 = .ok (.iconst 0, 1) by decide +kernel) (by decide +kernel) ?_
  refine lv_aload_n hx hb (show decode method_8_code 2 = .ok (.aload_n 0, 1) by decide +kernel) rfl (lv_at hl 0 rfl) ?_
  refine lv_iload_n hx hb (show decode method_8_code 3 = .ok (.iload_n 1, 1) by decide +kernel) rfl (lv_at hl 1 rfl) ?_
  refine lv_iload_n hx hb (show decode method_8_code 4 = .ok (.iload_n 2, 1) by decide +kernel) rfl (lv_at hl 2 rfl) ?_
  refine xkc (own := "SignalEngineLaw") (wr := []) (xrT (As := [.int p0, .int p1]) (rest := [.int 0, .ref o2]) ⟨hx, hb, hml, hown, hts⟩ (c_SE_shows0 l hlt D ad de s.heap.size h0 fs hfl hf12 p0 p1) w_1437 w_1 w_1434 w_1435 w_1436 rfl rfl ⟨by decide +kernel, by decide +kernel, rfl⟩ ⟨by decide +kernel, by decide +kernel⟩ hP hK hD hE hS hA [0] [] rfl (by decide +kernel) rfl ⟨0, 0, _, _, rfl, rfl, rfl⟩ hl.1 rfl (Nat.le_of_ble_eq_true rfl) (show decode method_8_code 5 = .ok (.invokevirtual 32, 3) by decide +kernel) ⟨by decide +kernel, by decide +kernel⟩) hP hK hD hS hA [0] [] rfl rfl (by decide +kernel) (by decide +kernel) hown htab (by decide +kernel) (by decide +kernel) (hts _ w_1148) (fun u x H locs hob hw hP hK hD hS => ?_)
  have hP : va_P D cl [(h0, .inr (0, fs))] H := hP
  have hD : va_D _ [(h0, .inr (0, fs))] := hD
  refine W.widen (k := 1) (n := 6) (by decide +kernel) (by decide +kernel) ?_
  refine lv_astore (lv' := [(4, .ref x), (0, .ref h0), (1, .int p0), (2, .int p1), (3, .ref o2)]) hx hb (show decode method_8_code 13 = .ok (.astore 4, 2) by decide +kernel) hl (by decide +kernel) rfl (fun ls hl => ?_)
  refine lv_iconst (v := 1) hx hb (show decode method_8_code 15 = .ok (.iconst 1, 1) by decide +kernel) (by decide +kernel) ?_
  exact W.iret (v := 1) hx hb hr (fun t ht hW => ⟨⟨1, (), rfl, rfl, by rw [ht]; exact hP, va_K.moved hW.alike hK, hD⟩, hS.F ht⟩) hS.2.2 (show decode method_8_code 16 = .ok (.ireturn, 1) by decide +kernel)
set_option maxHeartbeats 4000000 in
set_option maxRecDepth 100000 in
/-- SignalEngineLaw.classes -/
theorem c_LW_classes0 (l : Launch) (hlt : l.stackTraces = false) (D : va_G) (ad : Nat → Nat) (de sz : Nat) (h0 : Nat) (fs : List Value) (hfl : fs.length = 14) (hf12 : xfa fs 12 (.int 0))  (o0 : Nat) : Met l ⟨"SignalEngineLaw", "classes", "(LSignalEngine;[J)I"⟩ (.codeWith ⟨"SignalEngineLaw", "classes", "(LSignalEngine;[J)I"⟩ method_9_code 3 (some (.int)) [(0, 8, 11, 13)] :: tt) { frames := 7, cells := 1, slots := 6, locals := 110 } (va_Pc [.ref h0, .ref o0] (xp ad de D [(h0, .inr (0, fs))] [] sz)) (va_Qi (fun (r : Int32) (_ : Unit) => r = 1) (fun (_ : Unit) t => xq D (va_A [(h0, .inr (0, fs))] sz) [(h0, .inr (0, fs))] [] t) (va_A [(h0, .inr (0, fs))] sz)) 1 6 (va_A [(h0, .inr (0, fs))] sz) := by
  refine xMetH (by decide +kernel) (Nat.le_of_ble_eq_true rfl) ?_
  intro p e s m below meth c hx hb hr hlocks htab hml hown hts hsz hP hK hD hE hA ls hl
  have hS : va_S _ s.heap s.heap [] := va_S.rf (A := va_A [(h0, .inr (0, fs))] sz)
  have hl : lv_has ls 3 [(0, .ref h0), (1, .ref o0)] := hl
  refine lv_aload_n hx hb (show decode method_9_code 0 = .ok (.aload_n 1, 1) by decide +kernel) rfl (lv_at hl 1 rfl) ?_
  refine lv_iconst (v := 0) hx hb (show decode method_9_code 1 = .ok (.iconst 0, 1) by decide +kernel) (by decide +kernel) ?_
  refine lv_aload_n hx hb (show decode method_9_code 2 = .ok (.aload_n 0, 1) by decide +kernel) rfl (lv_at hl 0 rfl) ?_
  refine xkc (own := "SignalEngineLaw") (wr := []) (xrT (As := []) (rest := [.int 0, .ref o0]) ⟨hx, hb, hml, hown, hts⟩ (c_SE_classes0 l hlt D ad de s.heap.size h0 fs hfl hf12) w_1444 w_1 w_1441 w_1442 w_1443 rfl rfl ⟨by decide +kernel, by decide +kernel, rfl⟩ ⟨by decide +kernel, by decide +kernel⟩ hP hK hD hE hS hA [0] [] rfl (by decide +kernel) rfl ⟨0, 0, _, _, rfl, rfl, rfl⟩ hl.1 rfl (Nat.le_of_ble_eq_true rfl) (show decode method_9_code 3 = .ok (.invokevirtual 35, 3) by decide +kernel) ⟨by decide +kernel, by decide +kernel⟩) hP hK hD hS hA [0] [] rfl rfl (by decide +kernel) (by decide +kernel) hown htab (by decide +kernel) (by decide +kernel) (hts _ w_1148) (fun u x H locs hob hw hP hK hD hS => ?_)
  have hP : va_P D cl [(h0, .inr (0, fs))] H := hP
  have hD : va_D _ [(h0, .inr (0, fs))] := hD
  refine W.widen (k := 1) (n := 6) (by decide +kernel) (by decide +kernel) ?_
  refine lv_astore_n (lv' := [(2, .ref x), (0, .ref h0), (1, .ref o0)]) hx hb (show decode method_9_code 11 = .ok (.astore_n 2, 1) by decide +kernel) rfl hl (by decide +kernel) rfl (fun ls hl => ?_)
  refine lv_iconst (v := 1) hx hb (show decode method_9_code 12 = .ok (.iconst 1, 1) by decide +kernel) (by decide +kernel) ?_
  exact W.iret (v := 1) hx hb hr (fun t ht hW => ⟨⟨1, (), rfl, rfl, by rw [ht]; exact hP, va_K.moved hW.alike hK, hD⟩, hS.F ht⟩) hS.2.2 (show decode method_9_code 13 = .ok (.ireturn, 1) by decide +kernel)
set_option maxHeartbeats 4000000 in
set_option maxRecDepth 100000 in
/-- SignalEngineLaw.lay -/
theorem c_LW_lay0 (l : Launch) (hlt : l.stackTraces = false) (D : va_G) (ad : Nat → Nat) (de sz : Nat) (h0 : Nat) (fs : List Value) (hfl : fs.length = 14) (hf12 : xfa fs 12 (.int 0))  (o0 : Nat) : Met l ⟨"SignalEngineLaw", "lay", "(LSignalEngine;[J)I"⟩ (.codeWith ⟨"SignalEngineLaw", "lay", "(LSignalEngine;[J)I"⟩ method_10_code 3 (some (.int)) [(0, 8, 11, 13)] :: tt) { frames := 7, cells := 1, slots := 6, locals := 110 } (va_Pc [.ref h0, .ref o0] (xp ad de D [(h0, .inr (0, fs))] [] sz)) (va_Qi (fun (r : Int32) (_ : Unit) => r = 1) (fun (_ : Unit) t => xq D (va_A [(h0, .inr (0, fs))] sz) [(h0, .inr (0, fs))] [] t) (va_A [(h0, .inr (0, fs))] sz)) 1 6 (va_A [(h0, .inr (0, fs))] sz) := by
  refine xMetH (by decide +kernel) (Nat.le_of_ble_eq_true rfl) ?_
  intro p e s m below meth c hx hb hr hlocks htab hml hown hts hsz hP hK hD hE hA ls hl
  have hS : va_S _ s.heap s.heap [] := va_S.rf (A := va_A [(h0, .inr (0, fs))] sz)
  have hl : lv_has ls 3 [(0, .ref h0), (1, .ref o0)] := hl
  refine lv_aload_n hx hb (show decode method_10_code 0 = .ok (.aload_n 1, 1) by decide +kernel) rfl (lv_at hl 1 rfl) ?_
  refine lv_iconst (v := 0) hx hb (show decode method_10_code 1 = .ok (.iconst 0, 1) by decide +kernel) (by decide +kernel) ?_
  refine lv_aload_n hx hb (show decode method_10_code 2 = .ok (.aload_n 0, 1) by decide +kernel) rfl (lv_at hl 0 rfl) ?_
  refine xkc (own := "SignalEngineLaw") (wr := []) (xrT (As := []) (rest := [.int 0, .ref o0]) ⟨hx, hb, hml, hown, hts⟩ (c_SE_lay0 l hlt D ad de s.heap.size h0 fs hfl hf12) w_1451 w_1 w_1448 w_1449 w_1450 rfl rfl ⟨by decide +kernel, by decide +kernel, rfl⟩ ⟨by decide +kernel, by decide +kernel⟩ hP hK hD hE hS hA [0] [] rfl (by decide +kernel) rfl ⟨0, 0, _, _, rfl, rfl, rfl⟩ hl.1 rfl (Nat.le_of_ble_eq_true rfl) (show decode method_10_code 3 = .ok (.invokevirtual 38, 3) by decide +kernel) ⟨by decide +kernel, by decide +kernel⟩) hP hK hD hS hA [0] [] rfl rfl (by decide +kernel) (by decide +kernel) hown htab (by decide +kernel) (by decide +kernel) (hts _ w_1148) (fun u x H locs hob hw hP hK hD hS => ?_)
  have hP : va_P D cl [(h0, .inr (0, fs))] H := hP
  have hD : va_D _ [(h0, .inr (0, fs))] := hD
  refine W.widen (k := 1) (n := 6) (by decide +kernel) (by decide +kernel) ?_
  refine lv_astore_n (lv' := [(2, .ref x), (0, .ref h0), (1, .ref o0)]) hx hb (show decode method_10_code 11 = .ok (.astore_n 2, 1) by decide +kernel) rfl hl (by decide +kernel) rfl (fun ls hl => ?_)
  refine lv_iconst (v := 1) hx hb (show decode method_10_code 12 = .ok (.iconst 1, 1) by decide +kernel) (by decide +kernel) ?_
  exact W.iret (v := 1) hx hb hr (fun t ht hW => ⟨⟨1, (), rfl, rfl, by rw [ht]; exact hP, va_K.moved hW.alike hK, hD⟩, hS.F ht⟩) hS.2.2 (show decode method_10_code 13 = .ok (.ireturn, 1) by decide +kernel)
set_option maxHeartbeats 4000000 in
set_option maxRecDepth 100000 in
/-- SignalEngineLaw.pass -/
theorem c_LW_pass0 (l : Launch) (hlt : l.stackTraces = false) (D : va_G) (ad : Nat → Nat) (de sz : Nat) (h0 : Nat) (fs : List Value) (hfl : fs.length = 14) (hf13 : xfa fs 13 (.int 0))  (p0 : Int32) (o1 : Nat) : Met l ⟨"SignalEngineLaw", "pass", "(LSignalEngine;I[J)I"⟩ (.codeWith ⟨"SignalEngineLaw", "pass", "(LSignalEngine;I[J)I"⟩ method_11_code 4 (some (.int)) [(0, 8, 11, 13), (0, 8, 14, 19)] :: tt) { frames := 7, cells := 1, slots := 6, locals := 111 } (va_Pc [.ref h0, .int p0, .ref o1] (xp ad de D [(h0, .inr (0, fs))] [] sz)) (va_Qi (fun (r : Int32) (_ : Unit) => r = 1) (fun (_ : Unit) t => xq D (va_A [(h0, .inr (0, fs))] sz) [(h0, .inr (0, fs))] [] t) (va_A [(h0, .inr (0, fs))] sz)) 1 6 (va_A [(h0, .inr (0, fs))] sz) := by
  refine xMetH (by decide +kernel) (Nat.le_of_ble_eq_true rfl) ?_
  intro p e s m below meth c hx hb hr hlocks htab hml hown hts hsz hP hK hD hE hA ls hl
  have hS : va_S _ s.heap s.heap [] := va_S.rf (A := va_A [(h0, .inr (0, fs))] sz)
  have hl : lv_has ls 4 [(0, .ref h0), (1, .int p0), (2, .ref o1)] := hl
  refine lv_aload_n hx hb (show decode method_11_code 0 = .ok (.aload_n 2, 1) by decide +kernel) rfl (lv_at hl 2 rfl) ?_
  refine lv_iconst (v := 0) hx hb (show decode method_11_code 1 = .ok (.iconst 0, 1) by decide +kernel) (by decide +kernel) ?_
  refine lv_aload_n hx hb (show decode method_11_code 2 = .ok (.aload_n 0, 1) by decide +kernel) rfl (lv_at hl 0 rfl) ?_
  refine lv_iload_n hx hb (show decode method_11_code 3 = .ok (.iload_n 1, 1) by decide +kernel) rfl (lv_at hl 1 rfl) ?_
  refine xkc (own := "SignalEngineLaw") (wr := []) (xrT (As := [.int p0]) (rest := [.int 0, .ref o1]) ⟨hx, hb, hml, hown, hts⟩ (c_SE_pass0 l hlt D ad de s.heap.size h0 fs hfl hf13 p0) w_1543 w_1 w_1540 w_1541 w_1542 rfl rfl ⟨by decide +kernel, by decide +kernel, rfl⟩ ⟨by decide +kernel, by decide +kernel⟩ hP hK hD hE hS hA [0] [] rfl (by decide +kernel) rfl ⟨0, 0, _, _, rfl, rfl, rfl⟩ hl.1 rfl (Nat.le_of_ble_eq_true rfl) (show decode method_11_code 4 = .ok (.invokevirtual 41, 3) by decide +kernel) ⟨by decide +kernel, by decide +kernel⟩) hP hK hD hS hA [0] [] rfl rfl (by decide +kernel) (by decide +kernel) hown htab (by decide +kernel) (by decide +kernel) (hts _ w_1148) (fun u x H locs hob hw hP hK hD hS => ?_)
  have hP : va_P D cl [(h0, .inr (0, fs))] H := hP
  have hD : va_D _ [(h0, .inr (0, fs))] := hD
  refine W.widen (k := 1) (n := 6) (by decide +kernel) (by decide +kernel) ?_
  refine lv_astore_n (lv' := [(3, .ref x), (0, .ref h0), (1, .int p0), (2, .ref o1)]) hx hb (show decode method_11_code 11 = .ok (.astore_n 3, 1) by decide +kernel) rfl hl (by decide +kernel) rfl (fun ls hl => ?_)
  refine lv_iconst (v := 1) hx hb (show decode method_11_code 12 = .ok (.iconst 1, 1) by decide +kernel) (by decide +kernel) ?_
  exact W.iret (v := 1) hx hb hr (fun t ht hW => ⟨⟨1, (), rfl, rfl, by rw [ht]; exact hP, va_K.moved hW.alike hK, hD⟩, hS.F ht⟩) hS.2.2 (show decode method_11_code 13 = .ok (.ireturn, 1) by decide +kernel)
