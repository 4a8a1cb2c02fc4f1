/-! the tape: the bytes of a word, and what a feed writes -/
def by8 (w : Int32) (i : Nat) : Int32 := match i with
  | 0 => (w >>> ((24 : Int32) &&& 31)).toInt8.toInt32
  | 1 => (w >>> ((16 : Int32) &&& 31)).toInt8.toInt32
  | 2 => (w >>> ((8 : Int32) &&& 31)).toInt8.toInt32
  | _ => (w >>> ((0 : Int32) &&& 31)).toInt8.toInt32
def fdW (a b c d e : Int32) (k : Nat) : Int32 := by8 (if k < 4 then a else if k < 8 then b else if k < 12 then c else if k < 16 then d else e) (k % 4)
def wrt (f : Nat → Int32) (n : Nat) (g : Nat → Int32) (k : Nat) : Nat → Int32 := fun j => if n ≤ j ∧ j < n + k then g (j - n) else f j
theorem wrt_0 (f : Nat → Int32) (n : Nat) (g : Nat → Int32) : wrt f n g 0 = f := by
  funext j
  unfold wrt
  rw [if_neg (by omega)]
theorem wrt_s (f : Nat → Int32) (n : Nat) (g : Nat → Int32) (k : Nat) : upd (wrt f n g k) (n + k) (g k) = wrt f n g (k + 1) := by
  funext j
  unfold upd wrt
  by_cases h : j = n + k
  · subst h
    rw [if_pos rfl, if_pos (by omega)]
    congr 1
    omega
  · rw [if_neg h]
    by_cases h2 : n ≤ j ∧ j < n + k
    · rw [if_pos h2, if_pos (by omega)]
    · rw [if_neg h2, if_neg (by omega)]
theorem wrt_congr {f : Nat → Int32} {n : Nat} {g g' : Nat → Int32} {k : Nat} (h : ∀ i, i < k → g i = g' i) : wrt f n g k = wrt f n g' k := by
  funext j
  unfold wrt
  by_cases h2 : n ≤ j ∧ j < n + k
  · rw [if_pos h2, if_pos h2, h _ (by omega)]
  · rw [if_neg h2, if_neg h2]
theorem wrt_app (f : Nat → Int32) (n : Nat) (g : Nat → Int32) (k r : Nat) : wrt (wrt f n g k) (n + k) (fun i => g (k + i)) r = wrt f n g (k + r) := by
  funext j
  unfold wrt
  by_cases h : n + k ≤ j ∧ j < n + k + r
  · rw [if_pos h, if_pos (by omega)]
    show g (k + (j - (n + k))) = g (j - n)
    congr 1
    omega
  · rw [if_neg h]
    by_cases h2 : n ≤ j ∧ j < n + k
    · rw [if_pos h2, if_pos (by omega)]
    · rw [if_neg h2, if_neg (by omega)]
/-- a store of the next byte -/
theorem wrt_st {f : Nat → Int32} {n : Nat} {g : Nat → Int32} {k : Nat} {i x : Int32} (hi : i = nI (n + k)) (hn : n + k < 2 ^ 31) (hx : vp_nar .byte x = g k) : upd (wrt f n g k) i.toNatClampNeg (vp_nar .byte x) = wrt f n g (k + 1) := by
  rw [hi, nI_clamp hn, hx]
  exact wrt_s f n g k
/-- the class's own spelling of the same bytes -/
def by8u (w : Int32) (i : Nat) : Int32 := match i with
  | 0 => ((w.toUInt32 >>> ((24 : Int32).toUInt32 &&& Int32.toUInt32 31)).toInt32).toInt8.toInt32
  | 1 => ((w.toUInt32 >>> ((16 : Int32).toUInt32 &&& Int32.toUInt32 31)).toInt32).toInt8.toInt32
  | 2 => ((w.toUInt32 >>> ((8 : Int32).toUInt32 &&& Int32.toUInt32 31)).toInt32).toInt8.toInt32
  | _ => ((w.toUInt32 >>> ((0 : Int32).toUInt32 &&& Int32.toUInt32 31)).toInt32).toInt8.toInt32
theorem nI_end {n j : Nat} (hj : j ≤ 20) (hn : 20 ≤ n) : nI n + (nI j - 20) = nI (n - (20 - j)) := by
  have h1 : nI n = nI (n - (20 - j)) + nI (20 - j) := by rw [nI_add]; congr 1; omega
  have h2 : (20 : Int32) = nI j + nI (20 - j) := by
    rw [nI_add, show j + (20 - j) = 20 by omega]
    rfl
  rw [h1, h2]
  grind
/-! words that the walks use, each by its place; written by wip/gen -/
set_option maxHeartbeats 4000000 in
set_option maxRecDepth 100000 in
/-- SignalEngine.end, in general -/
theorem g_SE_end_ok (l : Launch) (D : va_G) (ad : Nat → Nat) (de sz : Nat) (h0 : Nat) (fs : List Value) (hfl : fs.length = 14)   (n j : Nat) (hj : j ≤ 20) (hn : 20 ≤ n) (hn2 : n ≤ 32768) (hf2 : xfa fs 2 (.int 1)) (hf1 : xfa fs 1 (.int (nI n)))  : Met l ⟨"SignalEngine", "end", "(I)I"⟩ (tw ⟨"SignalEngine", "end", "(I)I"⟩ prog_1_method_4_code 2 (some (.int))) { frames := 0, cells := 0, slots := 0, locals := 0 } (va_Pc [.ref h0, .int (nI j)] (xp ad de D [(h0, .inr (0, fs))] [] sz)) (va_Qi (fun (r : Int32) (_ : Unit) => r = (nI (n - (20 - j)))) (fun (_ : Unit) t => xq D (va_A [(h0, .inr (0, fs))] sz) [(h0, .inr (0, ((fs.set 2 (.int 0)).set 1 (.int (nI (n - (20 - j)))))))] [] t) (va_A [(h0, .inr (0, fs))] sz)) 0 0 (va_A [(h0, .inr (0, fs))] sz) := by
  refine xMet (by decide +kernel) (Nat.le_of_ble_eq_true rfl) ?_
  intro p e s m below meth c hx hb hr hlocks hin hml hown hts hsz hP hK hD hE hA ls hl
  have hS : va_S _ s.heap s.heap [] := va_S.rf (A := va_A [(h0, .inr (0, fs))] sz)
  have hl : lv_has ls 2 [(0, .ref h0), (1, .int (nI j))] := hl
  refine lv_aload_n hx hb (show decode prog_1_method_4_code 0 = .ok (.aload_n 0, 1) by decide +kernel) rfl (lv_at hl 0 rfl) ?_
  refine va_get (D := D) (ci := 0) (v := .int 1) (C := R_SE) (T := F_SE) (N := 14) hx hb hts i_SE hown hK hP 0 rfl rfl 2 (by decide +kernel) (hts _ w_44) (fun _ h9 => h9) hf2 (show decode prog_1_method_4_code 1 = .ok (.getfield 28, 3) by decide +kernel) ?_
  refine lv_if_eq (tgt := 17) hx hb (show decode prog_1_method_4_code 4 = .ok (.ifCond .eq 13, 3) by decide +kernel) (by decide +kernel) (fun c_1 => absurd c_1 (by decide +kernel)) (fun c_1 => ?_)
  refine lv_iload_n hx hb (show decode prog_1_method_4_code 7 = .ok (.iload_n 1, 1) by decide +kernel) rfl (lv_at hl 1 rfl) ?_
  refine lv_if_lt (tgt := 17) hx hb (show decode prog_1_method_4_code 8 = .ok (.ifCond .lt 9, 3) by decide +kernel) (by decide +kernel) (fun c_2 => absurd c_2 (nI_nlt (Nat.zero_le _) (by omega))) (fun c_2 => ?_)
  refine lv_iload_n hx hb (show decode prog_1_method_4_code 11 = .ok (.iload_n 1, 1) by decide +kernel) rfl (lv_at hl 1 rfl) ?_
  refine lv_bipush (v := 20) hx hb (show decode prog_1_method_4_code 12 = .ok (.bipush 20, 2) by decide +kernel) (by decide +kernel) ?_
  refine lv_icmp_le (tgt := 19) hx hb (show decode prog_1_method_4_code 14 = .ok (.if_icmp .le 5, 3) by decide +kernel) (by decide +kernel) (fun c_3 => ?_) (fun c_3 => absurd (show nI j ≤ nI 20 from nI_le (by omega) (by omega)) c_3)
  refine lv_aload_n hx hb (show decode prog_1_method_4_code 19 = .ok (.aload_n 0, 1) by decide +kernel) rfl (lv_at hl 0 rfl) ?_
  refine lv_iconst (v := 0) hx hb (show decode prog_1_method_4_code 20 = .ok (.iconst 0, 1) by decide +kernel) (by decide +kernel) ?_
  refine va_put (D := D) (ci := 0) (v := .int 0) (ty := .boolean) (C := R_SE) (T := F_SE) (N := 14) hx hb hts i_SE t_SE t_SE_ok n_SE hown hK hP hD hS 0 rfl rfl 2 (by decide +kernel) (hts _ w_44) (fun _ h9 => h9) rfl (by decide +kernel) (by decide +kernel) rfl (by simp [hfl]) (show decode prog_1_method_4_code 21 = .ok (.putfield 28, 3) by decide +kernel) (fun H locs hP hD hS => ?_)
  have hP : va_P D cl [(h0, .inr (0, (fs.set 2 (.int 0))))] H := hP
  have hD : va_D _ [(h0, .inr (0, (fs.set 2 (.int 0))))] := hD
  refine lv_aload_n hx hb (show decode prog_1_method_4_code 24 = .ok (.aload_n 0, 1) by decide +kernel) rfl (lv_at hl 0 rfl) ?_
  refine lv_dup hx hb (show decode prog_1_method_4_code 25 = .ok (.dup, 1) by decide +kernel) rfl ?_
  refine va_get (D := D) (ci := 0) (v := .int (nI n)) (C := R_SE) (T := F_SE) (N := 14) hx hb hts i_SE hown hK hP 0 rfl rfl 1 (by decide +kernel) (hts _ w_43) (fun _ h9 => h9) (xg_ne (by decide +kernel) hf1) (show decode prog_1_method_4_code 26 = .ok (.getfield 13, 3) by decide +kernel) ?_
  refine lv_bipush (v := 20) hx hb (show decode prog_1_method_4_code 29 = .ok (.bipush 20, 2) by decide +kernel) (by decide +kernel) ?_
  refine lv_iload_n hx hb (show decode prog_1_method_4_code 31 = .ok (.iload_n 1, 1) by decide +kernel) rfl (lv_at hl 1 rfl) ?_
  refine lv_isub hx hb (show decode prog_1_method_4_code 32 = .ok (.isub, 1) by decide +kernel) ?_
  refine xtopi (v := (nI (20 - j))) (show nI 20 - nI j = (nI (20 - j)) from pk_sub (by omega)) ?_
  refine lv_isub hx hb (show decode prog_1_method_4_code 33 = .ok (.isub, 1) by decide +kernel) ?_
  refine xtopi (v := (nI (n - (20 - j)))) (show nI n - nI (20 - j) = (nI (n - (20 - j))) from pk_sub (by omega)) ?_
  refine va_put (D := D) (ci := 0) (v := .int (nI (n - (20 - j)))) (ty := .int) (C := R_SE) (T := F_SE) (N := 14) hx hb hts i_SE t_SE t_SE_ok n_SE hown hK hP hD hS 0 rfl rfl 1 (by decide +kernel) (hts _ w_43) (fun _ h9 => h9) rfl (by decide +kernel) rfl rfl (by simp [hfl]) (show decode prog_1_method_4_code 34 = .ok (.putfield 13, 3) by decide +kernel) (fun H locs hP hD hS => ?_)
  have hP : va_P D cl [(h0, .inr (0, ((fs.set 2 (.int 0)).set 1 (.int (nI (n - (20 - j)))))))] H := hP
  have hD : va_D _ [(h0, .inr (0, ((fs.set 2 (.int 0)).set 1 (.int (nI (n - (20 - j)))))))] := hD
  refine lv_aload_n hx hb (show decode prog_1_method_4_code 37 = .ok (.aload_n 0, 1) by decide +kernel) rfl (lv_at hl 0 rfl) ?_
  refine va_get (D := D) (ci := 0) (v := .int (nI (n - (20 - j)))) (C := R_SE) (T := F_SE) (N := 14) hx hb hts i_SE hown hK hP 0 rfl rfl 1 (by decide +kernel) (hts _ w_43) (fun _ h9 => h9) (xg_eq (by simp [hfl])) (show decode prog_1_method_4_code 38 = .ok (.getfield 13, 3) by decide +kernel) ?_
  exact W.iret (v := (nI (n - (20 - j)))) hx hb hr (fun t ht hW => ⟨⟨(nI (n - (20 - j))), (), rfl, rfl, by rw [ht]; exact hP, va_K.moved hW.alike hK, hD⟩, hS.F ht⟩) hS.2.2 (show decode prog_1_method_4_code 41 = .ok (.ireturn, 1) by decide +kernel)
set_option maxHeartbeats 4000000 in
set_option maxRecDepth 100000 in
/-- SignalEngineModel.end, in general -/
theorem g_MD_end_ok (l : Launch) (D : va_G) (ad : Nat → Nat) (de sz : Nat) (h0 : Nat) (fs : List Value) (hfl : fs.length = 107)   (n j : Nat) (hj : j ≤ 20) (hn : 20 ≤ n) (hn2 : n ≤ 32768) (hf3 : xfa fs 3 (.int 1)) (hf2 : xfa fs 2 (.int (nI n)))  : Met l ⟨"SignalEngineModel", "end", "(I)I"⟩ (tw ⟨"SignalEngineModel", "end", "(I)I"⟩ prog_15_method_5_code 2 (some (.int))) { frames := 0, cells := 0, slots := 0, locals := 0 } (va_Pc [.ref h0, .int (nI j)] (xp ad de D [(h0, .inr (1, fs))] [] sz)) (va_Qi (fun (r : Int32) (_ : Unit) => r = (nI (n - (20 - j)))) (fun (_ : Unit) t => xq D (va_A [(h0, .inr (1, fs))] sz) [(h0, .inr (1, (((fs.set 0 (.int 0)).set 3 (.int 0)).set 2 (.int (nI (n - (20 - j)))))))] [] t) (va_A [(h0, .inr (1, fs))] sz)) 0 0 (va_A [(h0, .inr (1, fs))] sz) := by
  refine xMet (by decide +kernel) (Nat.le_of_ble_eq_true rfl) ?_
  intro p e s m below meth c hx hb hr hlocks hin hml hown hts hsz hP hK hD hE hA ls hl
  have hS : va_S _ s.heap s.heap [] := va_S.rf (A := va_A [(h0, .inr (1, fs))] sz)
  have hl : lv_has ls 2 [(0, .ref h0), (1, .int (nI j))] := hl
  refine lv_aload_n hx hb (show decode prog_15_method_5_code 0 = .ok (.aload_n 0, 1) by decide +kernel) rfl (lv_at hl 0 rfl) ?_
  refine lv_iconst (v := 0) hx hb (show decode prog_15_method_5_code 1 = .ok (.iconst 0, 1) by decide +kernel) (by decide +kernel) ?_
  refine va_put (D := D) (ci := 1) (v := .int 0) (ty := .int) (C := R_MD) (T := F_MD) (N := 107) hx hb hts i_MD t_MD t_MD_ok n_MD hown hK hP hD hS 0 rfl rfl 0 (by decide +kernel) (hts _ w_1562) (fun _ h9 => h9) rfl (by decide +kernel) rfl rfl (by simp [hfl]) (show decode prog_15_method_5_code 2 = .ok (.putfield 206, 3) by decide +kernel) (fun H locs hP hD hS => ?_)
  have hP : va_P D cl [(h0, .inr (1, (fs.set 0 (.int 0))))] H := hP
  have hD : va_D _ [(h0, .inr (1, (fs.set 0 (.int 0))))] := hD
  refine lv_aload_n hx hb (show decode prog_15_method_5_code 5 = .ok (.aload_n 0, 1) by decide +kernel) rfl (lv_at hl 0 rfl) ?_
  refine va_get (D := D) (ci := 1) (v := .int 1) (C := R_MD) (T := F_MD) (N := 107) hx hb hts i_MD hown hK hP 0 rfl rfl 3 (by decide +kernel) (hts _ w_1565) (fun _ h9 => h9) (xg_ne (by decide +kernel) hf3) (show decode prog_15_method_5_code 6 = .ok (.getfield 213, 3) by decide +kernel) ?_
  refine lv_if_eq (tgt := 22) hx hb (show decode prog_15_method_5_code 9 = .ok (.ifCond .eq 13, 3) by decide +kernel) (by decide +kernel) (fun c_1 => absurd c_1 (by decide +kernel)) (fun c_1 => ?_)
  refine lv_iload_n hx hb (show decode prog_15_method_5_code 12 = .ok (.iload_n 1, 1) by decide +kernel) rfl (lv_at hl 1 rfl) ?_
  refine lv_if_lt (tgt := 22) hx hb (show decode prog_15_method_5_code 13 = .ok (.ifCond .lt 9, 3) by decide +kernel) (by decide +kernel) (fun c_2 => absurd c_2 (nI_nlt (Nat.zero_le _) (by omega))) (fun c_2 => ?_)
  refine lv_iload_n hx hb (show decode prog_15_method_5_code 16 = .ok (.iload_n 1, 1) by decide +kernel) rfl (lv_at hl 1 rfl) ?_
  refine lv_bipush (v := 20) hx hb (show decode prog_15_method_5_code 17 = .ok (.bipush 20, 2) by decide +kernel) (by decide +kernel) ?_
  refine lv_icmp_le (tgt := 24) hx hb (show decode prog_15_method_5_code 19 = .ok (.if_icmp .le 5, 3) by decide +kernel) (by decide +kernel) (fun c_3 => ?_) (fun c_3 => absurd (show nI j ≤ nI 20 from nI_le (by omega) (by omega)) c_3)
  refine lv_aload_n hx hb (show decode prog_15_method_5_code 24 = .ok (.aload_n 0, 1) by decide +kernel) rfl (lv_at hl 0 rfl) ?_
  refine lv_iconst (v := 0) hx hb (show decode prog_15_method_5_code 25 = .ok (.iconst 0, 1) by decide +kernel) (by decide +kernel) ?_
  refine va_put (D := D) (ci := 1) (v := .int 0) (ty := .boolean) (C := R_MD) (T := F_MD) (N := 107) hx hb hts i_MD t_MD t_MD_ok n_MD hown hK hP hD hS 0 rfl rfl 3 (by decide +kernel) (hts _ w_1565) (fun _ h9 => h9) rfl (by decide +kernel) (by decide +kernel) rfl (by simp [hfl]) (show decode prog_15_method_5_code 26 = .ok (.putfield 213, 3) by decide +kernel) (fun H locs hP hD hS => ?_)
  have hP : va_P D cl [(h0, .inr (1, ((fs.set 0 (.int 0)).set 3 (.int 0))))] H := hP
  have hD : va_D _ [(h0, .inr (1, ((fs.set 0 (.int 0)).set 3 (.int 0))))] := hD
  refine lv_aload_n hx hb (show decode prog_15_method_5_code 29 = .ok (.aload_n 0, 1) by decide +kernel) rfl (lv_at hl 0 rfl) ?_
  refine lv_dup hx hb (show decode prog_15_method_5_code 30 = .ok (.dup, 1) by decide +kernel) rfl ?_
  refine va_get (D := D) (ci := 1) (v := .int (nI n)) (C := R_MD) (T := F_MD) (N := 107) hx hb hts i_MD hown hK hP 0 rfl rfl 2 (by decide +kernel) (hts _ w_1564) (fun _ h9 => h9) (xg_ne (by decide +kernel) (xg_ne (by decide +kernel) hf2)) (show decode prog_15_method_5_code 31 = .ok (.getfield 210, 3) by decide +kernel) ?_
  refine lv_iload_n hx hb (show decode prog_15_method_5_code 34 = .ok (.iload_n 1, 1) by decide +kernel) rfl (lv_at hl 1 rfl) ?_
  refine lv_bipush (v := 20) hx hb (show decode prog_15_method_5_code 35 = .ok (.bipush 20, 2) by decide +kernel) (by decide +kernel) ?_
  refine lv_isub hx hb (show decode prog_15_method_5_code 37 = .ok (.isub, 1) by decide +kernel) ?_
  refine lv_iadd hx hb (show decode prog_15_method_5_code 38 = .ok (.iadd, 1) by decide +kernel) ?_
  refine xtopi (v := (nI (n - (20 - j)))) (nI_end hj hn) ?_
  refine va_put (D := D) (ci := 1) (v := .int (nI (n - (20 - j)))) (ty := .int) (C := R_MD) (T := F_MD) (N := 107) hx hb hts i_MD t_MD t_MD_ok n_MD hown hK hP hD hS 0 rfl rfl 2 (by decide +kernel) (hts _ w_1564) (fun _ h9 => h9) rfl (by decide +kernel) rfl rfl (by simp [hfl]) (show decode prog_15_method_5_code 39 = .ok (.putfield 210, 3) by decide +kernel) (fun H locs hP hD hS => ?_)
  have hP : va_P D cl [(h0, .inr (1, (((fs.set 0 (.int 0)).set 3 (.int 0)).set 2 (.int (nI (n - (20 - j)))))))] H := hP
  have hD : va_D _ [(h0, .inr (1, (((fs.set 0 (.int 0)).set 3 (.int 0)).set 2 (.int (nI (n - (20 - j)))))))] := hD
  refine lv_aload_n hx hb (show decode prog_15_method_5_code 42 = .ok (.aload_n 0, 1) by decide +kernel) rfl (lv_at hl 0 rfl) ?_
  refine va_get (D := D) (ci := 1) (v := .int (nI (n - (20 - j)))) (C := R_MD) (T := F_MD) (N := 107) hx hb hts i_MD hown hK hP 0 rfl rfl 2 (by decide +kernel) (hts _ w_1564) (fun _ h9 => h9) (xg_eq (by simp [hfl])) (show decode prog_15_method_5_code 43 = .ok (.getfield 210, 3) by decide +kernel) ?_
  exact W.iret (v := (nI (n - (20 - j)))) hx hb hr (fun t ht hW => ⟨⟨(nI (n - (20 - j))), (), rfl, rfl, by rw [ht]; exact hP, va_K.moved hW.alike hK, hD⟩, hS.F ht⟩) hS.2.2 (show decode prog_15_method_5_code 46 = .ok (.ireturn, 1) by decide +kernel)
set_option maxHeartbeats 4000000 in
set_option maxRecDepth 100000 in
/-- SignalEngine.append, in general -/
theorem g_SE_append (l : Launch) (D : va_G) (ad : Nat → Nat) (de sz : Nat) (h0 : Nat) (fs : List Value) (hfl : fs.length = 14) (q0 : Nat) (cA0 : ClassId) (p0 : Int32) (n N : Nat) (f : Nat → Int32) (hn : n + 4 ≤ N) (hN : N ≤ 65536) (hf1 : xfa fs 1 (.int (nI n))) (ha0 : xfa fs 0 (.ref q0)) : Met l ⟨"SignalEngine", "append", "(I)V"⟩ (tw ⟨"SignalEngine", "append", "(I)V"⟩ prog_1_method_3_code 3 none) { frames := 0, cells := 0, slots := 0, locals := 0 } (va_Pc [.ref h0, .int p0] (xp ad de D [(h0, .inr (0, fs)), (q0, .inl (cA0, N, .inl (wrt f n (by8u p0) 0)))] [(cA0, .byte)] sz)) (va_Qv (fun (_ : Unit) => True) (fun (_ : Unit) t => xq D (va_A [(h0, .inr (0, fs)), (q0, .inl (cA0, N, .inl (wrt f n (by8u p0) 0)))] sz) [(h0, .inr (0, ((((fs.set 1 (.int (nI (n + 1)))).set 1 (.int (nI ((n + 1) + 1)))).set 1 (.int (nI (((n + 1) + 1) + 1)))).set 1 (.int (nI ((((n + 1) + 1) + 1) + 1)))))), (q0, .inl (cA0, N, .inl (wrt f n (by8u p0) 4)))] [(cA0, .byte)] t) (va_A [(h0, .inr (0, fs)), (q0, .inl (cA0, N, .inl (wrt f n (by8u p0) 0)))] sz)) 0 0 (va_A [(h0, .inr (0, fs)), (q0, .inl (cA0, N, .inl (wrt f n (by8u p0) 0)))] sz) := by
  refine xMet (by decide +kernel) (Nat.le_of_ble_eq_true rfl) ?_
  intro p e s m below meth c hx hb hr hlocks hin hml hown hts hsz hP hK hD hE hA ls hl
  have hS : va_S _ s.heap s.heap [] := va_S.rf (A := va_A [(h0, .inr (0, fs)), (q0, .inl (cA0, N, .inl (wrt f n (by8u p0) 0)))] sz)
  have hl : lv_has ls 3 [(0, .ref h0), (1, .int p0)] := hl
  refine lv_bipush (v := 24) hx hb (show decode prog_1_method_3_code 0 = .ok (.bipush 24, 2) by decide +kernel) (by decide +kernel) ?_
  refine lv_istore_n (lv' := [(2, .int 24), (0, .ref h0), (1, .int p0)]) hx hb (show decode prog_1_method_3_code 2 = .ok (.istore_n 2, 1) by decide +kernel) rfl hl (by decide +kernel) rfl (fun ls hl => ?_)
  refine lv_iload_n hx hb (show decode prog_1_method_3_code 3 = .ok (.iload_n 2, 1) by decide +kernel) rfl (lv_at hl 0 rfl) ?_
  refine lv_if_lt (tgt := 36) hx hb (show decode prog_1_method_3_code 4 = .ok (.ifCond .lt 32, 3) by decide +kernel) (by decide +kernel) (fun c_1 => absurd c_1 (by decide +kernel)) (fun c_1 => ?_)
  refine lv_aload_n hx hb (show decode prog_1_method_3_code 7 = .ok (.aload_n 0, 1) by decide +kernel) rfl (lv_at hl 1 rfl) ?_
  refine va_get (D := D) (ci := 0) (v := .ref q0) (C := R_SE) (T := F_SE) (N := 14) hx hb hts i_SE hown hK hP 0 rfl rfl 0 (by decide +kernel) (hts _ w_42) (fun _ h9 => h9) ha0 (show decode prog_1_method_3_code 8 = .ok (.getfield 9, 3) by decide +kernel) ?_
  refine lv_aload_n hx hb (show decode prog_1_method_3_code 11 = .ok (.aload_n 0, 1) by decide +kernel) rfl (lv_at hl 1 rfl) ?_
  refine va_get (D := D) (ci := 0) (v := .int (nI n)) (C := R_SE) (T := F_SE) (N := 14) hx hb hts i_SE hown hK hP 0 rfl rfl 1 (by decide +kernel) (hts _ w_43) (fun _ h9 => h9) hf1 (show decode prog_1_method_3_code 12 = .ok (.getfield 13, 3) by decide +kernel) ?_
  refine lv_iload_n hx hb (show decode prog_1_method_3_code 15 = .ok (.iload_n 1, 1) by decide +kernel) rfl (lv_at hl 2 rfl) ?_
  refine lv_iload_n hx hb (show decode prog_1_method_3_code 16 = .ok (.iload_n 2, 1) by decide +kernel) rfl (lv_at hl 0 rfl) ?_
  refine lv_iushr hx hb (show decode prog_1_method_3_code 17 = .ok (.iushr, 1) by decide +kernel) rfl ?_
  refine lv_topi (fun z_2 ez_2 => ?_)
  refine lv_i2b hx hb (show decode prog_1_method_3_code 18 = .ok (.i2b, 1) by decide +kernel) rfl ?_
  refine lv_topi (fun z_3 ez_3 => ?_)
  refine va_bast hx hb hK hP hD hS 1 0 rfl rfl (vp_in_nI (show n < N by omega) (by omega)) (show decode prog_1_method_3_code 19 = .ok (.bastore, 1) by decide +kernel) (fun H locs hP hD hS => ?_)
  rw [wrt_st (show nI n = nI (n + 0) by congr 1) (by omega) (show vp_nar .byte z_3 = (by8u p0) 0 by rw [ez_3, pk_vb, ez_2]; rfl)] at hP hD
  have hP : va_P D cl [(h0, .inr (0, fs)), (q0, .inl (cA0, N, .inl (wrt f n (by8u p0) 1)))] H := hP
  have hD : va_D _ [(h0, .inr (0, fs)), (q0, .inl (cA0, N, .inl (wrt f n (by8u p0) 1)))] := hD
  refine lv_aload_n hx hb (show decode prog_1_method_3_code 20 = .ok (.aload_n 0, 1) by decide +kernel) rfl (lv_at hl 1 rfl) ?_
  refine lv_dup hx hb (show decode prog_1_method_3_code 21 = .ok (.dup, 1) by decide +kernel) rfl ?_
  refine va_get (D := D) (ci := 0) (v := .int (nI n)) (C := R_SE) (T := F_SE) (N := 14) hx hb hts i_SE hown hK hP 0 rfl rfl 1 (by decide +kernel) (hts _ w_43) (fun _ h9 => h9) hf1 (show decode prog_1_method_3_code 22 = .ok (.getfield 13, 3) by decide +kernel) ?_
  refine lv_iconst (v := 1) hx hb (show decode prog_1_method_3_code 25 = .ok (.iconst 1, 1) by decide +kernel) (by decide +kernel) ?_
  refine lv_iadd hx hb (show decode prog_1_method_3_code 26 = .ok (.iadd, 1) by decide +kernel) ?_
  refine xtopi (v := (nI (n + 1))) (show nI n + nI 1 = (nI (n + 1)) from nI_add _ _) ?_
  refine va_put (D := D) (ci := 0) (v := .int (nI (n + 1))) (ty := .int) (C := R_SE) (T := F_SE) (N := 14) hx hb hts i_SE t_SE t_SE_ok n_SE hown hK hP hD hS 0 rfl rfl 1 (by decide +kernel) (hts _ w_43) (fun _ h9 => h9) rfl (by decide +kernel) rfl rfl (by simp [hfl]) (show decode prog_1_method_3_code 27 = .ok (.putfield 13, 3) by decide +kernel) (fun H locs hP hD hS => ?_)
  have hP : va_P D cl [(h0, .inr (0, (fs.set 1 (.int (nI (n + 1)))))), (q0, .inl (cA0, N, .inl (wrt f n (by8u p0) 1)))] H := hP
  have hD : va_D _ [(h0, .inr (0, (fs.set 1 (.int (nI (n + 1)))))), (q0, .inl (cA0, N, .inl (wrt f n (by8u p0) 1)))] := hD
  refine lv_iinc (v := 16) (lv' := [(2, .int 16), (0, .ref h0), (1, .int p0)]) hx hb (show decode prog_1_method_3_code 30 = .ok (.iinc 2 (-8), 3) by decide +kernel) hl (k := 0) rfl (by decide +kernel) (by decide +kernel) rfl (fun ls hl => ?_)
  refine lv_goto (tgt := 3) hx hb (show decode prog_1_method_3_code 33 = .ok (.goto (-30), 3) by decide +kernel) (by decide +kernel) ?_
  refine lv_iload_n hx hb (show decode prog_1_method_3_code 3 = .ok (.iload_n 2, 1) by decide +kernel) rfl (lv_at hl 0 rfl) ?_
  refine lv_if_lt (tgt := 36) hx hb (show decode prog_1_method_3_code 4 = .ok (.ifCond .lt 32, 3) by decide +kernel) (by decide +kernel) (fun c_4 => absurd c_4 (by decide +kernel)) (fun c_4 => ?_)
  refine lv_aload_n hx hb (show decode prog_1_method_3_code 7 = .ok (.aload_n 0, 1) by decide +kernel) rfl (lv_at hl 1 rfl) ?_
  refine va_get (D := D) (ci := 0) (v := .ref q0) (C := R_SE) (T := F_SE) (N := 14) hx hb hts i_SE hown hK hP 0 rfl rfl 0 (by decide +kernel) (hts _ w_42) (fun _ h9 => h9) (xg_ne (by decide +kernel) ha0) (show decode prog_1_method_3_code 8 = .ok (.getfield 9, 3) by decide +kernel) ?_
  refine lv_aload_n hx hb (show decode prog_1_method_3_code 11 = .ok (.aload_n 0, 1) by decide +kernel) rfl (lv_at hl 1 rfl) ?_
  refine va_get (D := D) (ci := 0) (v := .int (nI (n + 1))) (C := R_SE) (T := F_SE) (N := 14) hx hb hts i_SE hown hK hP 0 rfl rfl 1 (by decide +kernel) (hts _ w_43) (fun _ h9 => h9) (xg_eq (by simp [hfl])) (show decode prog_1_method_3_code 12 = .ok (.getfield 13, 3) by decide +kernel) ?_
  refine lv_iload_n hx hb (show decode prog_1_method_3_code 15 = .ok (.iload_n 1, 1) by decide +kernel) rfl (lv_at hl 2 rfl) ?_
  refine lv_iload_n hx hb (show decode prog_1_method_3_code 16 = .ok (.iload_n 2, 1) by decide +kernel) rfl (lv_at hl 0 rfl) ?_
  refine lv_iushr hx hb (show decode prog_1_method_3_code 17 = .ok (.iushr, 1) by decide +kernel) rfl ?_
  refine lv_topi (fun z_5 ez_5 => ?_)
  refine lv_i2b hx hb (show decode prog_1_method_3_code 18 = .ok (.i2b, 1) by decide +kernel) rfl ?_
  refine lv_topi (fun z_6 ez_6 => ?_)
  refine va_bast hx hb hK hP hD hS 1 0 rfl rfl (vp_in_nI (show (n + 1) < N by omega) (by omega)) (show decode prog_1_method_3_code 19 = .ok (.bastore, 1) by decide +kernel) (fun H locs hP hD hS => ?_)
  rw [wrt_st (show nI (n + 1) = nI (n + 1) by congr 1) (by omega) (show vp_nar .byte z_6 = (by8u p0) 1 by rw [ez_6, pk_vb, ez_5]; rfl)] at hP hD
  have hP : va_P D cl [(h0, .inr (0, (fs.set 1 (.int (nI (n + 1)))))), (q0, .inl (cA0, N, .inl (wrt f n (by8u p0) 2)))] H := hP
  have hD : va_D _ [(h0, .inr (0, (fs.set 1 (.int (nI (n + 1)))))), (q0, .inl (cA0, N, .inl (wrt f n (by8u p0) 2)))] := hD
  refine lv_aload_n hx hb (show decode prog_1_method_3_code 20 = .ok (.aload_n 0, 1) by decide +kernel) rfl (lv_at hl 1 rfl) ?_
  refine lv_dup hx hb (show decode prog_1_method_3_code 21 = .ok (.dup, 1) by decide +kernel) rfl ?_
  refine va_get (D := D) (ci := 0) (v := .int (nI (n + 1))) (C := R_SE) (T := F_SE) (N := 14) hx hb hts i_SE hown hK hP 0 rfl rfl 1 (by decide +kernel) (hts _ w_43) (fun _ h9 => h9) (xg_eq (by simp [hfl])) (show decode prog_1_method_3_code 22 = .ok (.getfield 13, 3) by decide +kernel) ?_
  refine lv_iconst (v := 1) hx hb (show decode prog_1_method_3_code 25 = .ok (.iconst 1, 1) by decide +kernel) (by decide +kernel) ?_
  refine lv_iadd hx hb (show decode prog_1_method_3_code 26 = .ok (.iadd, 1) by decide +kernel) ?_
  refine xtopi (v := (nI ((n + 1) + 1))) (show nI (n + 1) + nI 1 = (nI ((n + 1) + 1)) from nI_add _ _) ?_
  refine va_put (D := D) (ci := 0) (v := .int (nI ((n + 1) + 1))) (ty := .int) (C := R_SE) (T := F_SE) (N := 14) hx hb hts i_SE t_SE t_SE_ok n_SE hown hK hP hD hS 0 rfl rfl 1 (by decide +kernel) (hts _ w_43) (fun _ h9 => h9) rfl (by decide +kernel) rfl rfl (by simp [hfl]) (show decode prog_1_method_3_code 27 = .ok (.putfield 13, 3) by decide +kernel) (fun H locs hP hD hS => ?_)
  have hP : va_P D cl [(h0, .inr (0, ((fs.set 1 (.int (nI (n + 1)))).set 1 (.int (nI ((n + 1) + 1)))))), (q0, .inl (cA0, N, .inl (wrt f n (by8u p0) 2)))] H := hP
  have hD : va_D _ [(h0, .inr (0, ((fs.set 1 (.int (nI (n + 1)))).set 1 (.int (nI ((n + 1) + 1)))))), (q0, .inl (cA0, N, .inl (wrt f n (by8u p0) 2)))] := hD
  refine lv_iinc (v := 8) (lv' := [(2, .int 8), (0, .ref h0), (1, .int p0)]) hx hb (show decode prog_1_method_3_code 30 = .ok (.iinc 2 (-8), 3) by decide +kernel) hl (k := 0) rfl (by decide +kernel) (by decide +kernel) rfl (fun ls hl => ?_)
  refine lv_goto (tgt := 3) hx hb (show decode prog_1_method_3_code 33 = .ok (.goto (-30), 3) by decide +kernel) (by decide +kernel) ?_
  refine lv_iload_n hx hb (show decode prog_1_method_3_code 3 = .ok (.iload_n 2, 1) by decide +kernel) rfl (lv_at hl 0 rfl) ?_
  refine lv_if_lt (tgt := 36) hx hb (show decode prog_1_method_3_code 4 = .ok (.ifCond .lt 32, 3) by decide +kernel) (by decide +kernel) (fun c_7 => absurd c_7 (by decide +kernel)) (fun c_7 => ?_)
  refine lv_aload_n hx hb (show decode prog_1_method_3_code 7 = .ok (.aload_n 0, 1) by decide +kernel) rfl (lv_at hl 1 rfl) ?_
  refine va_get (D := D) (ci := 0) (v := .ref q0) (C := R_SE) (T := F_SE) (N := 14) hx hb hts i_SE hown hK hP 0 rfl rfl 0 (by decide +kernel) (hts _ w_42) (fun _ h9 => h9) (xg_ne (by decide +kernel) (xg_ne (by decide +kernel) ha0)) (show decode prog_1_method_3_code 8 = .ok (.getfield 9, 3) by decide +kernel) ?_
  refine lv_aload_n hx hb (show decode prog_1_method_3_code 11 = .ok (.aload_n 0, 1) by decide +kernel) rfl (lv_at hl 1 rfl) ?_
  refine va_get (D := D) (ci := 0) (v := .int (nI ((n + 1) + 1))) (C := R_SE) (T := F_SE) (N := 14) hx hb hts i_SE hown hK hP 0 rfl rfl 1 (by decide +kernel) (hts _ w_43) (fun _ h9 => h9) (xg_eq (by simp [hfl])) (show decode prog_1_method_3_code 12 = .ok (.getfield 13, 3) by decide +kernel) ?_
  refine lv_iload_n hx hb (show decode prog_1_method_3_code 15 = .ok (.iload_n 1, 1) by decide +kernel) rfl (lv_at hl 2 rfl) ?_
  refine lv_iload_n hx hb (show decode prog_1_method_3_code 16 = .ok (.iload_n 2, 1) by decide +kernel) rfl (lv_at hl 0 rfl) ?_
  refine lv_iushr hx hb (show decode prog_1_method_3_code 17 = .ok (.iushr, 1) by decide +kernel) rfl ?_
  refine lv_topi (fun z_8 ez_8 => ?_)
  refine lv_i2b hx hb (show decode prog_1_method_3_code 18 = .ok (.i2b, 1) by decide +kernel) rfl ?_
  refine lv_topi (fun z_9 ez_9 => ?_)
  refine va_bast hx hb hK hP hD hS 1 0 rfl rfl (vp_in_nI (show ((n + 1) + 1) < N by omega) (by omega)) (show decode prog_1_method_3_code 19 = .ok (.bastore, 1) by decide +kernel) (fun H locs hP hD hS => ?_)
  rw [wrt_st (show nI ((n + 1) + 1) = nI (n + 2) by congr 1) (by omega) (show vp_nar .byte z_9 = (by8u p0) 2 by rw [ez_9, pk_vb, ez_8]; rfl)] at hP hD
  have hP : va_P D cl [(h0, .inr (0, ((fs.set 1 (.int (nI (n + 1)))).set 1 (.int (nI ((n + 1) + 1)))))), (q0, .inl (cA0, N, .inl (wrt f n (by8u p0) 3)))] H := hP
  have hD : va_D _ [(h0, .inr (0, ((fs.set 1 (.int (nI (n + 1)))).set 1 (.int (nI ((n + 1) + 1)))))), (q0, .inl (cA0, N, .inl (wrt f n (by8u p0) 3)))] := hD
  refine lv_aload_n hx hb (show decode prog_1_method_3_code 20 = .ok (.aload_n 0, 1) by decide +kernel) rfl (lv_at hl 1 rfl) ?_
  refine lv_dup hx hb (show decode prog_1_method_3_code 21 = .ok (.dup, 1) by decide +kernel) rfl ?_
  refine va_get (D := D) (ci := 0) (v := .int (nI ((n + 1) + 1))) (C := R_SE) (T := F_SE) (N := 14) hx hb hts i_SE hown hK hP 0 rfl rfl 1 (by decide +kernel) (hts _ w_43) (fun _ h9 => h9) (xg_eq (by simp [hfl])) (show decode prog_1_method_3_code 22 = .ok (.getfield 13, 3) by decide +kernel) ?_
  refine lv_iconst (v := 1) hx hb (show decode prog_1_method_3_code 25 = .ok (.iconst 1, 1) by decide +kernel) (by decide +kernel) ?_
  refine lv_iadd hx hb (show decode prog_1_method_3_code 26 = .ok (.iadd, 1) by decide +kernel) ?_
  refine xtopi (v := (nI (((n + 1) + 1) + 1))) (show nI ((n + 1) + 1) + nI 1 = (nI (((n + 1) + 1) + 1)) from nI_add _ _) ?_
  refine va_put (D := D) (ci := 0) (v := .int (nI (((n + 1) + 1) + 1))) (ty := .int) (C := R_SE) (T := F_SE) (N := 14) hx hb hts i_SE t_SE t_SE_ok n_SE hown hK hP hD hS 0 rfl rfl 1 (by decide +kernel) (hts _ w_43) (fun _ h9 => h9) rfl (by decide +kernel) rfl rfl (by simp [hfl]) (show decode prog_1_method_3_code 27 = .ok (.putfield 13, 3) by decide +kernel) (fun H locs hP hD hS => ?_)
  have hP : va_P D cl [(h0, .inr (0, (((fs.set 1 (.int (nI (n + 1)))).set 1 (.int (nI ((n + 1) + 1)))).set 1 (.int (nI (((n + 1) + 1) + 1)))))), (q0, .inl (cA0, N, .inl (wrt f n (by8u p0) 3)))] H := hP
  have hD : va_D _ [(h0, .inr (0, (((fs.set 1 (.int (nI (n + 1)))).set 1 (.int (nI ((n + 1) + 1)))).set 1 (.int (nI (((n + 1) + 1) + 1)))))), (q0, .inl (cA0, N, .inl (wrt f n (by8u p0) 3)))] := hD
  refine lv_iinc (v := 0) (lv' := [(2, .int 0), (0, .ref h0), (1, .int p0)]) hx hb (show decode prog_1_method_3_code 30 = .ok (.iinc 2 (-8), 3) by decide +kernel) hl (k := 0) rfl (by decide +kernel) (by decide +kernel) rfl (fun ls hl => ?_)
  refine lv_goto (tgt := 3) hx hb (show decode prog_1_method_3_code 33 = .ok (.goto (-30), 3) by decide +kernel) (by decide +kernel) ?_
  refine lv_iload_n hx hb (show decode prog_1_method_3_code 3 = .ok (.iload_n 2, 1) by decide +kernel) rfl (lv_at hl 0 rfl) ?_
  refine lv_if_lt (tgt := 36) hx hb (show decode prog_1_method_3_code 4 = .ok (.ifCond .lt 32, 3) by decide +kernel) (by decide +kernel) (fun c_10 => absurd c_10 (by decide +kernel)) (fun c_10 => ?_)
  refine lv_aload_n hx hb (show decode prog_1_method_3_code 7 = .ok (.aload_n 0, 1) by decide +kernel) rfl (lv_at hl 1 rfl) ?_
  refine va_get (D := D) (ci := 0) (v := .ref q0) (C := R_SE) (T := F_SE) (N := 14) hx hb hts i_SE hown hK hP 0 rfl rfl 0 (by decide +kernel) (hts _ w_42) (fun _ h9 => h9) (xg_ne (by decide +kernel) (xg_ne (by decide +kernel) (xg_ne (by decide +kernel) ha0))) (show decode prog_1_method_3_code 8 = .ok (.getfield 9, 3) by decide +kernel) ?_
  refine lv_aload_n hx hb (show decode prog_1_method_3_code 11 = .ok (.aload_n 0, 1) by decide +kernel) rfl (lv_at hl 1 rfl) ?_
  refine va_get (D := D) (ci := 0) (v := .int (nI (((n + 1) + 1) + 1))) (C := R_SE) (T := F_SE) (N := 14) hx hb hts i_SE hown hK hP 0 rfl rfl 1 (by decide +kernel) (hts _ w_43) (fun _ h9 => h9) (xg_eq (by simp [hfl])) (show decode prog_1_method_3_code 12 = .ok (.getfield 13, 3) by decide +kernel) ?_
  refine lv_iload_n hx hb (show decode prog_1_method_3_code 15 = .ok (.iload_n 1, 1) by decide +kernel) rfl (lv_at hl 2 rfl) ?_
  refine lv_iload_n hx hb (show decode prog_1_method_3_code 16 = .ok (.iload_n 2, 1) by decide +kernel) rfl (lv_at hl 0 rfl) ?_
  refine lv_iushr hx hb (show decode prog_1_method_3_code 17 = .ok (.iushr, 1) by decide +kernel) rfl ?_
  refine lv_topi (fun z_11 ez_11 => ?_)
  refine lv_i2b hx hb (show decode prog_1_method_3_code 18 = .ok (.i2b, 1) by decide +kernel) rfl ?_
  refine lv_topi (fun z_12 ez_12 => ?_)
  refine va_bast hx hb hK hP hD hS 1 0 rfl rfl (vp_in_nI (show (((n + 1) + 1) + 1) < N by omega) (by omega)) (show decode prog_1_method_3_code 19 = .ok (.bastore, 1) by decide +kernel) (fun H locs hP hD hS => ?_)
  rw [wrt_st (show nI (((n + 1) + 1) + 1) = nI (n + 3) by congr 1) (by omega) (show vp_nar .byte z_12 = (by8u p0) 3 by rw [ez_12, pk_vb, ez_11]; rfl)] at hP hD
  have hP : va_P D cl [(h0, .inr (0, (((fs.set 1 (.int (nI (n + 1)))).set 1 (.int (nI ((n + 1) + 1)))).set 1 (.int (nI (((n + 1) + 1) + 1)))))), (q0, .inl (cA0, N, .inl (wrt f n (by8u p0) 4)))] H := hP
  have hD : va_D _ [(h0, .inr (0, (((fs.set 1 (.int (nI (n + 1)))).set 1 (.int (nI ((n + 1) + 1)))).set 1 (.int (nI (((n + 1) + 1) + 1)))))), (q0, .inl (cA0, N, .inl (wrt f n (by8u p0) 4)))] := hD
  refine lv_aload_n hx hb (show decode prog_1_method_3_code 20 = .ok (.aload_n 0, 1) by decide +kernel) rfl (lv_at hl 1 rfl) ?_
  refine lv_dup hx hb (show decode prog_1_method_3_code 21 = .ok (.dup, 1) by decide +kernel) rfl ?_
  refine va_get (D := D) (ci := 0) (v := .int (nI (((n + 1) + 1) + 1))) (C := R_SE) (T := F_SE) (N := 14) hx hb hts i_SE hown hK hP 0 rfl rfl 1 (by decide +kernel) (hts _ w_43) (fun _ h9 => h9) (xg_eq (by simp [hfl])) (show decode prog_1_method_3_code 22 = .ok (.getfield 13, 3) by decide +kernel) ?_
  refine lv_iconst (v := 1) hx hb (show decode prog_1_method_3_code 25 = .ok (.iconst 1, 1) by decide +kernel) (by decide +kernel) ?_
  refine lv_iadd hx hb (show decode prog_1_method_3_code 26 = .ok (.iadd, 1) by decide +kernel) ?_
  refine xtopi (v := (nI ((((n + 1) + 1) + 1) + 1))) (show nI (((n + 1) + 1) + 1) + nI 1 = (nI ((((n + 1) + 1) + 1) + 1)) from nI_add _ _) ?_
  refine va_put (D := D) (ci := 0) (v := .int (nI ((((n + 1) + 1) + 1) + 1))) (ty := .int) (C := R_SE) (T := F_SE) (N := 14) hx hb hts i_SE t_SE t_SE_ok n_SE hown hK hP hD hS 0 rfl rfl 1 (by decide +kernel) (hts _ w_43) (fun _ h9 => h9) rfl (by decide +kernel) rfl rfl (by simp [hfl]) (show decode prog_1_method_3_code 27 = .ok (.putfield 13, 3) by decide +kernel) (fun H locs hP hD hS => ?_)
  have hP : va_P D cl [(h0, .inr (0, ((((fs.set 1 (.int (nI (n + 1)))).set 1 (.int (nI ((n + 1) + 1)))).set 1 (.int (nI (((n + 1) + 1) + 1)))).set 1 (.int (nI ((((n + 1) + 1) + 1) + 1)))))), (q0, .inl (cA0, N, .inl (wrt f n (by8u p0) 4)))] H := hP
  have hD : va_D _ [(h0, .inr (0, ((((fs.set 1 (.int (nI (n + 1)))).set 1 (.int (nI ((n + 1) + 1)))).set 1 (.int (nI (((n + 1) + 1) + 1)))).set 1 (.int (nI ((((n + 1) + 1) + 1) + 1)))))), (q0, .inl (cA0, N, .inl (wrt f n (by8u p0) 4)))] := hD
  refine lv_iinc (v := (-8)) (lv' := [(2, .int (-8)), (0, .ref h0), (1, .int p0)]) hx hb (show decode prog_1_method_3_code 30 = .ok (.iinc 2 (-8), 3) by decide +kernel) hl (k := 0) rfl (by decide +kernel) (by decide +kernel) rfl (fun ls hl => ?_)
  refine lv_goto (tgt := 3) hx hb (show decode prog_1_method_3_code 33 = .ok (.goto (-30), 3) by decide +kernel) (by decide +kernel) ?_
  refine lv_iload_n hx hb (show decode prog_1_method_3_code 3 = .ok (.iload_n 2, 1) by decide +kernel) rfl (lv_at hl 0 rfl) ?_
  refine lv_if_lt (tgt := 36) hx hb (show decode prog_1_method_3_code 4 = .ok (.ifCond .lt 32, 3) by decide +kernel) (by decide +kernel) (fun c_13 => ?_) (fun c_13 => absurd c_13 (by decide +kernel))
  exact W.vret hx hb hr (fun t ht hW => ⟨⟨(), rfl, trivial, by rw [ht]; exact hP, va_K.moved hW.alike hK, hD⟩, hS.F ht⟩) hS.2.2 (show decode prog_1_method_3_code 36 = .ok (.return_, 1) by decide +kernel)
set_option maxHeartbeats 4000000 in
set_option maxRecDepth 100000 in
/-- SignalEngine.feed, in general -/
theorem g_SE_feed_full (l : Launch) (D : va_G) (ad : Nat → Nat) (de sz : Nat) (h0 : Nat) (fs : List Value) (hfl : fs.length = 14)  (p0 : Int32) (p1 : Int32) (p2 : Int32) (p3 : Int32) (p4 : Int32) (n : Nat) (hn : n ≤ 32768) (hn2 : 32768 < n + 20) (hf1 : xfa fs 1 (.int (nI n)))  : Met l ⟨"SignalEngine", "feed", "(IIIII)I"⟩ (tw ⟨"SignalEngine", "feed", "(IIIII)I"⟩ prog_1_method_2_code 6 (some (.int))) { frames := 0, cells := 0, slots := 0, locals := 0 } (va_Pc [.ref h0, .int p0, .int p1, .int p2, .int p3, .int p4] (xp ad de D [(h0, .inr (0, fs))] [] sz)) (va_Qi (fun (r : Int32) (_ : Unit) => r = (-1)) (fun (_ : Unit) t => xq D (va_A [(h0, .inr (0, fs))] sz) [(h0, .inr (0, fs))] [] t) (va_A [(h0, .inr (0, fs))] sz)) 0 0 (va_A [(h0, .inr (0, fs))] sz) := by
  refine xMet (by decide +kernel) (Nat.le_of_ble_eq_true rfl) ?_
  intro p e s m below meth c hx hb hr hlocks hin hml hown hts hsz hP hK hD hE hA ls hl
  have hS : va_S _ s.heap s.heap [] := va_S.rf (A := va_A [(h0, .inr (0, fs))] sz)
  have hl : lv_has ls 6 [(0, .ref h0), (1, .int p0), (2, .int p1), (3, .int p2), (4, .int p3), (5, .int p4)] := hl
  refine lv_aload_n hx hb (show decode prog_1_method_2_code 0 = .ok (.aload_n 0, 1) by decide +kernel) rfl (lv_at hl 0 rfl) ?_
  refine va_get (D := D) (ci := 0) (v := .int (nI n)) (C := R_SE) (T := F_SE) (N := 14) hx hb hts i_SE hown hK hP 0 rfl rfl 1 (by decide +kernel) (hts _ w_43) (fun _ h9 => h9) hf1 (show decode prog_1_method_2_code 1 = .ok (.getfield 13, 3) by decide +kernel) ?_
  refine lv_bipush (v := 20) hx hb (show decode prog_1_method_2_code 4 = .ok (.bipush 20, 2) by decide +kernel) (by decide +kernel) ?_
  refine lv_iadd hx hb (show decode prog_1_method_2_code 6 = .ok (.iadd, 1) by decide +kernel) ?_
  refine xtopi (v := (nI (n + 20))) (show nI n + nI 20 = (nI (n + 20)) from nI_add _ _) ?_
  refine lv_ldc (v := 32768) hx hb hown (hts _ w_90) (show decode prog_1_method_2_code 7 = .ok (.ldc 17, 2) by decide +kernel) ?_
  refine lv_icmp_le (tgt := 14) hx hb (show decode prog_1_method_2_code 9 = .ok (.if_icmp .le 5, 3) by decide +kernel) (by decide +kernel) (fun c_1 => absurd c_1 (show ¬ nI (n + 20) ≤ nI 32768 from nI_ge (by omega) (by omega))) (fun c_1 => ?_)
  refine lv_iconst (v := (-1)) hx hb (show decode prog_1_method_2_code 12 = .ok (.iconst (-1), 1) by decide +kernel) (by decide +kernel) ?_
  exact W.iret (v := (-1)) hx hb hr (fun t ht hW => ⟨⟨(-1), (), rfl, rfl, by rw [ht]; exact hP, va_K.moved hW.alike hK, hD⟩, hS.F ht⟩) hS.2.2 (show decode prog_1_method_2_code 13 = .ok (.ireturn, 1) by decide +kernel)
set_option maxHeartbeats 4000000 in
set_option maxRecDepth 100000 in
/-- SignalEngineModel.feed, in general -/
theorem g_MD_feed_full (l : Launch) (D : va_G) (ad : Nat → Nat) (de sz : Nat) (h0 : Nat) (fs : List Value) (hfl : fs.length = 107)  (p0 : Int32) (p1 : Int32) (p2 : Int32) (p3 : Int32) (p4 : Int32) (n : Nat) (hn : n ≤ 32768) (hn2 : 32768 < n + 20) (hf2 : xfa fs 2 (.int (nI n)))  : Met l ⟨"SignalEngineModel", "feed", "(IIIII)I"⟩ (tw ⟨"SignalEngineModel", "feed", "(IIIII)I"⟩ prog_15_method_4_code 8 (some (.int))) { frames := 0, cells := 0, slots := 0, locals := 0 } (va_Pc [.ref h0, .int p0, .int p1, .int p2, .int p3, .int p4] (xp ad de D [(h0, .inr (1, fs))] [] sz)) (va_Qi (fun (r : Int32) (_ : Unit) => r = (-1)) (fun (_ : Unit) t => xq D (va_A [(h0, .inr (1, fs))] sz) [(h0, .inr (1, (fs.set 0 (.int 0))))] [] t) (va_A [(h0, .inr (1, fs))] sz)) 0 0 (va_A [(h0, .inr (1, fs))] sz) := by
  refine xMet (by decide +kernel) (Nat.le_of_ble_eq_true rfl) ?_
  intro p e s m below meth c hx hb hr hlocks hin hml hown hts hsz hP hK hD hE hA ls hl
  have hS : va_S _ s.heap s.heap [] := va_S.rf (A := va_A [(h0, .inr (1, fs))] sz)
  have hl : lv_has ls 8 [(0, .ref h0), (1, .int p0), (2, .int p1), (3, .int p2), (4, .int p3), (5, .int p4)] := hl
  refine lv_aload_n hx hb (show decode prog_15_method_4_code 0 = .ok (.aload_n 0, 1) by decide +kernel) rfl (lv_at hl 0 rfl) ?_
  refine lv_iconst (v := 0) hx hb (show decode prog_15_method_4_code 1 = .ok (.iconst 0, 1) by decide +kernel) (by decide +kernel) ?_
  refine va_put (D := D) (ci := 1) (v := .int 0) (ty := .int) (C := R_MD) (T := F_MD) (N := 107) hx hb hts i_MD t_MD t_MD_ok n_MD hown hK hP hD hS 0 rfl rfl 0 (by decide +kernel) (hts _ w_1562) (fun _ h9 => h9) rfl (by decide +kernel) rfl rfl (by simp [hfl]) (show decode prog_15_method_4_code 2 = .ok (.putfield 206, 3) by decide +kernel) (fun H locs hP hD hS => ?_)
  have hP : va_P D cl [(h0, .inr (1, (fs.set 0 (.int 0))))] H := hP
  have hD : va_D _ [(h0, .inr (1, (fs.set 0 (.int 0))))] := hD
  refine lv_aload_n hx hb (show decode prog_15_method_4_code 5 = .ok (.aload_n 0, 1) by decide +kernel) rfl (lv_at hl 0 rfl) ?_
  refine va_get (D := D) (ci := 1) (v := .int (nI n)) (C := R_MD) (T := F_MD) (N := 107) hx hb hts i_MD hown hK hP 0 rfl rfl 2 (by decide +kernel) (hts _ w_1564) (fun _ h9 => h9) (xg_ne (by decide +kernel) hf2) (show decode prog_15_method_4_code 6 = .ok (.getfield 210, 3) by decide +kernel) ?_
  refine lv_bipush (v := 20) hx hb (show decode prog_15_method_4_code 9 = .ok (.bipush 20, 2) by decide +kernel) (by decide +kernel) ?_
  refine lv_iadd hx hb (show decode prog_15_method_4_code 11 = .ok (.iadd, 1) by decide +kernel) ?_
  refine xtopi (v := (nI (n + 20))) (show nI n + nI 20 = (nI (n + 20)) from nI_add _ _) ?_
  refine lv_ldc (v := 32768) hx hb hown (hts _ w_1558) (show decode prog_15_method_4_code 12 = .ok (.ldc 9, 2) by decide +kernel) ?_
  refine lv_icmp_le (tgt := 19) hx hb (show decode prog_15_method_4_code 14 = .ok (.if_icmp .le 5, 3) by decide +kernel) (by decide +kernel) (fun c_1 => absurd c_1 (show ¬ nI (n + 20) ≤ nI 32768 from nI_ge (by omega) (by omega))) (fun c_1 => ?_)
  refine lv_iconst (v := (-1)) hx hb (show decode prog_15_method_4_code 17 = .ok (.iconst (-1), 1) by decide +kernel) (by decide +kernel) ?_
  exact W.iret (v := (-1)) hx hb hr (fun t ht hW => ⟨⟨(-1), (), rfl, rfl, by rw [ht]; exact hP, va_K.moved hW.alike hK, hD⟩, hS.F ht⟩) hS.2.2 (show decode prog_15_method_4_code 18 = .ok (.ireturn, 1) by decide +kernel)
set_option maxHeartbeats 4000000 in
set_option maxRecDepth 100000 in
/-- SignalEngineModel.feed, in general -/
theorem g_MD_feed_w (l : Launch) (D : va_G) (ad : Nat → Nat) (de sz : Nat) (h0 : Nat) (fs : List Value) (hfl : fs.length = 107) (q0 : Nat) (cA0 : ClassId) (p0 : Int32) (p1 : Int32) (p2 : Int32) (p3 : Int32) (p4 : Int32) (n : Nat) (f : Nat → Int32) (hn : n + 20 ≤ 32768) (hf2 : xfa fs 2 (.int (nI n))) (ha0 : xfa fs 1 (.ref q0)) : Met l ⟨"SignalEngineModel", "feed", "(IIIII)I"⟩ (tw ⟨"SignalEngineModel", "feed", "(IIIII)I"⟩ prog_15_method_4_code 8 (some (.int))) { frames := 0, cells := 0, slots := 0, locals := 0 } (va_Pc [.ref h0, .int p0, .int p1, .int p2, .int p3, .int p4] (xp ad de D [(h0, .inr (1, fs)), (q0, .inl (cA0, 32768, .inl (wrt f n (fdW p0 p1 p2 p3 p4) 0)))] [(cA0, .byte)] sz)) (va_Qi (fun (r : Int32) (_ : Unit) => r = (nI (n + 20))) (fun (_ : Unit) t => xq D (va_A [(h0, .inr (1, fs)), (q0, .inl (cA0, 32768, .inl (wrt f n (fdW p0 p1 p2 p3 p4) 0)))] sz) [(h0, .inr (1, (((fs.set 0 (.int 0)).set 2 (.int (nI (n + 20)))).set 3 (.int 1)))), (q0, .inl (cA0, 32768, .inl (wrt f n (fdW p0 p1 p2 p3 p4) 20)))] [(cA0, .byte)] t) (va_A [(h0, .inr (1, fs)), (q0, .inl (cA0, 32768, .inl (wrt f n (fdW p0 p1 p2 p3 p4) 0)))] sz)) 0 0 (va_A [(h0, .inr (1, fs)), (q0, .inl (cA0, 32768, .inl (wrt f n (fdW p0 p1 p2 p3 p4) 0)))] sz) := by
  refine xMet (by decide +kernel) (Nat.le_of_ble_eq_true rfl) ?_
  intro p e s m below meth c hx hb hr hlocks hin hml hown hts hsz hP hK hD hE hA ls hl
  have hS : va_S _ s.heap s.heap [] := va_S.rf (A := va_A [(h0, .inr (1, fs)), (q0, .inl (cA0, 32768, .inl (wrt f n (fdW p0 p1 p2 p3 p4) 0)))] sz)
  have hl : lv_has ls 8 [(0, .ref h0), (1, .int p0), (2, .int p1), (3, .int p2), (4, .int p3), (5, .int p4)] := hl
  refine lv_aload_n hx hb (show decode prog_15_method_4_code 0 = .ok (.aload_n 0, 1) by decide +kernel) rfl (lv_at hl 0 rfl) ?_
  refine lv_iconst (v := 0) hx hb (show decode prog_15_method_4_code 1 = .ok (.iconst 0, 1) by decide +kernel) (by decide +kernel) ?_
  refine va_put (D := D) (ci := 1) (v := .int 0) (ty := .int) (C := R_MD) (T := F_MD) (N := 107) hx hb hts i_MD t_MD t_MD_ok n_MD hown hK hP hD hS 0 rfl rfl 0 (by decide +kernel) (hts _ w_1562) (fun _ h9 => h9) rfl (by decide +kernel) rfl rfl (by simp [hfl]) (show decode prog_15_method_4_code 2 = .ok (.putfield 206, 3) by decide +kernel) (fun H locs hP hD hS => ?_)
  have hP : va_P D cl [(h0, .inr (1, (fs.set 0 (.int 0)))), (q0, .inl (cA0, 32768, .inl (wrt f n (fdW p0 p1 p2 p3 p4) 0)))] H := hP
  have hD : va_D _ [(h0, .inr (1, (fs.set 0 (.int 0)))), (q0, .inl (cA0, 32768, .inl (wrt f n (fdW p0 p1 p2 p3 p4) 0)))] := hD
  refine lv_aload_n hx hb (show decode prog_15_method_4_code 5 = .ok (.aload_n 0, 1) by decide +kernel) rfl (lv_at hl 0 rfl) ?_
  refine va_get (D := D) (ci := 1) (v := .int (nI n)) (C := R_MD) (T := F_MD) (N := 107) hx hb hts i_MD hown hK hP 0 rfl rfl 2 (by decide +kernel) (hts _ w_1564) (fun _ h9 => h9) (xg_ne (by decide +kernel) hf2) (show decode prog_15_method_4_code 6 = .ok (.getfield 210, 3) by decide +kernel) ?_
  refine lv_bipush (v := 20) hx hb (show decode prog_15_method_4_code 9 = .ok (.bipush 20, 2) by decide +kernel) (by decide +kernel) ?_
  refine lv_iadd hx hb (show decode prog_15_method_4_code 11 = .ok (.iadd, 1) by decide +kernel) ?_
  refine xtopi (v := (nI (n + 20))) (show nI n + nI 20 = (nI (n + 20)) from nI_add _ _) ?_
  refine lv_ldc (v := 32768) hx hb hown (hts _ w_1558) (show decode prog_15_method_4_code 12 = .ok (.ldc 9, 2) by decide +kernel) ?_
  refine lv_icmp_le (tgt := 19) hx hb (show decode prog_15_method_4_code 14 = .ok (.if_icmp .le 5, 3) by decide +kernel) (by decide +kernel) (fun c_1 => ?_) (fun c_1 => absurd (show nI (n + 20) ≤ nI 32768 from nI_le (by omega) (by omega)) c_1)
  refine lv_iconst (v := 0) hx hb (show decode prog_15_method_4_code 19 = .ok (.iconst 0, 1) by decide +kernel) (by decide +kernel) ?_
  refine lv_istore (lv' := [(6, .int 0), (0, .ref h0), (1, .int p0), (2, .int p1), (3, .int p2), (4, .int p3), (5, .int p4)]) hx hb (show decode prog_15_method_4_code 20 = .ok (.istore 6, 2) by decide +kernel) hl (by decide +kernel) rfl (fun ls hl => ?_)
  refine lv_iload hx hb (show decode prog_15_method_4_code 22 = .ok (.iload 6, 2) by decide +kernel) (lv_at hl 0 rfl) ?_
  refine lv_bipush (v := 20) hx hb (show decode prog_15_method_4_code 24 = .ok (.bipush 20, 2) by decide +kernel) (by decide +kernel) ?_
  refine lv_icmp_ge (tgt := 109) hx hb (show decode prog_15_method_4_code 26 = .ok (.if_icmp .ge 83, 3) by decide +kernel) (by decide +kernel) (fun c_2 => absurd c_2 (by decide +kernel)) (fun c_2 => ?_)
  refine lv_iload hx hb (show decode prog_15_method_4_code 29 = .ok (.iload 6, 2) by decide +kernel) (lv_at hl 0 rfl) ?_
  refine lv_iconst (v := 4) hx hb (show decode prog_15_method_4_code 31 = .ok (.iconst 4, 1) by decide +kernel) (by decide +kernel) ?_
  refine lv_icmp_ge (tgt := 39) hx hb (show decode prog_15_method_4_code 32 = .ok (.if_icmp .ge 7, 3) by decide +kernel) (by decide +kernel) (fun c_3 => absurd c_3 (by decide +kernel)) (fun c_3 => ?_)
  refine lv_iload_n hx hb (show decode prog_15_method_4_code 35 = .ok (.iload_n 1, 1) by decide +kernel) rfl (lv_at hl 2 rfl) ?_
  refine lv_goto (tgt := 75) hx hb (show decode prog_15_method_4_code 36 = .ok (.goto 39, 3) by decide +kernel) (by decide +kernel) ?_
  refine lv_istore (lv' := [(7, .int p0), (6, .int 0), (0, .ref h0), (1, .int p0), (2, .int p1), (3, .int p2), (4, .int p3), (5, .int p4)]) hx hb (show decode prog_15_method_4_code 75 = .ok (.istore 7, 2) by decide +kernel) hl (by decide +kernel) rfl (fun ls hl => ?_)
  refine lv_aload_n hx hb (show decode prog_15_method_4_code 77 = .ok (.aload_n 0, 1) by decide +kernel) rfl (lv_at hl 2 rfl) ?_
  refine va_get (D := D) (ci := 1) (v := .ref q0) (C := R_MD) (T := F_MD) (N := 107) hx hb hts i_MD hown hK hP 0 rfl rfl 1 (by decide +kernel) (hts _ w_1563) (fun _ h9 => h9) (xg_ne (by decide +kernel) ha0) (show decode prog_15_method_4_code 78 = .ok (.getfield 10, 3) by decide +kernel) ?_
  refine lv_aload_n hx hb (show decode prog_15_method_4_code 81 = .ok (.aload_n 0, 1) by decide +kernel) rfl (lv_at hl 2 rfl) ?_
  refine va_get (D := D) (ci := 1) (v := .int (nI n)) (C := R_MD) (T := F_MD) (N := 107) hx hb hts i_MD hown hK hP 0 rfl rfl 2 (by decide +kernel) (hts _ w_1564) (fun _ h9 => h9) (xg_ne (by decide +kernel) hf2) (show decode prog_15_method_4_code 82 = .ok (.getfield 210, 3) by decide +kernel) ?_
  refine lv_iload hx hb (show decode prog_15_method_4_code 85 = .ok (.iload 6, 2) by decide +kernel) (lv_at hl 1 rfl) ?_
  refine lv_iadd hx hb (show decode prog_15_method_4_code 87 = .ok (.iadd, 1) by decide +kernel) ?_
  refine xtopi (v := (nI (n + 0))) (show nI n + nI 0 = (nI (n + 0)) from nI_add _ _) ?_
  refine lv_iload hx hb (show decode prog_15_method_4_code 88 = .ok (.iload 7, 2) by decide +kernel) (lv_at hl 0 rfl) ?_
  refine lv_bipush (v := 24) hx hb (show decode prog_15_method_4_code 90 = .ok (.bipush 24, 2) by decide +kernel) (by decide +kernel) ?_
  refine lv_bipush (v := 8) hx hb (show decode prog_15_method_4_code 92 = .ok (.bipush 8, 2) by decide +kernel) (by decide +kernel) ?_
  refine lv_iload hx hb (show decode prog_15_method_4_code 94 = .ok (.iload 6, 2) by decide +kernel) (lv_at hl 1 rfl) ?_
  refine lv_iconst (v := 4) hx hb (show decode prog_15_method_4_code 96 = .ok (.iconst 4, 1) by decide +kernel) (by decide +kernel) ?_
  refine lv_irem hx hb (show decode prog_15_method_4_code 97 = .ok (.irem, 1) by decide +kernel) (by decide +kernel) ?_
  refine xtopi (v := 0) (by decide +kernel) ?_
  refine lv_imul hx hb (show decode prog_15_method_4_code 98 = .ok (.imul, 1) by decide +kernel) ?_
  refine xtopi (v := 0) (by decide +kernel) ?_
  refine lv_isub hx hb (show decode prog_15_method_4_code 99 = .ok (.isub, 1) by decide +kernel) ?_
  refine xtopi (v := 24) (by decide +kernel) ?_
  refine lv_ishr hx hb (show decode prog_15_method_4_code 100 = .ok (.ishr, 1) by decide +kernel) ?_
  refine lv_topi (fun z_4 ez_4 => ?_)
  refine lv_i2b hx hb (show decode prog_15_method_4_code 101 = .ok (.i2b, 1) by decide +kernel) rfl ?_
  refine lv_topi (fun z_5 ez_5 => ?_)
  refine va_bast hx hb hK hP hD hS 1 0 rfl rfl (vp_in_nI (show (n + 0) < 32768 by omega) (by omega)) (show decode prog_15_method_4_code 102 = .ok (.bastore, 1) by decide +kernel) (fun H locs hP hD hS => ?_)
  rw [wrt_st (show nI (n + 0) = nI (n + 0) by congr 1) (by omega) (show vp_nar .byte z_5 = (fdW p0 p1 p2 p3 p4) 0 by rw [ez_5, pk_vb, ez_4]; rfl)] at hP hD
  have hP : va_P D cl [(h0, .inr (1, (fs.set 0 (.int 0)))), (q0, .inl (cA0, 32768, .inl (wrt f n (fdW p0 p1 p2 p3 p4) 1)))] H := hP
  have hD : va_D _ [(h0, .inr (1, (fs.set 0 (.int 0)))), (q0, .inl (cA0, 32768, .inl (wrt f n (fdW p0 p1 p2 p3 p4) 1)))] := hD
  refine lv_iinc (v := 1) (lv' := [(6, .int 1), (7, .int p0), (0, .ref h0), (1, .int p0), (2, .int p1), (3, .int p2), (4, .int p3), (5, .int p4)]) hx hb (show decode prog_15_method_4_code 103 = .ok (.iinc 6 1, 3) by decide +kernel) hl (k := 1) rfl (by decide +kernel) (by decide +kernel) rfl (fun ls hl => ?_)
  refine lv_goto (tgt := 22) hx hb (show decode prog_15_method_4_code 106 = .ok (.goto (-84), 3) by decide +kernel) (by decide +kernel) ?_
  refine lv_iload hx hb (show decode prog_15_method_4_code 22 = .ok (.iload 6, 2) by decide +kernel) (lv_at hl 0 rfl) ?_
  refine lv_bipush (v := 20) hx hb (show decode prog_15_method_4_code 24 = .ok (.bipush 20, 2) by decide +kernel) (by decide +kernel) ?_
  refine lv_icmp_ge (tgt := 109) hx hb (show decode prog_15_method_4_code 26 = .ok (.if_icmp .ge 83, 3) by decide +kernel) (by decide +kernel) (fun c_6 => absurd c_6 (by decide +kernel)) (fun c_6 => ?_)
  refine lv_iload hx hb (show decode prog_15_method_4_code 29 = .ok (.iload 6, 2) by decide +kernel) (lv_at hl 0 rfl) ?_
  refine lv_iconst (v := 4) hx hb (show decode prog_15_method_4_code 31 = .ok (.iconst 4, 1) by decide +kernel) (by decide +kernel) ?_
  refine lv_icmp_ge (tgt := 39) hx hb (show decode prog_15_method_4_code 32 = .ok (.if_icmp .ge 7, 3) by decide +kernel) (by decide +kernel) (fun c_7 => absurd c_7 (by decide +kernel)) (fun c_7 => ?_)
  refine lv_iload_n hx hb (show decode prog_15_method_4_code 35 = .ok (.iload_n 1, 1) by decide +kernel) rfl (lv_at hl 3 rfl) ?_
  refine lv_goto (tgt := 75) hx hb (show decode prog_15_method_4_code 36 = .ok (.goto 39, 3) by decide +kernel) (by decide +kernel) ?_
  refine lv_istore (lv' := [(7, .int p0), (6, .int 1), (0, .ref h0), (1, .int p0), (2, .int p1), (3, .int p2), (4, .int p3), (5, .int p4)]) hx hb (show decode prog_15_method_4_code 75 = .ok (.istore 7, 2) by decide +kernel) hl (by decide +kernel) rfl (fun ls hl => ?_)
  refine lv_aload_n hx hb (show decode prog_15_method_4_code 77 = .ok (.aload_n 0, 1) by decide +kernel) rfl (lv_at hl 2 rfl) ?_
  refine va_get (D := D) (ci := 1) (v := .ref q0) (C := R_MD) (T := F_MD) (N := 107) hx hb hts i_MD hown hK hP 0 rfl rfl 1 (by decide +kernel) (hts _ w_1563) (fun _ h9 => h9) (xg_ne (by decide +kernel) ha0) (show decode prog_15_method_4_code 78 = .ok (.getfield 10, 3) by decide +kernel) ?_
  refine lv_aload_n hx hb (show decode prog_15_method_4_code 81 = .ok (.aload_n 0, 1) by decide +kernel) rfl (lv_at hl 2 rfl) ?_
  refine va_get (D := D) (ci := 1) (v := .int (nI n)) (C := R_MD) (T := F_MD) (N := 107) hx hb hts i_MD hown hK hP 0 rfl rfl 2 (by decide +kernel) (hts _ w_1564) (fun _ h9 => h9) (xg_ne (by decide +kernel) hf2) (show decode prog_15_method_4_code 82 = .ok (.getfield 210, 3) by decide +kernel) ?_
  refine lv_iload hx hb (show decode prog_15_method_4_code 85 = .ok (.iload 6, 2) by decide +kernel) (lv_at hl 1 rfl) ?_
  refine lv_iadd hx hb (show decode prog_15_method_4_code 87 = .ok (.iadd, 1) by decide +kernel) ?_
  refine xtopi (v := (nI (n + 1))) (show nI n + nI 1 = (nI (n + 1)) from nI_add _ _) ?_
  refine lv_iload hx hb (show decode prog_15_method_4_code 88 = .ok (.iload 7, 2) by decide +kernel) (lv_at hl 0 rfl) ?_
  refine lv_bipush (v := 24) hx hb (show decode prog_15_method_4_code 90 = .ok (.bipush 24, 2) by decide +kernel) (by decide +kernel) ?_
  refine lv_bipush (v := 8) hx hb (show decode prog_15_method_4_code 92 = .ok (.bipush 8, 2) by decide +kernel) (by decide +kernel) ?_
  refine lv_iload hx hb (show decode prog_15_method_4_code 94 = .ok (.iload 6, 2) by decide +kernel) (lv_at hl 1 rfl) ?_
  refine lv_iconst (v := 4) hx hb (show decode prog_15_method_4_code 96 = .ok (.iconst 4, 1) by decide +kernel) (by decide +kernel) ?_
  refine lv_irem hx hb (show decode prog_15_method_4_code 97 = .ok (.irem, 1) by decide +kernel) (by decide +kernel) ?_
  refine xtopi (v := 1) (by decide +kernel) ?_
  refine lv_imul hx hb (show decode prog_15_method_4_code 98 = .ok (.imul, 1) by decide +kernel) ?_
  refine xtopi (v := 8) (by decide +kernel) ?_
  refine lv_isub hx hb (show decode prog_15_method_4_code 99 = .ok (.isub, 1) by decide +kernel) ?_
  refine xtopi (v := 16) (by decide +kernel) ?_
  refine lv_ishr hx hb (show decode prog_15_method_4_code 100 = .ok (.ishr, 1) by decide +kernel) ?_
  refine lv_topi (fun z_8 ez_8 => ?_)
  refine lv_i2b hx hb (show decode prog_15_method_4_code 101 = .ok (.i2b, 1) by decide +kernel) rfl ?_
  refine lv_topi (fun z_9 ez_9 => ?_)
  refine va_bast hx hb hK hP hD hS 1 0 rfl rfl (vp_in_nI (show (n + 1) < 32768 by omega) (by omega)) (show decode prog_15_method_4_code 102 = .ok (.bastore, 1) by decide +kernel) (fun H locs hP hD hS => ?_)
  rw [wrt_st (show nI (n + 1) = nI (n + 1) by congr 1) (by omega) (show vp_nar .byte z_9 = (fdW p0 p1 p2 p3 p4) 1 by rw [ez_9, pk_vb, ez_8]; rfl)] at hP hD
  have hP : va_P D cl [(h0, .inr (1, (fs.set 0 (.int 0)))), (q0, .inl (cA0, 32768, .inl (wrt f n (fdW p0 p1 p2 p3 p4) 2)))] H := hP
  have hD : va_D _ [(h0, .inr (1, (fs.set 0 (.int 0)))), (q0, .inl (cA0, 32768, .inl (wrt f n (fdW p0 p1 p2 p3 p4) 2)))] := hD
  refine lv_iinc (v := 2) (lv' := [(6, .int 2), (7, .int p0), (0, .ref h0), (1, .int p0), (2, .int p1), (3, .int p2), (4, .int p3), (5, .int p4)]) hx hb (show decode prog_15_method_4_code 103 = .ok (.iinc 6 1, 3) by decide +kernel) hl (k := 1) rfl (by decide +kernel) (by decide +kernel) rfl (fun ls hl => ?_)
  refine lv_goto (tgt := 22) hx hb (show decode prog_15_method_4_code 106 = .ok (.goto (-84), 3) by decide +kernel) (by decide +kernel) ?_
  refine lv_iload hx hb (show decode prog_15_method_4_code 22 = .ok (.iload 6, 2) by decide +kernel) (lv_at hl 0 rfl) ?_
  refine lv_bipush (v := 20) hx hb (show decode prog_15_method_4_code 24 = .ok (.bipush 20, 2) by decide +kernel) (by decide +kernel) ?_
  refine lv_icmp_ge (tgt := 109) hx hb (show decode prog_15_method_4_code 26 = .ok (.if_icmp .ge 83, 3) by decide +kernel) (by decide +kernel) (fun c_10 => absurd c_10 (by decide +kernel)) (fun c_10 => ?_)
  refine lv_iload hx hb (show decode prog_15_method_4_code 29 = .ok (.iload 6, 2) by decide +kernel) (lv_at hl 0 rfl) ?_
  refine lv_iconst (v := 4) hx hb (show decode prog_15_method_4_code 31 = .ok (.iconst 4, 1) by decide +kernel) (by decide +kernel) ?_
  refine lv_icmp_ge (tgt := 39) hx hb (show decode prog_15_method_4_code 32 = .ok (.if_icmp .ge 7, 3) by decide +kernel) (by decide +kernel) (fun c_11 => absurd c_11 (by decide +kernel)) (fun c_11 => ?_)
  refine lv_iload_n hx hb (show decode prog_15_method_4_code 35 = .ok (.iload_n 1, 1) by decide +kernel) rfl (lv_at hl 3 rfl) ?_
  refine lv_goto (tgt := 75) hx hb (show decode prog_15_method_4_code 36 = .ok (.goto 39, 3) by decide +kernel) (by decide +kernel) ?_
  refine lv_istore (lv' := [(7, .int p0), (6, .int 2), (0, .ref h0), (1, .int p0), (2, .int p1), (3, .int p2), (4, .int p3), (5, .int p4)]) hx hb (show decode prog_15_method_4_code 75 = .ok (.istore 7, 2) by decide +kernel) hl (by decide +kernel) rfl (fun ls hl => ?_)
  refine lv_aload_n hx hb (show decode prog_15_method_4_code 77 = .ok (.aload_n 0, 1) by decide +kernel) rfl (lv_at hl 2 rfl) ?_
  refine va_get (D := D) (ci := 1) (v := .ref q0) (C := R_MD) (T := F_MD) (N := 107) hx hb hts i_MD hown hK hP 0 rfl rfl 1 (by decide +kernel) (hts _ w_1563) (fun _ h9 => h9) (xg_ne (by decide +kernel) ha0) (show decode prog_15_method_4_code 78 = .ok (.getfield 10, 3) by decide +kernel) ?_
  refine lv_aload_n hx hb (show decode prog_15_method_4_code 81 = .ok (.aload_n 0, 1) by decide +kernel) rfl (lv_at hl 2 rfl) ?_
  refine va_get (D := D) (ci := 1) (v := .int (nI n)) (C := R_MD) (T := F_MD) (N := 107) hx hb hts i_MD hown hK hP 0 rfl rfl 2 (by decide +kernel) (hts _ w_1564) (fun _ h9 => h9) (xg_ne (by decide +kernel) hf2) (show decode prog_15_method_4_code 82 = .ok (.getfield 210, 3) by decide +kernel) ?_
  refine lv_iload hx hb (show decode prog_15_method_4_code 85 = .ok (.iload 6, 2) by decide +kernel) (lv_at hl 1 rfl) ?_
  refine lv_iadd hx hb (show decode prog_15_method_4_code 87 = .ok (.iadd, 1) by decide +kernel) ?_
  refine xtopi (v := (nI (n + 2))) (show nI n + nI 2 = (nI (n + 2)) from nI_add _ _) ?_
  refine lv_iload hx hb (show decode prog_15_method_4_code 88 = .ok (.iload 7, 2) by decide +kernel) (lv_at hl 0 rfl) ?_
  refine lv_bipush (v := 24) hx hb (show decode prog_15_method_4_code 90 = .ok (.bipush 24, 2) by decide +kernel) (by decide +kernel) ?_
  refine lv_bipush (v := 8) hx hb (show decode prog_15_method_4_code 92 = .ok (.bipush 8, 2) by decide +kernel) (by decide +kernel) ?_
  refine lv_iload hx hb (show decode prog_15_method_4_code 94 = .ok (.iload 6, 2) by decide +kernel) (lv_at hl 1 rfl) ?_
  refine lv_iconst (v := 4) hx hb (show decode prog_15_method_4_code 96 = .ok (.iconst 4, 1) by decide +kernel) (by decide +kernel) ?_
  refine lv_irem hx hb (show decode prog_15_method_4_code 97 = .ok (.irem, 1) by decide +kernel) (by decide +kernel) ?_
  refine xtopi (v := 2) (by decide +kernel) ?_
  refine lv_imul hx hb (show decode prog_15_method_4_code 98 = .ok (.imul, 1) by decide +kernel) ?_
  refine xtopi (v := 16) (by decide +kernel) ?_
  refine lv_isub hx hb (show decode prog_15_method_4_code 99 = .ok (.isub, 1) by decide +kernel) ?_
  refine xtopi (v := 8) (by decide +kernel) ?_
  refine lv_ishr hx hb (show decode prog_15_method_4_code 100 = .ok (.ishr, 1) by decide +kernel) ?_
  refine lv_topi (fun z_12 ez_12 => ?_)
  refine lv_i2b hx hb (show decode prog_15_method_4_code 101 = .ok (.i2b, 1) by decide +kernel) rfl ?_
  refine lv_topi (fun z_13 ez_13 => ?_)
  refine va_bast hx hb hK hP hD hS 1 0 rfl rfl (vp_in_nI (show (n + 2) < 32768 by omega) (by omega)) (show decode prog_15_method_4_code 102 = .ok (.bastore, 1) by decide +kernel) (fun H locs hP hD hS => ?_)
  rw [wrt_st (show nI (n + 2) = nI (n + 2) by congr 1) (by omega) (show vp_nar .byte z_13 = (fdW p0 p1 p2 p3 p4) 2 by rw [ez_13, pk_vb, ez_12]; rfl)] at hP hD
  have hP : va_P D cl [(h0, .inr (1, (fs.set 0 (.int 0)))), (q0, .inl (cA0, 32768, .inl (wrt f n (fdW p0 p1 p2 p3 p4) 3)))] H := hP
  have hD : va_D _ [(h0, .inr (1, (fs.set 0 (.int 0)))), (q0, .inl (cA0, 32768, .inl (wrt f n (fdW p0 p1 p2 p3 p4) 3)))] := hD
  refine lv_iinc (v := 3) (lv' := [(6, .int 3), (7, .int p0), (0, .ref h0), (1, .int p0), (2, .int p1), (3, .int p2), (4, .int p3), (5, .int p4)]) hx hb (show decode prog_15_method_4_code 103 = .ok (.iinc 6 1, 3) by decide +kernel) hl (k := 1) rfl (by decide +kernel) (by decide +kernel) rfl (fun ls hl => ?_)
  refine lv_goto (tgt := 22) hx hb (show decode prog_15_method_4_code 106 = .ok (.goto (-84), 3) by decide +kernel) (by decide +kernel) ?_
  refine lv_iload hx hb (show decode prog_15_method_4_code 22 = .ok (.iload 6, 2) by decide +kernel) (lv_at hl 0 rfl) ?_
  refine lv_bipush (v := 20) hx hb (show decode prog_15_method_4_code 24 = .ok (.bipush 20, 2) by decide +kernel) (by decide +kernel) ?_
  refine lv_icmp_ge (tgt := 109) hx hb (show decode prog_15_method_4_code 26 = .ok (.if_icmp .ge 83, 3) by decide +kernel) (by decide +kernel) (fun c_14 => absurd c_14 (by decide +kernel)) (fun c_14 => ?_)
  refine lv_iload hx hb (show decode prog_15_method_4_code 29 = .ok (.iload 6, 2) by decide +kernel) (lv_at hl 0 rfl) ?_
  refine lv_iconst (v := 4) hx hb (show decode prog_15_method_4_code 31 = .ok (.iconst 4, 1) by decide +kernel) (by decide +kernel) ?_
  refine lv_icmp_ge (tgt := 39) hx hb (show decode prog_15_method_4_code 32 = .ok (.if_icmp .ge 7, 3) by decide +kernel) (by decide +kernel) (fun c_15 => absurd c_15 (by decide +kernel)) (fun c_15 => ?_)
  refine lv_iload_n hx hb (show decode prog_15_method_4_code 35 = .ok (.iload_n 1, 1) by decide +kernel) rfl (lv_at hl 3 rfl) ?_
  refine lv_goto (tgt := 75) hx hb (show decode prog_15_method_4_code 36 = .ok (.goto 39, 3) by decide +kernel) (by decide +kernel) ?_
  refine lv_istore (lv' := [(7, .int p0), (6, .int 3), (0, .ref h0), (1, .int p0), (2, .int p1), (3, .int p2), (4, .int p3), (5, .int p4)]) hx hb (show decode prog_15_method_4_code 75 = .ok (.istore 7, 2) by decide +kernel) hl (by decide +kernel) rfl (fun ls hl => ?_)
  refine lv_aload_n hx hb (show decode prog_15_method_4_code 77 = .ok (.aload_n 0, 1) by decide +kernel) rfl (lv_at hl 2 rfl) ?_
  refine va_get (D := D) (ci := 1) (v := .ref q0) (C := R_MD) (T := F_MD) (N := 107) hx hb hts i_MD hown hK hP 0 rfl rfl 1 (by decide +kernel) (hts _ w_1563) (fun _ h9 => h9) (xg_ne (by decide +kernel) ha0) (show decode prog_15_method_4_code 78 = .ok (.getfield 10, 3) by decide +kernel) ?_
  refine lv_aload_n hx hb (show decode prog_15_method_4_code 81 = .ok (.aload_n 0, 1) by decide +kernel) rfl (lv_at hl 2 rfl) ?_
  refine va_get (D := D) (ci := 1) (v := .int (nI n)) (C := R_MD) (T := F_MD) (N := 107) hx hb hts i_MD hown hK hP 0 rfl rfl 2 (by decide +kernel) (hts _ w_1564) (fun _ h9 => h9) (xg_ne (by decide +kernel) hf2) (show decode prog_15_method_4_code 82 = .ok (.getfield 210, 3) by decide +kernel) ?_
  refine lv_iload hx hb (show decode prog_15_method_4_code 85 = .ok (.iload 6, 2) by decide +kernel) (lv_at hl 1 rfl) ?_
  refine lv_iadd hx hb (show decode prog_15_method_4_code 87 = .ok (.iadd, 1) by decide +kernel) ?_
  refine xtopi (v := (nI (n + 3))) (show nI n + nI 3 = (nI (n + 3)) from nI_add _ _) ?_
  refine lv_iload hx hb (show decode prog_15_method_4_code 88 = .ok (.iload 7, 2) by decide +kernel) (lv_at hl 0 rfl) ?_
  refine lv_bipush (v := 24) hx hb (show decode prog_15_method_4_code 90 = .ok (.bipush 24, 2) by decide +kernel) (by decide +kernel) ?_
  refine lv_bipush (v := 8) hx hb (show decode prog_15_method_4_code 92 = .ok (.bipush 8, 2) by decide +kernel) (by decide +kernel) ?_
  refine lv_iload hx hb (show decode prog_15_method_4_code 94 = .ok (.iload 6, 2) by decide +kernel) (lv_at hl 1 rfl) ?_
  refine lv_iconst (v := 4) hx hb (show decode prog_15_method_4_code 96 = .ok (.iconst 4, 1) by decide +kernel) (by decide +kernel) ?_
  refine lv_irem hx hb (show decode prog_15_method_4_code 97 = .ok (.irem, 1) by decide +kernel) (by decide +kernel) ?_
  refine xtopi (v := 3) (by decide +kernel) ?_
  refine lv_imul hx hb (show decode prog_15_method_4_code 98 = .ok (.imul, 1) by decide +kernel) ?_
  refine xtopi (v := 24) (by decide +kernel) ?_
  refine lv_isub hx hb (show decode prog_15_method_4_code 99 = .ok (.isub, 1) by decide +kernel) ?_
  refine xtopi (v := 0) (by decide +kernel) ?_
  refine lv_ishr hx hb (show decode prog_15_method_4_code 100 = .ok (.ishr, 1) by decide +kernel) ?_
  refine lv_topi (fun z_16 ez_16 => ?_)
  refine lv_i2b hx hb (show decode prog_15_method_4_code 101 = .ok (.i2b, 1) by decide +kernel) rfl ?_
  refine lv_topi (fun z_17 ez_17 => ?_)
  refine va_bast hx hb hK hP hD hS 1 0 rfl rfl (vp_in_nI (show (n + 3) < 32768 by omega) (by omega)) (show decode prog_15_method_4_code 102 = .ok (.bastore, 1) by decide +kernel) (fun H locs hP hD hS => ?_)
  rw [wrt_st (show nI (n + 3) = nI (n + 3) by congr 1) (by omega) (show vp_nar .byte z_17 = (fdW p0 p1 p2 p3 p4) 3 by rw [ez_17, pk_vb, ez_16]; rfl)] at hP hD
  have hP : va_P D cl [(h0, .inr (1, (fs.set 0 (.int 0)))), (q0, .inl (cA0, 32768, .inl (wrt f n (fdW p0 p1 p2 p3 p4) 4)))] H := hP
  have hD : va_D _ [(h0, .inr (1, (fs.set 0 (.int 0)))), (q0, .inl (cA0, 32768, .inl (wrt f n (fdW p0 p1 p2 p3 p4) 4)))] := hD
  refine lv_iinc (v := 4) (lv' := [(6, .int 4), (7, .int p0), (0, .ref h0), (1, .int p0), (2, .int p1), (3, .int p2), (4, .int p3), (5, .int p4)]) hx hb (show decode prog_15_method_4_code 103 = .ok (.iinc 6 1, 3) by decide +kernel) hl (k := 1) rfl (by decide +kernel) (by decide +kernel) rfl (fun ls hl => ?_)
  refine lv_goto (tgt := 22) hx hb (show decode prog_15_method_4_code 106 = .ok (.goto (-84), 3) by decide +kernel) (by decide +kernel) ?_
  refine lv_iload hx hb (show decode prog_15_method_4_code 22 = .ok (.iload 6, 2) by decide +kernel) (lv_at hl 0 rfl) ?_
  refine lv_bipush (v := 20) hx hb (show decode prog_15_method_4_code 24 = .ok (.bipush 20, 2) by decide +kernel) (by decide +kernel) ?_
  refine lv_icmp_ge (tgt := 109) hx hb (show decode prog_15_method_4_code 26 = .ok (.if_icmp .ge 83, 3) by decide +kernel) (by decide +kernel) (fun c_18 => absurd c_18 (by decide +kernel)) (fun c_18 => ?_)
  refine lv_iload hx hb (show decode prog_15_method_4_code 29 = .ok (.iload 6, 2) by decide +kernel) (lv_at hl 0 rfl) ?_
  refine lv_iconst (v := 4) hx hb (show decode prog_15_method_4_code 31 = .ok (.iconst 4, 1) by decide +kernel) (by decide +kernel) ?_
  refine lv_icmp_ge (tgt := 39) hx hb (show decode prog_15_method_4_code 32 = .ok (.if_icmp .ge 7, 3) by decide +kernel) (by decide +kernel) (fun c_19 => ?_) (fun c_19 => absurd c_19 (by decide +kernel))
  refine lv_iload hx hb (show decode prog_15_method_4_code 39 = .ok (.iload 6, 2) by decide +kernel) (lv_at hl 0 rfl) ?_
  refine lv_bipush (v := 8) hx hb (show decode prog_15_method_4_code 41 = .ok (.bipush 8, 2) by decide +kernel) (by decide +kernel) ?_
  refine lv_icmp_ge (tgt := 50) hx hb (show decode prog_15_method_4_code 43 = .ok (.if_icmp .ge 7, 3) by decide +kernel) (by decide +kernel) (fun c_20 => absurd c_20 (by decide +kernel)) (fun c_20 => ?_)
  refine lv_iload_n hx hb (show decode prog_15_method_4_code 46 = .ok (.iload_n 2, 1) by decide +kernel) rfl (lv_at hl 4 rfl) ?_
  refine lv_goto (tgt := 75) hx hb (show decode prog_15_method_4_code 47 = .ok (.goto 28, 3) by decide +kernel) (by decide +kernel) ?_
  refine lv_istore (lv' := [(7, .int p1), (6, .int 4), (0, .ref h0), (1, .int p0), (2, .int p1), (3, .int p2), (4, .int p3), (5, .int p4)]) hx hb (show decode prog_15_method_4_code 75 = .ok (.istore 7, 2) by decide +kernel) hl (by decide +kernel) rfl (fun ls hl => ?_)
  refine lv_aload_n hx hb (show decode prog_15_method_4_code 77 = .ok (.aload_n 0, 1) by decide +kernel) rfl (lv_at hl 2 rfl) ?_
  refine va_get (D := D) (ci := 1) (v := .ref q0) (C := R_MD) (T := F_MD) (N := 107) hx hb hts i_MD hown hK hP 0 rfl rfl 1 (by decide +kernel) (hts _ w_1563) (fun _ h9 => h9) (xg_ne (by decide +kernel) ha0) (show decode prog_15_method_4_code 78 = .ok (.getfield 10, 3) by decide +kernel) ?_
  refine lv_aload_n hx hb (show decode prog_15_method_4_code 81 = .ok (.aload_n 0, 1) by decide +kernel) rfl (lv_at hl 2 rfl) ?_
  refine va_get (D := D) (ci := 1) (v := .int (nI n)) (C := R_MD) (T := F_MD) (N := 107) hx hb hts i_MD hown hK hP 0 rfl rfl 2 (by decide +kernel) (hts _ w_1564) (fun _ h9 => h9) (xg_ne (by decide +kernel) hf2) (show decode prog_15_method_4_code 82 = .ok (.getfield 210, 3) by decide +kernel) ?_
  refine lv_iload hx hb (show decode prog_15_method_4_code 85 = .ok (.iload 6, 2) by decide +kernel) (lv_at hl 1 rfl) ?_
  refine lv_iadd hx hb (show decode prog_15_method_4_code 87 = .ok (.iadd, 1) by decide +kernel) ?_
  refine xtopi (v := (nI (n + 4))) (show nI n + nI 4 = (nI (n + 4)) from nI_add _ _) ?_
  refine lv_iload hx hb (show decode prog_15_method_4_code 88 = .ok (.iload 7, 2) by decide +kernel) (lv_at hl 0 rfl) ?_
  refine lv_bipush (v := 24) hx hb (show decode prog_15_method_4_code 90 = .ok (.bipush 24, 2) by decide +kernel) (by decide +kernel) ?_
  refine lv_bipush (v := 8) hx hb (show decode prog_15_method_4_code 92 = .ok (.bipush 8, 2) by decide +kernel) (by decide +kernel) ?_
  refine lv_iload hx hb (show decode prog_15_method_4_code 94 = .ok (.iload 6, 2) by decide +kernel) (lv_at hl 1 rfl) ?_
  refine lv_iconst (v := 4) hx hb (show decode prog_15_method_4_code 96 = .ok (.iconst 4, 1) by decide +kernel) (by decide +kernel) ?_
  refine lv_irem hx hb (show decode prog_15_method_4_code 97 = .ok (.irem, 1) by decide +kernel) (by decide +kernel) ?_
  refine xtopi (v := 0) (by decide +kernel) ?_
  refine lv_imul hx hb (show decode prog_15_method_4_code 98 = .ok (.imul, 1) by decide +kernel) ?_
  refine xtopi (v := 0) (by decide +kernel) ?_
  refine lv_isub hx hb (show decode prog_15_method_4_code 99 = .ok (.isub, 1) by decide +kernel) ?_
  refine xtopi (v := 24) (by decide +kernel) ?_
  refine lv_ishr hx hb (show decode prog_15_method_4_code 100 = .ok (.ishr, 1) by decide +kernel) ?_
  refine lv_topi (fun z_21 ez_21 => ?_)
  refine lv_i2b hx hb (show decode prog_15_method_4_code 101 = .ok (.i2b, 1) by decide +kernel) rfl ?_
  refine lv_topi (fun z_22 ez_22 => ?_)
  refine va_bast hx hb hK hP hD hS 1 0 rfl rfl (vp_in_nI (show (n + 4) < 32768 by omega) (by omega)) (show decode prog_15_method_4_code 102 = .ok (.bastore, 1) by decide +kernel) (fun H locs hP hD hS => ?_)
  rw [wrt_st (show nI (n + 4) = nI (n + 4) by congr 1) (by omega) (show vp_nar .byte z_22 = (fdW p0 p1 p2 p3 p4) 4 by rw [ez_22, pk_vb, ez_21]; rfl)] at hP hD
  have hP : va_P D cl [(h0, .inr (1, (fs.set 0 (.int 0)))), (q0, .inl (cA0, 32768, .inl (wrt f n (fdW p0 p1 p2 p3 p4) 5)))] H := hP
  have hD : va_D _ [(h0, .inr (1, (fs.set 0 (.int 0)))), (q0, .inl (cA0, 32768, .inl (wrt f n (fdW p0 p1 p2 p3 p4) 5)))] := hD
  refine lv_iinc (v := 5) (lv' := [(6, .int 5), (7, .int p1), (0, .ref h0), (1, .int p0), (2, .int p1), (3, .int p2), (4, .int p3), (5, .int p4)]) hx hb (show decode prog_15_method_4_code 103 = .ok (.iinc 6 1, 3) by decide +kernel) hl (k := 1) rfl (by decide +kernel) (by decide +kernel) rfl (fun ls hl => ?_)
  refine lv_goto (tgt := 22) hx hb (show decode prog_15_method_4_code 106 = .ok (.goto (-84), 3) by decide +kernel) (by decide +kernel) ?_
  refine lv_iload hx hb (show decode prog_15_method_4_code 22 = .ok (.iload 6, 2) by decide +kernel) (lv_at hl 0 rfl) ?_
  refine lv_bipush (v := 20) hx hb (show decode prog_15_method_4_code 24 = .ok (.bipush 20, 2) by decide +kernel) (by decide +kernel) ?_
  refine lv_icmp_ge (tgt := 109) hx hb (show decode prog_15_method_4_code 26 = .ok (.if_icmp .ge 83, 3) by decide +kernel) (by decide +kernel) (fun c_23 => absurd c_23 (by decide +kernel)) (fun c_23 => ?_)
  refine lv_iload hx hb (show decode prog_15_method_4_code 29 = .ok (.iload 6, 2) by decide +kernel) (lv_at hl 0 rfl) ?_
  refine lv_iconst (v := 4) hx hb (show decode prog_15_method_4_code 31 = .ok (.iconst 4, 1) by decide +kernel) (by decide +kernel) ?_
  refine lv_icmp_ge (tgt := 39) hx hb (show decode prog_15_method_4_code 32 = .ok (.if_icmp .ge 7, 3) by decide +kernel) (by decide +kernel) (fun c_24 => ?_) (fun c_24 => absurd c_24 (by decide +kernel))
  refine lv_iload hx hb (show decode prog_15_method_4_code 39 = .ok (.iload 6, 2) by decide +kernel) (lv_at hl 0 rfl) ?_
  refine lv_bipush (v := 8) hx hb (show decode prog_15_method_4_code 41 = .ok (.bipush 8, 2) by decide +kernel) (by decide +kernel) ?_
  refine lv_icmp_ge (tgt := 50) hx hb (show decode prog_15_method_4_code 43 = .ok (.if_icmp .ge 7, 3) by decide +kernel) (by decide +kernel) (fun c_25 => absurd c_25 (by decide +kernel)) (fun c_25 => ?_)
  refine lv_iload_n hx hb (show decode prog_15_method_4_code 46 = .ok (.iload_n 2, 1) by decide +kernel) rfl (lv_at hl 4 rfl) ?_
  refine lv_goto (tgt := 75) hx hb (show decode prog_15_method_4_code 47 = .ok (.goto 28, 3) by decide +kernel) (by decide +kernel) ?_
  refine lv_istore (lv' := [(7, .int p1), (6, .int 5), (0, .ref h0), (1, .int p0), (2, .int p1), (3, .int p2), (4, .int p3), (5, .int p4)]) hx hb (show decode prog_15_method_4_code 75 = .ok (.istore 7, 2) by decide +kernel) hl (by decide +kernel) rfl (fun ls hl => ?_)
  refine lv_aload_n hx hb (show decode prog_15_method_4_code 77 = .ok (.aload_n 0, 1) by decide +kernel) rfl (lv_at hl 2 rfl) ?_
  refine va_get (D := D) (ci := 1) (v := .ref q0) (C := R_MD) (T := F_MD) (N := 107) hx hb hts i_MD hown hK hP 0 rfl rfl 1 (by decide +kernel) (hts _ w_1563) (fun _ h9 => h9) (xg_ne (by decide +kernel) ha0) (show decode prog_15_method_4_code 78 = .ok (.getfield 10, 3) by decide +kernel) ?_
  refine lv_aload_n hx hb (show decode prog_15_method_4_code 81 = .ok (.aload_n 0, 1) by decide +kernel) rfl (lv_at hl 2 rfl) ?_
  refine va_get (D := D) (ci := 1) (v := .int (nI n)) (C := R_MD) (T := F_MD) (N := 107) hx hb hts i_MD hown hK hP 0 rfl rfl 2 (by decide +kernel) (hts _ w_1564) (fun _ h9 => h9) (xg_ne (by decide +kernel) hf2) (show decode prog_15_method_4_code 82 = .ok (.getfield 210, 3) by decide +kernel) ?_
  refine lv_iload hx hb (show decode prog_15_method_4_code 85 = .ok (.iload 6, 2) by decide +kernel) (lv_at hl 1 rfl) ?_
  refine lv_iadd hx hb (show decode prog_15_method_4_code 87 = .ok (.iadd, 1) by decide +kernel) ?_
  refine xtopi (v := (nI (n + 5))) (show nI n + nI 5 = (nI (n + 5)) from nI_add _ _) ?_
  refine lv_iload hx hb (show decode prog_15_method_4_code 88 = .ok (.iload 7, 2) by decide +kernel) (lv_at hl 0 rfl) ?_
  refine lv_bipush (v := 24) hx hb (show decode prog_15_method_4_code 90 = .ok (.bipush 24, 2) by decide +kernel) (by decide +kernel) ?_
  refine lv_bipush (v := 8) hx hb (show decode prog_15_method_4_code 92 = .ok (.bipush 8, 2) by decide +kernel) (by decide +kernel) ?_
  refine lv_iload hx hb (show decode prog_15_method_4_code 94 = .ok (.iload 6, 2) by decide +kernel) (lv_at hl 1 rfl) ?_
  refine lv_iconst (v := 4) hx hb (show decode prog_15_method_4_code 96 = .ok (.iconst 4, 1) by decide +kernel) (by decide +kernel) ?_
  refine lv_irem hx hb (show decode prog_15_method_4_code 97 = .ok (.irem, 1) by decide +kernel) (by decide +kernel) ?_
  refine xtopi (v := 1) (by decide +kernel) ?_
  refine lv_imul hx hb (show decode prog_15_method_4_code 98 = .ok (.imul, 1) by decide +kernel) ?_
  refine xtopi (v := 8) (by decide +kernel) ?_
  refine lv_isub hx hb (show decode prog_15_method_4_code 99 = .ok (.isub, 1) by decide +kernel) ?_
  refine xtopi (v := 16) (by decide +kernel) ?_
  refine lv_ishr hx hb (show decode prog_15_method_4_code 100 = .ok (.ishr, 1) by decide +kernel) ?_
  refine lv_topi (fun z_26 ez_26 => ?_)
  refine lv_i2b hx hb (show decode prog_15_method_4_code 101 = .ok (.i2b, 1) by decide +kernel) rfl ?_
  refine lv_topi (fun z_27 ez_27 => ?_)
  refine va_bast hx hb hK hP hD hS 1 0 rfl rfl (vp_in_nI (show (n + 5) < 32768 by omega) (by omega)) (show decode prog_15_method_4_code 102 = .ok (.bastore, 1) by decide +kernel) (fun H locs hP hD hS => ?_)
  rw [wrt_st (show nI (n + 5) = nI (n + 5) by congr 1) (by omega) (show vp_nar .byte z_27 = (fdW p0 p1 p2 p3 p4) 5 by rw [ez_27, pk_vb, ez_26]; rfl)] at hP hD
  have hP : va_P D cl [(h0, .inr (1, (fs.set 0 (.int 0)))), (q0, .inl (cA0, 32768, .inl (wrt f n (fdW p0 p1 p2 p3 p4) 6)))] H := hP
  have hD : va_D _ [(h0, .inr (1, (fs.set 0 (.int 0)))), (q0, .inl (cA0, 32768, .inl (wrt f n (fdW p0 p1 p2 p3 p4) 6)))] := hD
  refine lv_iinc (v := 6) (lv' := [(6, .int 6), (7, .int p1), (0, .ref h0), (1, .int p0), (2, .int p1), (3, .int p2), (4, .int p3), (5, .int p4)]) hx hb (show decode prog_15_method_4_code 103 = .ok (.iinc 6 1, 3) by decide +kernel) hl (k := 1) rfl (by decide +kernel) (by decide +kernel) rfl (fun ls hl => ?_)
  refine lv_goto (tgt := 22) hx hb (show decode prog_15_method_4_code 106 = .ok (.goto (-84), 3) by decide +kernel) (by decide +kernel) ?_
  refine lv_iload hx hb (show decode prog_15_method_4_code 22 = .ok (.iload 6, 2) by decide +kernel) (lv_at hl 0 rfl) ?_
  refine lv_bipush (v := 20) hx hb (show decode prog_15_method_4_code 24 = .ok (.bipush 20, 2) by decide +kernel) (by decide +kernel) ?_
  refine lv_icmp_ge (tgt := 109) hx hb (show decode prog_15_method_4_code 26 = .ok (.if_icmp .ge 83, 3) by decide +kernel) (by decide +kernel) (fun c_28 => absurd c_28 (by decide +kernel)) (fun c_28 => ?_)
  refine lv_iload hx hb (show decode prog_15_method_4_code 29 = .ok (.iload 6, 2) by decide +kernel) (lv_at hl 0 rfl) ?_
  refine lv_iconst (v := 4) hx hb (show decode prog_15_method_4_code 31 = .ok (.iconst 4, 1) by decide +kernel) (by decide +kernel) ?_
  refine lv_icmp_ge (tgt := 39) hx hb (show decode prog_15_method_4_code 32 = .ok (.if_icmp .ge 7, 3) by decide +kernel) (by decide +kernel) (fun c_29 => ?_) (fun c_29 => absurd c_29 (by decide +kernel))
  refine lv_iload hx hb (show decode prog_15_method_4_code 39 = .ok (.iload 6, 2) by decide +kernel) (lv_at hl 0 rfl) ?_
  refine lv_bipush (v := 8) hx hb (show decode prog_15_method_4_code 41 = .ok (.bipush 8, 2) by decide +kernel) (by decide +kernel) ?_
  refine lv_icmp_ge (tgt := 50) hx hb (show decode prog_15_method_4_code 43 = .ok (.if_icmp .ge 7, 3) by decide +kernel) (by decide +kernel) (fun c_30 => absurd c_30 (by decide +kernel)) (fun c_30 => ?_)
  refine lv_iload_n hx hb (show decode prog_15_method_4_code 46 = .ok (.iload_n 2, 1) by decide +kernel) rfl (lv_at hl 4 rfl) ?_
  refine lv_goto (tgt := 75) hx hb (show decode prog_15_method_4_code 47 = .ok (.goto 28, 3) by decide +kernel) (by decide +kernel) ?_
  refine lv_istore (lv' := [(7, .int p1), (6, .int 6), (0, .ref h0), (1, .int p0), (2, .int p1), (3, .int p2), (4, .int p3), (5, .int p4)]) hx hb (show decode prog_15_method_4_code 75 = .ok (.istore 7, 2) by decide +kernel) hl (by decide +kernel) rfl (fun ls hl => ?_)
  refine lv_aload_n hx hb (show decode prog_15_method_4_code 77 = .ok (.aload_n 0, 1) by decide +kernel) rfl (lv_at hl 2 rfl) ?_
  refine va_get (D := D) (ci := 1) (v := .ref q0) (C := R_MD) (T := F_MD) (N := 107) hx hb hts i_MD hown hK hP 0 rfl rfl 1 (by decide +kernel) (hts _ w_1563) (fun _ h9 => h9) (xg_ne (by decide +kernel) ha0) (show decode prog_15_method_4_code 78 = .ok (.getfield 10, 3) by decide +kernel) ?_
  refine lv_aload_n hx hb (show decode prog_15_method_4_code 81 = .ok (.aload_n 0, 1) by decide +kernel) rfl (lv_at hl 2 rfl) ?_
  refine va_get (D := D) (ci := 1) (v := .int (nI n)) (C := R_MD) (T := F_MD) (N := 107) hx hb hts i_MD hown hK hP 0 rfl rfl 2 (by decide +kernel) (hts _ w_1564) (fun _ h9 => h9) (xg_ne (by decide +kernel) hf2) (show decode prog_15_method_4_code 82 = .ok (.getfield 210, 3) by decide +kernel) ?_
  refine lv_iload hx hb (show decode prog_15_method_4_code 85 = .ok (.iload 6, 2) by decide +kernel) (lv_at hl 1 rfl) ?_
  refine lv_iadd hx hb (show decode prog_15_method_4_code 87 = .ok (.iadd, 1) by decide +kernel) ?_
  refine xtopi (v := (nI (n + 6))) (show nI n + nI 6 = (nI (n + 6)) from nI_add _ _) ?_
  refine lv_iload hx hb (show decode prog_15_method_4_code 88 = .ok (.iload 7, 2) by decide +kernel) (lv_at hl 0 rfl) ?_
  refine lv_bipush (v := 24) hx hb (show decode prog_15_method_4_code 90 = .ok (.bipush 24, 2) by decide +kernel) (by decide +kernel) ?_
  refine lv_bipush (v := 8) hx hb (show decode prog_15_method_4_code 92 = .ok (.bipush 8, 2) by decide +kernel) (by decide +kernel) ?_
  refine lv_iload hx hb (show decode prog_15_method_4_code 94 = .ok (.iload 6, 2) by decide +kernel) (lv_at hl 1 rfl) ?_
  refine lv_iconst (v := 4) hx hb (show decode prog_15_method_4_code 96 = .ok (.iconst 4, 1) by decide +kernel) (by decide +kernel) ?_
  refine lv_irem hx hb (show decode prog_15_method_4_code 97 = .ok (.irem, 1) by decide +kernel) (by decide +kernel) ?_
  refine xtopi (v := 2) (by decide +kernel) ?_
  refine lv_imul hx hb (show decode prog_15_method_4_code 98 = .ok (.imul, 1) by decide +kernel) ?_
  refine xtopi (v := 16) (by decide +kernel) ?_
  refine lv_isub hx hb (show decode prog_15_method_4_code 99 = .ok (.isub, 1) by decide +kernel) ?_
  refine xtopi (v := 8) (by decide +kernel) ?_
  refine lv_ishr hx hb (show decode prog_15_method_4_code 100 = .ok (.ishr, 1) by decide +kernel) ?_
  refine lv_topi (fun z_31 ez_31 => ?_)
  refine lv_i2b hx hb (show decode prog_15_method_4_code 101 = .ok (.i2b, 1) by decide +kernel) rfl ?_
  refine lv_topi (fun z_32 ez_32 => ?_)
  refine va_bast hx hb hK hP hD hS 1 0 rfl rfl (vp_in_nI (show (n + 6) < 32768 by omega) (by omega)) (show decode prog_15_method_4_code 102 = .ok (.bastore, 1) by decide +kernel) (fun H locs hP hD hS => ?_)
  rw [wrt_st (show nI (n + 6) = nI (n + 6) by congr 1) (by omega) (show vp_nar .byte z_32 = (fdW p0 p1 p2 p3 p4) 6 by rw [ez_32, pk_vb, ez_31]; rfl)] at hP hD
  have hP : va_P D cl [(h0, .inr (1, (fs.set 0 (.int 0)))), (q0, .inl (cA0, 32768, .inl (wrt f n (fdW p0 p1 p2 p3 p4) 7)))] H := hP
  have hD : va_D _ [(h0, .inr (1, (fs.set 0 (.int 0)))), (q0, .inl (cA0, 32768, .inl (wrt f n (fdW p0 p1 p2 p3 p4) 7)))] := hD
  refine lv_iinc (v := 7) (lv' := [(6, .int 7), (7, .int p1), (0, .ref h0), (1, .int p0), (2, .int p1), (3, .int p2), (4, .int p3), (5, .int p4)]) hx hb (show decode prog_15_method_4_code 103 = .ok (.iinc 6 1, 3) by decide +kernel) hl (k := 1) rfl (by decide +kernel) (by decide +kernel) rfl (fun ls hl => ?_)
  refine lv_goto (tgt := 22) hx hb (show decode prog_15_method_4_code 106 = .ok (.goto (-84), 3) by decide +kernel) (by decide +kernel) ?_
  refine lv_iload hx hb (show decode prog_15_method_4_code 22 = .ok (.iload 6, 2) by decide +kernel) (lv_at hl 0 rfl) ?_
  refine lv_bipush (v := 20) hx hb (show decode prog_15_method_4_code 24 = .ok (.bipush 20, 2) by decide +kernel) (by decide +kernel) ?_
  refine lv_icmp_ge (tgt := 109) hx hb (show decode prog_15_method_4_code 26 = .ok (.if_icmp .ge 83, 3) by decide +kernel) (by decide +kernel) (fun c_33 => absurd c_33 (by decide +kernel)) (fun c_33 => ?_)
  refine lv_iload hx hb (show decode prog_15_method_4_code 29 = .ok (.iload 6, 2) by decide +kernel) (lv_at hl 0 rfl) ?_
  refine lv_iconst (v := 4) hx hb (show decode prog_15_method_4_code 31 = .ok (.iconst 4, 1) by decide +kernel) (by decide +kernel) ?_
  refine lv_icmp_ge (tgt := 39) hx hb (show decode prog_15_method_4_code 32 = .ok (.if_icmp .ge 7, 3) by decide +kernel) (by decide +kernel) (fun c_34 => ?_) (fun c_34 => absurd c_34 (by decide +kernel))
  refine lv_iload hx hb (show decode prog_15_method_4_code 39 = .ok (.iload 6, 2) by decide +kernel) (lv_at hl 0 rfl) ?_
  refine lv_bipush (v := 8) hx hb (show decode prog_15_method_4_code 41 = .ok (.bipush 8, 2) by decide +kernel) (by decide +kernel) ?_
  refine lv_icmp_ge (tgt := 50) hx hb (show decode prog_15_method_4_code 43 = .ok (.if_icmp .ge 7, 3) by decide +kernel) (by decide +kernel) (fun c_35 => absurd c_35 (by decide +kernel)) (fun c_35 => ?_)
  refine lv_iload_n hx hb (show decode prog_15_method_4_code 46 = .ok (.iload_n 2, 1) by decide +kernel) rfl (lv_at hl 4 rfl) ?_
  refine lv_goto (tgt := 75) hx hb (show decode prog_15_method_4_code 47 = .ok (.goto 28, 3) by decide +kernel) (by decide +kernel) ?_
  refine lv_istore (lv' := [(7, .int p1), (6, .int 7), (0, .ref h0), (1, .int p0), (2, .int p1), (3, .int p2), (4, .int p3), (5, .int p4)]) hx hb (show decode prog_15_method_4_code 75 = .ok (.istore 7, 2) by decide +kernel) hl (by decide +kernel) rfl (fun ls hl => ?_)
  refine lv_aload_n hx hb (show decode prog_15_method_4_code 77 = .ok (.aload_n 0, 1) by decide +kernel) rfl (lv_at hl 2 rfl) ?_
  refine va_get (D := D) (ci := 1) (v := .ref q0) (C := R_MD) (T := F_MD) (N := 107) hx hb hts i_MD hown hK hP 0 rfl rfl 1 (by decide +kernel) (hts _ w_1563) (fun _ h9 => h9) (xg_ne (by decide +kernel) ha0) (show decode prog_15_method_4_code 78 = .ok (.getfield 10, 3) by decide +kernel) ?_
  refine lv_aload_n hx hb (show decode prog_15_method_4_code 81 = .ok (.aload_n 0, 1) by decide +kernel) rfl (lv_at hl 2 rfl) ?_
  refine va_get (D := D) (ci := 1) (v := .int (nI n)) (C := R_MD) (T := F_MD) (N := 107) hx hb hts i_MD hown hK hP 0 rfl rfl 2 (by decide +kernel) (hts _ w_1564) (fun _ h9 => h9) (xg_ne (by decide +kernel) hf2) (show decode prog_15_method_4_code 82 = .ok (.getfield 210, 3) by decide +kernel) ?_
  refine lv_iload hx hb (show decode prog_15_method_4_code 85 = .ok (.iload 6, 2) by decide +kernel) (lv_at hl 1 rfl) ?_
  refine lv_iadd hx hb (show decode prog_15_method_4_code 87 = .ok (.iadd, 1) by decide +kernel) ?_
  refine xtopi (v := (nI (n + 7))) (show nI n + nI 7 = (nI (n + 7)) from nI_add _ _) ?_
  refine lv_iload hx hb (show decode prog_15_method_4_code 88 = .ok (.iload 7, 2) by decide +kernel) (lv_at hl 0 rfl) ?_
  refine lv_bipush (v := 24) hx hb (show decode prog_15_method_4_code 90 = .ok (.bipush 24, 2) by decide +kernel) (by decide +kernel) ?_
  refine lv_bipush (v := 8) hx hb (show decode prog_15_method_4_code 92 = .ok (.bipush 8, 2) by decide +kernel) (by decide +kernel) ?_
  refine lv_iload hx hb (show decode prog_15_method_4_code 94 = .ok (.iload 6, 2) by decide +kernel) (lv_at hl 1 rfl) ?_
  refine lv_iconst (v := 4) hx hb (show decode prog_15_method_4_code 96 = .ok (.iconst 4, 1) by decide +kernel) (by decide +kernel) ?_
  refine lv_irem hx hb (show decode prog_15_method_4_code 97 = .ok (.irem, 1) by decide +kernel) (by decide +kernel) ?_
  refine xtopi (v := 3) (by decide +kernel) ?_
  refine lv_imul hx hb (show decode prog_15_method_4_code 98 = .ok (.imul, 1) by decide +kernel) ?_
  refine xtopi (v := 24) (by decide +kernel) ?_
  refine lv_isub hx hb (show decode prog_15_method_4_code 99 = .ok (.isub, 1) by decide +kernel) ?_
  refine xtopi (v := 0) (by decide +kernel) ?_
  refine lv_ishr hx hb (show decode prog_15_method_4_code 100 = .ok (.ishr, 1) by decide +kernel) ?_
  refine lv_topi (fun z_36 ez_36 => ?_)
  refine lv_i2b hx hb (show decode prog_15_method_4_code 101 = .ok (.i2b, 1) by decide +kernel) rfl ?_
  refine lv_topi (fun z_37 ez_37 => ?_)
  refine va_bast hx hb hK hP hD hS 1 0 rfl rfl (vp_in_nI (show (n + 7) < 32768 by omega) (by omega)) (show decode prog_15_method_4_code 102 = .ok (.bastore, 1) by decide +kernel) (fun H locs hP hD hS => ?_)
  rw [wrt_st (show nI (n + 7) = nI (n + 7) by congr 1) (by omega) (show vp_nar .byte z_37 = (fdW p0 p1 p2 p3 p4) 7 by rw [ez_37, pk_vb, ez_36]; rfl)] at hP hD
  have hP : va_P D cl [(h0, .inr (1, (fs.set 0 (.int 0)))), (q0, .inl (cA0, 32768, .inl (wrt f n (fdW p0 p1 p2 p3 p4) 8)))] H := hP
  have hD : va_D _ [(h0, .inr (1, (fs.set 0 (.int 0)))), (q0, .inl (cA0, 32768, .inl (wrt f n (fdW p0 p1 p2 p3 p4) 8)))] := hD
  refine lv_iinc (v := 8) (lv' := [(6, .int 8), (7, .int p1), (0, .ref h0), (1, .int p0), (2, .int p1), (3, .int p2), (4, .int p3), (5, .int p4)]) hx hb (show decode prog_15_method_4_code 103 = .ok (.iinc 6 1, 3) by decide +kernel) hl (k := 1) rfl (by decide +kernel) (by decide +kernel) rfl (fun ls hl => ?_)
  refine lv_goto (tgt := 22) hx hb (show decode prog_15_method_4_code 106 = .ok (.goto (-84), 3) by decide +kernel) (by decide +kernel) ?_
  refine lv_iload hx hb (show decode prog_15_method_4_code 22 = .ok (.iload 6, 2) by decide +kernel) (lv_at hl 0 rfl) ?_
  refine lv_bipush (v := 20) hx hb (show decode prog_15_method_4_code 24 = .ok (.bipush 20, 2) by decide +kernel) (by decide +kernel) ?_
  refine lv_icmp_ge (tgt := 109) hx hb (show decode prog_15_method_4_code 26 = .ok (.if_icmp .ge 83, 3) by decide +kernel) (by decide +kernel) (fun c_38 => absurd c_38 (by decide +kernel)) (fun c_38 => ?_)
  refine lv_iload hx hb (show decode prog_15_method_4_code 29 = .ok (.iload 6, 2) by decide +kernel) (lv_at hl 0 rfl) ?_
  refine lv_iconst (v := 4) hx hb (show decode prog_15_method_4_code 31 = .ok (.iconst 4, 1) by decide +kernel) (by decide +kernel) ?_
  refine lv_icmp_ge (tgt := 39) hx hb (show decode prog_15_method_4_code 32 = .ok (.if_icmp .ge 7, 3) by decide +kernel) (by decide +kernel) (fun c_39 => ?_) (fun c_39 => absurd c_39 (by decide +kernel))
  refine lv_iload hx hb (show decode prog_15_method_4_code 39 = .ok (.iload 6, 2) by decide +kernel) (lv_at hl 0 rfl) ?_
  refine lv_bipush (v := 8) hx hb (show decode prog_15_method_4_code 41 = .ok (.bipush 8, 2) by decide +kernel) (by decide +kernel) ?_
  refine lv_icmp_ge (tgt := 50) hx hb (show decode prog_15_method_4_code 43 = .ok (.if_icmp .ge 7, 3) by decide +kernel) (by decide +kernel) (fun c_40 => ?_) (fun c_40 => absurd c_40 (by decide +kernel))
  refine lv_iload hx hb (show decode prog_15_method_4_code 50 = .ok (.iload 6, 2) by decide +kernel) (lv_at hl 0 rfl) ?_
  refine lv_bipush (v := 12) hx hb (show decode prog_15_method_4_code 52 = .ok (.bipush 12, 2) by decide +kernel) (by decide +kernel) ?_
  refine lv_icmp_ge (tgt := 61) hx hb (show decode prog_15_method_4_code 54 = .ok (.if_icmp .ge 7, 3) by decide +kernel) (by decide +kernel) (fun c_41 => absurd c_41 (by decide +kernel)) (fun c_41 => ?_)
  refine lv_iload_n hx hb (show decode prog_15_method_4_code 57 = .ok (.iload_n 3, 1) by decide +kernel) rfl (lv_at hl 5 rfl) ?_
  refine lv_goto (tgt := 75) hx hb (show decode prog_15_method_4_code 58 = .ok (.goto 17, 3) by decide +kernel) (by decide +kernel) ?_
  refine lv_istore (lv' := [(7, .int p2), (6, .int 8), (0, .ref h0), (1, .int p0), (2, .int p1), (3, .int p2), (4, .int p3), (5, .int p4)]) hx hb (show decode prog_15_method_4_code 75 = .ok (.istore 7, 2) by decide +kernel) hl (by decide +kernel) rfl (fun ls hl => ?_)
  refine lv_aload_n hx hb (show decode prog_15_method_4_code 77 = .ok (.aload_n 0, 1) by decide +kernel) rfl (lv_at hl 2 rfl) ?_
  refine va_get (D := D) (ci := 1) (v := .ref q0) (C := R_MD) (T := F_MD) (N := 107) hx hb hts i_MD hown hK hP 0 rfl rfl 1 (by decide +kernel) (hts _ w_1563) (fun _ h9 => h9) (xg_ne (by decide +kernel) ha0) (show decode prog_15_method_4_code 78 = .ok (.getfield 10, 3) by decide +kernel) ?_
  refine lv_aload_n hx hb (show decode prog_15_method_4_code 81 = .ok (.aload_n 0, 1) by decide +kernel) rfl (lv_at hl 2 rfl) ?_
  refine va_get (D := D) (ci := 1) (v := .int (nI n)) (C := R_MD) (T := F_MD) (N := 107) hx hb hts i_MD hown hK hP 0 rfl rfl 2 (by decide +kernel) (hts _ w_1564) (fun _ h9 => h9) (xg_ne (by decide +kernel) hf2) (show decode prog_15_method_4_code 82 = .ok (.getfield 210, 3) by decide +kernel) ?_
  refine lv_iload hx hb (show decode prog_15_method_4_code 85 = .ok (.iload 6, 2) by decide +kernel) (lv_at hl 1 rfl) ?_
  refine lv_iadd hx hb (show decode prog_15_method_4_code 87 = .ok (.iadd, 1) by decide +kernel) ?_
  refine xtopi (v := (nI (n + 8))) (show nI n + nI 8 = (nI (n + 8)) from nI_add _ _) ?_
  refine lv_iload hx hb (show decode prog_15_method_4_code 88 = .ok (.iload 7, 2) by decide +kernel) (lv_at hl 0 rfl) ?_
  refine lv_bipush (v := 24) hx hb (show decode prog_15_method_4_code 90 = .ok (.bipush 24, 2) by decide +kernel) (by decide +kernel) ?_
  refine lv_bipush (v := 8) hx hb (show decode prog_15_method_4_code 92 = .ok (.bipush 8, 2) by decide +kernel) (by decide +kernel) ?_
  refine lv_iload hx hb (show decode prog_15_method_4_code 94 = .ok (.iload 6, 2) by decide +kernel) (lv_at hl 1 rfl) ?_
  refine lv_iconst (v := 4) hx hb (show decode prog_15_method_4_code 96 = .ok (.iconst 4, 1) by decide +kernel) (by decide +kernel) ?_
  refine lv_irem hx hb (show decode prog_15_method_4_code 97 = .ok (.irem, 1) by decide +kernel) (by decide +kernel) ?_
  refine xtopi (v := 0) (by decide +kernel) ?_
  refine lv_imul hx hb (show decode prog_15_method_4_code 98 = .ok (.imul, 1) by decide +kernel) ?_
  refine xtopi (v := 0) (by decide +kernel) ?_
  refine lv_isub hx hb (show decode prog_15_method_4_code 99 = .ok (.isub, 1) by decide +kernel) ?_
  refine xtopi (v := 24) (by decide +kernel) ?_
  refine lv_ishr hx hb (show decode prog_15_method_4_code 100 = .ok (.ishr, 1) by decide +kernel) ?_
  refine lv_topi (fun z_42 ez_42 => ?_)
  refine lv_i2b hx hb (show decode prog_15_method_4_code 101 = .ok (.i2b, 1) by decide +kernel) rfl ?_
  refine lv_topi (fun z_43 ez_43 => ?_)
  refine va_bast hx hb hK hP hD hS 1 0 rfl rfl (vp_in_nI (show (n + 8) < 32768 by omega) (by omega)) (show decode prog_15_method_4_code 102 = .ok (.bastore, 1) by decide +kernel) (fun H locs hP hD hS => ?_)
  rw [wrt_st (show nI (n + 8) = nI (n + 8) by congr 1) (by omega) (show vp_nar .byte z_43 = (fdW p0 p1 p2 p3 p4) 8 by rw [ez_43, pk_vb, ez_42]; rfl)] at hP hD
  have hP : va_P D cl [(h0, .inr (1, (fs.set 0 (.int 0)))), (q0, .inl (cA0, 32768, .inl (wrt f n (fdW p0 p1 p2 p3 p4) 9)))] H := hP
  have hD : va_D _ [(h0, .inr (1, (fs.set 0 (.int 0)))), (q0, .inl (cA0, 32768, .inl (wrt f n (fdW p0 p1 p2 p3 p4) 9)))] := hD
  refine lv_iinc (v := 9) (lv' := [(6, .int 9), (7, .int p2), (0, .ref h0), (1, .int p0), (2, .int p1), (3, .int p2), (4, .int p3), (5, .int p4)]) hx hb (show decode prog_15_method_4_code 103 = .ok (.iinc 6 1, 3) by decide +kernel) hl (k := 1) rfl (by decide +kernel) (by decide +kernel) rfl (fun ls hl => ?_)
  refine lv_goto (tgt := 22) hx hb (show decode prog_15_method_4_code 106 = .ok (.goto (-84), 3) by decide +kernel) (by decide +kernel) ?_
  refine lv_iload hx hb (show decode prog_15_method_4_code 22 = .ok (.iload 6, 2) by decide +kernel) (lv_at hl 0 rfl) ?_
  refine lv_bipush (v := 20) hx hb (show decode prog_15_method_4_code 24 = .ok (.bipush 20, 2) by decide +kernel) (by decide +kernel) ?_
  refine lv_icmp_ge (tgt := 109) hx hb (show decode prog_15_method_4_code 26 = .ok (.if_icmp .ge 83, 3) by decide +kernel) (by decide +kernel) (fun c_44 => absurd c_44 (by decide +kernel)) (fun c_44 => ?_)
  refine lv_iload hx hb (show decode prog_15_method_4_code 29 = .ok (.iload 6, 2) by decide +kernel) (lv_at hl 0 rfl) ?_
  refine lv_iconst (v := 4) hx hb (show decode prog_15_method_4_code 31 = .ok (.iconst 4, 1) by decide +kernel) (by decide +kernel) ?_
  refine lv_icmp_ge (tgt := 39) hx hb (show decode prog_15_method_4_code 32 = .ok (.if_icmp .ge 7, 3) by decide +kernel) (by decide +kernel) (fun c_45 => ?_) (fun c_45 => absurd c_45 (by decide +kernel))
  refine lv_iload hx hb (show decode prog_15_method_4_code 39 = .ok (.iload 6, 2) by decide +kernel) (lv_at hl 0 rfl) ?_
  refine lv_bipush (v := 8) hx hb (show decode prog_15_method_4_code 41 = .ok (.bipush 8, 2) by decide +kernel) (by decide +kernel) ?_
  refine lv_icmp_ge (tgt := 50) hx hb (show decode prog_15_method_4_code 43 = .ok (.if_icmp .ge 7, 3) by decide +kernel) (by decide +kernel) (fun c_46 => ?_) (fun c_46 => absurd c_46 (by decide +kernel))
  refine lv_iload hx hb (show decode prog_15_method_4_code 50 = .ok (.iload 6, 2) by decide +kernel) (lv_at hl 0 rfl) ?_
  refine lv_bipush (v := 12) hx hb (show decode prog_15_method_4_code 52 = .ok (.bipush 12, 2) by decide +kernel) (by decide +kernel) ?_
  refine lv_icmp_ge (tgt := 61) hx hb (show decode prog_15_method_4_code 54 = .ok (.if_icmp .ge 7, 3) by decide +kernel) (by decide +kernel) (fun c_47 => absurd c_47 (by decide +kernel)) (fun c_47 => ?_)
  refine lv_iload_n hx hb (show decode prog_15_method_4_code 57 = .ok (.iload_n 3, 1) by decide +kernel) rfl (lv_at hl 5 rfl) ?_
  refine lv_goto (tgt := 75) hx hb (show decode prog_15_method_4_code 58 = .ok (.goto 17, 3) by decide +kernel) (by decide +kernel) ?_
  refine lv_istore (lv' := [(7, .int p2), (6, .int 9), (0, .ref h0), (1, .int p0), (2, .int p1), (3, .int p2), (4, .int p3), (5, .int p4)]) hx hb (show decode prog_15_method_4_code 75 = .ok (.istore 7, 2) by decide +kernel) hl (by decide +kernel) rfl (fun ls hl => ?_)
  refine lv_aload_n hx hb (show decode prog_15_method_4_code 77 = .ok (.aload_n 0, 1) by decide +kernel) rfl (lv_at hl 2 rfl) ?_
  refine va_get (D := D) (ci := 1) (v := .ref q0) (C := R_MD) (T := F_MD) (N := 107) hx hb hts i_MD hown hK hP 0 rfl rfl 1 (by decide +kernel) (hts _ w_1563) (fun _ h9 => h9) (xg_ne (by decide +kernel) ha0) (show decode prog_15_method_4_code 78 = .ok (.getfield 10, 3) by decide +kernel) ?_
  refine lv_aload_n hx hb (show decode prog_15_method_4_code 81 = .ok (.aload_n 0, 1) by decide +kernel) rfl (lv_at hl 2 rfl) ?_
  refine va_get (D := D) (ci := 1) (v := .int (nI n)) (C := R_MD) (T := F_MD) (N := 107) hx hb hts i_MD hown hK hP 0 rfl rfl 2 (by decide +kernel) (hts _ w_1564) (fun _ h9 => h9) (xg_ne (by decide +kernel) hf2) (show decode prog_15_method_4_code 82 = .ok (.getfield 210, 3) by decide +kernel) ?_
  refine lv_iload hx hb (show decode prog_15_method_4_code 85 = .ok (.iload 6, 2) by decide +kernel) (lv_at hl 1 rfl) ?_
  refine lv_iadd hx hb (show decode prog_15_method_4_code 87 = .ok (.iadd, 1) by decide +kernel) ?_
  refine xtopi (v := (nI (n + 9))) (show nI n + nI 9 = (nI (n + 9)) from nI_add _ _) ?_
  refine lv_iload hx hb (show decode prog_15_method_4_code 88 = .ok (.iload 7, 2) by decide +kernel) (lv_at hl 0 rfl) ?_
  refine lv_bipush (v := 24) hx hb (show decode prog_15_method_4_code 90 = .ok (.bipush 24, 2) by decide +kernel) (by decide +kernel) ?_
  refine lv_bipush (v := 8) hx hb (show decode prog_15_method_4_code 92 = .ok (.bipush 8, 2) by decide +kernel) (by decide +kernel) ?_
  refine lv_iload hx hb (show decode prog_15_method_4_code 94 = .ok (.iload 6, 2) by decide +kernel) (lv_at hl 1 rfl) ?_
  refine lv_iconst (v := 4) hx hb (show decode prog_15_method_4_code 96 = .ok (.iconst 4, 1) by decide +kernel) (by decide +kernel) ?_
  refine lv_irem hx hb (show decode prog_15_method_4_code 97 = .ok (.irem, 1) by decide +kernel) (by decide +kernel) ?_
  refine xtopi (v := 1) (by decide +kernel) ?_
  refine lv_imul hx hb (show decode prog_15_method_4_code 98 = .ok (.imul, 1) by decide +kernel) ?_
  refine xtopi (v := 8) (by decide +kernel) ?_
  refine lv_isub hx hb (show decode prog_15_method_4_code 99 = .ok (.isub, 1) by decide +kernel) ?_
  refine xtopi (v := 16) (by decide +kernel) ?_
  refine lv_ishr hx hb (show decode prog_15_method_4_code 100 = .ok (.ishr, 1) by decide +kernel) ?_
  refine lv_topi (fun z_48 ez_48 => ?_)
  refine lv_i2b hx hb (show decode prog_15_method_4_code 101 = .ok (.i2b, 1) by decide +kernel) rfl ?_
  refine lv_topi (fun z_49 ez_49 => ?_)
  refine va_bast hx hb hK hP hD hS 1 0 rfl rfl (vp_in_nI (show (n + 9) < 32768 by omega) (by omega)) (show decode prog_15_method_4_code 102 = .ok (.bastore, 1) by decide +kernel) (fun H locs hP hD hS => ?_)
  rw [wrt_st (show nI (n + 9) = nI (n + 9) by congr 1) (by omega) (show vp_nar .byte z_49 = (fdW p0 p1 p2 p3 p4) 9 by rw [ez_49, pk_vb, ez_48]; rfl)] at hP hD
  have hP : va_P D cl [(h0, .inr (1, (fs.set 0 (.int 0)))), (q0, .inl (cA0, 32768, .inl (wrt f n (fdW p0 p1 p2 p3 p4) 10)))] H := hP
  have hD : va_D _ [(h0, .inr (1, (fs.set 0 (.int 0)))), (q0, .inl (cA0, 32768, .inl (wrt f n (fdW p0 p1 p2 p3 p4) 10)))] := hD
  refine lv_iinc (v := 10) (lv' := [(6, .int 10), (7, .int p2), (0, .ref h0), (1, .int p0), (2, .int p1), (3, .int p2), (4, .int p3), (5, .int p4)]) hx hb (show decode prog_15_method_4_code 103 = .ok (.iinc 6 1, 3) by decide +kernel) hl (k := 1) rfl (by decide +kernel) (by decide +kernel) rfl (fun ls hl => ?_)
  refine lv_goto (tgt := 22) hx hb (show decode prog_15_method_4_code 106 = .ok (.goto (-84), 3) by decide +kernel) (by decide +kernel) ?_
  refine lv_iload hx hb (show decode prog_15_method_4_code 22 = .ok (.iload 6, 2) by decide +kernel) (lv_at hl 0 rfl) ?_
  refine lv_bipush (v := 20) hx hb (show decode prog_15_method_4_code 24 = .ok (.bipush 20, 2) by decide +kernel) (by decide +kernel) ?_
  refine lv_icmp_ge (tgt := 109) hx hb (show decode prog_15_method_4_code 26 = .ok (.if_icmp .ge 83, 3) by decide +kernel) (by decide +kernel) (fun c_50 => absurd c_50 (by decide +kernel)) (fun c_50 => ?_)
  refine lv_iload hx hb (show decode prog_15_method_4_code 29 = .ok (.iload 6, 2) by decide +kernel) (lv_at hl 0 rfl) ?_
  refine lv_iconst (v := 4) hx hb (show decode prog_15_method_4_code 31 = .ok (.iconst 4, 1) by decide +kernel) (by decide +kernel) ?_
  refine lv_icmp_ge (tgt := 39) hx hb (show decode prog_15_method_4_code 32 = .ok (.if_icmp .ge 7, 3) by decide +kernel) (by decide +kernel) (fun c_51 => ?_) (fun c_51 => absurd c_51 (by decide +kernel))
  refine lv_iload hx hb (show decode prog_15_method_4_code 39 = .ok (.iload 6, 2) by decide +kernel) (lv_at hl 0 rfl) ?_
  refine lv_bipush (v := 8) hx hb (show decode prog_15_method_4_code 41 = .ok (.bipush 8, 2) by decide +kernel) (by decide +kernel) ?_
  refine lv_icmp_ge (tgt := 50) hx hb (show decode prog_15_method_4_code 43 = .ok (.if_icmp .ge 7, 3) by decide +kernel) (by decide +kernel) (fun c_52 => ?_) (fun c_52 => absurd c_52 (by decide +kernel))
  refine lv_iload hx hb (show decode prog_15_method_4_code 50 = .ok (.iload 6, 2) by decide +kernel) (lv_at hl 0 rfl) ?_
  refine lv_bipush (v := 12) hx hb (show decode prog_15_method_4_code 52 = .ok (.bipush 12, 2) by decide +kernel) (by decide +kernel) ?_
  refine lv_icmp_ge (tgt := 61) hx hb (show decode prog_15_method_4_code 54 = .ok (.if_icmp .ge 7, 3) by decide +kernel) (by decide +kernel) (fun c_53 => absurd c_53 (by decide +kernel)) (fun c_53 => ?_)
  refine lv_iload_n hx hb (show decode prog_15_method_4_code 57 = .ok (.iload_n 3, 1) by decide +kernel) rfl (lv_at hl 5 rfl) ?_
  refine lv_goto (tgt := 75) hx hb (show decode prog_15_method_4_code 58 = .ok (.goto 17, 3) by decide +kernel) (by decide +kernel) ?_
  refine lv_istore (lv' := [(7, .int p2), (6, .int 10), (0, .ref h0), (1, .int p0), (2, .int p1), (3, .int p2), (4, .int p3), (5, .int p4)]) hx hb (show decode prog_15_method_4_code 75 = .ok (.istore 7, 2) by decide +kernel) hl (by decide +kernel) rfl (fun ls hl => ?_)
  refine lv_aload_n hx hb (show decode prog_15_method_4_code 77 = .ok (.aload_n 0, 1) by decide +kernel) rfl (lv_at hl 2 rfl) ?_
  refine va_get (D := D) (ci := 1) (v := .ref q0) (C := R_MD) (T := F_MD) (N := 107) hx hb hts i_MD hown hK hP 0 rfl rfl 1 (by decide +kernel) (hts _ w_1563) (fun _ h9 => h9) (xg_ne (by decide +kernel) ha0) (show decode prog_15_method_4_code 78 = .ok (.getfield 10, 3) by decide +kernel) ?_
  refine lv_aload_n hx hb (show decode prog_15_method_4_code 81 = .ok (.aload_n 0, 1) by decide +kernel) rfl (lv_at hl 2 rfl) ?_
  refine va_get (D := D) (ci := 1) (v := .int (nI n)) (C := R_MD) (T := F_MD) (N := 107) hx hb hts i_MD hown hK hP 0 rfl rfl 2 (by decide +kernel) (hts _ w_1564) (fun _ h9 => h9) (xg_ne (by decide +kernel) hf2) (show decode prog_15_method_4_code 82 = .ok (.getfield 210, 3) by decide +kernel) ?_
  refine lv_iload hx hb (show decode prog_15_method_4_code 85 = .ok (.iload 6, 2) by decide +kernel) (lv_at hl 1 rfl) ?_
  refine lv_iadd hx hb (show decode prog_15_method_4_code 87 = .ok (.iadd, 1) by decide +kernel) ?_
  refine xtopi (v := (nI (n + 10))) (show nI n + nI 10 = (nI (n + 10)) from nI_add _ _) ?_
  refine lv_iload hx hb (show decode prog_15_method_4_code 88 = .ok (.iload 7, 2) by decide +kernel) (lv_at hl 0 rfl) ?_
  refine lv_bipush (v := 24) hx hb (show decode prog_15_method_4_code 90 = .ok (.bipush 24, 2) by decide +kernel) (by decide +kernel) ?_
  refine lv_bipush (v := 8) hx hb (show decode prog_15_method_4_code 92 = .ok (.bipush 8, 2) by decide +kernel) (by decide +kernel) ?_
  refine lv_iload hx hb (show decode prog_15_method_4_code 94 = .ok (.iload 6, 2) by decide +kernel) (lv_at hl 1 rfl) ?_
  refine lv_iconst (v := 4) hx hb (show decode prog_15_method_4_code 96 = .ok (.iconst 4, 1) by decide +kernel) (by decide +kernel) ?_
  refine lv_irem hx hb (show decode prog_15_method_4_code 97 = .ok (.irem, 1) by decide +kernel) (by decide +kernel) ?_
  refine xtopi (v := 2) (by decide +kernel) ?_
  refine lv_imul hx hb (show decode prog_15_method_4_code 98 = .ok (.imul, 1) by decide +kernel) ?_
  refine xtopi (v := 16) (by decide +kernel) ?_
  refine lv_isub hx hb (show decode prog_15_method_4_code 99 = .ok (.isub, 1) by decide +kernel) ?_
  refine xtopi (v := 8) (by decide +kernel) ?_
  refine lv_ishr hx hb (show decode prog_15_method_4_code 100 = .ok (.ishr, 1) by decide +kernel) ?_
  refine lv_topi (fun z_54 ez_54 => ?_)
  refine lv_i2b hx hb (show decode prog_15_method_4_code 101 = .ok (.i2b, 1) by decide +kernel) rfl ?_
  refine lv_topi (fun z_55 ez_55 => ?_)
  refine va_bast hx hb hK hP hD hS 1 0 rfl rfl (vp_in_nI (show (n + 10) < 32768 by omega) (by omega)) (show decode prog_15_method_4_code 102 = .ok (.bastore, 1) by decide +kernel) (fun H locs hP hD hS => ?_)
  rw [wrt_st (show nI (n + 10) = nI (n + 10) by congr 1) (by omega) (show vp_nar .byte z_55 = (fdW p0 p1 p2 p3 p4) 10 by rw [ez_55, pk_vb, ez_54]; rfl)] at hP hD
  have hP : va_P D cl [(h0, .inr (1, (fs.set 0 (.int 0)))), (q0, .inl (cA0, 32768, .inl (wrt f n (fdW p0 p1 p2 p3 p4) 11)))] H := hP
  have hD : va_D _ [(h0, .inr (1, (fs.set 0 (.int 0)))), (q0, .inl (cA0, 32768, .inl (wrt f n (fdW p0 p1 p2 p3 p4) 11)))] := hD
  refine lv_iinc (v := 11) (lv' := [(6, .int 11), (7, .int p2), (0, .ref h0), (1, .int p0), (2, .int p1), (3, .int p2), (4, .int p3), (5, .int p4)]) hx hb (show decode prog_15_method_4_code 103 = .ok (.iinc 6 1, 3) by decide +kernel) hl (k := 1) rfl (by decide +kernel) (by decide +kernel) rfl (fun ls hl => ?_)
  refine lv_goto (tgt := 22) hx hb (show decode prog_15_method_4_code 106 = .ok (.goto (-84), 3) by decide +kernel) (by decide +kernel) ?_
  refine lv_iload hx hb (show decode prog_15_method_4_code 22 = .ok (.iload 6, 2) by decide +kernel) (lv_at hl 0 rfl) ?_
  refine lv_bipush (v := 20) hx hb (show decode prog_15_method_4_code 24 = .ok (.bipush 20, 2) by decide +kernel) (by decide +kernel) ?_
  refine lv_icmp_ge (tgt := 109) hx hb (show decode prog_15_method_4_code 26 = .ok (.if_icmp .ge 83, 3) by decide +kernel) (by decide +kernel) (fun c_56 => absurd c_56 (by decide +kernel)) (fun c_56 => ?_)
  refine lv_iload hx hb (show decode prog_15_method_4_code 29 = .ok (.iload 6, 2) by decide +kernel) (lv_at hl 0 rfl) ?_
  refine lv_iconst (v := 4) hx hb (show decode prog_15_method_4_code 31 = .ok (.iconst 4, 1) by decide +kernel) (by decide +kernel) ?_
  refine lv_icmp_ge (tgt := 39) hx hb (show decode prog_15_method_4_code 32 = .ok (.if_icmp .ge 7, 3) by decide +kernel) (by decide +kernel) (fun c_57 => ?_) (fun c_57 => absurd c_57 (by decide +kernel))
  refine lv_iload hx hb (show decode prog_15_method_4_code 39 = .ok (.iload 6, 2) by decide +kernel) (lv_at hl 0 rfl) ?_
  refine lv_bipush (v := 8) hx hb (show decode prog_15_method_4_code 41 = .ok (.bipush 8, 2) by decide +kernel) (by decide +kernel) ?_
  refine lv_icmp_ge (tgt := 50) hx hb (show decode prog_15_method_4_code 43 = .ok (.if_icmp .ge 7, 3) by decide +kernel) (by decide +kernel) (fun c_58 => ?_) (fun c_58 => absurd c_58 (by decide +kernel))
  refine lv_iload hx hb (show decode prog_15_method_4_code 50 = .ok (.iload 6, 2) by decide +kernel) (lv_at hl 0 rfl) ?_
  refine lv_bipush (v := 12) hx hb (show decode prog_15_method_4_code 52 = .ok (.bipush 12, 2) by decide +kernel) (by decide +kernel) ?_
  refine lv_icmp_ge (tgt := 61) hx hb (show decode prog_15_method_4_code 54 = .ok (.if_icmp .ge 7, 3) by decide +kernel) (by decide +kernel) (fun c_59 => absurd c_59 (by decide +kernel)) (fun c_59 => ?_)
  refine lv_iload_n hx hb (show decode prog_15_method_4_code 57 = .ok (.iload_n 3, 1) by decide +kernel) rfl (lv_at hl 5 rfl) ?_
  refine lv_goto (tgt := 75) hx hb (show decode prog_15_method_4_code 58 = .ok (.goto 17, 3) by decide +kernel) (by decide +kernel) ?_
  refine lv_istore (lv' := [(7, .int p2), (6, .int 11), (0, .ref h0), (1, .int p0), (2, .int p1), (3, .int p2), (4, .int p3), (5, .int p4)]) hx hb (show decode prog_15_method_4_code 75 = .ok (.istore 7, 2) by decide +kernel) hl (by decide +kernel) rfl (fun ls hl => ?_)
  refine lv_aload_n hx hb (show decode prog_15_method_4_code 77 = .ok (.aload_n 0, 1) by decide +kernel) rfl (lv_at hl 2 rfl) ?_
  refine va_get (D := D) (ci := 1) (v := .ref q0) (C := R_MD) (T := F_MD) (N := 107) hx hb hts i_MD hown hK hP 0 rfl rfl 1 (by decide +kernel) (hts _ w_1563) (fun _ h9 => h9) (xg_ne (by decide +kernel) ha0) (show decode prog_15_method_4_code 78 = .ok (.getfield 10, 3) by decide +kernel) ?_
  refine lv_aload_n hx hb (show decode prog_15_method_4_code 81 = .ok (.aload_n 0, 1) by decide +kernel) rfl (lv_at hl 2 rfl) ?_
  refine va_get (D := D) (ci := 1) (v := .int (nI n)) (C := R_MD) (T := F_MD) (N := 107) hx hb hts i_MD hown hK hP 0 rfl rfl 2 (by decide +kernel) (hts _ w_1564) (fun _ h9 => h9) (xg_ne (by decide +kernel) hf2) (show decode prog_15_method_4_code 82 = .ok (.getfield 210, 3) by decide +kernel) ?_
  refine lv_iload hx hb (show decode prog_15_method_4_code 85 = .ok (.iload 6, 2) by decide +kernel) (lv_at hl 1 rfl) ?_
  refine lv_iadd hx hb (show decode prog_15_method_4_code 87 = .ok (.iadd, 1) by decide +kernel) ?_
  refine xtopi (v := (nI (n + 11))) (show nI n + nI 11 = (nI (n + 11)) from nI_add _ _) ?_
  refine lv_iload hx hb (show decode prog_15_method_4_code 88 = .ok (.iload 7, 2) by decide +kernel) (lv_at hl 0 rfl) ?_
  refine lv_bipush (v := 24) hx hb (show decode prog_15_method_4_code 90 = .ok (.bipush 24, 2) by decide +kernel) (by decide +kernel) ?_
  refine lv_bipush (v := 8) hx hb (show decode prog_15_method_4_code 92 = .ok (.bipush 8, 2) by decide +kernel) (by decide +kernel) ?_
  refine lv_iload hx hb (show decode prog_15_method_4_code 94 = .ok (.iload 6, 2) by decide +kernel) (lv_at hl 1 rfl) ?_
  refine lv_iconst (v := 4) hx hb (show decode prog_15_method_4_code 96 = .ok (.iconst 4, 1) by decide +kernel) (by decide +kernel) ?_
  refine lv_irem hx hb (show decode prog_15_method_4_code 97 = .ok (.irem, 1) by decide +kernel) (by decide +kernel) ?_
  refine xtopi (v := 3) (by decide +kernel) ?_
  refine lv_imul hx hb (show decode prog_15_method_4_code 98 = .ok (.imul, 1) by decide +kernel) ?_
  refine xtopi (v := 24) (by decide +kernel) ?_
  refine lv_isub hx hb (show decode prog_15_method_4_code 99 = .ok (.isub, 1) by decide +kernel) ?_
  refine xtopi (v := 0) (by decide +kernel) ?_
  refine lv_ishr hx hb (show decode prog_15_method_4_code 100 = .ok (.ishr, 1) by decide +kernel) ?_
  refine lv_topi (fun z_60 ez_60 => ?_)
  refine lv_i2b hx hb (show decode prog_15_method_4_code 101 = .ok (.i2b, 1) by decide +kernel) rfl ?_
  refine lv_topi (fun z_61 ez_61 => ?_)
  refine va_bast hx hb hK hP hD hS 1 0 rfl rfl (vp_in_nI (show (n + 11) < 32768 by omega) (by omega)) (show decode prog_15_method_4_code 102 = .ok (.bastore, 1) by decide +kernel) (fun H locs hP hD hS => ?_)
  rw [wrt_st (show nI (n + 11) = nI (n + 11) by congr 1) (by omega) (show vp_nar .byte z_61 = (fdW p0 p1 p2 p3 p4) 11 by rw [ez_61, pk_vb, ez_60]; rfl)] at hP hD
  have hP : va_P D cl [(h0, .inr (1, (fs.set 0 (.int 0)))), (q0, .inl (cA0, 32768, .inl (wrt f n (fdW p0 p1 p2 p3 p4) 12)))] H := hP
  have hD : va_D _ [(h0, .inr (1, (fs.set 0 (.int 0)))), (q0, .inl (cA0, 32768, .inl (wrt f n (fdW p0 p1 p2 p3 p4) 12)))] := hD
  refine lv_iinc (v := 12) (lv' := [(6, .int 12), (7, .int p2), (0, .ref h0), (1, .int p0), (2, .int p1), (3, .int p2), (4, .int p3), (5, .int p4)]) hx hb (show decode prog_15_method_4_code 103 = .ok (.iinc 6 1, 3) by decide +kernel) hl (k := 1) rfl (by decide +kernel) (by decide +kernel) rfl (fun ls hl => ?_)
  refine lv_goto (tgt := 22) hx hb (show decode prog_15_method_4_code 106 = .ok (.goto (-84), 3) by decide +kernel) (by decide +kernel) ?_
  refine lv_iload hx hb (show decode prog_15_method_4_code 22 = .ok (.iload 6, 2) by decide +kernel) (lv_at hl 0 rfl) ?_
  refine lv_bipush (v := 20) hx hb (show decode prog_15_method_4_code 24 = .ok (.bipush 20, 2) by decide +kernel) (by decide +kernel) ?_
  refine lv_icmp_ge (tgt := 109) hx hb (show decode prog_15_method_4_code 26 = .ok (.if_icmp .ge 83, 3) by decide +kernel) (by decide +kernel) (fun c_62 => absurd c_62 (by decide +kernel)) (fun c_62 => ?_)
  refine lv_iload hx hb (show decode prog_15_method_4_code 29 = .ok (.iload 6, 2) by decide +kernel) (lv_at hl 0 rfl) ?_
  refine lv_iconst (v := 4) hx hb (show decode prog_15_method_4_code 31 = .ok (.iconst 4, 1) by decide +kernel) (by decide +kernel) ?_
  refine lv_icmp_ge (tgt := 39) hx hb (show decode prog_15_method_4_code 32 = .ok (.if_icmp .ge 7, 3) by decide +kernel) (by decide +kernel) (fun c_63 => ?_) (fun c_63 => absurd c_63 (by decide +kernel))
  refine lv_iload hx hb (show decode prog_15_method_4_code 39 = .ok (.iload 6, 2) by decide +kernel) (lv_at hl 0 rfl) ?_
  refine lv_bipush (v := 8) hx hb (show decode prog_15_method_4_code 41 = .ok (.bipush 8, 2) by decide +kernel) (by decide +kernel) ?_
  refine lv_icmp_ge (tgt := 50) hx hb (show decode prog_15_method_4_code 43 = .ok (.if_icmp .ge 7, 3) by decide +kernel) (by decide +kernel) (fun c_64 => ?_) (fun c_64 => absurd c_64 (by decide +kernel))
  refine lv_iload hx hb (show decode prog_15_method_4_code 50 = .ok (.iload 6, 2) by decide +kernel) (lv_at hl 0 rfl) ?_
  refine lv_bipush (v := 12) hx hb (show decode prog_15_method_4_code 52 = .ok (.bipush 12, 2) by decide +kernel) (by decide +kernel) ?_
  refine lv_icmp_ge (tgt := 61) hx hb (show decode prog_15_method_4_code 54 = .ok (.if_icmp .ge 7, 3) by decide +kernel) (by decide +kernel) (fun c_65 => ?_) (fun c_65 => absurd c_65 (by decide +kernel))
  refine lv_iload hx hb (show decode prog_15_method_4_code 61 = .ok (.iload 6, 2) by decide +kernel) (lv_at hl 0 rfl) ?_
  refine lv_bipush (v := 16) hx hb (show decode prog_15_method_4_code 63 = .ok (.bipush 16, 2) by decide +kernel) (by decide +kernel) ?_
  refine lv_icmp_ge (tgt := 73) hx hb (show decode prog_15_method_4_code 65 = .ok (.if_icmp .ge 8, 3) by decide +kernel) (by decide +kernel) (fun c_66 => absurd c_66 (by decide +kernel)) (fun c_66 => ?_)
  refine lv_iload hx hb (show decode prog_15_method_4_code 68 = .ok (.iload 4, 2) by decide +kernel) (lv_at hl 6 rfl) ?_
  refine lv_goto (tgt := 75) hx hb (show decode prog_15_method_4_code 70 = .ok (.goto 5, 3) by decide +kernel) (by decide +kernel) ?_
  refine lv_istore (lv' := [(7, .int p3), (6, .int 12), (0, .ref h0), (1, .int p0), (2, .int p1), (3, .int p2), (4, .int p3), (5, .int p4)]) hx hb (show decode prog_15_method_4_code 75 = .ok (.istore 7, 2) by decide +kernel) hl (by decide +kernel) rfl (fun ls hl => ?_)
  refine lv_aload_n hx hb (show decode prog_15_method_4_code 77 = .ok (.aload_n 0, 1) by decide +kernel) rfl (lv_at hl 2 rfl) ?_
  refine va_get (D := D) (ci := 1) (v := .ref q0) (C := R_MD) (T := F_MD) (N := 107) hx hb hts i_MD hown hK hP 0 rfl rfl 1 (by decide +kernel) (hts _ w_1563) (fun _ h9 => h9) (xg_ne (by decide +kernel) ha0) (show decode prog_15_method_4_code 78 = .ok (.getfield 10, 3) by decide +kernel) ?_
  refine lv_aload_n hx hb (show decode prog_15_method_4_code 81 = .ok (.aload_n 0, 1) by decide +kernel) rfl (lv_at hl 2 rfl) ?_
  refine va_get (D := D) (ci := 1) (v := .int (nI n)) (C := R_MD) (T := F_MD) (N := 107) hx hb hts i_MD hown hK hP 0 rfl rfl 2 (by decide +kernel) (hts _ w_1564) (fun _ h9 => h9) (xg_ne (by decide +kernel) hf2) (show decode prog_15_method_4_code 82 = .ok (.getfield 210, 3) by decide +kernel) ?_
  refine lv_iload hx hb (show decode prog_15_method_4_code 85 = .ok (.iload 6, 2) by decide +kernel) (lv_at hl 1 rfl) ?_
  refine lv_iadd hx hb (show decode prog_15_method_4_code 87 = .ok (.iadd, 1) by decide +kernel) ?_
  refine xtopi (v := (nI (n + 12))) (show nI n + nI 12 = (nI (n + 12)) from nI_add _ _) ?_
  refine lv_iload hx hb (show decode prog_15_method_4_code 88 = .ok (.iload 7, 2) by decide +kernel) (lv_at hl 0 rfl) ?_
  refine lv_bipush (v := 24) hx hb (show decode prog_15_method_4_code 90 = .ok (.bipush 24, 2) by decide +kernel) (by decide +kernel) ?_
  refine lv_bipush (v := 8) hx hb (show decode prog_15_method_4_code 92 = .ok (.bipush 8, 2) by decide +kernel) (by decide +kernel) ?_
  refine lv_iload hx hb (show decode prog_15_method_4_code 94 = .ok (.iload 6, 2) by decide +kernel) (lv_at hl 1 rfl) ?_
  refine lv_iconst (v := 4) hx hb (show decode prog_15_method_4_code 96 = .ok (.iconst 4, 1) by decide +kernel) (by decide +kernel) ?_
  refine lv_irem hx hb (show decode prog_15_method_4_code 97 = .ok (.irem, 1) by decide +kernel) (by decide +kernel) ?_
  refine xtopi (v := 0) (by decide +kernel) ?_
  refine lv_imul hx hb (show decode prog_15_method_4_code 98 = .ok (.imul, 1) by decide +kernel) ?_
  refine xtopi (v := 0) (by decide +kernel) ?_
  refine lv_isub hx hb (show decode prog_15_method_4_code 99 = .ok (.isub, 1) by decide +kernel) ?_
  refine xtopi (v := 24) (by decide +kernel) ?_
  refine lv_ishr hx hb (show decode prog_15_method_4_code 100 = .ok (.ishr, 1) by decide +kernel) ?_
  refine lv_topi (fun z_67 ez_67 => ?_)
  refine lv_i2b hx hb (show decode prog_15_method_4_code 101 = .ok (.i2b, 1) by decide +kernel) rfl ?_
  refine lv_topi (fun z_68 ez_68 => ?_)
  refine va_bast hx hb hK hP hD hS 1 0 rfl rfl (vp_in_nI (show (n + 12) < 32768 by omega) (by omega)) (show decode prog_15_method_4_code 102 = .ok (.bastore, 1) by decide +kernel) (fun H locs hP hD hS => ?_)
  rw [wrt_st (show nI (n + 12) = nI (n + 12) by congr 1) (by omega) (show vp_nar .byte z_68 = (fdW p0 p1 p2 p3 p4) 12 by rw [ez_68, pk_vb, ez_67]; rfl)] at hP hD
  have hP : va_P D cl [(h0, .inr (1, (fs.set 0 (.int 0)))), (q0, .inl (cA0, 32768, .inl (wrt f n (fdW p0 p1 p2 p3 p4) 13)))] H := hP
  have hD : va_D _ [(h0, .inr (1, (fs.set 0 (.int 0)))), (q0, .inl (cA0, 32768, .inl (wrt f n (fdW p0 p1 p2 p3 p4) 13)))] := hD
  refine lv_iinc (v := 13) (lv' := [(6, .int 13), (7, .int p3), (0, .ref h0), (1, .int p0), (2, .int p1), (3, .int p2), (4, .int p3), (5, .int p4)]) hx hb (show decode prog_15_method_4_code 103 = .ok (.iinc 6 1, 3) by decide +kernel) hl (k := 1) rfl (by decide +kernel) (by decide +kernel) rfl (fun ls hl => ?_)
  refine lv_goto (tgt := 22) hx hb (show decode prog_15_method_4_code 106 = .ok (.goto (-84), 3) by decide +kernel) (by decide +kernel) ?_
  refine lv_iload hx hb (show decode prog_15_method_4_code 22 = .ok (.iload 6, 2) by decide +kernel) (lv_at hl 0 rfl) ?_
  refine lv_bipush (v := 20) hx hb (show decode prog_15_method_4_code 24 = .ok (.bipush 20, 2) by decide +kernel) (by decide +kernel) ?_
  refine lv_icmp_ge (tgt := 109) hx hb (show decode prog_15_method_4_code 26 = .ok (.if_icmp .ge 83, 3) by decide +kernel) (by decide +kernel) (fun c_69 => absurd c_69 (by decide +kernel)) (fun c_69 => ?_)
  refine lv_iload hx hb (show decode prog_15_method_4_code 29 = .ok (.iload 6, 2) by decide +kernel) (lv_at hl 0 rfl) ?_
  refine lv_iconst (v := 4) hx hb (show decode prog_15_method_4_code 31 = .ok (.iconst 4, 1) by decide +kernel) (by decide +kernel) ?_
  refine lv_icmp_ge (tgt := 39) hx hb (show decode prog_15_method_4_code 32 = .ok (.if_icmp .ge 7, 3) by decide +kernel) (by decide +kernel) (fun c_70 => ?_) (fun c_70 => absurd c_70 (by decide +kernel))
  refine lv_iload hx hb (show decode prog_15_method_4_code 39 = .ok (.iload 6, 2) by decide +kernel) (lv_at hl 0 rfl) ?_
  refine lv_bipush (v := 8) hx hb (show decode prog_15_method_4_code 41 = .ok (.bipush 8, 2) by decide +kernel) (by decide +kernel) ?_
  refine lv_icmp_ge (tgt := 50) hx hb (show decode prog_15_method_4_code 43 = .ok (.if_icmp .ge 7, 3) by decide +kernel) (by decide +kernel) (fun c_71 => ?_) (fun c_71 => absurd c_71 (by decide +kernel))
  refine lv_iload hx hb (show decode prog_15_method_4_code 50 = .ok (.iload 6, 2) by decide +kernel) (lv_at hl 0 rfl) ?_
  refine lv_bipush (v := 12) hx hb (show decode prog_15_method_4_code 52 = .ok (.bipush 12, 2) by decide +kernel) (by decide +kernel) ?_
  refine lv_icmp_ge (tgt := 61) hx hb (show decode prog_15_method_4_code 54 = .ok (.if_icmp .ge 7, 3) by decide +kernel) (by decide +kernel) (fun c_72 => ?_) (fun c_72 => absurd c_72 (by decide +kernel))
  refine lv_iload hx hb (show decode prog_15_method_4_code 61 = .ok (.iload 6, 2) by decide +kernel) (lv_at hl 0 rfl) ?_
  refine lv_bipush (v := 16) hx hb (show decode prog_15_method_4_code 63 = .ok (.bipush 16, 2) by decide +kernel) (by decide +kernel) ?_
  refine lv_icmp_ge (tgt := 73) hx hb (show decode prog_15_method_4_code 65 = .ok (.if_icmp .ge 8, 3) by decide +kernel) (by decide +kernel) (fun c_73 => absurd c_73 (by decide +kernel)) (fun c_73 => ?_)
  refine lv_iload hx hb (show decode prog_15_method_4_code 68 = .ok (.iload 4, 2) by decide +kernel) (lv_at hl 6 rfl) ?_
  refine lv_goto (tgt := 75) hx hb (show decode prog_15_method_4_code 70 = .ok (.goto 5, 3) by decide +kernel) (by decide +kernel) ?_
  refine lv_istore (lv' := [(7, .int p3), (6, .int 13), (0, .ref h0), (1, .int p0), (2, .int p1), (3, .int p2), (4, .int p3), (5, .int p4)]) hx hb (show decode prog_15_method_4_code 75 = .ok (.istore 7, 2) by decide +kernel) hl (by decide +kernel) rfl (fun ls hl => ?_)
  refine lv_aload_n hx hb (show decode prog_15_method_4_code 77 = .ok (.aload_n 0, 1) by decide +kernel) rfl (lv_at hl 2 rfl) ?_
  refine va_get (D := D) (ci := 1) (v := .ref q0) (C := R_MD) (T := F_MD) (N := 107) hx hb hts i_MD hown hK hP 0 rfl rfl 1 (by decide +kernel) (hts _ w_1563) (fun _ h9 => h9) (xg_ne (by decide +kernel) ha0) (show decode prog_15_method_4_code 78 = .ok (.getfield 10, 3) by decide +kernel) ?_
  refine lv_aload_n hx hb (show decode prog_15_method_4_code 81 = .ok (.aload_n 0, 1) by decide +kernel) rfl (lv_at hl 2 rfl) ?_
  refine va_get (D := D) (ci := 1) (v := .int (nI n)) (C := R_MD) (T := F_MD) (N := 107) hx hb hts i_MD hown hK hP 0 rfl rfl 2 (by decide +kernel) (hts _ w_1564) (fun _ h9 => h9) (xg_ne (by decide +kernel) hf2) (show decode prog_15_method_4_code 82 = .ok (.getfield 210, 3) by decide +kernel) ?_
  refine lv_iload hx hb (show decode prog_15_method_4_code 85 = .ok (.iload 6, 2) by decide +kernel) (lv_at hl 1 rfl) ?_
  refine lv_iadd hx hb (show decode prog_15_method_4_code 87 = .ok (.iadd, 1) by decide +kernel) ?_
  refine xtopi (v := (nI (n + 13))) (show nI n + nI 13 = (nI (n + 13)) from nI_add _ _) ?_
  refine lv_iload hx hb (show decode prog_15_method_4_code 88 = .ok (.iload 7, 2) by decide +kernel) (lv_at hl 0 rfl) ?_
  refine lv_bipush (v := 24) hx hb (show decode prog_15_method_4_code 90 = .ok (.bipush 24, 2) by decide +kernel) (by decide +kernel) ?_
  refine lv_bipush (v := 8) hx hb (show decode prog_15_method_4_code 92 = .ok (.bipush 8, 2) by decide +kernel) (by decide +kernel) ?_
  refine lv_iload hx hb (show decode prog_15_method_4_code 94 = .ok (.iload 6, 2) by decide +kernel) (lv_at hl 1 rfl) ?_
  refine lv_iconst (v := 4) hx hb (show decode prog_15_method_4_code 96 = .ok (.iconst 4, 1) by decide +kernel) (by decide +kernel) ?_
  refine lv_irem hx hb (show decode prog_15_method_4_code 97 = .ok (.irem, 1) by decide +kernel) (by decide +kernel) ?_
  refine xtopi (v := 1) (by decide +kernel) ?_
  refine lv_imul hx hb (show decode prog_15_method_4_code 98 = .ok (.imul, 1) by decide +kernel) ?_
  refine xtopi (v := 8) (by decide +kernel) ?_
  refine lv_isub hx hb (show decode prog_15_method_4_code 99 = .ok (.isub, 1) by decide +kernel) ?_
  refine xtopi (v := 16) (by decide +kernel) ?_
  refine lv_ishr hx hb (show decode prog_15_method_4_code 100 = .ok (.ishr, 1) by decide +kernel) ?_
  refine lv_topi (fun z_74 ez_74 => ?_)
  refine lv_i2b hx hb (show decode prog_15_method_4_code 101 = .ok (.i2b, 1) by decide +kernel) rfl ?_
  refine lv_topi (fun z_75 ez_75 => ?_)
  refine va_bast hx hb hK hP hD hS 1 0 rfl rfl (vp_in_nI (show (n + 13) < 32768 by omega) (by omega)) (show decode prog_15_method_4_code 102 = .ok (.bastore, 1) by decide +kernel) (fun H locs hP hD hS => ?_)
  rw [wrt_st (show nI (n + 13) = nI (n + 13) by congr 1) (by omega) (show vp_nar .byte z_75 = (fdW p0 p1 p2 p3 p4) 13 by rw [ez_75, pk_vb, ez_74]; rfl)] at hP hD
  have hP : va_P D cl [(h0, .inr (1, (fs.set 0 (.int 0)))), (q0, .inl (cA0, 32768, .inl (wrt f n (fdW p0 p1 p2 p3 p4) 14)))] H := hP
  have hD : va_D _ [(h0, .inr (1, (fs.set 0 (.int 0)))), (q0, .inl (cA0, 32768, .inl (wrt f n (fdW p0 p1 p2 p3 p4) 14)))] := hD
  refine lv_iinc (v := 14) (lv' := [(6, .int 14), (7, .int p3), (0, .ref h0), (1, .int p0), (2, .int p1), (3, .int p2), (4, .int p3), (5, .int p4)]) hx hb (show decode prog_15_method_4_code 103 = .ok (.iinc 6 1, 3) by decide +kernel) hl (k := 1) rfl (by decide +kernel) (by decide +kernel) rfl (fun ls hl => ?_)
  refine lv_goto (tgt := 22) hx hb (show decode prog_15_method_4_code 106 = .ok (.goto (-84), 3) by decide +kernel) (by decide +kernel) ?_
  refine lv_iload hx hb (show decode prog_15_method_4_code 22 = .ok (.iload 6, 2) by decide +kernel) (lv_at hl 0 rfl) ?_
  refine lv_bipush (v := 20) hx hb (show decode prog_15_method_4_code 24 = .ok (.bipush 20, 2) by decide +kernel) (by decide +kernel) ?_
  refine lv_icmp_ge (tgt := 109) hx hb (show decode prog_15_method_4_code 26 = .ok (.if_icmp .ge 83, 3) by decide +kernel) (by decide +kernel) (fun c_76 => absurd c_76 (by decide +kernel)) (fun c_76 => ?_)
  refine lv_iload hx hb (show decode prog_15_method_4_code 29 = .ok (.iload 6, 2) by decide +kernel) (lv_at hl 0 rfl) ?_
  refine lv_iconst (v := 4) hx hb (show decode prog_15_method_4_code 31 = .ok (.iconst 4, 1) by decide +kernel) (by decide +kernel) ?_
  refine lv_icmp_ge (tgt := 39) hx hb (show decode prog_15_method_4_code 32 = .ok (.if_icmp .ge 7, 3) by decide +kernel) (by decide +kernel) (fun c_77 => ?_) (fun c_77 => absurd c_77 (by decide +kernel))
  refine lv_iload hx hb (show decode prog_15_method_4_code 39 = .ok (.iload 6, 2) by decide +kernel) (lv_at hl 0 rfl) ?_
  refine lv_bipush (v := 8) hx hb (show decode prog_15_method_4_code 41 = .ok (.bipush 8, 2) by decide +kernel) (by decide +kernel) ?_
  refine lv_icmp_ge (tgt := 50) hx hb (show decode prog_15_method_4_code 43 = .ok (.if_icmp .ge 7, 3) by decide +kernel) (by decide +kernel) (fun c_78 => ?_) (fun c_78 => absurd c_78 (by decide +kernel))
  refine lv_iload hx hb (show decode prog_15_method_4_code 50 = .ok (.iload 6, 2) by decide +kernel) (lv_at hl 0 rfl) ?_
  refine lv_bipush (v := 12) hx hb (show decode prog_15_method_4_code 52 = .ok (.bipush 12, 2) by decide +kernel) (by decide +kernel) ?_
  refine lv_icmp_ge (tgt := 61) hx hb (show decode prog_15_method_4_code 54 = .ok (.if_icmp .ge 7, 3) by decide +kernel) (by decide +kernel) (fun c_79 => ?_) (fun c_79 => absurd c_79 (by decide +kernel))
  refine lv_iload hx hb (show decode prog_15_method_4_code 61 = .ok (.iload 6, 2) by decide +kernel) (lv_at hl 0 rfl) ?_
  refine lv_bipush (v := 16) hx hb (show decode prog_15_method_4_code 63 = .ok (.bipush 16, 2) by decide +kernel) (by decide +kernel) ?_
  refine lv_icmp_ge (tgt := 73) hx hb (show decode prog_15_method_4_code 65 = .ok (.if_icmp .ge 8, 3) by decide +kernel) (by decide +kernel) (fun c_80 => absurd c_80 (by decide +kernel)) (fun c_80 => ?_)
  refine lv_iload hx hb (show decode prog_15_method_4_code 68 = .ok (.iload 4, 2) by decide +kernel) (lv_at hl 6 rfl) ?_
  refine lv_goto (tgt := 75) hx hb (show decode prog_15_method_4_code 70 = .ok (.goto 5, 3) by decide +kernel) (by decide +kernel) ?_
  refine lv_istore (lv' := [(7, .int p3), (6, .int 14), (0, .ref h0), (1, .int p0), (2, .int p1), (3, .int p2), (4, .int p3), (5, .int p4)]) hx hb (show decode prog_15_method_4_code 75 = .ok (.istore 7, 2) by decide +kernel) hl (by decide +kernel) rfl (fun ls hl => ?_)
  refine lv_aload_n hx hb (show decode prog_15_method_4_code 77 = .ok (.aload_n 0, 1) by decide +kernel) rfl (lv_at hl 2 rfl) ?_
  refine va_get (D := D) (ci := 1) (v := .ref q0) (C := R_MD) (T := F_MD) (N := 107) hx hb hts i_MD hown hK hP 0 rfl rfl 1 (by decide +kernel) (hts _ w_1563) (fun _ h9 => h9) (xg_ne (by decide +kernel) ha0) (show decode prog_15_method_4_code 78 = .ok (.getfield 10, 3) by decide +kernel) ?_
  refine lv_aload_n hx hb (show decode prog_15_method_4_code 81 = .ok (.aload_n 0, 1) by decide +kernel) rfl (lv_at hl 2 rfl) ?_
  refine va_get (D := D) (ci := 1) (v := .int (nI n)) (C := R_MD) (T := F_MD) (N := 107) hx hb hts i_MD hown hK hP 0 rfl rfl 2 (by decide +kernel) (hts _ w_1564) (fun _ h9 => h9) (xg_ne (by decide +kernel) hf2) (show decode prog_15_method_4_code 82 = .ok (.getfield 210, 3) by decide +kernel) ?_
  refine lv_iload hx hb (show decode prog_15_method_4_code 85 = .ok (.iload 6, 2) by decide +kernel) (lv_at hl 1 rfl) ?_
  refine lv_iadd hx hb (show decode prog_15_method_4_code 87 = .ok (.iadd, 1) by decide +kernel) ?_
  refine xtopi (v := (nI (n + 14))) (show nI n + nI 14 = (nI (n + 14)) from nI_add _ _) ?_
  refine lv_iload hx hb (show decode prog_15_method_4_code 88 = .ok (.iload 7, 2) by decide +kernel) (lv_at hl 0 rfl) ?_
  refine lv_bipush (v := 24) hx hb (show decode prog_15_method_4_code 90 = .ok (.bipush 24, 2) by decide +kernel) (by decide +kernel) ?_
  refine lv_bipush (v := 8) hx hb (show decode prog_15_method_4_code 92 = .ok (.bipush 8, 2) by decide +kernel) (by decide +kernel) ?_
  refine lv_iload hx hb (show decode prog_15_method_4_code 94 = .ok (.iload 6, 2) by decide +kernel) (lv_at hl 1 rfl) ?_
  refine lv_iconst (v := 4) hx hb (show decode prog_15_method_4_code 96 = .ok (.iconst 4, 1) by decide +kernel) (by decide +kernel) ?_
  refine lv_irem hx hb (show decode prog_15_method_4_code 97 = .ok (.irem, 1) by decide +kernel) (by decide +kernel) ?_
  refine xtopi (v := 2) (by decide +kernel) ?_
  refine lv_imul hx hb (show decode prog_15_method_4_code 98 = .ok (.imul, 1) by decide +kernel) ?_
  refine xtopi (v := 16) (by decide +kernel) ?_
  refine lv_isub hx hb (show decode prog_15_method_4_code 99 = .ok (.isub, 1) by decide +kernel) ?_
  refine xtopi (v := 8) (by decide +kernel) ?_
  refine lv_ishr hx hb (show decode prog_15_method_4_code 100 = .ok (.ishr, 1) by decide +kernel) ?_
  refine lv_topi (fun z_81 ez_81 => ?_)
  refine lv_i2b hx hb (show decode prog_15_method_4_code 101 = .ok (.i2b, 1) by decide +kernel) rfl ?_
  refine lv_topi (fun z_82 ez_82 => ?_)
  refine va_bast hx hb hK hP hD hS 1 0 rfl rfl (vp_in_nI (show (n + 14) < 32768 by omega) (by omega)) (show decode prog_15_method_4_code 102 = .ok (.bastore, 1) by decide +kernel) (fun H locs hP hD hS => ?_)
  rw [wrt_st (show nI (n + 14) = nI (n + 14) by congr 1) (by omega) (show vp_nar .byte z_82 = (fdW p0 p1 p2 p3 p4) 14 by rw [ez_82, pk_vb, ez_81]; rfl)] at hP hD
  have hP : va_P D cl [(h0, .inr (1, (fs.set 0 (.int 0)))), (q0, .inl (cA0, 32768, .inl (wrt f n (fdW p0 p1 p2 p3 p4) 15)))] H := hP
  have hD : va_D _ [(h0, .inr (1, (fs.set 0 (.int 0)))), (q0, .inl (cA0, 32768, .inl (wrt f n (fdW p0 p1 p2 p3 p4) 15)))] := hD
  refine lv_iinc (v := 15) (lv' := [(6, .int 15), (7, .int p3), (0, .ref h0), (1, .int p0), (2, .int p1), (3, .int p2), (4, .int p3), (5, .int p4)]) hx hb (show decode prog_15_method_4_code 103 = .ok (.iinc 6 1, 3) by decide +kernel) hl (k := 1) rfl (by decide +kernel) (by decide +kernel) rfl (fun ls hl => ?_)
  refine lv_goto (tgt := 22) hx hb (show decode prog_15_method_4_code 106 = .ok (.goto (-84), 3) by decide +kernel) (by decide +kernel) ?_
  refine lv_iload hx hb (show decode prog_15_method_4_code 22 = .ok (.iload 6, 2) by decide +kernel) (lv_at hl 0 rfl) ?_
  refine lv_bipush (v := 20) hx hb (show decode prog_15_method_4_code 24 = .ok (.bipush 20, 2) by decide +kernel) (by decide +kernel) ?_
  refine lv_icmp_ge (tgt := 109) hx hb (show decode prog_15_method_4_code 26 = .ok (.if_icmp .ge 83, 3) by decide +kernel) (by decide +kernel) (fun c_83 => absurd c_83 (by decide +kernel)) (fun c_83 => ?_)
  refine lv_iload hx hb (show decode prog_15_method_4_code 29 = .ok (.iload 6, 2) by decide +kernel) (lv_at hl 0 rfl) ?_
  refine lv_iconst (v := 4) hx hb (show decode prog_15_method_4_code 31 = .ok (.iconst 4, 1) by decide +kernel) (by decide +kernel) ?_
  refine lv_icmp_ge (tgt := 39) hx hb (show decode prog_15_method_4_code 32 = .ok (.if_icmp .ge 7, 3) by decide +kernel) (by decide +kernel) (fun c_84 => ?_) (fun c_84 => absurd c_84 (by decide +kernel))
  refine lv_iload hx hb (show decode prog_15_method_4_code 39 = .ok (.iload 6, 2) by decide +kernel) (lv_at hl 0 rfl) ?_
  refine lv_bipush (v := 8) hx hb (show decode prog_15_method_4_code 41 = .ok (.bipush 8, 2) by decide +kernel) (by decide +kernel) ?_
  refine lv_icmp_ge (tgt := 50) hx hb (show decode prog_15_method_4_code 43 = .ok (.if_icmp .ge 7, 3) by decide +kernel) (by decide +kernel) (fun c_85 => ?_) (fun c_85 => absurd c_85 (by decide +kernel))
  refine lv_iload hx hb (show decode prog_15_method_4_code 50 = .ok (.iload 6, 2) by decide +kernel) (lv_at hl 0 rfl) ?_
  refine lv_bipush (v := 12) hx hb (show decode prog_15_method_4_code 52 = .ok (.bipush 12, 2) by decide +kernel) (by decide +kernel) ?_
  refine lv_icmp_ge (tgt := 61) hx hb (show decode prog_15_method_4_code 54 = .ok (.if_icmp .ge 7, 3) by decide +kernel) (by decide +kernel) (fun c_86 => ?_) (fun c_86 => absurd c_86 (by decide +kernel))
  refine lv_iload hx hb (show decode prog_15_method_4_code 61 = .ok (.iload 6, 2) by decide +kernel) (lv_at hl 0 rfl) ?_
  refine lv_bipush (v := 16) hx hb (show decode prog_15_method_4_code 63 = .ok (.bipush 16, 2) by decide +kernel) (by decide +kernel) ?_
  refine lv_icmp_ge (tgt := 73) hx hb (show decode prog_15_method_4_code 65 = .ok (.if_icmp .ge 8, 3) by decide +kernel) (by decide +kernel) (fun c_87 => absurd c_87 (by decide +kernel)) (fun c_87 => ?_)
  refine lv_iload hx hb (show decode prog_15_method_4_code 68 = .ok (.iload 4, 2) by decide +kernel) (lv_at hl 6 rfl) ?_
  refine lv_goto (tgt := 75) hx hb (show decode prog_15_method_4_code 70 = .ok (.goto 5, 3) by decide +kernel) (by decide +kernel) ?_
  refine lv_istore (lv' := [(7, .int p3), (6, .int 15), (0, .ref h0), (1, .int p0), (2, .int p1), (3, .int p2), (4, .int p3), (5, .int p4)]) hx hb (show decode prog_15_method_4_code 75 = .ok (.istore 7, 2) by decide +kernel) hl (by decide +kernel) rfl (fun ls hl => ?_)
  refine lv_aload_n hx hb (show decode prog_15_method_4_code 77 = .ok (.aload_n 0, 1) by decide +kernel) rfl (lv_at hl 2 rfl) ?_
  refine va_get (D := D) (ci := 1) (v := .ref q0) (C := R_MD) (T := F_MD) (N := 107) hx hb hts i_MD hown hK hP 0 rfl rfl 1 (by decide +kernel) (hts _ w_1563) (fun _ h9 => h9) (xg_ne (by decide +kernel) ha0) (show decode prog_15_method_4_code 78 = .ok (.getfield 10, 3) by decide +kernel) ?_
  refine lv_aload_n hx hb (show decode prog_15_method_4_code 81 = .ok (.aload_n 0, 1) by decide +kernel) rfl (lv_at hl 2 rfl) ?_
  refine va_get (D := D) (ci := 1) (v := .int (nI n)) (C := R_MD) (T := F_MD) (N := 107) hx hb hts i_MD hown hK hP 0 rfl rfl 2 (by decide +kernel) (hts _ w_1564) (fun _ h9 => h9) (xg_ne (by decide +kernel) hf2) (show decode prog_15_method_4_code 82 = .ok (.getfield 210, 3) by decide +kernel) ?_
  refine lv_iload hx hb (show decode prog_15_method_4_code 85 = .ok (.iload 6, 2) by decide +kernel) (lv_at hl 1 rfl) ?_
  refine lv_iadd hx hb (show decode prog_15_method_4_code 87 = .ok (.iadd, 1) by decide +kernel) ?_
  refine xtopi (v := (nI (n + 15))) (show nI n + nI 15 = (nI (n + 15)) from nI_add _ _) ?_
  refine lv_iload hx hb (show decode prog_15_method_4_code 88 = .ok (.iload 7, 2) by decide +kernel) (lv_at hl 0 rfl) ?_
  refine lv_bipush (v := 24) hx hb (show decode prog_15_method_4_code 90 = .ok (.bipush 24, 2) by decide +kernel) (by decide +kernel) ?_
  refine lv_bipush (v := 8) hx hb (show decode prog_15_method_4_code 92 = .ok (.bipush 8, 2) by decide +kernel) (by decide +kernel) ?_
  refine lv_iload hx hb (show decode prog_15_method_4_code 94 = .ok (.iload 6, 2) by decide +kernel) (lv_at hl 1 rfl) ?_
  refine lv_iconst (v := 4) hx hb (show decode prog_15_method_4_code 96 = .ok (.iconst 4, 1) by decide +kernel) (by decide +kernel) ?_
  refine lv_irem hx hb (show decode prog_15_method_4_code 97 = .ok (.irem, 1) by decide +kernel) (by decide +kernel) ?_
  refine xtopi (v := 3) (by decide +kernel) ?_
  refine lv_imul hx hb (show decode prog_15_method_4_code 98 = .ok (.imul, 1) by decide +kernel) ?_
  refine xtopi (v := 24) (by decide +kernel) ?_
  refine lv_isub hx hb (show decode prog_15_method_4_code 99 = .ok (.isub, 1) by decide +kernel) ?_
  refine xtopi (v := 0) (by decide +kernel) ?_
  refine lv_ishr hx hb (show decode prog_15_method_4_code 100 = .ok (.ishr, 1) by decide +kernel) ?_
  refine lv_topi (fun z_88 ez_88 => ?_)
  refine lv_i2b hx hb (show decode prog_15_method_4_code 101 = .ok (.i2b, 1) by decide +kernel) rfl ?_
  refine lv_topi (fun z_89 ez_89 => ?_)
  refine va_bast hx hb hK hP hD hS 1 0 rfl rfl (vp_in_nI (show (n + 15) < 32768 by omega) (by omega)) (show decode prog_15_method_4_code 102 = .ok (.bastore, 1) by decide +kernel) (fun H locs hP hD hS => ?_)
  rw [wrt_st (show nI (n + 15) = nI (n + 15) by congr 1) (by omega) (show vp_nar .byte z_89 = (fdW p0 p1 p2 p3 p4) 15 by rw [ez_89, pk_vb, ez_88]; rfl)] at hP hD
  have hP : va_P D cl [(h0, .inr (1, (fs.set 0 (.int 0)))), (q0, .inl (cA0, 32768, .inl (wrt f n (fdW p0 p1 p2 p3 p4) 16)))] H := hP
  have hD : va_D _ [(h0, .inr (1, (fs.set 0 (.int 0)))), (q0, .inl (cA0, 32768, .inl (wrt f n (fdW p0 p1 p2 p3 p4) 16)))] := hD
  refine lv_iinc (v := 16) (lv' := [(6, .int 16), (7, .int p3), (0, .ref h0), (1, .int p0), (2, .int p1), (3, .int p2), (4, .int p3), (5, .int p4)]) hx hb (show decode prog_15_method_4_code 103 = .ok (.iinc 6 1, 3) by decide +kernel) hl (k := 1) rfl (by decide +kernel) (by decide +kernel) rfl (fun ls hl => ?_)
  refine lv_goto (tgt := 22) hx hb (show decode prog_15_method_4_code 106 = .ok (.goto (-84), 3) by decide +kernel) (by decide +kernel) ?_
  refine lv_iload hx hb (show decode prog_15_method_4_code 22 = .ok (.iload 6, 2) by decide +kernel) (lv_at hl 0 rfl) ?_
  refine lv_bipush (v := 20) hx hb (show decode prog_15_method_4_code 24 = .ok (.bipush 20, 2) by decide +kernel) (by decide +kernel) ?_
  refine lv_icmp_ge (tgt := 109) hx hb (show decode prog_15_method_4_code 26 = .ok (.if_icmp .ge 83, 3) by decide +kernel) (by decide +kernel) (fun c_90 => absurd c_90 (by decide +kernel)) (fun c_90 => ?_)
  refine lv_iload hx hb (show decode prog_15_method_4_code 29 = .ok (.iload 6, 2) by decide +kernel) (lv_at hl 0 rfl) ?_
  refine lv_iconst (v := 4) hx hb (show decode prog_15_method_4_code 31 = .ok (.iconst 4, 1) by decide +kernel) (by decide +kernel) ?_
  refine lv_icmp_ge (tgt := 39) hx hb (show decode prog_15_method_4_code 32 = .ok (.if_icmp .ge 7, 3) by decide +kernel) (by decide +kernel) (fun c_91 => ?_) (fun c_91 => absurd c_91 (by decide +kernel))
  refine lv_iload hx hb (show decode prog_15_method_4_code 39 = .ok (.iload 6, 2) by decide +kernel) (lv_at hl 0 rfl) ?_
  refine lv_bipush (v := 8) hx hb (show decode prog_15_method_4_code 41 = .ok (.bipush 8, 2) by decide +kernel) (by decide +kernel) ?_
  refine lv_icmp_ge (tgt := 50) hx hb (show decode prog_15_method_4_code 43 = .ok (.if_icmp .ge 7, 3) by decide +kernel) (by decide +kernel) (fun c_92 => ?_) (fun c_92 => absurd c_92 (by decide +kernel))
  refine lv_iload hx hb (show decode prog_15_method_4_code 50 = .ok (.iload 6, 2) by decide +kernel) (lv_at hl 0 rfl) ?_
  refine lv_bipush (v := 12) hx hb (show decode prog_15_method_4_code 52 = .ok (.bipush 12, 2) by decide +kernel) (by decide +kernel) ?_
  refine lv_icmp_ge (tgt := 61) hx hb (show decode prog_15_method_4_code 54 = .ok (.if_icmp .ge 7, 3) by decide +kernel) (by decide +kernel) (fun c_93 => ?_) (fun c_93 => absurd c_93 (by decide +kernel))
  refine lv_iload hx hb (show decode prog_15_method_4_code 61 = .ok (.iload 6, 2) by decide +kernel) (lv_at hl 0 rfl) ?_
  refine lv_bipush (v := 16) hx hb (show decode prog_15_method_4_code 63 = .ok (.bipush 16, 2) by decide +kernel) (by decide +kernel) ?_
  refine lv_icmp_ge (tgt := 73) hx hb (show decode prog_15_method_4_code 65 = .ok (.if_icmp .ge 8, 3) by decide +kernel) (by decide +kernel) (fun c_94 => ?_) (fun c_94 => absurd c_94 (by decide +kernel))
  refine lv_iload hx hb (show decode prog_15_method_4_code 73 = .ok (.iload 5, 2) by decide +kernel) (lv_at hl 7 rfl) ?_
  refine lv_istore (lv' := [(7, .int p4), (6, .int 16), (0, .ref h0), (1, .int p0), (2, .int p1), (3, .int p2), (4, .int p3), (5, .int p4)]) hx hb (show decode prog_15_method_4_code 75 = .ok (.istore 7, 2) by decide +kernel) hl (by decide +kernel) rfl (fun ls hl => ?_)
  refine lv_aload_n hx hb (show decode prog_15_method_4_code 77 = .ok (.aload_n 0, 1) by decide +kernel) rfl (lv_at hl 2 rfl) ?_
  refine va_get (D := D) (ci := 1) (v := .ref q0) (C := R_MD) (T := F_MD) (N := 107) hx hb hts i_MD hown hK hP 0 rfl rfl 1 (by decide +kernel) (hts _ w_1563) (fun _ h9 => h9) (xg_ne (by decide +kernel) ha0) (show decode prog_15_method_4_code 78 = .ok (.getfield 10, 3) by decide +kernel) ?_
  refine lv_aload_n hx hb (show decode prog_15_method_4_code 81 = .ok (.aload_n 0, 1) by decide +kernel) rfl (lv_at hl 2 rfl) ?_
  refine va_get (D := D) (ci := 1) (v := .int (nI n)) (C := R_MD) (T := F_MD) (N := 107) hx hb hts i_MD hown hK hP 0 rfl rfl 2 (by decide +kernel) (hts _ w_1564) (fun _ h9 => h9) (xg_ne (by decide +kernel) hf2) (show decode prog_15_method_4_code 82 = .ok (.getfield 210, 3) by decide +kernel) ?_
  refine lv_iload hx hb (show decode prog_15_method_4_code 85 = .ok (.iload 6, 2) by decide +kernel) (lv_at hl 1 rfl) ?_
  refine lv_iadd hx hb (show decode prog_15_method_4_code 87 = .ok (.iadd, 1) by decide +kernel) ?_
  refine xtopi (v := (nI (n + 16))) (show nI n + nI 16 = (nI (n + 16)) from nI_add _ _) ?_
  refine lv_iload hx hb (show decode prog_15_method_4_code 88 = .ok (.iload 7, 2) by decide +kernel) (lv_at hl 0 rfl) ?_
  refine lv_bipush (v := 24) hx hb (show decode prog_15_method_4_code 90 = .ok (.bipush 24, 2) by decide +kernel) (by decide +kernel) ?_
  refine lv_bipush (v := 8) hx hb (show decode prog_15_method_4_code 92 = .ok (.bipush 8, 2) by decide +kernel) (by decide +kernel) ?_
  refine lv_iload hx hb (show decode prog_15_method_4_code 94 = .ok (.iload 6, 2) by decide +kernel) (lv_at hl 1 rfl) ?_
  refine lv_iconst (v := 4) hx hb (show decode prog_15_method_4_code 96 = .ok (.iconst 4, 1) by decide +kernel) (by decide +kernel) ?_
  refine lv_irem hx hb (show decode prog_15_method_4_code 97 = .ok (.irem, 1) by decide +kernel) (by decide +kernel) ?_
  refine xtopi (v := 0) (by decide +kernel) ?_
  refine lv_imul hx hb (show decode prog_15_method_4_code 98 = .ok (.imul, 1) by decide +kernel) ?_
  refine xtopi (v := 0) (by decide +kernel) ?_
  refine lv_isub hx hb (show decode prog_15_method_4_code 99 = .ok (.isub, 1) by decide +kernel) ?_
  refine xtopi (v := 24) (by decide +kernel) ?_
  refine lv_ishr hx hb (show decode prog_15_method_4_code 100 = .ok (.ishr, 1) by decide +kernel) ?_
  refine lv_topi (fun z_95 ez_95 => ?_)
  refine lv_i2b hx hb (show decode prog_15_method_4_code 101 = .ok (.i2b, 1) by decide +kernel) rfl ?_
  refine lv_topi (fun z_96 ez_96 => ?_)
  refine va_bast hx hb hK hP hD hS 1 0 rfl rfl (vp_in_nI (show (n + 16) < 32768 by omega) (by omega)) (show decode prog_15_method_4_code 102 = .ok (.bastore, 1) by decide +kernel) (fun H locs hP hD hS => ?_)
  rw [wrt_st (show nI (n + 16) = nI (n + 16) by congr 1) (by omega) (show vp_nar .byte z_96 = (fdW p0 p1 p2 p3 p4) 16 by rw [ez_96, pk_vb, ez_95]; rfl)] at hP hD
  have hP : va_P D cl [(h0, .inr (1, (fs.set 0 (.int 0)))), (q0, .inl (cA0, 32768, .inl (wrt f n (fdW p0 p1 p2 p3 p4) 17)))] H := hP
  have hD : va_D _ [(h0, .inr (1, (fs.set 0 (.int 0)))), (q0, .inl (cA0, 32768, .inl (wrt f n (fdW p0 p1 p2 p3 p4) 17)))] := hD
  refine lv_iinc (v := 17) (lv' := [(6, .int 17), (7, .int p4), (0, .ref h0), (1, .int p0), (2, .int p1), (3, .int p2), (4, .int p3), (5, .int p4)]) hx hb (show decode prog_15_method_4_code 103 = .ok (.iinc 6 1, 3) by decide +kernel) hl (k := 1) rfl (by decide +kernel) (by decide +kernel) rfl (fun ls hl => ?_)
  refine lv_goto (tgt := 22) hx hb (show decode prog_15_method_4_code 106 = .ok (.goto (-84), 3) by decide +kernel) (by decide +kernel) ?_
  refine lv_iload hx hb (show decode prog_15_method_4_code 22 = .ok (.iload 6, 2) by decide +kernel) (lv_at hl 0 rfl) ?_
  refine lv_bipush (v := 20) hx hb (show decode prog_15_method_4_code 24 = .ok (.bipush 20, 2) by decide +kernel) (by decide +kernel) ?_
  refine lv_icmp_ge (tgt := 109) hx hb (show decode prog_15_method_4_code 26 = .ok (.if_icmp .ge 83, 3) by decide +kernel) (by decide +kernel) (fun c_97 => absurd c_97 (by decide +kernel)) (fun c_97 => ?_)
  refine lv_iload hx hb (show decode prog_15_method_4_code 29 = .ok (.iload 6, 2) by decide +kernel) (lv_at hl 0 rfl) ?_
  refine lv_iconst (v := 4) hx hb (show decode prog_15_method_4_code 31 = .ok (.iconst 4, 1) by decide +kernel) (by decide +kernel) ?_
  refine lv_icmp_ge (tgt := 39) hx hb (show decode prog_15_method_4_code 32 = .ok (.if_icmp .ge 7, 3) by decide +kernel) (by decide +kernel) (fun c_98 => ?_) (fun c_98 => absurd c_98 (by decide +kernel))
  refine lv_iload hx hb (show decode prog_15_method_4_code 39 = .ok (.iload 6, 2) by decide +kernel) (lv_at hl 0 rfl) ?_
  refine lv_bipush (v := 8) hx hb (show decode prog_15_method_4_code 41 = .ok (.bipush 8, 2) by decide +kernel) (by decide +kernel) ?_
  refine lv_icmp_ge (tgt := 50) hx hb (show decode prog_15_method_4_code 43 = .ok (.if_icmp .ge 7, 3) by decide +kernel) (by decide +kernel) (fun c_99 => ?_) (fun c_99 => absurd c_99 (by decide +kernel))
  refine lv_iload hx hb (show decode prog_15_method_4_code 50 = .ok (.iload 6, 2) by decide +kernel) (lv_at hl 0 rfl) ?_
  refine lv_bipush (v := 12) hx hb (show decode prog_15_method_4_code 52 = .ok (.bipush 12, 2) by decide +kernel) (by decide +kernel) ?_
  refine lv_icmp_ge (tgt := 61) hx hb (show decode prog_15_method_4_code 54 = .ok (.if_icmp .ge 7, 3) by decide +kernel) (by decide +kernel) (fun c_100 => ?_) (fun c_100 => absurd c_100 (by decide +kernel))
  refine lv_iload hx hb (show decode prog_15_method_4_code 61 = .ok (.iload 6, 2) by decide +kernel) (lv_at hl 0 rfl) ?_
  refine lv_bipush (v := 16) hx hb (show decode prog_15_method_4_code 63 = .ok (.bipush 16, 2) by decide +kernel) (by decide +kernel) ?_
  refine lv_icmp_ge (tgt := 73) hx hb (show decode prog_15_method_4_code 65 = .ok (.if_icmp .ge 8, 3) by decide +kernel) (by decide +kernel) (fun c_101 => ?_) (fun c_101 => absurd c_101 (by decide +kernel))
  refine lv_iload hx hb (show decode prog_15_method_4_code 73 = .ok (.iload 5, 2) by decide +kernel) (lv_at hl 7 rfl) ?_
  refine lv_istore (lv' := [(7, .int p4), (6, .int 17), (0, .ref h0), (1, .int p0), (2, .int p1), (3, .int p2), (4, .int p3), (5, .int p4)]) hx hb (show decode prog_15_method_4_code 75 = .ok (.istore 7, 2) by decide +kernel) hl (by decide +kernel) rfl (fun ls hl => ?_)
  refine lv_aload_n hx hb (show decode prog_15_method_4_code 77 = .ok (.aload_n 0, 1) by decide +kernel) rfl (lv_at hl 2 rfl) ?_
  refine va_get (D := D) (ci := 1) (v := .ref q0) (C := R_MD) (T := F_MD) (N := 107) hx hb hts i_MD hown hK hP 0 rfl rfl 1 (by decide +kernel) (hts _ w_1563) (fun _ h9 => h9) (xg_ne (by decide +kernel) ha0) (show decode prog_15_method_4_code 78 = .ok (.getfield 10, 3) by decide +kernel) ?_
  refine lv_aload_n hx hb (show decode prog_15_method_4_code 81 = .ok (.aload_n 0, 1) by decide +kernel) rfl (lv_at hl 2 rfl) ?_
  refine va_get (D := D) (ci := 1) (v := .int (nI n)) (C := R_MD) (T := F_MD) (N := 107) hx hb hts i_MD hown hK hP 0 rfl rfl 2 (by decide +kernel) (hts _ w_1564) (fun _ h9 => h9) (xg_ne (by decide +kernel) hf2) (show decode prog_15_method_4_code 82 = .ok (.getfield 210, 3) by decide +kernel) ?_
  refine lv_iload hx hb (show decode prog_15_method_4_code 85 = .ok (.iload 6, 2) by decide +kernel) (lv_at hl 1 rfl) ?_
  refine lv_iadd hx hb (show decode prog_15_method_4_code 87 = .ok (.iadd, 1) by decide +kernel) ?_
  refine xtopi (v := (nI (n + 17))) (show nI n + nI 17 = (nI (n + 17)) from nI_add _ _) ?_
  refine lv_iload hx hb (show decode prog_15_method_4_code 88 = .ok (.iload 7, 2) by decide +kernel) (lv_at hl 0 rfl) ?_
  refine lv_bipush (v := 24) hx hb (show decode prog_15_method_4_code 90 = .ok (.bipush 24, 2) by decide +kernel) (by decide +kernel) ?_
  refine lv_bipush (v := 8) hx hb (show decode prog_15_method_4_code 92 = .ok (.bipush 8, 2) by decide +kernel) (by decide +kernel) ?_
  refine lv_iload hx hb (show decode prog_15_method_4_code 94 = .ok (.iload 6, 2) by decide +kernel) (lv_at hl 1 rfl) ?_
  refine lv_iconst (v := 4) hx hb (show decode prog_15_method_4_code 96 = .ok (.iconst 4, 1) by decide +kernel) (by decide +kernel) ?_
  refine lv_irem hx hb (show decode prog_15_method_4_code 97 = .ok (.irem, 1) by decide +kernel) (by decide +kernel) ?_
  refine xtopi (v := 1) (by decide +kernel) ?_
  refine lv_imul hx hb (show decode prog_15_method_4_code 98 = .ok (.imul, 1) by decide +kernel) ?_
  refine xtopi (v := 8) (by decide +kernel) ?_
  refine lv_isub hx hb (show decode prog_15_method_4_code 99 = .ok (.isub, 1) by decide +kernel) ?_
  refine xtopi (v := 16) (by decide +kernel) ?_
  refine lv_ishr hx hb (show decode prog_15_method_4_code 100 = .ok (.ishr, 1) by decide +kernel) ?_
  refine lv_topi (fun z_102 ez_102 => ?_)
  refine lv_i2b hx hb (show decode prog_15_method_4_code 101 = .ok (.i2b, 1) by decide +kernel) rfl ?_
  refine lv_topi (fun z_103 ez_103 => ?_)
  refine va_bast hx hb hK hP hD hS 1 0 rfl rfl (vp_in_nI (show (n + 17) < 32768 by omega) (by omega)) (show decode prog_15_method_4_code 102 = .ok (.bastore, 1) by decide +kernel) (fun H locs hP hD hS => ?_)
  rw [wrt_st (show nI (n + 17) = nI (n + 17) by congr 1) (by omega) (show vp_nar .byte z_103 = (fdW p0 p1 p2 p3 p4) 17 by rw [ez_103, pk_vb, ez_102]; rfl)] at hP hD
  have hP : va_P D cl [(h0, .inr (1, (fs.set 0 (.int 0)))), (q0, .inl (cA0, 32768, .inl (wrt f n (fdW p0 p1 p2 p3 p4) 18)))] H := hP
  have hD : va_D _ [(h0, .inr (1, (fs.set 0 (.int 0)))), (q0, .inl (cA0, 32768, .inl (wrt f n (fdW p0 p1 p2 p3 p4) 18)))] := hD
  refine lv_iinc (v := 18) (lv' := [(6, .int 18), (7, .int p4), (0, .ref h0), (1, .int p0), (2, .int p1), (3, .int p2), (4, .int p3), (5, .int p4)]) hx hb (show decode prog_15_method_4_code 103 = .ok (.iinc 6 1, 3) by decide +kernel) hl (k := 1) rfl (by decide +kernel) (by decide +kernel) rfl (fun ls hl => ?_)
  refine lv_goto (tgt := 22) hx hb (show decode prog_15_method_4_code 106 = .ok (.goto (-84), 3) by decide +kernel) (by decide +kernel) ?_
  refine lv_iload hx hb (show decode prog_15_method_4_code 22 = .ok (.iload 6, 2) by decide +kernel) (lv_at hl 0 rfl) ?_
  refine lv_bipush (v := 20) hx hb (show decode prog_15_method_4_code 24 = .ok (.bipush 20, 2) by decide +kernel) (by decide +kernel) ?_
  refine lv_icmp_ge (tgt := 109) hx hb (show decode prog_15_method_4_code 26 = .ok (.if_icmp .ge 83, 3) by decide +kernel) (by decide +kernel) (fun c_104 => absurd c_104 (by decide +kernel)) (fun c_104 => ?_)
  refine lv_iload hx hb (show decode prog_15_method_4_code 29 = .ok (.iload 6, 2) by decide +kernel) (lv_at hl 0 rfl) ?_
  refine lv_iconst (v := 4) hx hb (show decode prog_15_method_4_code 31 = .ok (.iconst 4, 1) by decide +kernel) (by decide +kernel) ?_
  refine lv_icmp_ge (tgt := 39) hx hb (show decode prog_15_method_4_code 32 = .ok (.if_icmp .ge 7, 3) by decide +kernel) (by decide +kernel) (fun c_105 => ?_) (fun c_105 => absurd c_105 (by decide +kernel))
  refine lv_iload hx hb (show decode prog_15_method_4_code 39 = .ok (.iload 6, 2) by decide +kernel) (lv_at hl 0 rfl) ?_
  refine lv_bipush (v := 8) hx hb (show decode prog_15_method_4_code 41 = .ok (.bipush 8, 2) by decide +kernel) (by decide +kernel) ?_
  refine lv_icmp_ge (tgt := 50) hx hb (show decode prog_15_method_4_code 43 = .ok (.if_icmp .ge 7, 3) by decide +kernel) (by decide +kernel) (fun c_106 => ?_) (fun c_106 => absurd c_106 (by decide +kernel))
  refine lv_iload hx hb (show decode prog_15_method_4_code 50 = .ok (.iload 6, 2) by decide +kernel) (lv_at hl 0 rfl) ?_
  refine lv_bipush (v := 12) hx hb (show decode prog_15_method_4_code 52 = .ok (.bipush 12, 2) by decide +kernel) (by decide +kernel) ?_
  refine lv_icmp_ge (tgt := 61) hx hb (show decode prog_15_method_4_code 54 = .ok (.if_icmp .ge 7, 3) by decide +kernel) (by decide +kernel) (fun c_107 => ?_) (fun c_107 => absurd c_107 (by decide +kernel))
  refine lv_iload hx hb (show decode prog_15_method_4_code 61 = .ok (.iload 6, 2) by decide +kernel) (lv_at hl 0 rfl) ?_
  refine lv_bipush (v := 16) hx hb (show decode prog_15_method_4_code 63 = .ok (.bipush 16, 2) by decide +kernel) (by decide +kernel) ?_
  refine lv_icmp_ge (tgt := 73) hx hb (show decode prog_15_method_4_code 65 = .ok (.if_icmp .ge 8, 3) by decide +kernel) (by decide +kernel) (fun c_108 => ?_) (fun c_108 => absurd c_108 (by decide +kernel))
  refine lv_iload hx hb (show decode prog_15_method_4_code 73 = .ok (.iload 5, 2) by decide +kernel) (lv_at hl 7 rfl) ?_
  refine lv_istore (lv' := [(7, .int p4), (6, .int 18), (0, .ref h0), (1, .int p0), (2, .int p1), (3, .int p2), (4, .int p3), (5, .int p4)]) hx hb (show decode prog_15_method_4_code 75 = .ok (.istore 7, 2) by decide +kernel) hl (by decide +kernel) rfl (fun ls hl => ?_)
  refine lv_aload_n hx hb (show decode prog_15_method_4_code 77 = .ok (.aload_n 0, 1) by decide +kernel) rfl (lv_at hl 2 rfl) ?_
  refine va_get (D := D) (ci := 1) (v := .ref q0) (C := R_MD) (T := F_MD) (N := 107) hx hb hts i_MD hown hK hP 0 rfl rfl 1 (by decide +kernel) (hts _ w_1563) (fun _ h9 => h9) (xg_ne (by decide +kernel) ha0) (show decode prog_15_method_4_code 78 = .ok (.getfield 10, 3) by decide +kernel) ?_
  refine lv_aload_n hx hb (show decode prog_15_method_4_code 81 = .ok (.aload_n 0, 1) by decide +kernel) rfl (lv_at hl 2 rfl) ?_
  refine va_get (D := D) (ci := 1) (v := .int (nI n)) (C := R_MD) (T := F_MD) (N := 107) hx hb hts i_MD hown hK hP 0 rfl rfl 2 (by decide +kernel) (hts _ w_1564) (fun _ h9 => h9) (xg_ne (by decide +kernel) hf2) (show decode prog_15_method_4_code 82 = .ok (.getfield 210, 3) by decide +kernel) ?_
  refine lv_iload hx hb (show decode prog_15_method_4_code 85 = .ok (.iload 6, 2) by decide +kernel) (lv_at hl 1 rfl) ?_
  refine lv_iadd hx hb (show decode prog_15_method_4_code 87 = .ok (.iadd, 1) by decide +kernel) ?_
  refine xtopi (v := (nI (n + 18))) (show nI n + nI 18 = (nI (n + 18)) from nI_add _ _) ?_
  refine lv_iload hx hb (show decode prog_15_method_4_code 88 = .ok (.iload 7, 2) by decide +kernel) (lv_at hl 0 rfl) ?_
  refine lv_bipush (v := 24) hx hb (show decode prog_15_method_4_code 90 = .ok (.bipush 24, 2) by decide +kernel) (by decide +kernel) ?_
  refine lv_bipush (v := 8) hx hb (show decode prog_15_method_4_code 92 = .ok (.bipush 8, 2) by decide +kernel) (by decide +kernel) ?_
  refine lv_iload hx hb (show decode prog_15_method_4_code 94 = .ok (.iload 6, 2) by decide +kernel) (lv_at hl 1 rfl) ?_
  refine lv_iconst (v := 4) hx hb (show decode prog_15_method_4_code 96 = .ok (.iconst 4, 1) by decide +kernel) (by decide +kernel) ?_
  refine lv_irem hx hb (show decode prog_15_method_4_code 97 = .ok (.irem, 1) by decide +kernel) (by decide +kernel) ?_
  refine xtopi (v := 2) (by decide +kernel) ?_
  refine lv_imul hx hb (show decode prog_15_method_4_code 98 = .ok (.imul, 1) by decide +kernel) ?_
  refine xtopi (v := 16) (by decide +kernel) ?_
  refine lv_isub hx hb (show decode prog_15_method_4_code 99 = .ok (.isub, 1) by decide +kernel) ?_
  refine xtopi (v := 8) (by decide +kernel) ?_
  refine lv_ishr hx hb (show decode prog_15_method_4_code 100 = .ok (.ishr, 1) by decide +kernel) ?_
  refine lv_topi (fun z_109 ez_109 => ?_)
  refine lv_i2b hx hb (show decode prog_15_method_4_code 101 = .ok (.i2b, 1) by decide +kernel) rfl ?_
  refine lv_topi (fun z_110 ez_110 => ?_)
  refine va_bast hx hb hK hP hD hS 1 0 rfl rfl (vp_in_nI (show (n + 18) < 32768 by omega) (by omega)) (show decode prog_15_method_4_code 102 = .ok (.bastore, 1) by decide +kernel) (fun H locs hP hD hS => ?_)
  rw [wrt_st (show nI (n + 18) = nI (n + 18) by congr 1) (by omega) (show vp_nar .byte z_110 = (fdW p0 p1 p2 p3 p4) 18 by rw [ez_110, pk_vb, ez_109]; rfl)] at hP hD
  have hP : va_P D cl [(h0, .inr (1, (fs.set 0 (.int 0)))), (q0, .inl (cA0, 32768, .inl (wrt f n (fdW p0 p1 p2 p3 p4) 19)))] H := hP
  have hD : va_D _ [(h0, .inr (1, (fs.set 0 (.int 0)))), (q0, .inl (cA0, 32768, .inl (wrt f n (fdW p0 p1 p2 p3 p4) 19)))] := hD
  refine lv_iinc (v := 19) (lv' := [(6, .int 19), (7, .int p4), (0, .ref h0), (1, .int p0), (2, .int p1), (3, .int p2), (4, .int p3), (5, .int p4)]) hx hb (show decode prog_15_method_4_code 103 = .ok (.iinc 6 1, 3) by decide +kernel) hl (k := 1) rfl (by decide +kernel) (by decide +kernel) rfl (fun ls hl => ?_)
  refine lv_goto (tgt := 22) hx hb (show decode prog_15_method_4_code 106 = .ok (.goto (-84), 3) by decide +kernel) (by decide +kernel) ?_
  refine lv_iload hx hb (show decode prog_15_method_4_code 22 = .ok (.iload 6, 2) by decide +kernel) (lv_at hl 0 rfl) ?_
  refine lv_bipush (v := 20) hx hb (show decode prog_15_method_4_code 24 = .ok (.bipush 20, 2) by decide +kernel) (by decide +kernel) ?_
  refine lv_icmp_ge (tgt := 109) hx hb (show decode prog_15_method_4_code 26 = .ok (.if_icmp .ge 83, 3) by decide +kernel) (by decide +kernel) (fun c_111 => absurd c_111 (by decide +kernel)) (fun c_111 => ?_)
  refine lv_iload hx hb (show decode prog_15_method_4_code 29 = .ok (.iload 6, 2) by decide +kernel) (lv_at hl 0 rfl) ?_
  refine lv_iconst (v := 4) hx hb (show decode prog_15_method_4_code 31 = .ok (.iconst 4, 1) by decide +kernel) (by decide +kernel) ?_
  refine lv_icmp_ge (tgt := 39) hx hb (show decode prog_15_method_4_code 32 = .ok (.if_icmp .ge 7, 3) by decide +kernel) (by decide +kernel) (fun c_112 => ?_) (fun c_112 => absurd c_112 (by decide +kernel))
  refine lv_iload hx hb (show decode prog_15_method_4_code 39 = .ok (.iload 6, 2) by decide +kernel) (lv_at hl 0 rfl) ?_
  refine lv_bipush (v := 8) hx hb (show decode prog_15_method_4_code 41 = .ok (.bipush 8, 2) by decide +kernel) (by decide +kernel) ?_
  refine lv_icmp_ge (tgt := 50) hx hb (show decode prog_15_method_4_code 43 = .ok (.if_icmp .ge 7, 3) by decide +kernel) (by decide +kernel) (fun c_113 => ?_) (fun c_113 => absurd c_113 (by decide +kernel))
  refine lv_iload hx hb (show decode prog_15_method_4_code 50 = .ok (.iload 6, 2) by decide +kernel) (lv_at hl 0 rfl) ?_
  refine lv_bipush (v := 12) hx hb (show decode prog_15_method_4_code 52 = .ok (.bipush 12, 2) by decide +kernel) (by decide +kernel) ?_
  refine lv_icmp_ge (tgt := 61) hx hb (show decode prog_15_method_4_code 54 = .ok (.if_icmp .ge 7, 3) by decide +kernel) (by decide +kernel) (fun c_114 => ?_) (fun c_114 => absurd c_114 (by decide +kernel))
  refine lv_iload hx hb (show decode prog_15_method_4_code 61 = .ok (.iload 6, 2) by decide +kernel) (lv_at hl 0 rfl) ?_
  refine lv_bipush (v := 16) hx hb (show decode prog_15_method_4_code 63 = .ok (.bipush 16, 2) by decide +kernel) (by decide +kernel) ?_
  refine lv_icmp_ge (tgt := 73) hx hb (show decode prog_15_method_4_code 65 = .ok (.if_icmp .ge 8, 3) by decide +kernel) (by decide +kernel) (fun c_115 => ?_) (fun c_115 => absurd c_115 (by decide +kernel))
  refine lv_iload hx hb (show decode prog_15_method_4_code 73 = .ok (.iload 5, 2) by decide +kernel) (lv_at hl 7 rfl) ?_
  refine lv_istore (lv' := [(7, .int p4), (6, .int 19), (0, .ref h0), (1, .int p0), (2, .int p1), (3, .int p2), (4, .int p3), (5, .int p4)]) hx hb (show decode prog_15_method_4_code 75 = .ok (.istore 7, 2) by decide +kernel) hl (by decide +kernel) rfl (fun ls hl => ?_)
  refine lv_aload_n hx hb (show decode prog_15_method_4_code 77 = .ok (.aload_n 0, 1) by decide +kernel) rfl (lv_at hl 2 rfl) ?_
  refine va_get (D := D) (ci := 1) (v := .ref q0) (C := R_MD) (T := F_MD) (N := 107) hx hb hts i_MD hown hK hP 0 rfl rfl 1 (by decide +kernel) (hts _ w_1563) (fun _ h9 => h9) (xg_ne (by decide +kernel) ha0) (show decode prog_15_method_4_code 78 = .ok (.getfield 10, 3) by decide +kernel) ?_
  refine lv_aload_n hx hb (show decode prog_15_method_4_code 81 = .ok (.aload_n 0, 1) by decide +kernel) rfl (lv_at hl 2 rfl) ?_
  refine va_get (D := D) (ci := 1) (v := .int (nI n)) (C := R_MD) (T := F_MD) (N := 107) hx hb hts i_MD hown hK hP 0 rfl rfl 2 (by decide +kernel) (hts _ w_1564) (fun _ h9 => h9) (xg_ne (by decide +kernel) hf2) (show decode prog_15_method_4_code 82 = .ok (.getfield 210, 3) by decide +kernel) ?_
  refine lv_iload hx hb (show decode prog_15_method_4_code 85 = .ok (.iload 6, 2) by decide +kernel) (lv_at hl 1 rfl) ?_
  refine lv_iadd hx hb (show decode prog_15_method_4_code 87 = .ok (.iadd, 1) by decide +kernel) ?_
  refine xtopi (v := (nI (n + 19))) (show nI n + nI 19 = (nI (n + 19)) from nI_add _ _) ?_
  refine lv_iload hx hb (show decode prog_15_method_4_code 88 = .ok (.iload 7, 2) by decide +kernel) (lv_at hl 0 rfl) ?_
  refine lv_bipush (v := 24) hx hb (show decode prog_15_method_4_code 90 = .ok (.bipush 24, 2) by decide +kernel) (by decide +kernel) ?_
  refine lv_bipush (v := 8) hx hb (show decode prog_15_method_4_code 92 = .ok (.bipush 8, 2) by decide +kernel) (by decide +kernel) ?_
  refine lv_iload hx hb (show decode prog_15_method_4_code 94 = .ok (.iload 6, 2) by decide +kernel) (lv_at hl 1 rfl) ?_
  refine lv_iconst (v := 4) hx hb (show decode prog_15_method_4_code 96 = .ok (.iconst 4, 1) by decide +kernel) (by decide +kernel) ?_
  refine lv_irem hx hb (show decode prog_15_method_4_code 97 = .ok (.irem, 1) by decide +kernel) (by decide +kernel) ?_
  refine xtopi (v := 3) (by decide +kernel) ?_
  refine lv_imul hx hb (show decode prog_15_method_4_code 98 = .ok (.imul, 1) by decide +kernel) ?_
  refine xtopi (v := 24) (by decide +kernel) ?_
  refine lv_isub hx hb (show decode prog_15_method_4_code 99 = .ok (.isub, 1) by decide +kernel) ?_
  refine xtopi (v := 0) (by decide +kernel) ?_
  refine lv_ishr hx hb (show decode prog_15_method_4_code 100 = .ok (.ishr, 1) by decide +kernel) ?_
  refine lv_topi (fun z_116 ez_116 => ?_)
  refine lv_i2b hx hb (show decode prog_15_method_4_code 101 = .ok (.i2b, 1) by decide +kernel) rfl ?_
  refine lv_topi (fun z_117 ez_117 => ?_)
  refine va_bast hx hb hK hP hD hS 1 0 rfl rfl (vp_in_nI (show (n + 19) < 32768 by omega) (by omega)) (show decode prog_15_method_4_code 102 = .ok (.bastore, 1) by decide +kernel) (fun H locs hP hD hS => ?_)
  rw [wrt_st (show nI (n + 19) = nI (n + 19) by congr 1) (by omega) (show vp_nar .byte z_117 = (fdW p0 p1 p2 p3 p4) 19 by rw [ez_117, pk_vb, ez_116]; rfl)] at hP hD
  have hP : va_P D cl [(h0, .inr (1, (fs.set 0 (.int 0)))), (q0, .inl (cA0, 32768, .inl (wrt f n (fdW p0 p1 p2 p3 p4) 20)))] H := hP
  have hD : va_D _ [(h0, .inr (1, (fs.set 0 (.int 0)))), (q0, .inl (cA0, 32768, .inl (wrt f n (fdW p0 p1 p2 p3 p4) 20)))] := hD
  refine lv_iinc (v := 20) (lv' := [(6, .int 20), (7, .int p4), (0, .ref h0), (1, .int p0), (2, .int p1), (3, .int p2), (4, .int p3), (5, .int p4)]) hx hb (show decode prog_15_method_4_code 103 = .ok (.iinc 6 1, 3) by decide +kernel) hl (k := 1) rfl (by decide +kernel) (by decide +kernel) rfl (fun ls hl => ?_)
  refine lv_goto (tgt := 22) hx hb (show decode prog_15_method_4_code 106 = .ok (.goto (-84), 3) by decide +kernel) (by decide +kernel) ?_
  refine lv_iload hx hb (show decode prog_15_method_4_code 22 = .ok (.iload 6, 2) by decide +kernel) (lv_at hl 0 rfl) ?_
  refine lv_bipush (v := 20) hx hb (show decode prog_15_method_4_code 24 = .ok (.bipush 20, 2) by decide +kernel) (by decide +kernel) ?_
  refine lv_icmp_ge (tgt := 109) hx hb (show decode prog_15_method_4_code 26 = .ok (.if_icmp .ge 83, 3) by decide +kernel) (by decide +kernel) (fun c_118 => ?_) (fun c_118 => absurd c_118 (by decide +kernel))
  refine lv_aload_n hx hb (show decode prog_15_method_4_code 109 = .ok (.aload_n 0, 1) by decide +kernel) rfl (lv_at hl 2 rfl) ?_
  refine lv_dup hx hb (show decode prog_15_method_4_code 110 = .ok (.dup, 1) by decide +kernel) rfl ?_
  refine va_get (D := D) (ci := 1) (v := .int (nI n)) (C := R_MD) (T := F_MD) (N := 107) hx hb hts i_MD hown hK hP 0 rfl rfl 2 (by decide +kernel) (hts _ w_1564) (fun _ h9 => h9) (xg_ne (by decide +kernel) hf2) (show decode prog_15_method_4_code 111 = .ok (.getfield 210, 3) by decide +kernel) ?_
  refine lv_bipush (v := 20) hx hb (show decode prog_15_method_4_code 114 = .ok (.bipush 20, 2) by decide +kernel) (by decide +kernel) ?_
  refine lv_iadd hx hb (show decode prog_15_method_4_code 116 = .ok (.iadd, 1) by decide +kernel) ?_
  refine xtopi (v := (nI (n + 20))) (show nI n + nI 20 = (nI (n + 20)) from nI_add _ _) ?_
  refine va_put (D := D) (ci := 1) (v := .int (nI (n + 20))) (ty := .int) (C := R_MD) (T := F_MD) (N := 107) hx hb hts i_MD t_MD t_MD_ok n_MD hown hK hP hD hS 0 rfl rfl 2 (by decide +kernel) (hts _ w_1564) (fun _ h9 => h9) rfl (by decide +kernel) rfl rfl (by simp [hfl]) (show decode prog_15_method_4_code 117 = .ok (.putfield 210, 3) by decide +kernel) (fun H locs hP hD hS => ?_)
  have hP : va_P D cl [(h0, .inr (1, ((fs.set 0 (.int 0)).set 2 (.int (nI (n + 20)))))), (q0, .inl (cA0, 32768, .inl (wrt f n (fdW p0 p1 p2 p3 p4) 20)))] H := hP
  have hD : va_D _ [(h0, .inr (1, ((fs.set 0 (.int 0)).set 2 (.int (nI (n + 20)))))), (q0, .inl (cA0, 32768, .inl (wrt f n (fdW p0 p1 p2 p3 p4) 20)))] := hD
  refine lv_aload_n hx hb (show decode prog_15_method_4_code 120 = .ok (.aload_n 0, 1) by decide +kernel) rfl (lv_at hl 2 rfl) ?_
  refine lv_iconst (v := 1) hx hb (show decode prog_15_method_4_code 121 = .ok (.iconst 1, 1) by decide +kernel) (by decide +kernel) ?_
  refine va_put (D := D) (ci := 1) (v := .int 1) (ty := .boolean) (C := R_MD) (T := F_MD) (N := 107) hx hb hts i_MD t_MD t_MD_ok n_MD hown hK hP hD hS 0 rfl rfl 3 (by decide +kernel) (hts _ w_1565) (fun _ h9 => h9) rfl (by decide +kernel) (by decide +kernel) rfl (by simp [hfl]) (show decode prog_15_method_4_code 122 = .ok (.putfield 213, 3) by decide +kernel) (fun H locs hP hD hS => ?_)
  have hP : va_P D cl [(h0, .inr (1, (((fs.set 0 (.int 0)).set 2 (.int (nI (n + 20)))).set 3 (.int 1)))), (q0, .inl (cA0, 32768, .inl (wrt f n (fdW p0 p1 p2 p3 p4) 20)))] H := hP
  have hD : va_D _ [(h0, .inr (1, (((fs.set 0 (.int 0)).set 2 (.int (nI (n + 20)))).set 3 (.int 1)))), (q0, .inl (cA0, 32768, .inl (wrt f n (fdW p0 p1 p2 p3 p4) 20)))] := hD
  refine lv_aload_n hx hb (show decode prog_15_method_4_code 125 = .ok (.aload_n 0, 1) by decide +kernel) rfl (lv_at hl 2 rfl) ?_
  refine va_get (D := D) (ci := 1) (v := .int (nI (n + 20))) (C := R_MD) (T := F_MD) (N := 107) hx hb hts i_MD hown hK hP 0 rfl rfl 2 (by decide +kernel) (hts _ w_1564) (fun _ h9 => h9) (xg_ne (by decide +kernel) (xg_eq (by simp [hfl]))) (show decode prog_15_method_4_code 126 = .ok (.getfield 210, 3) by decide +kernel) ?_
  exact W.iret (v := (nI (n + 20))) hx hb hr (fun t ht hW => ⟨⟨(nI (n + 20)), (), rfl, rfl, by rw [ht]; exact hP, va_K.moved hW.alike hK, hD⟩, hS.F ht⟩) hS.2.2 (show decode prog_15_method_4_code 129 = .ok (.ireturn, 1) by decide +kernel)
