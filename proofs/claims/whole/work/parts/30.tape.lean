/-! the tape: the bytes of a word, and what a feed writes -/
def by8 (w : Int32) (i : Nat) : Int32 := match i with
  | 0 => (w >>> ((24 : Int32) &&& 31)).toInt8.toInt32
  | 1 => (w >>> ((16 : Int32) &&& 31)).toInt8.toInt32
  | 2 => (w >>> ((8 : Int32) &&& 31)).toInt8.toInt32
  | _ => (w >>> ((0 : Int32) &&& 31)).toInt8.toInt32
def fdW (a b c d e : Int32) (k : Nat) : Int32 := by8 (if k < 4 then a else if k < 8 then b else if k < 12 then c else if k < 16 then d else e) (k % 4)
def wrt (f : Nat → Int32) (n : Nat) (g : Nat → Int32) (k : Nat) : Nat → Int32 := fun j => if n ≤ j ∧ j < n + k then g (j - n) else f j
theorem wrt_0 (f : Nat → Int32) (n : Nat) (g : Nat → Int32) : wrt f n g 0 = f := by
  funext j
  unfold wrt
  rw [if_neg (by omega)]
theorem wrt_s (f : Nat → Int32) (n : Nat) (g : Nat → Int32) (k : Nat) : upd (wrt f n g k) (n + k) (g k) = wrt f n g (k + 1) := by
  funext j
  unfold upd wrt
  by_cases h : j = n + k
  · subst h
    rw [if_pos rfl, if_pos (by omega)]
    congr 1
    omega
  · rw [if_neg h]
    by_cases h2 : n ≤ j ∧ j < n + k
    · rw [if_pos h2, if_pos (by omega)]
    · rw [if_neg h2, if_neg (by omega)]
theorem wrt_congr {f : Nat → Int32} {n : Nat} {g g' : Nat → Int32} {k : Nat} (h : ∀ i, i < k → g i = g' i) : wrt f n g k = wrt f n g' k := by
  funext j
  unfold wrt
  by_cases h2 : n ≤ j ∧ j < n + k
  · rw [if_pos h2, if_pos h2, h _ (by omega)]
  · rw [if_neg h2, if_neg h2]
theorem wrt_app (f : Nat → Int32) (n : Nat) (g : Nat → Int32) (k r : Nat) : wrt (wrt f n g k) (n + k) (fun i => g (k + i)) r = wrt f n g (k + r) := by
  funext j
  unfold wrt
  by_cases h : n + k ≤ j ∧ j < n + k + r
  · rw [if_pos h, if_pos (by omega)]
    show g (k + (j - (n + k))) = g (j - n)
    congr 1
    omega
  · rw [if_neg h]
    by_cases h2 : n ≤ j ∧ j < n + k
    · rw [if_pos h2, if_pos (by omega)]
    · rw [if_neg h2, if_neg (by omega)]
/-- a store of the next byte -/
theorem wrt_st {f : Nat → Int32} {n : Nat} {g : Nat → Int32} {k : Nat} {i x : Int32} (hi : i = nI (n + k)) (hn : n + k < 2 ^ 31) (hx : vp_nar .byte x = g k) : upd (wrt f n g k) i.toNatClampNeg (vp_nar .byte x) = wrt f n g (k + 1) := by
  rw [hi, nI_clamp hn, hx]
  exact wrt_s f n g k
/-- the class's own spelling of the same bytes -/
def by8u (w : Int32) (i : Nat) : Int32 := match i with
  | 0 => ((w.toUInt32 >>> ((24 : Int32).toUInt32 &&& Int32.toUInt32 31)).toInt32).toInt8.toInt32
  | 1 => ((w.toUInt32 >>> ((16 : Int32).toUInt32 &&& Int32.toUInt32 31)).toInt32).toInt8.toInt32
  | 2 => ((w.toUInt32 >>> ((8 : Int32).toUInt32 &&& Int32.toUInt32 31)).toInt32).toInt8.toInt32
  | _ => ((w.toUInt32 >>> ((0 : Int32).toUInt32 &&& Int32.toUInt32 31)).toInt32).toInt8.toInt32
theorem nI_end {n j : Nat} (hj : j ≤ 20) (hn : 20 ≤ n) : nI n + (nI j - 20) = nI (n - (20 - j)) := by
  have h1 : nI n = nI (n - (20 - j)) + nI (20 - j) := by rw [nI_add]; congr 1; omega
  have h2 : (20 : Int32) = nI j + nI (20 - j) := by
    rw [nI_add, show j + (20 - j) = 20 by omega]
    rfl
  rw [h1, h2]
  grind
/-! words that the walks use, each by its place; written by wip/gen -/
set_option maxHeartbeats 4000000 in
set_option maxRecDepth 100000 in
/-- SignalEngine.end, in general -/
theorem g_SE_end_ok (l : Launch) (D : va_G) (ad : Nat → Nat) (de sz : Nat) (h0 : Nat) (fs : List Value) (hfl : fs.length = 14)   (n j : Nat) (hj : j ≤ 20) (hn : 20 ≤ n) (hn2 : n ≤ 32768) (hf2 : xfa fs 2 (.int 1)) (hf1 : xfa fs 1 (.int (nI n)))  : Met l ⟨"SignalEngine", "end", "(I)I"⟩ (tw ⟨"SignalEngine", "end", "(I)I"⟩ prog_1_method_4_code 2 (some (.int))) { frames := 0, cells := 0, slots := 0, locals := 0 } (va_Pc [.ref h0, .int (nI j)] (xp ad de D [(h0, .inr (0, fs))] [] sz)) (va_Qi (fun (r : Int32) (_ : Unit) => r = (nI (n - (20 - j)))) (fun (_ : Unit) t => xq D (va_A [(h0, .inr (0, fs))] sz) [(h0, .inr (0, ((fs.set 2 (.int 0)).set 1 (.int (nI (n - (20 - j)))))))] [] t) (va_A [(h0, .inr (0, fs))] sz)) 0 0 (va_A [(h0, .inr (0, fs))] sz) := by
  refine xMet (by decide +kernel) (Nat.le_of_ble_eq_true rfl) ?_
  intro p e s m below meth c hx hb hr hlocks hin hml hown hts hsz hP hK hD hE hA ls hl
  have hS : va_S _ s.heap s.heap [] := va_S.rf (A := va_A [(h0, .inr (0, fs))] sz)
  have hl : lv_has ls 2 [(0, .ref h0), (1, .int (nI j))] := hl
  refine lv_aload_n hx hb (show decode prog_1_method_4_code 0 = .ok (.aload_n 0, 1) by decide +kernel) rfl (lv_at hl 0 rfl) ?_
  refine va_get (D := D) (ci := 0) (v := .int 1) (C := R_SE) (T := F_SE) (N := 14) hx hb hts i_SE hown hK hP 0 rfl rfl 2 (by decide +kernel) (hts _ w_44) (fun _ h9 => h9) hf2 (show decode prog_1_method_4_code 1 = .ok (.getfield 28, 3) by decide +kernel) ?_
  refine lv_if_eq (tgt := 17) hx hb (show decode prog_1_method_4_code 4 = .ok (.ifCond .eq 13, 3) by decide +kernel) (by decide +kernel) (fun c_1 => absurd c_1 (by decide +kernel)) (fun c_1 => ?_)
  refine lv_iload_n hx hb (show decode prog_1_method_4_code 7 = .ok (.iload_n 1, 1) by decide +kernel) rfl (lv_at hl 1 rfl) ?_
  refine lv_if_lt (tgt := 17) hx hb (show decode prog_1_method_4_code 8 = .ok (.ifCond .lt 9, 3) by decide +kernel) (by decide +kernel) (fun c_2 => absurd c_2 (nI_nlt (Nat.zero_le _) (by omega))) (fun c_2 => ?_)
  refine lv_iload_n hx hb (show decode prog_1_method_4_code 11 = .ok (.iload_n 1, 1) by decide +kernel) rfl (lv_at hl 1 rfl) ?_
  refine lv_bipush (v := 20) hx hb (show decode prog_1_method_4_code 12 = .ok (.bipush 20, 2) by decide +kernel) (by decide +kernel) ?_
  refine lv_icmp_le (tgt := 19) hx hb (show decode prog_1_method_4_code 14 = .ok (.if_icmp .le 5, 3) by decide +kernel) (by decide +kernel) (fun c_3 => ?_) (fun c_3 => absurd (show nI j ≤ nI 20 from nI_le (by omega) (by omega)) c_3)
  refine lv_aload_n hx hb (show decode prog_1_method_4_code 19 = .ok (.aload_n 0, 1) by decide +kernel) rfl (lv_at hl 0 rfl) ?_
  refine lv_iconst (v := 0) hx hb (show decode prog_1_method_4_code 20 = .ok (.iconst 0, 1) by decide +kernel) (by decide +kernel) ?_
  refine va_put (D := D) (ci := 0) (v := .int 0) (ty := .boolean) (C := R_SE) (T := F_SE) (N := 14) hx hb hts i_SE t_SE t_SE_ok n_SE hown hK hP hD hS 0 rfl rfl 2 (by decide +kernel) (hts _ w_44) (fun _ h9 => h9) rfl (by decide +kernel) (by decide +kernel) rfl (by simp [hfl]) (show decode prog_1_method_4_code 21 = .ok (.putfield 28, 3) by decide +kernel) (fun H locs hP hD hS => ?_)
  have hP : va_P D cl [(h0, .inr (0, (fs.set 2 (.int 0))))] H := hP
  have hD : va_D _ [(h0, .inr (0, (fs.set 2 (.int 0))))] := hD
  refine lv_aload_n hx hb (show decode prog_1_method_4_code 24 = .ok (.aload_n 0, 1) by decide +kernel) rfl (lv_at hl 0 rfl) ?_
  refine lv_dup hx hb (show decode prog_1_method_4_code 25 = .ok (.dup, 1) by decide +kernel) rfl ?_
  refine va_get (D := D) (ci := 0) (v := .int (nI n)) (C := R_SE) (T := F_SE) (N := 14) hx hb hts i_SE hown hK hP 0 rfl rfl 1 (by decide +kernel) (hts _ w_43) (fun _ h9 => h9) (xg_ne (by decide +kernel) hf1) (show decode prog_1_method_4_code 26 = .ok (.getfield 13, 3) by decide +kernel) ?_
  refine lv_bipush (v := 20) hx hb (show decode prog_1_method_4_code 29 = .ok (.bipush 20, 2) by decide +kernel) (by decide +kernel) ?_
  refine lv_iload_n hx hb (show decode prog_1_method_4_code 31 = .ok (.iload_n 1, 1) by decide +kernel) rfl (lv_at hl 1 rfl) ?_
  refine lv_isub hx hb (show decode prog_1_method_4_code 32 = .ok (.isub, 1) by decide +kernel) ?_
  refine xtopi (v := (nI (20 - j))) (show nI 20 - nI j = (nI (20 - j)) from pk_sub (by omega)) ?_
  refine lv_isub hx hb (show decode prog_1_method_4_code 33 = .ok (.isub, 1) by decide +kernel) ?_
  refine xtopi (v := (nI (n - (20 - j)))) (show nI n - nI (20 - j) = (nI (n - (20 - j))) from pk_sub (by omega)) ?_
  refine va_put (D := D) (ci := 0) (v := .int (nI (n - (20 - j)))) (ty := .int) (C := R_SE) (T := F_SE) (N := 14) hx hb hts i_SE t_SE t_SE_ok n_SE hown hK hP hD hS 0 rfl rfl 1 (by decide +kernel) (hts _ w_43) (fun _ h9 => h9) rfl (by decide +kernel) rfl rfl (by simp [hfl]) (show decode prog_1_method_4_code 34 = .ok (.putfield 13, 3) by decide +kernel) (fun H locs hP hD hS => ?_)
  have hP : va_P D cl [(h0, .inr (0, ((fs.set 2 (.int 0)).set 1 (.int (nI (n - (20 - j)))))))] H := hP
  have hD : va_D _ [(h0, .inr (0, ((fs.set 2 (.int 0)).set 1 (.int (nI (n - (20 - j)))))))] := hD
  refine lv_aload_n hx hb (show decode prog_1_method_4_code 37 = .ok (.aload_n 0, 1) by decide +kernel) rfl (lv_at hl 0 rfl) ?_
  refine va_get (D := D) (ci := 0) (v := .int (nI (n - (20 - j)))) (C := R_SE) (T := F_SE) (N := 14) hx hb hts i_SE hown hK hP 0 rfl rfl 1 (by decide +kernel) (hts _ w_43) (fun _ h9 => h9) (xg_eq (by simp [hfl])) (show decode prog_1_method_4_code 38 = .ok (.getfield 13, 3) by decide +kernel) ?_
  exact W.iret (v := (nI (n - (20 - j)))) hx hb hr (fun t ht hW => ⟨⟨(nI (n - (20 - j))), (), rfl, rfl, by rw [ht]; exact hP, va_K.moved hW.alike hK, hD⟩, hS.F ht⟩) hS.2.2 (show decode prog_1_method_4_code 41 = .ok (.ireturn, 1) by decide +kernel)
set_option maxHeartbeats 4000000 in
set_option maxRecDepth 100000 in
/-- SignalEngineModel.end, in general -/
theorem g_MD_end_ok (l : Launch) (D : va_G) (ad : Nat → Nat) (de sz : Nat) (h0 : Nat) (fs : List Value) (hfl : fs.length = 107)   (n j : Nat) (hj : j ≤ 20) (hn : 20 ≤ n) (hn2 : n ≤ 32768) (hf3 : xfa fs 3 (.int 1)) (hf2 : xfa fs 2 (.int (nI n)))  : Met l ⟨"SignalEngineModel", "end", "(I)I"⟩ (tw ⟨"SignalEngineModel", "end", "(I)I"⟩ prog_15_method_5_code 2 (some (.int))) { frames := 0, cells := 0, slots := 0, locals := 0 } (va_Pc [.ref h0, .int (nI j)] (xp ad de D [(h0, .inr (1, fs))] [] sz)) (va_Qi (fun (r : Int32) (_ : Unit) => r = (nI (n - (20 - j)))) (fun (_ : Unit) t => xq D (va_A [(h0, .inr (1, fs))] sz) [(h0, .inr (1, (((fs.set 0 (.int 0)).set 3 (.int 0)).set 2 (.int (nI (n - (20 - j)))))))] [] t) (va_A [(h0, .inr (1, fs))] sz)) 0 0 (va_A [(h0, .inr (1, fs))] sz) := by
  refine xMet (by decide +kernel) (Nat.le_of_ble_eq_true rfl) ?_
  intro p e s m below meth c hx hb hr hlocks hin hml hown hts hsz hP hK hD hE hA ls hl
  have hS : va_S _ s.heap s.heap [] := va_S.rf (A := va_A [(h0, .inr (1, fs))] sz)
  have hl : lv_has ls 2 [(0, .ref h0), (1, .int (nI j))] := hl
  refine lv_aload_n hx hb (show decode prog_15_method_5_code 0 = .ok (.aload_n 0, 1) by decide +kernel) rfl (lv_at hl 0 rfl) ?_
  refine lv_iconst (v := 0) hx hb (show decode prog_15_method_5_code 1 = .ok (.iconst 0, 1) by decide +kernel) (by decide +kernel) ?_
  refine va_put (D := D) (ci := 1) (v := .int 0) (ty := .int) (C := R_MD) (T := F_MD) (N := 107) hx hb hts i_MD t_MD t_MD_ok n_MD hown hK hP hD hS 0 rfl rfl 0 (by decide +kernel) (hts _ w_1562) (fun _ h9 => h9) rfl (by decide +kernel) rfl rfl (by simp [hfl]) (show decode prog_15_method_5_code 2 = .ok (.putfield 206, 3) by decide +kernel) (fun H locs hP hD hS => ?_)
  have hP : va_P D cl [(h0, .inr (1, (fs.set 0 (.int 0))))] H := hP
  have hD : va_D _ [(h0, .inr (1, (fs.set 0 (.int 0))))] := hD
  refine lv_aload_n hx hb (show decode prog_15_method_5_code 5 = .ok (.aload_n 0, 1) by decide +kernel) rfl (lv_at hl 0 rfl) ?_
  refine va_get (D := D) (ci := 1) (v := .int 1) (C := R_MD) (T := F_MD) (N := 107) hx hb hts i_MD hown hK hP 0 rfl rfl 3 (by decide +kernel) (hts _ w_1565) (fun _ h9 => h9) (xg_ne (by decide +kernel) hf3) (show decode prog_15_method_5_code 6 = .ok (.getfield 213, 3) by decide +kernel) ?_
  refine lv_if_eq (tgt := 22) hx hb (show decode prog_15_method_5_code 9 = .ok (.ifCond .eq 13, 3) by decide +kernel) (by decide +kernel) (fun c_1 => absurd c_1 (by decide +kernel)) (fun c_1 => ?_)
  refine lv_iload_n hx hb (show decode prog_15_method_5_code 12 = .ok (.iload_n 1, 1) by decide +kernel) rfl (lv_at hl 1 rfl) ?_
  refine lv_if_lt (tgt := 22) hx hb (show decode prog_15_method_5_code 13 = .ok (.ifCond .lt 9, 3) by decide +kernel) (by decide +kernel) (fun c_2 => absurd c_2 (nI_nlt (Nat.zero_le _) (by omega))) (fun c_2 => ?_)
  refine lv_iload_n hx hb (show decode prog_15_method_5_code 16 = .ok (.iload_n 1, 1) by decide +kernel) rfl (lv_at hl 1 rfl) ?_
  refine lv_bipush (v := 20) hx hb (show decode prog_15_method_5_code 17 = .ok (.bipush 20, 2) by decide +kernel) (by decide +kernel) ?_
  refine lv_icmp_le (tgt := 24) hx hb (show decode prog_15_method_5_code 19 = .ok (.if_icmp .le 5, 3) by decide +kernel) (by decide +kernel) (fun c_3 => ?_) (fun c_3 => absurd (show nI j ≤ nI 20 from nI_le (by omega) (by omega)) c_3)
  refine lv_aload_n hx hb (show decode prog_15_method_5_code 24 = .ok (.aload_n 0, 1) by decide +kernel) rfl (lv_at hl 0 rfl) ?_
  refine lv_iconst (v := 0) hx hb (show decode prog_15_method_5_code 25 = .ok (.iconst 0, 1) by decide +kernel) (by decide +kernel) ?_
  refine va_put (D := D) (ci := 1) (v := .int 0) (ty := .boolean) (C := R_MD) (T := F_MD) (N := 107) hx hb hts i_MD t_MD t_MD_ok n_MD hown hK hP hD hS 0 rfl rfl 3 (by decide +kernel) (hts _ w_1565) (fun _ h9 => h9) rfl (by decide +kernel) (by decide +kernel) rfl (by simp [hfl]) (show decode prog_15_method_5_code 26 = .ok (.putfield 213, 3) by decide +kernel) (fun H locs hP hD hS => ?_)
  have hP : va_P D cl [(h0, .inr (1, ((fs.set 0 (.int 0)).set 3 (.int 0))))] H := hP
  have hD : va_D _ [(h0, .inr (1, ((fs.set 0 (.int 0)).set 3 (.int 0))))] := hD
  refine lv_aload_n hx hb (show decode prog_15_method_5_code 29 = .ok (.aload_n 0, 1) by decide +kernel) rfl (lv_at hl 0 rfl) ?_
  refine lv_dup hx hb (show decode prog_15_method_5_code 30 = .ok (.dup, 1) by decide +kernel) rfl ?_
  refine va_get (D := D) (ci := 1) (v := .int (nI n)) (C := R_MD) (T := F_MD) (N := 107) hx hb hts i_MD hown hK hP 0 rfl rfl 2 (by decide +kernel) (hts _ w_1564) (fun _ h9 => h9) (xg_ne (by decide +kernel) (xg_ne (by decide +kernel) hf2)) (show decode prog_15_method_5_code 31 = .ok (.getfield 210, 3) by decide +kernel) ?_
  refine lv_iload_n hx hb (show decode prog_15_method_5_code 34 = .ok (.iload_n 1, 1) by decide +kernel) rfl (lv_at hl 1 rfl) ?_
  refine lv_bipush (v := 20) hx hb (show decode prog_15_method_5_code 35 = .ok (.bipush 20, 2) by decide +kernel) (by decide +kernel) ?_
  refine lv_isub hx hb (show decode prog_15_method_5_code 37 = .ok (.isub, 1) by decide +kernel) ?_
  refine lv_iadd hx hb (show decode prog_15_method_5_code 38 = .ok (.iadd, 1) by decide +kernel) ?_
  refine xtopi (v := (nI (n - (20 - j)))) (nI_end hj hn) ?_
  refine va_put (D := D) (ci := 1) (v := .int (nI (n - (20 - j)))) (ty := .int) (C := R_MD) (T := F_MD) (N := 107) hx hb hts i_MD t_MD t_MD_ok n_MD hown hK hP hD hS 0 rfl rfl 2 (by decide +kernel) (hts _ w_1564) (fun _ h9 => h9) rfl (by decide +kernel) rfl rfl (by simp [hfl]) (show decode prog_15_method_5_code 39 = .ok (.putfield 210, 3) by decide +kernel) (fun H locs hP hD hS => ?_)
  have hP : va_P D cl [(h0, .inr (1, (((fs.set 0 (.int 0)).set 3 (.int 0)).set 2 (.int (nI (n - (20 - j)))))))] H := hP
  have hD : va_D _ [(h0, .inr (1, (((fs.set 0 (.int 0)).set 3 (.int 0)).set 2 (.int (nI (n - (20 - j)))))))] := hD
  refine lv_aload_n hx hb (show decode prog_15_method_5_code 42 = .ok (.aload_n 0, 1) by decide +kernel) rfl (lv_at hl 0 rfl) ?_
  refine va_get (D := D) (ci := 1) (v := .int (nI (n - (20 - j)))) (C := R_MD) (T := F_MD) (N := 107) hx hb hts i_MD hown hK hP 0 rfl rfl 2 (by decide +kernel) (hts _ w_1564) (fun _ h9 => h9) (xg_eq (by simp [hfl])) (show decode prog_15_method_5_code 43 = .ok (.getfield 210, 3) by decide +kernel) ?_
  exact W.iret (v := (nI (n - (20 - j)))) hx hb hr (fun t ht hW => ⟨⟨(nI (n - (20 - j))), (), rfl, rfl, by rw [ht]; exact hP, va_K.moved hW.alike hK, hD⟩, hS.F ht⟩) hS.2.2 (show decode prog_15_method_5_code 46 = .ok (.ireturn, 1) by decide +kernel)
set_option maxHeartbeats 4000000 in
set_option maxRecDepth 100000 in
/-- SignalEngine.append, in general -/
theorem g_SE_append (l : Launch) (D : va_G) (ad : Nat → Nat) (de sz : Nat) (h0 : Nat) (fs : List Value) (hfl : fs.length = 14) (q0 : Nat) (cA0 : ClassId) (p0 : Int32) (n N : Nat) (f : Nat → Int32) (hn : n + 4 ≤ N) (hN : N ≤ 65536) (hf1 : xfa fs 1 (.int (nI n))) (ha0 : xfa fs 0 (.ref q0)) : Met l ⟨"SignalEngine", "append", "(I)V"⟩ (tw ⟨"SignalEngine", "append", "(I)V"⟩ prog_1_method_3_code 3 none) { frames := 0, cells := 0, slots := 0, locals := 0 } (va_Pc [.ref h0, .int p0] (xp ad de D [(h0, .inr (0, fs)), (q0, .inl (cA0, N, .inl (wrt f n (by8u p0) 0)))] [(cA0, .byte)] sz)) (va_Qv (fun (_ : Unit) => True) (fun (_ : Unit) t => xq D (va_A [(h0, .inr (0, fs)), (q0, .inl (cA0, N, .inl (wrt f n (by8u p0) 0)))] sz) [(h0, .inr (0, ((((fs.set 1 (.int (nI (n + 1)))).set 1 (.int (nI ((n + 1) + 1)))).set 1 (.int (nI (((n + 1) + 1) + 1)))).set 1 (.int (nI ((((n + 1) + 1) + 1) + 1)))))), (q0, .inl (cA0, N, .inl (wrt f n (by8u p0) 4)))] [(cA0, .byte)] t) (va_A [(h0, .inr (0, fs)), (q0, .inl (cA0, N, .inl (wrt f n (by8u p0) 0)))] sz)) 0 0 (va_A [(h0, .inr (0, fs)), (q0, .inl (cA0, N, .inl (wrt f n (by8u p0) 0)))] sz) := by
  refine xMet (by decide +kernel) (Nat.le_of_ble_eq_true rfl) ?_
  intro p e s m below meth c hx hb hr hlocks hin hml hown hts hsz hP hK hD hE hA ls hl
  have hS : va_S _ s.heap s.heap [] := va_S.rf (A := va_A [(h0, .inr (0, fs)), (q0, .inl (cA0, N, .inl (wrt f n (by8u p0) 0)))] sz)
  have hl : lv_has ls 3 [(0, .ref h0), (1, .int p0)] := hl
  refine lv_bipush (v := 24) hx hb (show decode prog_1_method_3_code 0 = .ok (.bipush 24, 2) by decide +kernel) (by decide +kernel) ?_
  refine lv_istore_n (lv' := [(2, .int 24), (0, .ref h0), (1, .int p0)]) hx hb (show decode prog_1_method_3_code 2 = .ok (.istore_n 2, 1) by decide +kernel) rfl hl (by decide +kernel) rfl (fun ls hl => ?_)
  refine lv_iload_n hx hb (show decode prog_1_method_3_code 3 = .ok (.iload_n 2, 1) by decide +kernel) rfl (lv_at hl 0 rfl) ?_
  refine lv_if_lt (tgt := 36) hx hb (show decode prog_1_method_3_code 4 = .ok (.ifCond .lt 32, 3) by decide +kernel) (by decide +kernel) (fun c_1 => absurd c_1 (by decide +kernel)) (fun c_1 => ?_)
  refine lv_aload_n hx hb (show decode prog_1_method_3_code 7 = .ok (.aload_n 0, 1) by decide +kernel) rfl (lv_at hl 1 rfl) ?_
  refine va_get (D := D) (ci := 0) (v := .ref q0) (C := R_SE) (T := F_SE) (N := 14) hx hb hts i_SE hown hK hP 0 rfl rfl 0 (by decide +kernel) (hts _ w_42) (fun _ h9 => h9) ha0 (show decode prog_1_method_3_code 8 = .ok (.getfield 9, 3) by decide +kernel) ?_
  refine lv_aload_n hx hb (show decode prog_1_method_3_code 11 = .ok (.aload_n 0, 1) by decide +kernel) rfl (lv_at hl 1 rfl) ?_
  refine va_get (D := D) (ci := 0) (v := .int (nI n)) (C := R_SE) (T := F_SE) (N := 14) hx hb hts i_SE hown hK hP 0 rfl rfl 1 (by decide +kernel) (hts _ w_43) (fun _ h9 => h9) hf1 (show decode prog_1_method_3_code 12 = .ok (.getfield 13, 3) by decide +kernel) ?_
  refine lv_iload_n hx hb (show decode prog_1_method_3_code 15 = .ok (.iload_n 1, 1) by decide +kernel) rfl (lv_at hl 2 rfl) ?_
  refine lv_iload_n hx hb (show decode prog_1_method_3_code 16 = .ok (.iload_n 2, 1) by decide +kernel) rfl (lv_at hl 0 rfl) ?_
  refine lv_iushr hx hb (show decode prog_1_method_3_code 17 = .ok (.iushr, 1) by decide +kernel) rfl ?_
  refine lv_topi (fun z_2 ez_2 => ?_)
  refine lv_i2b hx hb (show decode prog_1_method_3_code 18 = .ok (.i2b, 1) by decide +kernel) rfl ?_
  refine lv_topi (fun z_3 ez_3 => ?_)
  refine va_bast hx hb hK hP hD hS 1 0 rfl rfl (vp_in_nI (show n < N by omega) (by omega)) (show decode prog_1_method_3_code 19 = .ok (.bastore, 1) by decide +kernel) (fun H locs hP hD hS => ?_)
  rw [wrt_st (show nI n = nI (n + 0) by congr 1) (by omega) (show vp_nar .byte z_3 = (by8u p0) 0 by rw [ez_3, pk_vb, ez_2]; rfl)] at hP hD
  have hP : va_P D cl [(h0, .inr (0, fs)), (q0, .inl (cA0, N, .inl (wrt f n (by8u p0) 1)))] H := hP
  have hD : va_D _ [(h0, .inr (0, fs)), (q0, .inl (cA0, N, .inl (wrt f n (by8u p0) 1)))] := hD
  refine lv_aload_n hx hb (show decode prog_1_method_3_code 20 = .ok (.aload_n 0, 1) by decide +kernel) rfl (lv_at hl 1 rfl) ?_
  refine lv_dup hx hb (show decode prog_1_method_3_code 21 = .ok (.dup, 1) by decide +kernel) rfl ?_
  refine va_get (D := D) (ci := 0) (v := .int (nI n)) (C := R_SE) (T := F_SE) (N := 14) hx hb hts i_SE hown hK hP 0 rfl rfl 1 (by decide +kernel) (hts _ w_43) (fun _ h9 => h9) hf1 (show decode prog_1_method_3_code 22 = .ok (.getfield 13, 3) by decide +kernel) ?_
  refine lv_iconst (v := 1) hx hb (show decode prog_1_method_3_code 25 = .ok (.iconst 1, 1) by decide +kernel) (by decide +kernel) ?_
  refine lv_iadd hx hb (show decode prog_1_method_3_code 26 = .ok (.iadd, 1) by decide +kernel) ?_
  refine xtopi (v := (nI (n + 1))) (show nI n + nI 1 = (nI (n + 1)) from nI_add _ _) ?_
  refine va_put (D := D) (ci := 0) (v := .int (nI (n + 1))) (ty := .int) (C := R_SE) (T := F_SE) (N := 14) hx hb hts i_SE t_SE t_SE_ok n_SE hown hK hP hD hS 0 rfl rfl 1 (by decide +kernel) (hts _ w_43) (fun _ h9 => h9) rfl (by decide +kernel) rfl rfl (by simp [hfl]) (show decode prog_1_method_3_code 27 = .ok (.putfield 13, 3) by decide +kernel) (fun H locs hP hD hS => ?_)
  have hP : va_P D cl [(h0, .inr (0, (fs.set 1 (.int (nI (n + 1)))))), (q0, .inl (cA0, N, .inl (wrt f n (by8u p0) 1)))] H := hP
  have hD : va_D _ [(h0, .inr (0, (fs.set 1 (.int (nI (n + 1)))))), (q0, .inl (cA0, N, .inl (wrt f n (by8u p0) 1)))] := hD
  refine lv_iinc (v := 16) (lv' := [(2, .int 16), (0, .ref h0), (1, .int p0)]) hx hb (show decode prog_1_method_3_code 30 = .ok (.iinc 2 (-8), 3) by decide +kernel) hl (k := 0) rfl (by decide +kernel) (by decide +kernel) rfl (fun ls hl => ?_)
  refine lv_goto (tgt := 3) hx hb (show decode prog_1_method_3_code 33 = .ok (.goto (-30), 3) by decide +kernel) (by decide +kernel) ?_
  refine lv_iload_n hx hb (show decode prog_1_method_3_code 3 = .ok (.iload_n 2, 1) by decide +kernel) rfl (lv_at hl 0 rfl) ?_
  refine lv_if_lt (tgt := 36) hx hb (show decode prog_1_method_3_code 4 = .ok (.ifCond .lt 32, 3) by decide +kernel) (by decide +kernel) (fun c_4 => absurd c_4 (by decide +kernel)) (fun c_4 => ?_)
  refine lv_aload_n hx hb (show decode prog_1_method_3_code 7 = .ok (.aload_n 0, 1) by decide +kernel) rfl (lv_at hl 1 rfl) ?_
  refine va_get (D := D) (ci := 0) (v := .ref q0) (C := R_SE) (T := F_SE) (N := 14) hx hb hts i_SE hown hK hP 0 rfl rfl 0 (by decide +kernel) (hts _ w_42) (fun _ h9 => h9) (xg_ne (by decide +kernel) ha0) (show decode prog_1_method_3_code 8 = .ok (.getfield 9, 3) by decide +kernel) ?_
  refine lv_aload_n hx hb (show decode prog_1_method_3_code 11 = .ok (.aload_n 0, 1) by decide +kernel) rfl (lv_at hl 1 rfl) ?_
  refine va_get (D := D) (ci := 0) (v := .int (nI (n + 1))) (C := R_SE) (T := F_SE) (N := 14) hx hb hts i_SE hown hK hP 0 rfl rfl 1 (by decide +kernel) (hts _ w_43) (fun _ h9 => h9) (xg_eq (by simp [hfl])) (show decode prog_1_method_3_code 12 = .ok (.getfield 13, 3) by decide +kernel) ?_
  refine lv_iload_n hx hb (show decode prog_1_method_3_code 15 = .ok (.iload_n 1, 1) by decide +kernel) rfl (lv_at hl 2 rfl) ?_
  refine lv_iload_n hx hb (show decode prog_1_method_3_code 16 = .ok (.iload_n 2, 1) by decide +kernel) rfl (lv_at hl 0 rfl) ?_
  refine lv_iushr hx hb (show decode prog_1_method_3_code 17 = .ok (.iushr, 1) by decide +kernel) rfl ?_
  refine lv_topi (fun z_5 ez_5 => ?_)
  refine lv_i2b hx hb (show decode prog_1_method_3_code 18 = .ok (.i2b, 1) by decide +kernel) rfl ?_
  refine lv_topi (fun z_6 ez_6 => ?_)
  refine va_bast hx hb hK hP hD hS 1 0 rfl rfl (vp_in_nI (show (n + 1) < N by omega) (by omega)) (show decode prog_1_method_3_code 19 = .ok (.bastore, 1) by decide +kernel) (fun H locs hP hD hS => ?_)
  rw [wrt_st (show nI (n + 1) = nI (n + 1) by congr 1) (by omega) (show vp_nar .byte z_6 = (by8u p0) 1 by rw [ez_6, pk_vb, ez_5]; rfl)] at hP hD
  have hP : va_P D cl [(h0, .inr (0, (fs.set 1 (.int (nI (n + 1)))))), (q0, .inl (cA0, N, .inl (wrt f n (by8u p0) 2)))] H := hP
  have hD : va_D _ [(h0, .inr (0, (fs.set 1 (.int (nI (n + 1)))))), (q0, .inl (cA0, N, .inl (wrt f n (by8u p0) 2)))] := hD
  refine lv_aload_n hx hb (show decode prog_1_method_3_code 20 = .ok (.aload_n 0, 1) by decide +kernel) rfl (lv_at hl 1 rfl) ?_
  refine lv_dup hx hb (show decode prog_1_method_3_code 21 = .ok (.dup, 1) by decide +kernel) rfl ?_
  refine va_get (D := D) (ci := 0) (v := .int (nI (n + 1))) (C := R_SE) (T := F_SE) (N := 14) hx hb hts i_SE hown hK hP 0 rfl rfl 1 (by decide +kernel) (hts _ w_43) (fun _ h9 => h9) (xg_eq (by simp [hfl])) (show decode prog_1_method_3_code 22 = .ok (.getfield 13, 3) by decide +kernel) ?_
  refine lv_iconst (v := 1) hx hb (show decode prog_1_method_3_code 25 = .ok (.iconst 1, 1) by decide +kernel) (by decide +kernel) ?_
  refine lv_iadd hx hb (show decode prog_1_method_3_code 26 = .ok (.iadd, 1) by decide +kernel) ?_
  refine xtopi (v := (nI ((n + 1) + 1))) (show nI (n + 1) + nI 1 = (nI ((n + 1) + 1)) from nI_add _ _) ?_
  refine va_put (D := D) (ci := 0) (v := .int (nI ((n + 1) + 1))) (ty := .int) (C := R_SE) (T := F_SE) (N := 14) hx hb hts i_SE t_SE t_SE_ok n_SE hown hK hP hD hS 0 rfl rfl 1 (by decide +kernel) (hts _ w_43) (fun _ h9 => h9) rfl (by decide +kernel) rfl rfl (by simp [hfl]) (show decode prog_1_method_3_code 27 = .ok (.putfield 13, 3) by decide +kernel) (fun H locs hP hD hS => ?_)
  have hP : va_P D cl [(h0, .inr (0, ((fs.set 1 (.int (nI (n + 1)))).set 1 (.int (nI ((n + 1) + 1)))))), (q0, .inl (cA0, N, .inl (wrt f n (by8u p0) 2)))] H := hP
  have hD : va_D _ [(h0, .inr (0, ((fs.set 1 (.int (nI (n + 1)))).set 1 (.int (nI ((n + 1) + 1)))))), (q0, .inl (cA0, N, .inl (wrt f n (by8u p0) 2)))] := hD
  refine lv_iinc (v := 8) (lv' := [(2, .int 8), (0, .ref h0), (1, .int p0)]) hx hb (show decode prog_1_method_3_code 30 = .ok (.iinc 2 (-8), 3) by decide +kernel) hl (k := 0) rfl (by decide +kernel) (by decide +kernel) rfl (fun ls hl => ?_)
  refine lv_goto (tgt := 3) hx hb (show decode prog_1_method_3_code 33 = .ok (.goto (-30), 3) by decide +kernel) (by decide +kernel) ?_
  refine lv_iload_n hx hb (show decode prog_1_method_3_code 3 = .ok (.iload_n 2, 1) by decide +kernel) rfl (lv_at hl 0 rfl) ?_
  refine lv_if_lt (tgt := 36) hx hb (show decode prog_1_method_3_code 4 = .ok (.ifCond .lt 32, 3) by decide +kernel) (by decide +kernel) (fun c_7 => absurd c_7 (by decide +kernel)) (fun c_7 => ?_)
  refine lv_aload_n hx hb (show decode prog_1_method_3_code 7 = .ok (.aload_n 0, 1) by decide +kernel) rfl (lv_at hl 1 rfl) ?_
  refine va_get (D := D) (ci := 0) (v := .ref q0) (C := R_SE) (T := F_SE) (N := 14) hx hb hts i_SE hown hK hP 0 rfl rfl 0 (by decide +kernel) (hts _ w_42) (fun _ h9 => h9) (xg_ne (by decide +kernel) (xg_ne (by decide +kernel) ha0)) (show decode prog_1_method_3_code 8 = .ok (.getfield 9, 3) by decide +kernel) ?_
  refine lv_aload_n hx hb (show decode prog_1_method_3_code 11 = .ok (.aload_n 0, 1) by decide +kernel) rfl (lv_at hl 1 rfl) ?_
  refine va_get (D := D) (ci := 0) (v := .int (nI ((n + 1) + 1))) (C := R_SE) (T := F_SE) (N := 14) hx hb hts i_SE hown hK hP 0 rfl rfl 1 (by decide +kernel) (hts _ w_43) (fun _ h9 => h9) (xg_eq (by simp [hfl])) (show decode prog_1_method_3_code 12 = .ok (.getfield 13, 3) by decide +kernel) ?_
  refine lv_iload_n hx hb (show decode prog_1_method_3_code 15 = .ok (.iload_n 1, 1) by decide +kernel) rfl (lv_at hl 2 rfl) ?_
  refine lv_iload_n hx hb (show decode prog_1_method_3_code 16 = .ok (.iload_n 2, 1) by decide +kernel) rfl (lv_at hl 0 rfl) ?_
  refine lv_iushr hx hb (show decode prog_1_method_3_code 17 = .ok (.iushr, 1) by decide +kernel) rfl ?_
  refine lv_topi (fun z_8 ez_8 => ?_)
  refine lv_i2b hx hb (show decode prog_1_method_3_code 18 = .ok (.i2b, 1) by decide +kernel) rfl ?_
  refine lv_topi (fun z_9 ez_9 => ?_)
  refine va_bast hx hb hK hP hD hS 1 0 rfl rfl (vp_in_nI (show ((n + 1) + 1) < N by omega) (by omega)) (show decode prog_1_method_3_code 19 = .ok (.bastore, 1) by decide +kernel) (fun H locs hP hD hS => ?_)
  rw [wrt_st (show nI ((n + 1) + 1) = nI (n + 2) by congr 1) (by omega) (show vp_nar .byte z_9 = (by8u p0) 2 by rw [ez_9, pk_vb, ez_8]; rfl)] at hP hD
  have hP : va_P D cl [(h0, .inr (0, ((fs.set 1 (.int (nI (n + 1)))).set 1 (.int (nI ((n + 1) + 1)))))), (q0, .inl (cA0, N, .inl (wrt f n (by8u p0) 3)))] H := hP
  have hD : va_D _ [(h0, .inr (0, ((fs.set 1 (.int (nI (n + 1)))).set 1 (.int (nI ((n + 1) + 1)))))), (q0, .inl (cA0, N, .inl (wrt f n (by8u p0) 3)))] := hD
  refine lv_aload_n hx hb (show decode prog_1_method_3_code 20 = .ok (.aload_n 0, 1) by decide +kernel) rfl (lv_at hl 1 rfl) ?_
  refine lv_dup hx hb (show decode prog_1_method_3_code 21 = .ok (.dup, 1) by decide +kernel) rfl ?_
  refine va_get (D := D) (ci := 0) (v := .int (nI ((n + 1) + 1))) (C := R_SE) (T := F_SE) (N := 14) hx hb hts i_SE hown hK hP 0 rfl rfl 1 (by decide +kernel) (hts _ w_43) (fun _ h9 => h9) (xg_eq (by simp [hfl])) (show decode prog_1_method_3_code 22 = .ok (.getfield 13, 3) by decide +kernel) ?_
  refine lv_iconst (v := 1) hx hb (show decode prog_1_method_3_code 25 = .ok (.iconst 1, 1) by decide +kernel) (by decide +kernel) ?_
  refine lv_iadd hx hb (show decode prog_1_method_3_code 26 = .ok (.iadd, 1) by decide +kernel) ?_
  refine xtopi (v := (nI (((n + 1) + 1) + 1))) (show nI ((n + 1) + 1) + nI 1 = (nI (((n + 1) + 1) + 1)) from nI_add _ _) ?_
  refine va_put (D := D) (ci := 0) (v := .int (nI (((n + 1) + 1) + 1))) (ty := .int) (C := R_SE) (T := F_SE) (N := 14) hx hb hts i_SE t_SE t_SE_ok n_SE hown hK hP hD hS 0 rfl rfl 1 (by decide +kernel) (hts _ w_43) (fun _ h9 => h9) rfl (by decide +kernel) rfl rfl (by simp [hfl]) (show decode prog_1_method_3_code 27 = .ok (.putfield 13, 3) by decide +kernel) (fun H locs hP hD hS => ?_)
  have hP : va_P D cl [(h0, .inr (0, (((fs.set 1 (.int (nI (n + 1)))).set 1 (.int (nI ((n + 1) + 1)))).set 1 (.int (nI (((n + 1) + 1) + 1)))))), (q0, .inl (cA0, N, .inl (wrt f n (by8u p0) 3)))] H := hP
  have hD : va_D _ [(h0, .inr (0, (((fs.set 1 (.int (nI (n + 1)))).set 1 (.int (nI ((n + 1) + 1)))).set 1 (.int (nI (((n + 1) + 1) + 1)))))), (q0, .inl (cA0, N, .inl (wrt f n (by8u p0) 3)))] := hD
  refine lv_iinc (v := 0) (lv' := [(2, .int 0), (0, .ref h0), (1, .int p0)]) hx hb (show decode prog_1_method_3_code 30 = .ok (.iinc 2 (-8), 3) by decide +kernel) hl (k := 0) rfl (by decide +kernel) (by decide +kernel) rfl (fun ls hl => ?_)
  refine lv_goto (tgt := 3) hx hb (show decode prog_1_method_3_code 33 = .ok (.goto (-30), 3) by decide +kernel) (by decide +kernel) ?_
  refine lv_iload_n hx hb (show decode prog_1_method_3_code 3 = .ok (.iload_n 2, 1) by decide +kernel) rfl (lv_at hl 0 rfl) ?_
  refine lv_if_lt (tgt := 36) hx hb (show decode prog_1_method_3_code 4 = .ok (.ifCond .lt 32, 3) by decide +kernel) (by decide +kernel) (fun c_10 => absurd c_10 (by decide +kernel)) (fun c_10 => ?_)
  refine lv_aload_n hx hb (show decode prog_1_method_3_code 7 = .ok (.aload_n 0, 1) by decide +kernel) rfl (lv_at hl 1 rfl) ?_
  refine va_get (D := D) (ci := 0) (v := .ref q0) (C := R_SE) (T := F_SE) (N := 14) hx hb hts i_SE hown hK hP 0 rfl rfl 0 (by decide +kernel) (hts _ w_42) (fun _ h9 => h9) (xg_ne (by decide +kernel) (xg_ne (by decide +kernel) (xg_ne (by decide +kernel) ha0))) (show decode prog_1_method_3_code 8 = .ok (.getfield 9, 3) by decide +kernel) ?_
  refine lv_aload_n hx hb (show decode prog_1_method_3_code 11 = .ok (.aload_n 0, 1) by decide +kernel) rfl (lv_at hl 1 rfl) ?_
  refine va_get (D := D) (ci := 0) (v := .int (nI (((n + 1) + 1) + 1))) (C := R_SE) (T := F_SE) (N := 14) hx hb hts i_SE hown hK hP 0 rfl rfl 1 (by decide +kernel) (hts _ w_43) (fun _ h9 => h9) (xg_eq (by simp [hfl])) (show decode prog_1_method_3_code 12 = .ok (.getfield 13, 3) by decide +kernel) ?_
  refine lv_iload_n hx hb (show decode prog_1_method_3_code 15 = .ok (.iload_n 1, 1) by decide +kernel) rfl (lv_at hl 2 rfl) ?_
  refine lv_iload_n hx hb (show decode prog_1_method_3_code 16 = .ok (.iload_n 2, 1) by decide +kernel) rfl (lv_at hl 0 rfl) ?_
  refine lv_iushr hx hb (show decode prog_1_method_3_code 17 = .ok (.iushr, 1) by decide +kernel) rfl ?_
  refine lv_topi (fun z_11 ez_11 => ?_)
  refine lv_i2b hx hb (show decode prog_1_method_3_code 18 = .ok (.i2b, 1) by decide +kernel) rfl ?_
  refine lv_topi (fun z_12 ez_12 => ?_)
  refine va_bast hx hb hK hP hD hS 1 0 rfl rfl (vp_in_nI (show (((n + 1) + 1) + 1) < N by omega) (by omega)) (show decode prog_1_method_3_code 19 = .ok (.bastore, 1) by decide +kernel) (fun H locs hP hD hS => ?_)
  rw [wrt_st (show nI (((n + 1) + 1) + 1) = nI (n + 3) by congr 1) (by omega) (show vp_nar .byte z_12 = (by8u p0) 3 by rw [ez_12, pk_vb, ez_11]; rfl)] at hP hD
  have hP : va_P D cl [(h0, .inr (0, (((fs.set 1 (.int (nI (n + 1)))).set 1 (.int (nI ((n + 1) + 1)))).set 1 (.int (nI (((n + 1) + 1) + 1)))))), (q0, .inl (cA0, N, .inl (wrt f n (by8u p0) 4)))] H := hP
  have hD : va_D _ [(h0, .inr (0, (((fs.set 1 (.int (nI (n + 1)))).set 1 (.int (nI ((n + 1) + 1)))).set 1 (.int (nI (((n + 1) + 1) + 1)))))), (q0, .inl (cA0, N, .inl (wrt f n (by8u p0) 4)))] := hD
  refine lv_aload_n hx hb (show decode prog_1_method_3_code 20 = .ok (.aload_n 0, 1) by decide +kernel) rfl (lv_at hl 1 rfl) ?_
  refine lv_dup hx hb (show decode prog_1_method_3_code 21 = .ok (.dup, 1) by decide +kernel) rfl ?_
  refine va_get (D := D) (ci := 0) (v := .int (nI (((n + 1) + 1) + 1))) (C := R_SE) (T := F_SE) (N := 14) hx hb hts i_SE hown hK hP 0 rfl rfl 1 (by decide +kernel) (hts _ w_43) (fun _ h9 => h9) (xg_eq (by simp [hfl])) (show decode prog_1_method_3_code 22 = .ok (.getfield 13, 3) by decide +kernel) ?_
  refine lv_iconst (v := 1) hx hb (show decode prog_1_method_3_code 25 = .ok (.iconst 1, 1) by decide +kernel) (by decide +kernel) ?_
  refine lv_iadd hx hb (show decode prog_1_method_3_code 26 = .ok (.iadd, 1) by decide +kernel) ?_
  refine xtopi (v := (nI ((((n + 1) + 1) + 1) + 1))) (show nI (((n + 1) + 1) + 1) + nI 1 = (nI ((((n + 1) + 1) + 1) + 1)) from nI_add _ _) ?_
  refine va_put (D := D) (ci := 0) (v := .int (nI ((((n + 1) + 1) + 1) + 1))) (ty := .int) (C := R_SE) (T := F_SE) (N := 14) hx hb hts i_SE t_SE t_SE_ok n_SE hown hK hP hD hS 0 rfl rfl 1 (by decide +kernel) (hts _ w_43) (fun _ h9 => h9) rfl (by decide +kernel) rfl rfl (by simp [hfl]) (show decode prog_1_method_3_code 27 = .ok (.putfield 13, 3) by decide +kernel) (fun H locs hP hD hS => ?_)
  have hP : va_P D cl [(h0, .inr (0, ((((fs.set 1 (.int (nI (n + 1)))).set 1 (.int (nI ((n + 1) + 1)))).set 1 (.int (nI (((n + 1) + 1) + 1)))).set 1 (.int (nI ((((n + 1) + 1) + 1) + 1)))))), (q0, .inl (cA0, N, .inl (wrt f n (by8u p0) 4)))] H := hP
  have hD : va_D _ [(h0, .inr (0, ((((fs.set 1 (.int (nI (n + 1)))).set 1 (.int (nI ((n + 1) + 1)))).set 1 (.int (nI (((n + 1) + 1) + 1)))).set 1 (.int (nI ((((n + 1) + 1) + 1) + 1)))))), (q0, .inl (cA0, N, .inl (wrt f n (by8u p0) 4)))] := hD
  refine lv_iinc (v := (-8)) (lv' := [(2, .int (-8)), (0, .ref h0), (1, .int p0)]) hx hb (show decode prog_1_method_3_code 30 = .ok (.iinc 2 (-8), 3) by decide +kernel) hl (k := 0) rfl (by decide +kernel) (by decide +kernel) rfl (fun ls hl => ?_)
  refine lv_goto (tgt := 3) hx hb (show decode prog_1_method_3_code 33 = .ok (.goto (-30), 3) by decide +kernel) (by decide +kernel) ?_
  refine lv_iload_n hx hb (show decode prog_1_method_3_code 3 = .ok (.iload_n 2, 1) by decide +kernel) rfl (lv_at hl 0 rfl) ?_
  refine lv_if_lt (tgt := 36) hx hb (show decode prog_1_method_3_code 4 = .ok (.ifCond .lt 32, 3) by decide +kernel) (by decide +kernel) (fun c_13 => ?_) (fun c_13 => absurd c_13 (by decide +kernel))
  exact W.vret hx hb hr (fun t ht hW => ⟨⟨(), rfl, trivial, by rw [ht]; exact hP, va_K.moved hW.alike hK, hD⟩, hS.F ht⟩) hS.2.2 (show decode prog_1_method_3_code 36 = .ok (.return_, 1) by decide +kernel)
