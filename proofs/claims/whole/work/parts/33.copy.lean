/-! Arrays.copyOf of bytes, to another length -/
theorem min_I {N M : Nat} (hN : N < 2 ^ 31) (hM : M < 2 ^ 31) : (if nI M < nI N then nI M else nI N) = nI (min N M) := by
  by_cases h : M < N
  · rw [if_pos (nI_lt h hN), Nat.min_eq_right (by omega)]
  · rw [if_neg (nI_nlt (by omega) hM), Nat.min_eq_left (by omega)]
set_option maxHeartbeats 4000000 in
set_option maxRecDepth 100000 in
/-- copyOf(a, M), where M isn't a's length N: a new array of M bytes, the first min N M of them a's, the others 0 -/
theorem g_copyOfB (l : Launch) (D : va_G) (ad : Nat → Nat) (de sz : Nat) (q0 : Nat) (cA0 : ClassId) (N M : Nat) (f : Nat → Int32) (hN : N ≤ 65536) (hM : M ≤ 65536) (hne : M ≠ N) (hf : ∀ i, fits .byte (.int (f i)) = true) : Met l ⟨"java/util/Arrays", "copyOf", "([BI)[B"⟩ (tw ⟨"java/util/Arrays", "copyOf", "([BI)[B"⟩ prog_34_method_121_code 3 (some (.array .byte))) { frames := 1, cells := 1, slots := M, locals := 200 } (va_Pc [.ref q0, .int (nI M)] (xp ad de D [(q0, .inl (cA0, N, .inl f))] [(cA0, .byte)] sz)) (va_Qr (fun (_ : ClassId) => True) (fun (u : ClassId) (ra : Nat) t => xq D (va_A [(q0, .inl (cA0, N, .inl f))] sz) [(q0, .inl (cA0, N, .inl f)), (ra, .inl (u, M, .inl (va_cpy f (fun _ => 0) 0 0 (min N M))))] [(cA0, .byte), (u, .byte)] t) (va_A [(q0, .inl (cA0, N, .inl f))] sz)) 1 M (va_A [(q0, .inl (cA0, N, .inl f))] sz) := by
  refine xMet (by decide +kernel) (Nat.le_of_ble_eq_true rfl) ?_
  intro p e s m below meth c hx hb hr hlocks hin hml hown hts hsz hP hK hD hE hA ls hl
  have hne' : ¬ nI M = nI N := fun h => hne ((nI_eq (by omega) (by omega)).mp h)
  have hmin : min N M < 2 ^ 31 := by omega
  have hS : va_S _ s.heap s.heap [] := va_S.rf (A := va_A [(q0, .inl (cA0, N, .inl f))] sz)
  have hl : lv_has ls 3 [(0, .ref q0), (1, .int (nI M))] := hl
  refine lv_iload_n hx hb (show decode prog_34_method_121_code 0 = .ok (.iload_n 1, 1) by decide +kernel) rfl (lv_at hl 1 rfl) ?_
  refine lv_aload_n hx hb (show decode prog_34_method_121_code 1 = .ok (.aload_n 0, 1) by decide +kernel) rfl (lv_at hl 0 rfl) ?_
  refine va_alen (v := nI N) hx hb hK hP 0 0 rfl rfl rfl (show decode prog_34_method_121_code 2 = .ok (.arraylength, 1) by decide +kernel) ?_
  refine lv_icmp_ne (tgt := 14) hx hb (show decode prog_34_method_121_code 3 = .ok (.if_icmp .ne 11, 3) by decide +kernel) (by decide +kernel) (fun c_1 => ?_) (fun c_1 => by first | exact absurd hne' c_1 | exact absurd c_1 hne')
  refine lv_iload_n hx hb (show decode prog_34_method_121_code 14 = .ok (.iload_n 1, 1) by decide +kernel) rfl (lv_at hl 1 rfl) ?_
  refine va_newa (atype := .byte) (a0 := (M, .inl (fun _ => 0))) (ty := .byte) hx hb (hts _ w_85) rfl hK hP hD hS hA (fun _ => rfl) (nI_pos (by omega)) (nI_clamp (by omega)) (by show M * 1 ≤ 536870912; omega) (Nat.le_of_ble_eq_true rfl) (by show 0 + M ≤ M; omega) (show decode prog_34_method_121_code 15 = .ok (.newarray .byte, 2) by decide +kernel) (fun q_2 cA_3 H hK hP hD hS => ?_)
  have hP : va_P D cl [(q0, .inl (cA0, N, .inl f)), (q_2, .inl (cA_3, M, .inl (fun _ => 0)))] H := hP
  have hD : va_D _ [(q0, .inl (cA0, N, .inl f)), (q_2, .inl (cA_3, M, .inl (fun _ => 0)))] := hD
  have hK : va_K D cl [(cA0, .byte), (cA_3, .byte)] s := hK
  refine W.widen (k := 1) (n := M) (by decide +kernel) (by omega) ?_
  refine lv_astore_n (lv' := [(2, .ref q_2), (0, .ref q0), (1, .int (nI M))]) hx hb (show decode prog_34_method_121_code 17 = .ok (.astore_n 2, 1) by decide +kernel) rfl hl (by decide +kernel) rfl (fun ls hl => ?_)
  refine lv_aload_n hx hb (show decode prog_34_method_121_code 18 = .ok (.aload_n 0, 1) by decide +kernel) rfl (lv_at hl 1 rfl) ?_
  refine lv_iconst (v := 0) hx hb (show decode prog_34_method_121_code 19 = .ok (.iconst 0, 1) by decide +kernel) (by decide +kernel) ?_
  refine lv_aload_n hx hb (show decode prog_34_method_121_code 20 = .ok (.aload_n 2, 1) by decide +kernel) rfl (lv_at hl 0 rfl) ?_
  refine lv_iconst (v := 0) hx hb (show decode prog_34_method_121_code 21 = .ok (.iconst 0, 1) by decide +kernel) (by decide +kernel) ?_
  refine lv_aload_n hx hb (show decode prog_34_method_121_code 22 = .ok (.aload_n 0, 1) by decide +kernel) rfl (lv_at hl 1 rfl) ?_
  refine va_alen (v := nI N) hx hb hK hP 0 0 rfl rfl rfl (show decode prog_34_method_121_code 23 = .ok (.arraylength, 1) by decide +kernel) ?_
  refine lv_iload_n hx hb (show decode prog_34_method_121_code 24 = .ok (.iload_n 1, 1) by decide +kernel) rfl (lv_at hl 2 rfl) ?_
  refine va_mmin hx hb (hml.trans hl.1.symm) hown (hts _ w_101) (hts _ w_102) (hts _ w_4) (hts _ w_103) (Nat.le_of_ble_eq_true rfl) (Nat.le_of_ble_eq_true rfl) (Nat.le_refl _) (Nat.le_refl _) (show decode prog_34_method_121_code 25 = .ok (.invokestatic 304, 3) by decide +kernel) ?_
  refine xtopi (v := nI (min N M)) (min_I (by omega) (by omega)) ?_
  refine va_copyi hx hb (hml.trans hl.1.symm) hown (hts _ w_104) (hts _ w_106) (hts _ w_105) (hts _ w_5) hK hP hD hS 0 1 0 1 rfl rfl rfl rfl rfl (by decide +kernel) (by decide +kernel) (nI_pos hmin) (by rw [sb_cl0, nI_clamp hmin]; omega) (by rw [sb_cl0, nI_clamp hmin]; omega) (fun i h => hf _) (Nat.le_of_ble_eq_true rfl) (Nat.le_of_ble_eq_true rfl) (show decode prog_34_method_121_code 28 = .ok (.invokestatic 150, 3) by decide +kernel) (fun H locs hP hD hS => ?_)
  rw [sb_cl0, nI_clamp hmin] at hP hD
  have hP : va_P D cl [(q0, .inl (cA0, N, .inl f)), (q_2, .inl (cA_3, M, .inl (va_cpy f (fun _ => 0) 0 0 (min N M))))] H := hP
  have hD : va_D _ [(q0, .inl (cA0, N, .inl f)), (q_2, .inl (cA_3, M, .inl (va_cpy f (fun _ => 0) 0 0 (min N M))))] := hD
  refine lv_aload_n hx hb (show decode prog_34_method_121_code 31 = .ok (.aload_n 2, 1) by decide +kernel) rfl (lv_at hl 0 rfl) ?_
  exact W.aret (v := .ref q_2) hx hb hr (Or.inr ⟨_, rfl⟩) (Or.inr ⟨_, rfl⟩) (fun t ht hW => ⟨⟨cA_3, q_2, rfl, trivial, by rw [ht]; exact hP, va_K.moved hW.alike hK, hD⟩, hS.F ht⟩) hS.2.2 (show decode prog_34_method_121_code 32 = .ok (.areturn, 1) by decide +kernel)
