set_option maxHeartbeats 4000000 in
set_option maxRecDepth 100000 in
theorem law_case_14 {p : Program} {l : Launch} {e : Env} {s : State} {m : MethodId} {below : List Frame} {meth : Method} {c : Code} {b : Nat} {xs : Nat → Int32} {D : va_G} {ad : Nat → Nat} {de : Nat} {hx0 qx hm0 qt qs qh qo : Nat} {cx ct cs ch co : ClassId} {fsM : List Value} {H : Heap} {locs : List Loc} {ls : Array Slot} (hlt : l.stackTraces = false) (C0 : lw_At p s m meth c b 6 xs) (hE : xe ad de (fun q : Nat => s.heap.size ≤ q) s s.heap)
    (lM : fsM.length = 107) (kM : mdK fsM z_MD) (rtM : xfa fsM 1 (.ref qt)) (rsM : xfa fsM 74 (.ref qs)) (rhM : xfa fsM 84 (.ref qh)) (hK : va_K D cl [(cx, .byte), (ct, .byte), (cs, .boolean), (ch, .int), (co, .long)] s) (hP : va_P D cl [(hx0, .inr (0, (z_SE.set 0 (.ref qx)))), (qx, .inl (cx, 80, .inl (fun _ => 0))), (hm0, .inr (1, fsM)), (qt, .inl (ct, 32768, .inl (fun _ => 0))), (qs, .inl (cs, 200, .inl (fun _ => 0))), (qh, .inl (ch, 62, .inl (fun _ => 0))), (qo, .inl (co, 1, .inr (.inl (fun _ => 0))))] H) (hD : va_D (fun q : Nat => s.heap.size ≤ q) [(hx0, .inr (0, (z_SE.set 0 (.ref qx)))), (qx, .inl (cx, 80, .inl (fun _ => 0))), (hm0, .inr (1, fsM)), (qt, .inl (ct, 32768, .inl (fun _ => 0))), (qs, .inl (cs, 200, .inl (fun _ => 0))), (qh, .inl (ch, 62, .inl (fun _ => 0))), (qo, .inl (co, 1, .inr (.inl (fun _ => 0))))]) (hS : va_S (fun q : Nat => s.heap.size ≤ q) s.heap H locs) (hl : lv_has ls 8 [(4, .int 0), (3, .ref qo), (2, .ref hm0), (1, .ref hx0), (0, .ref b)]) : W p l e room_1 s m #[Value.ref b] below meth c H locs 67 427617 (lw_Z below #[Value.ref b] s) (F0 m 674 ls []) := by
  obtain ⟨hx, hb, hr, hml, hown, hts0, hX, hbl, hlocks, hgv⟩ := id C0
  have hts : ∀ w ∈ tt, w.before #[Value.ref b] s = true := fun w h => hts0 w (tt_tbl w h)
  have hown : s.vm.findClass "SignalEngineLaw" = some m.cls := hown
  have hA : ∀ q : Nat, s.heap.size ≤ q → (fun q : Nat => s.heap.size ≤ q) q := fun _ h => h
  have hbA : ¬ (fun q : Nat => s.heap.size ≤ q) b := Nat.not_le.mpr hbl
  refine lv_aload_n hx hb (show decode code 674 = .ok (.aload_n 1, 1) by decide +kernel) rfl (lv_at hl 3 rfl) ?_
  refine lv_aload_n hx hb (show decode code 675 = .ok (.aload_n 0, 1) by decide +kernel) rfl (lv_at hl 4 rfl) ?_
  refine lv_iload hx hb (show decode code 676 = .ok (.iload 4, 2) by decide +kernel) (lv_at hl 0 rfl) ?_
  refine lv_iconst (v := 1) hx hb (show decode code 678 = .ok (.iconst 1, 1) by decide +kernel) (by decide +kernel) ?_
  refine lv_iadd hx hb (show decode code 679 = .ok (.iadd, 1) by decide +kernel) ?_
  refine xtopi (v := 1) (by decide +kernel) ?_
  refine va_sld hx hb hX hbl hbA hS (show vp_in 1 6 by unfold vp_in; decide +kernel) (show decode code 680 = .ok (.iaload, 1) by decide +kernel) ?_
  refine lv_aload_n hx hb (show decode code 681 = .ok (.aload_n 0, 1) by decide +kernel) rfl (lv_at hl 4 rfl) ?_
  refine lv_iload hx hb (show decode code 682 = .ok (.iload 4, 2) by decide +kernel) (lv_at hl 0 rfl) ?_
  refine lv_iconst (v := 2) hx hb (show decode code 684 = .ok (.iconst 2, 1) by decide +kernel) (by decide +kernel) ?_
  refine lv_iadd hx hb (show decode code 685 = .ok (.iadd, 1) by decide +kernel) ?_
  refine xtopi (v := 2) (by decide +kernel) ?_
  refine va_sld hx hb hX hbl hbA hS (show vp_in 2 6 by unfold vp_in; decide +kernel) (show decode code 686 = .ok (.iaload, 1) by decide +kernel) ?_
  refine lv_aload_n hx hb (show decode code 687 = .ok (.aload_n 3, 1) by decide +kernel) rfl (lv_at hl 1 rfl) ?_
  refine xki (wr := [(qx, .inl (cx, 80, .inl (fun _ => 0))), (hm0, .inr (1, fsM)), (qt, .inl (ct, 32768, .inl (fun _ => 0))), (qs, .inl (cs, 200, .inl (fun _ => 0))), (qh, .inl (ch, 62, .inl (fun _ => 0))), (qo, .inl (co, 1, .inr (.inl (fun _ => 0))))]) (xrSH (As := [.ref hx0, .int (xs (1 : Int32).toNatClampNeg), .int (xs (2 : Int32).toNatClampNeg), .ref qo]) (rest := []) ⟨hx, hb, hml, hown, hts⟩ (c_LW_next0 l hlt D ad de H.size hx0 (z_SE.set 0 (.ref qx)) (by simp [z_SE_len]) (xg_ne (by decide +kernel) rfl) (xs (1 : Int32).toNatClampNeg) (xs (2 : Int32).toNatClampNeg) qo) w_1421 w_0 w_1419 w_1420 rfl rfl ⟨by decide +kernel, by decide +kernel, rfl⟩ ⟨by decide +kernel, by decide +kernel⟩ hP hK hD hE hS hA [0] [] rfl (by decide +kernel) rfl hl.1 rfl (Nat.le_of_ble_eq_true rfl) (show decode code 688 = .ok (.invokestatic 111, 3) by decide +kernel) ⟨by decide +kernel, by decide +kernel⟩) hP hK hD hS hA [0] [1, 2, 3, 4, 5, 6] rfl rfl (by decide +kernel) (by decide +kernel) (fun r_3 u_4 H locs hw_5 hP hK hD hS => ?_)
  obtain rfl : r_3 = 1 := hw_5
  have hP : va_P D cl [(qx, .inl (cx, 80, .inl (fun _ => 0))), (hm0, .inr (1, fsM)), (qt, .inl (ct, 32768, .inl (fun _ => 0))), (qs, .inl (cs, 200, .inl (fun _ => 0))), (qh, .inl (ch, 62, .inl (fun _ => 0))), (qo, .inl (co, 1, .inr (.inl (fun _ => 0)))), (hx0, .inr (0, (z_SE.set 0 (.ref qx))))] H := hP
  have hD : va_D _ [(qx, .inl (cx, 80, .inl (fun _ => 0))), (hm0, .inr (1, fsM)), (qt, .inl (ct, 32768, .inl (fun _ => 0))), (qs, .inl (cs, 200, .inl (fun _ => 0))), (qh, .inl (ch, 62, .inl (fun _ => 0))), (qo, .inl (co, 1, .inr (.inl (fun _ => 0)))), (hx0, .inr (0, (z_SE.set 0 (.ref qx))))] := hD
  refine W.widen (k := 68) (n := 427623) (by decide +kernel) (by decide +kernel) ?_
  refine lv_istore (lv' := [(5, .int 1), (4, .int 0), (3, .ref qo), (2, .ref hm0), (1, .ref hx0), (0, .ref b)]) hx hb (show decode code 691 = .ok (.istore 5, 2) by decide +kernel) hl (by decide +kernel) rfl (fun ls hl => ?_)
  refine lv_aload_n hx hb (show decode code 693 = .ok (.aload_n 2, 1) by decide +kernel) rfl (lv_at hl 3 rfl) ?_
  refine lv_aload_n hx hb (show decode code 694 = .ok (.aload_n 0, 1) by decide +kernel) rfl (lv_at hl 5 rfl) ?_
  refine lv_iload hx hb (show decode code 695 = .ok (.iload 4, 2) by decide +kernel) (lv_at hl 1 rfl) ?_
  refine lv_iconst (v := 1) hx hb (show decode code 697 = .ok (.iconst 1, 1) by decide +kernel) (by decide +kernel) ?_
  refine lv_iadd hx hb (show decode code 698 = .ok (.iadd, 1) by decide +kernel) ?_
  refine xtopi (v := 1) (by decide +kernel) ?_
  refine va_sld hx hb hX hbl hbA hS (show vp_in 1 6 by unfold vp_in; decide +kernel) (show decode code 699 = .ok (.iaload, 1) by decide +kernel) ?_
  refine lv_aload_n hx hb (show decode code 700 = .ok (.aload_n 0, 1) by decide +kernel) rfl (lv_at hl 5 rfl) ?_
  refine lv_iload hx hb (show decode code 701 = .ok (.iload 4, 2) by decide +kernel) (lv_at hl 1 rfl) ?_
  refine lv_iconst (v := 2) hx hb (show decode code 703 = .ok (.iconst 2, 1) by decide +kernel) (by decide +kernel) ?_
  refine lv_iadd hx hb (show decode code 704 = .ok (.iadd, 1) by decide +kernel) ?_
  refine xtopi (v := 2) (by decide +kernel) ?_
  refine va_sld hx hb hX hbl hbA hS (show vp_in 2 6 by unfold vp_in; decide +kernel) (show decode code 705 = .ok (.iaload, 1) by decide +kernel) ?_
  refine xki (wr := [(qx, .inl (cx, 80, .inl (fun _ => 0))), (qt, .inl (ct, 32768, .inl (fun _ => 0))), (qs, .inl (cs, 200, .inl (fun _ => 0))), (qh, .inl (ch, 62, .inl (fun _ => 0))), (qo, .inl (co, 1, .inr (.inl (fun _ => 0)))), (hx0, .inr (0, (z_SE.set 0 (.ref qx))))]) (xrV (As := [.int (xs (1 : Int32).toNatClampNeg), .int (xs (2 : Int32).toNatClampNeg)]) (rest := []) ⟨hx, hb, hml, hown, hts⟩ (c_MD_next0 l D ad de H.size hm0 fsM lM ((kM 85 rfl).trans rfl) (xs (1 : Int32).toNatClampNeg) (xs (2 : Int32).toNatClampNeg)) w_2279 w_2 w_2276 w_2277 w_2278 rfl rfl ⟨by decide +kernel, by decide +kernel, rfl⟩ ⟨by decide +kernel, by decide +kernel⟩ hP hK hD hE hS hA [1] [] rfl (by decide +kernel) rfl ⟨1, 1, _, _, rfl, rfl, rfl⟩ hl.1 rfl (Nat.le_of_ble_eq_true rfl) (show decode code 706 = .ok (.invokevirtual 114, 3) by decide +kernel) ⟨by decide +kernel, by decide +kernel⟩) hP hK hD hS hA [1] [0, 2, 3, 4, 5, 6] rfl rfl (by decide +kernel) (by decide +kernel) (fun r_8 u_9 H locs hw_10 hP hK hD hS => ?_)
  obtain rfl : r_8 = 0 := hw_10
  have hP : va_P D cl [(qx, .inl (cx, 80, .inl (fun _ => 0))), (qt, .inl (ct, 32768, .inl (fun _ => 0))), (qs, .inl (cs, 200, .inl (fun _ => 0))), (qh, .inl (ch, 62, .inl (fun _ => 0))), (qo, .inl (co, 1, .inr (.inl (fun _ => 0)))), (hx0, .inr (0, (z_SE.set 0 (.ref qx)))), (hm0, .inr (1, (fsM.set 0 (.int 1))))] H := hP
  have hD : va_D _ [(qx, .inl (cx, 80, .inl (fun _ => 0))), (qt, .inl (ct, 32768, .inl (fun _ => 0))), (qs, .inl (cs, 200, .inl (fun _ => 0))), (qh, .inl (ch, 62, .inl (fun _ => 0))), (qo, .inl (co, 1, .inr (.inl (fun _ => 0)))), (hx0, .inr (0, (z_SE.set 0 (.ref qx)))), (hm0, .inr (1, (fsM.set 0 (.int 1))))] := hD
  refine W.widen (k := 68) (n := 427623) (by decide +kernel) (by decide +kernel) ?_
  refine lv_istore (lv' := [(6, .int 0), (5, .int 1), (4, .int 0), (3, .ref qo), (2, .ref hm0), (1, .ref hx0), (0, .ref b)]) hx hb (show decode code 709 = .ok (.istore 6, 2) by decide +kernel) hl (by decide +kernel) rfl (fun ls hl => ?_)
  refine lv_aload_n hx hb (show decode code 711 = .ok (.aload_n 2, 1) by decide +kernel) rfl (lv_at hl 4 rfl) ?_
  refine xki (wr := [(qx, .inl (cx, 80, .inl (fun _ => 0))), (qt, .inl (ct, 32768, .inl (fun _ => 0))), (qs, .inl (cs, 200, .inl (fun _ => 0))), (qh, .inl (ch, 62, .inl (fun _ => 0))), (qo, .inl (co, 1, .inr (.inl (fun _ => 0)))), (hx0, .inr (0, (z_SE.set 0 (.ref qx))))]) (xrV (As := []) (rest := []) ⟨hx, hb, hml, hown, hts⟩ (c_MD_thrown1 l D ad de H.size hm0 (fsM.set 0 (.int 1)) (by simp [lM]) (xg_eq (by simp [lM]))) w_1888 w_2 w_1885 w_1886 w_1887 rfl rfl ⟨by decide +kernel, by decide +kernel, rfl⟩ ⟨by decide +kernel, by decide +kernel⟩ hP hK hD hE hS hA [6] [] rfl (by decide +kernel) rfl ⟨6, 1, _, _, rfl, rfl, rfl⟩ hl.1 rfl (Nat.le_of_ble_eq_true rfl) (show decode code 712 = .ok (.invokevirtual 80, 3) by decide +kernel) ⟨by decide +kernel, by decide +kernel⟩) hP hK hD hS hA [6] [0, 1, 2, 3, 4, 5] rfl rfl (by decide +kernel) (by decide +kernel) (fun r_11 u_12 H locs hw_13 hP hK hD hS => ?_)
  obtain rfl : r_11 = 1 := hw_13
  have hP : va_P D cl [(qx, .inl (cx, 80, .inl (fun _ => 0))), (qt, .inl (ct, 32768, .inl (fun _ => 0))), (qs, .inl (cs, 200, .inl (fun _ => 0))), (qh, .inl (ch, 62, .inl (fun _ => 0))), (qo, .inl (co, 1, .inr (.inl (fun _ => 0)))), (hx0, .inr (0, (z_SE.set 0 (.ref qx)))), (hm0, .inr (1, (fsM.set 0 (.int 1))))] H := hP
  have hD : va_D _ [(qx, .inl (cx, 80, .inl (fun _ => 0))), (qt, .inl (ct, 32768, .inl (fun _ => 0))), (qs, .inl (cs, 200, .inl (fun _ => 0))), (qh, .inl (ch, 62, .inl (fun _ => 0))), (qo, .inl (co, 1, .inr (.inl (fun _ => 0)))), (hx0, .inr (0, (z_SE.set 0 (.ref qx)))), (hm0, .inr (1, (fsM.set 0 (.int 1))))] := hD
  refine W.widen (k := 68) (n := 427623) (by decide +kernel) (by decide +kernel) ?_
  refine lv_iload hx hb (show decode code 715 = .ok (.iload 5, 2) by decide +kernel) (lv_at hl 1 rfl) ?_
  refine lv_icmp_eq (tgt := 722) hx hb (show decode code 717 = .ok (.if_icmp .eq 5, 3) by decide +kernel) (by decide +kernel) (fun c_14 => ?_) (fun c_14 => absurd c_14 (by decide +kernel))
  refine lv_iload hx hb (show decode code 722 = .ok (.iload 5, 2) by decide +kernel) (lv_at hl 1 rfl) ?_
  refine lv_if_ne (tgt := 739) hx hb (show decode code 724 = .ok (.ifCond .ne 15, 3) by decide +kernel) (by decide +kernel) (fun c_15 => ?_) (fun c_15 => absurd c_15 (by decide +kernel))
  refine lv_goto (tgt := 1140) hx hb (show decode code 739 = .ok (.goto 401, 3) by decide +kernel) (by decide +kernel) ?_
  exact law_tail C0 hS (lv_sub hl [2, 6] rfl) (by decide +kernel) (by decide +kernel)
set_option maxHeartbeats 4000000 in
set_option maxRecDepth 100000 in
theorem law_case_15 {p : Program} {l : Launch} {e : Env} {s : State} {m : MethodId} {below : List Frame} {meth : Method} {c : Code} {b : Nat} {xs : Nat → Int32} {D : va_G} {ad : Nat → Nat} {de : Nat} {hx0 qx hm0 qt qs qh qo : Nat} {cx ct cs ch co : ClassId} {fsM : List Value} {H : Heap} {locs : List Loc} {ls : Array Slot} (hlt : l.stackTraces = false) (C0 : lw_At p s m meth c b 6 xs) (hE : xe ad de (fun q : Nat => s.heap.size ≤ q) s s.heap)
    (lM : fsM.length = 107) (kM : mdK fsM z_MD) (rtM : xfa fsM 1 (.ref qt)) (rsM : xfa fsM 74 (.ref qs)) (rhM : xfa fsM 84 (.ref qh)) (hK : va_K D cl [(cx, .byte), (ct, .byte), (cs, .boolean), (ch, .int), (co, .long)] s) (hP : va_P D cl [(hx0, .inr (0, (z_SE.set 0 (.ref qx)))), (qx, .inl (cx, 80, .inl (fun _ => 0))), (hm0, .inr (1, fsM)), (qt, .inl (ct, 32768, .inl (fun _ => 0))), (qs, .inl (cs, 200, .inl (fun _ => 0))), (qh, .inl (ch, 62, .inl (fun _ => 0))), (qo, .inl (co, 1, .inr (.inl (fun _ => 0))))] H) (hD : va_D (fun q : Nat => s.heap.size ≤ q) [(hx0, .inr (0, (z_SE.set 0 (.ref qx)))), (qx, .inl (cx, 80, .inl (fun _ => 0))), (hm0, .inr (1, fsM)), (qt, .inl (ct, 32768, .inl (fun _ => 0))), (qs, .inl (cs, 200, .inl (fun _ => 0))), (qh, .inl (ch, 62, .inl (fun _ => 0))), (qo, .inl (co, 1, .inr (.inl (fun _ => 0))))]) (hS : va_S (fun q : Nat => s.heap.size ≤ q) s.heap H locs) (hl : lv_has ls 8 [(4, .int 0), (3, .ref qo), (2, .ref hm0), (1, .ref hx0), (0, .ref b)]) : W p l e room_1 s m #[Value.ref b] below meth c H locs 67 427617 (lw_Z below #[Value.ref b] s) (F0 m 742 ls []) := by
  obtain ⟨hx, hb, hr, hml, hown, hts0, hX, hbl, hlocks, hgv⟩ := id C0
  have hts : ∀ w ∈ tt, w.before #[Value.ref b] s = true := fun w h => hts0 w (tt_tbl w h)
  have hown : s.vm.findClass "SignalEngineLaw" = some m.cls := hown
  have hA : ∀ q : Nat, s.heap.size ≤ q → (fun q : Nat => s.heap.size ≤ q) q := fun _ h => h
  have hbA : ¬ (fun q : Nat => s.heap.size ≤ q) b := Nat.not_le.mpr hbl
  refine lv_aload_n hx hb (show decode code 742 = .ok (.aload_n 1, 1) by decide +kernel) rfl (lv_at hl 3 rfl) ?_
  refine lv_aload_n hx hb (show decode code 743 = .ok (.aload_n 0, 1) by decide +kernel) rfl (lv_at hl 4 rfl) ?_
  refine lv_iload hx hb (show decode code 744 = .ok (.iload 4, 2) by decide +kernel) (lv_at hl 0 rfl) ?_
  refine lv_iconst (v := 1) hx hb (show decode code 746 = .ok (.iconst 1, 1) by decide +kernel) (by decide +kernel) ?_
  refine lv_iadd hx hb (show decode code 747 = .ok (.iadd, 1) by decide +kernel) ?_
  refine xtopi (v := 1) (by decide +kernel) ?_
  refine va_sld hx hb hX hbl hbA hS (show vp_in 1 6 by unfold vp_in; decide +kernel) (show decode code 748 = .ok (.iaload, 1) by decide +kernel) ?_
  refine lv_aload_n hx hb (show decode code 749 = .ok (.aload_n 0, 1) by decide +kernel) rfl (lv_at hl 4 rfl) ?_
  refine lv_iload hx hb (show decode code 750 = .ok (.iload 4, 2) by decide +kernel) (lv_at hl 0 rfl) ?_
  refine lv_iconst (v := 2) hx hb (show decode code 752 = .ok (.iconst 2, 1) by decide +kernel) (by decide +kernel) ?_
  refine lv_iadd hx hb (show decode code 753 = .ok (.iadd, 1) by decide +kernel) ?_
  refine xtopi (v := 2) (by decide +kernel) ?_
  refine va_sld hx hb hX hbl hbA hS (show vp_in 2 6 by unfold vp_in; decide +kernel) (show decode code 754 = .ok (.iaload, 1) by decide +kernel) ?_
  refine lv_aload_n hx hb (show decode code 755 = .ok (.aload_n 3, 1) by decide +kernel) rfl (lv_at hl 1 rfl) ?_
  refine xki (wr := [(qx, .inl (cx, 80, .inl (fun _ => 0))), (hm0, .inr (1, fsM)), (qt, .inl (ct, 32768, .inl (fun _ => 0))), (qs, .inl (cs, 200, .inl (fun _ => 0))), (qh, .inl (ch, 62, .inl (fun _ => 0))), (qo, .inl (co, 1, .inr (.inl (fun _ => 0))))]) (xrSH (As := [.ref hx0, .int (xs (1 : Int32).toNatClampNeg), .int (xs (2 : Int32).toNatClampNeg), .ref qo]) (rest := []) ⟨hx, hb, hml, hown, hts⟩ (c_LW_shows0 l hlt D ad de H.size hx0 (z_SE.set 0 (.ref qx)) (by simp [z_SE_len]) (xg_ne (by decide +kernel) rfl) (xs (1 : Int32).toNatClampNeg) (xs (2 : Int32).toNatClampNeg) qo) w_1433 w_0 w_1431 w_1432 rfl rfl ⟨by decide +kernel, by decide +kernel, rfl⟩ ⟨by decide +kernel, by decide +kernel⟩ hP hK hD hE hS hA [0] [] rfl (by decide +kernel) rfl hl.1 rfl (Nat.le_of_ble_eq_true rfl) (show decode code 756 = .ok (.invokestatic 115, 3) by decide +kernel) ⟨by decide +kernel, by decide +kernel⟩) hP hK hD hS hA [0] [1, 2, 3, 4, 5, 6] rfl rfl (by decide +kernel) (by decide +kernel) (fun r_3 u_4 H locs hw_5 hP hK hD hS => ?_)
  obtain rfl : r_3 = 1 := hw_5
  have hP : va_P D cl [(qx, .inl (cx, 80, .inl (fun _ => 0))), (hm0, .inr (1, fsM)), (qt, .inl (ct, 32768, .inl (fun _ => 0))), (qs, .inl (cs, 200, .inl (fun _ => 0))), (qh, .inl (ch, 62, .inl (fun _ => 0))), (qo, .inl (co, 1, .inr (.inl (fun _ => 0)))), (hx0, .inr (0, (z_SE.set 0 (.ref qx))))] H := hP
  have hD : va_D _ [(qx, .inl (cx, 80, .inl (fun _ => 0))), (hm0, .inr (1, fsM)), (qt, .inl (ct, 32768, .inl (fun _ => 0))), (qs, .inl (cs, 200, .inl (fun _ => 0))), (qh, .inl (ch, 62, .inl (fun _ => 0))), (qo, .inl (co, 1, .inr (.inl (fun _ => 0)))), (hx0, .inr (0, (z_SE.set 0 (.ref qx))))] := hD
  refine W.widen (k := 68) (n := 427623) (by decide +kernel) (by decide +kernel) ?_
  refine lv_istore (lv' := [(5, .int 1), (4, .int 0), (3, .ref qo), (2, .ref hm0), (1, .ref hx0), (0, .ref b)]) hx hb (show decode code 759 = .ok (.istore 5, 2) by decide +kernel) hl (by decide +kernel) rfl (fun ls hl => ?_)
  refine lv_aload_n hx hb (show decode code 761 = .ok (.aload_n 2, 1) by decide +kernel) rfl (lv_at hl 3 rfl) ?_
  refine lv_aload_n hx hb (show decode code 762 = .ok (.aload_n 0, 1) by decide +kernel) rfl (lv_at hl 5 rfl) ?_
  refine lv_iload hx hb (show decode code 763 = .ok (.iload 4, 2) by decide +kernel) (lv_at hl 1 rfl) ?_
  refine lv_iconst (v := 1) hx hb (show decode code 765 = .ok (.iconst 1, 1) by decide +kernel) (by decide +kernel) ?_
  refine lv_iadd hx hb (show decode code 766 = .ok (.iadd, 1) by decide +kernel) ?_
  refine xtopi (v := 1) (by decide +kernel) ?_
  refine va_sld hx hb hX hbl hbA hS (show vp_in 1 6 by unfold vp_in; decide +kernel) (show decode code 767 = .ok (.iaload, 1) by decide +kernel) ?_
  refine lv_aload_n hx hb (show decode code 768 = .ok (.aload_n 0, 1) by decide +kernel) rfl (lv_at hl 5 rfl) ?_
  refine lv_iload hx hb (show decode code 769 = .ok (.iload 4, 2) by decide +kernel) (lv_at hl 1 rfl) ?_
  refine lv_iconst (v := 2) hx hb (show decode code 771 = .ok (.iconst 2, 1) by decide +kernel) (by decide +kernel) ?_
  refine lv_iadd hx hb (show decode code 772 = .ok (.iadd, 1) by decide +kernel) ?_
  refine xtopi (v := 2) (by decide +kernel) ?_
  refine va_sld hx hb hX hbl hbA hS (show vp_in 2 6 by unfold vp_in; decide +kernel) (show decode code 773 = .ok (.iaload, 1) by decide +kernel) ?_
  refine xki (wr := [(qx, .inl (cx, 80, .inl (fun _ => 0))), (qt, .inl (ct, 32768, .inl (fun _ => 0))), (qs, .inl (cs, 200, .inl (fun _ => 0))), (qh, .inl (ch, 62, .inl (fun _ => 0))), (qo, .inl (co, 1, .inr (.inl (fun _ => 0)))), (hx0, .inr (0, (z_SE.set 0 (.ref qx))))]) (xrV (As := [.int (xs (1 : Int32).toNatClampNeg), .int (xs (2 : Int32).toNatClampNeg)]) (rest := []) ⟨hx, hb, hml, hown, hts⟩ (c_MD_shows0 l D ad de H.size hm0 fsM lM ((kM 85 rfl).trans rfl) (xs (1 : Int32).toNatClampNeg) (xs (2 : Int32).toNatClampNeg)) w_2287 w_2 w_2284 w_2285 w_2286 rfl rfl ⟨by decide +kernel, by decide +kernel, rfl⟩ ⟨by decide +kernel, by decide +kernel⟩ hP hK hD hE hS hA [1] [] rfl (by decide +kernel) rfl ⟨1, 1, _, _, rfl, rfl, rfl⟩ hl.1 rfl (Nat.le_of_ble_eq_true rfl) (show decode code 774 = .ok (.invokevirtual 117, 3) by decide +kernel) ⟨by decide +kernel, by decide +kernel⟩) hP hK hD hS hA [1] [0, 2, 3, 4, 5, 6] rfl rfl (by decide +kernel) (by decide +kernel) (fun r_8 u_9 H locs hw_10 hP hK hD hS => ?_)
  obtain rfl : r_8 = 0 := hw_10
  have hP : va_P D cl [(qx, .inl (cx, 80, .inl (fun _ => 0))), (qt, .inl (ct, 32768, .inl (fun _ => 0))), (qs, .inl (cs, 200, .inl (fun _ => 0))), (qh, .inl (ch, 62, .inl (fun _ => 0))), (qo, .inl (co, 1, .inr (.inl (fun _ => 0)))), (hx0, .inr (0, (z_SE.set 0 (.ref qx)))), (hm0, .inr (1, (fsM.set 0 (.int 1))))] H := hP
  have hD : va_D _ [(qx, .inl (cx, 80, .inl (fun _ => 0))), (qt, .inl (ct, 32768, .inl (fun _ => 0))), (qs, .inl (cs, 200, .inl (fun _ => 0))), (qh, .inl (ch, 62, .inl (fun _ => 0))), (qo, .inl (co, 1, .inr (.inl (fun _ => 0)))), (hx0, .inr (0, (z_SE.set 0 (.ref qx)))), (hm0, .inr (1, (fsM.set 0 (.int 1))))] := hD
  refine W.widen (k := 68) (n := 427623) (by decide +kernel) (by decide +kernel) ?_
  refine lv_istore (lv' := [(6, .int 0), (5, .int 1), (4, .int 0), (3, .ref qo), (2, .ref hm0), (1, .ref hx0), (0, .ref b)]) hx hb (show decode code 777 = .ok (.istore 6, 2) by decide +kernel) hl (by decide +kernel) rfl (fun ls hl => ?_)
  refine lv_aload_n hx hb (show decode code 779 = .ok (.aload_n 2, 1) by decide +kernel) rfl (lv_at hl 4 rfl) ?_
  refine xki (wr := [(qx, .inl (cx, 80, .inl (fun _ => 0))), (qt, .inl (ct, 32768, .inl (fun _ => 0))), (qs, .inl (cs, 200, .inl (fun _ => 0))), (qh, .inl (ch, 62, .inl (fun _ => 0))), (qo, .inl (co, 1, .inr (.inl (fun _ => 0)))), (hx0, .inr (0, (z_SE.set 0 (.ref qx))))]) (xrV (As := []) (rest := []) ⟨hx, hb, hml, hown, hts⟩ (c_MD_thrown1 l D ad de H.size hm0 (fsM.set 0 (.int 1)) (by simp [lM]) (xg_eq (by simp [lM]))) w_1888 w_2 w_1885 w_1886 w_1887 rfl rfl ⟨by decide +kernel, by decide +kernel, rfl⟩ ⟨by decide +kernel, by decide +kernel⟩ hP hK hD hE hS hA [6] [] rfl (by decide +kernel) rfl ⟨6, 1, _, _, rfl, rfl, rfl⟩ hl.1 rfl (Nat.le_of_ble_eq_true rfl) (show decode code 780 = .ok (.invokevirtual 80, 3) by decide +kernel) ⟨by decide +kernel, by decide +kernel⟩) hP hK hD hS hA [6] [0, 1, 2, 3, 4, 5] rfl rfl (by decide +kernel) (by decide +kernel) (fun r_11 u_12 H locs hw_13 hP hK hD hS => ?_)
  obtain rfl : r_11 = 1 := hw_13
  have hP : va_P D cl [(qx, .inl (cx, 80, .inl (fun _ => 0))), (qt, .inl (ct, 32768, .inl (fun _ => 0))), (qs, .inl (cs, 200, .inl (fun _ => 0))), (qh, .inl (ch, 62, .inl (fun _ => 0))), (qo, .inl (co, 1, .inr (.inl (fun _ => 0)))), (hx0, .inr (0, (z_SE.set 0 (.ref qx)))), (hm0, .inr (1, (fsM.set 0 (.int 1))))] H := hP
  have hD : va_D _ [(qx, .inl (cx, 80, .inl (fun _ => 0))), (qt, .inl (ct, 32768, .inl (fun _ => 0))), (qs, .inl (cs, 200, .inl (fun _ => 0))), (qh, .inl (ch, 62, .inl (fun _ => 0))), (qo, .inl (co, 1, .inr (.inl (fun _ => 0)))), (hx0, .inr (0, (z_SE.set 0 (.ref qx)))), (hm0, .inr (1, (fsM.set 0 (.int 1))))] := hD
  refine W.widen (k := 68) (n := 427623) (by decide +kernel) (by decide +kernel) ?_
  refine lv_iload hx hb (show decode code 783 = .ok (.iload 5, 2) by decide +kernel) (lv_at hl 1 rfl) ?_
  refine lv_icmp_eq (tgt := 790) hx hb (show decode code 785 = .ok (.if_icmp .eq 5, 3) by decide +kernel) (by decide +kernel) (fun c_14 => ?_) (fun c_14 => absurd c_14 (by decide +kernel))
  refine lv_iload hx hb (show decode code 790 = .ok (.iload 5, 2) by decide +kernel) (lv_at hl 1 rfl) ?_
  refine lv_if_ne (tgt := 807) hx hb (show decode code 792 = .ok (.ifCond .ne 15, 3) by decide +kernel) (by decide +kernel) (fun c_15 => ?_) (fun c_15 => absurd c_15 (by decide +kernel))
  refine lv_goto (tgt := 1140) hx hb (show decode code 807 = .ok (.goto 333, 3) by decide +kernel) (by decide +kernel) ?_
  exact law_tail C0 hS (lv_sub hl [2, 6] rfl) (by decide +kernel) (by decide +kernel)
set_option maxHeartbeats 4000000 in
set_option maxRecDepth 100000 in
theorem law_case_16 {p : Program} {l : Launch} {e : Env} {s : State} {m : MethodId} {below : List Frame} {meth : Method} {c : Code} {b : Nat} {xs : Nat → Int32} {D : va_G} {ad : Nat → Nat} {de : Nat} {hx0 qx hm0 qt qs qh qo : Nat} {cx ct cs ch co : ClassId} {fsM : List Value} {H : Heap} {locs : List Loc} {ls : Array Slot} (hlt : l.stackTraces = false) (C0 : lw_At p s m meth c b 6 xs) (hE : xe ad de (fun q : Nat => s.heap.size ≤ q) s s.heap)
    (lM : fsM.length = 107) (kM : mdK fsM z_MD) (rtM : xfa fsM 1 (.ref qt)) (rsM : xfa fsM 74 (.ref qs)) (rhM : xfa fsM 84 (.ref qh)) (hK : va_K D cl [(cx, .byte), (ct, .byte), (cs, .boolean), (ch, .int), (co, .long)] s) (hP : va_P D cl [(hx0, .inr (0, (z_SE.set 0 (.ref qx)))), (qx, .inl (cx, 80, .inl (fun _ => 0))), (hm0, .inr (1, fsM)), (qt, .inl (ct, 32768, .inl (fun _ => 0))), (qs, .inl (cs, 200, .inl (fun _ => 0))), (qh, .inl (ch, 62, .inl (fun _ => 0))), (qo, .inl (co, 1, .inr (.inl (fun _ => 0))))] H) (hD : va_D (fun q : Nat => s.heap.size ≤ q) [(hx0, .inr (0, (z_SE.set 0 (.ref qx)))), (qx, .inl (cx, 80, .inl (fun _ => 0))), (hm0, .inr (1, fsM)), (qt, .inl (ct, 32768, .inl (fun _ => 0))), (qs, .inl (cs, 200, .inl (fun _ => 0))), (qh, .inl (ch, 62, .inl (fun _ => 0))), (qo, .inl (co, 1, .inr (.inl (fun _ => 0))))]) (hS : va_S (fun q : Nat => s.heap.size ≤ q) s.heap H locs) (hl : lv_has ls 8 [(4, .int 0), (3, .ref qo), (2, .ref hm0), (1, .ref hx0), (0, .ref b)]) : W p l e room_1 s m #[Value.ref b] below meth c H locs 67 427617 (lw_Z below #[Value.ref b] s) (F0 m 810 ls []) := by
  obtain ⟨hx, hb, hr, hml, hown, hts0, hX, hbl, hlocks, hgv⟩ := id C0
  have hts : ∀ w ∈ tt, w.before #[Value.ref b] s = true := fun w h => hts0 w (tt_tbl w h)
  have hown : s.vm.findClass "SignalEngineLaw" = some m.cls := hown
  have hA : ∀ q : Nat, s.heap.size ≤ q → (fun q : Nat => s.heap.size ≤ q) q := fun _ h => h
  have hbA : ¬ (fun q : Nat => s.heap.size ≤ q) b := Nat.not_le.mpr hbl
  refine lv_aload_n hx hb (show decode code 810 = .ok (.aload_n 1, 1) by decide +kernel) rfl (lv_at hl 3 rfl) ?_
  refine lv_aload_n hx hb (show decode code 811 = .ok (.aload_n 0, 1) by decide +kernel) rfl (lv_at hl 4 rfl) ?_
  refine lv_iload hx hb (show decode code 812 = .ok (.iload 4, 2) by decide +kernel) (lv_at hl 0 rfl) ?_
  refine lv_iconst (v := 1) hx hb (show decode code 814 = .ok (.iconst 1, 1) by decide +kernel) (by decide +kernel) ?_
  refine lv_iadd hx hb (show decode code 815 = .ok (.iadd, 1) by decide +kernel) ?_
  refine xtopi (v := 1) (by decide +kernel) ?_
  refine va_sld hx hb hX hbl hbA hS (show vp_in 1 6 by unfold vp_in; decide +kernel) (show decode code 816 = .ok (.iaload, 1) by decide +kernel) ?_
  refine xki (wr := [(qx, .inl (cx, 80, .inl (fun _ => 0))), (hm0, .inr (1, fsM)), (qt, .inl (ct, 32768, .inl (fun _ => 0))), (qs, .inl (cs, 200, .inl (fun _ => 0))), (qh, .inl (ch, 62, .inl (fun _ => 0))), (qo, .inl (co, 1, .inr (.inl (fun _ => 0))))]) (xrV (As := [.int (xs (1 : Int32).toNatClampNeg)]) (rest := []) ⟨hx, hb, hml, hown, hts⟩ (c_SE_doubt0 l D ad de H.size hx0 (z_SE.set 0 (.ref qx)) (by simp [z_SE_len]) (xg_ne (by decide +kernel) rfl) (xs (1 : Int32).toNatClampNeg)) w_1087 w_1 w_1084 w_1085 w_1086 rfl rfl ⟨by decide +kernel, by decide +kernel, rfl⟩ ⟨by decide +kernel, by decide +kernel⟩ hP hK hD hE hS hA [0] [] rfl (by decide +kernel) rfl ⟨0, 0, _, _, rfl, rfl, rfl⟩ hl.1 rfl (Nat.le_of_ble_eq_true rfl) (show decode code 817 = .ok (.invokevirtual 118, 3) by decide +kernel) ⟨by decide +kernel, by decide +kernel⟩) hP hK hD hS hA [0] [1, 2, 3, 4, 5, 6] rfl rfl (by decide +kernel) (by decide +kernel) (fun r_2 u_3 H locs hw_4 hP hK hD hS => ?_)
  obtain rfl : r_2 = (-1) := hw_4
  have hP : va_P D cl [(qx, .inl (cx, 80, .inl (fun _ => 0))), (hm0, .inr (1, fsM)), (qt, .inl (ct, 32768, .inl (fun _ => 0))), (qs, .inl (cs, 200, .inl (fun _ => 0))), (qh, .inl (ch, 62, .inl (fun _ => 0))), (qo, .inl (co, 1, .inr (.inl (fun _ => 0)))), (hx0, .inr (0, (z_SE.set 0 (.ref qx))))] H := hP
  have hD : va_D _ [(qx, .inl (cx, 80, .inl (fun _ => 0))), (hm0, .inr (1, fsM)), (qt, .inl (ct, 32768, .inl (fun _ => 0))), (qs, .inl (cs, 200, .inl (fun _ => 0))), (qh, .inl (ch, 62, .inl (fun _ => 0))), (qo, .inl (co, 1, .inr (.inl (fun _ => 0)))), (hx0, .inr (0, (z_SE.set 0 (.ref qx))))] := hD
  refine W.widen (k := 67) (n := 427617) (by decide +kernel) (by decide +kernel) ?_
  refine lv_aload_n hx hb (show decode code 820 = .ok (.aload_n 2, 1) by decide +kernel) rfl (lv_at hl 2 rfl) ?_
  refine lv_aload_n hx hb (show decode code 821 = .ok (.aload_n 0, 1) by decide +kernel) rfl (lv_at hl 4 rfl) ?_
  refine lv_iload hx hb (show decode code 822 = .ok (.iload 4, 2) by decide +kernel) (lv_at hl 0 rfl) ?_
  refine lv_iconst (v := 1) hx hb (show decode code 824 = .ok (.iconst 1, 1) by decide +kernel) (by decide +kernel) ?_
  refine lv_iadd hx hb (show decode code 825 = .ok (.iadd, 1) by decide +kernel) ?_
  refine xtopi (v := 1) (by decide +kernel) ?_
  refine va_sld hx hb hX hbl hbA hS (show vp_in 1 6 by unfold vp_in; decide +kernel) (show decode code 826 = .ok (.iaload, 1) by decide +kernel) ?_
  refine xki (wr := [(qx, .inl (cx, 80, .inl (fun _ => 0))), (qt, .inl (ct, 32768, .inl (fun _ => 0))), (qs, .inl (cs, 200, .inl (fun _ => 0))), (qh, .inl (ch, 62, .inl (fun _ => 0))), (qo, .inl (co, 1, .inr (.inl (fun _ => 0)))), (hx0, .inr (0, (z_SE.set 0 (.ref qx))))]) (xrV (As := [.int (xs (1 : Int32).toNatClampNeg)]) (rest := [.int (-1)]) ⟨hx, hb, hml, hown, hts⟩ (c_MD_doubt0 l D ad de H.size hm0 fsM lM ((kM 87 rfl).trans rfl) ((kM 85 rfl).trans rfl) ((kM 45 rfl).trans rfl) (xs (1 : Int32).toNatClampNeg)) w_2291 w_2 w_2288 w_2289 w_2290 rfl rfl ⟨by decide +kernel, by decide +kernel, rfl⟩ ⟨by decide +kernel, by decide +kernel⟩ hP hK hD hE hS hA [1] [] rfl (by decide +kernel) rfl ⟨1, 1, _, _, rfl, rfl, rfl⟩ hl.1 rfl (Nat.le_of_ble_eq_true rfl) (show decode code 827 = .ok (.invokevirtual 121, 3) by decide +kernel) ⟨by decide +kernel, by decide +kernel⟩) hP hK hD hS hA [1] [0, 2, 3, 4, 5, 6] rfl rfl (by decide +kernel) (by decide +kernel) (fun r_6 u_7 H locs hw_8 hP hK hD hS => ?_)
  obtain rfl : r_6 = (-1) := hw_8
  have hP : va_P D cl [(qx, .inl (cx, 80, .inl (fun _ => 0))), (qt, .inl (ct, 32768, .inl (fun _ => 0))), (qs, .inl (cs, 200, .inl (fun _ => 0))), (qh, .inl (ch, 62, .inl (fun _ => 0))), (qo, .inl (co, 1, .inr (.inl (fun _ => 0)))), (hx0, .inr (0, (z_SE.set 0 (.ref qx)))), (hm0, .inr (1, (fsM.set 0 (.int 0))))] H := hP
  have hD : va_D _ [(qx, .inl (cx, 80, .inl (fun _ => 0))), (qt, .inl (ct, 32768, .inl (fun _ => 0))), (qs, .inl (cs, 200, .inl (fun _ => 0))), (qh, .inl (ch, 62, .inl (fun _ => 0))), (qo, .inl (co, 1, .inr (.inl (fun _ => 0)))), (hx0, .inr (0, (z_SE.set 0 (.ref qx)))), (hm0, .inr (1, (fsM.set 0 (.int 0))))] := hD
  refine W.widen (k := 67) (n := 427617) (by decide +kernel) (by decide +kernel) ?_
  refine lv_icmp_eq (tgt := 1140) hx hb (show decode code 830 = .ok (.if_icmp .eq 310, 3) by decide +kernel) (by decide +kernel) (fun c_9 => ?_) (fun c_9 => absurd c_9 (by decide +kernel))
  exact law_tail C0 hS (lv_sub hl [0, 4] rfl) (by decide +kernel) (by decide +kernel)
set_option maxHeartbeats 4000000 in
set_option maxRecDepth 100000 in
theorem law_case_17 {p : Program} {l : Launch} {e : Env} {s : State} {m : MethodId} {below : List Frame} {meth : Method} {c : Code} {b : Nat} {xs : Nat → Int32} {D : va_G} {ad : Nat → Nat} {de : Nat} {hx0 qx hm0 qt qs qh qo : Nat} {cx ct cs ch co : ClassId} {fsM : List Value} {H : Heap} {locs : List Loc} {ls : Array Slot} (hlt : l.stackTraces = false) (C0 : lw_At p s m meth c b 6 xs) (hE : xe ad de (fun q : Nat => s.heap.size ≤ q) s s.heap)
    (lM : fsM.length = 107) (kM : mdK fsM z_MD) (rtM : xfa fsM 1 (.ref qt)) (rsM : xfa fsM 74 (.ref qs)) (rhM : xfa fsM 84 (.ref qh)) (hK : va_K D cl [(cx, .byte), (ct, .byte), (cs, .boolean), (ch, .int), (co, .long)] s) (hP : va_P D cl [(hx0, .inr (0, (z_SE.set 0 (.ref qx)))), (qx, .inl (cx, 80, .inl (fun _ => 0))), (hm0, .inr (1, fsM)), (qt, .inl (ct, 32768, .inl (fun _ => 0))), (qs, .inl (cs, 200, .inl (fun _ => 0))), (qh, .inl (ch, 62, .inl (fun _ => 0))), (qo, .inl (co, 1, .inr (.inl (fun _ => 0))))] H) (hD : va_D (fun q : Nat => s.heap.size ≤ q) [(hx0, .inr (0, (z_SE.set 0 (.ref qx)))), (qx, .inl (cx, 80, .inl (fun _ => 0))), (hm0, .inr (1, fsM)), (qt, .inl (ct, 32768, .inl (fun _ => 0))), (qs, .inl (cs, 200, .inl (fun _ => 0))), (qh, .inl (ch, 62, .inl (fun _ => 0))), (qo, .inl (co, 1, .inr (.inl (fun _ => 0))))]) (hS : va_S (fun q : Nat => s.heap.size ≤ q) s.heap H locs) (hl : lv_has ls 8 [(4, .int 0), (3, .ref qo), (2, .ref hm0), (1, .ref hx0), (0, .ref b)]) : W p l e room_1 s m #[Value.ref b] below meth c H locs 67 427617 (lw_Z below #[Value.ref b] s) (F0 m 835 ls []) := by
  obtain ⟨hx, hb, hr, hml, hown, hts0, hX, hbl, hlocks, hgv⟩ := id C0
  have hts : ∀ w ∈ tt, w.before #[Value.ref b] s = true := fun w h => hts0 w (tt_tbl w h)
  have hown : s.vm.findClass "SignalEngineLaw" = some m.cls := hown
  have hA : ∀ q : Nat, s.heap.size ≤ q → (fun q : Nat => s.heap.size ≤ q) q := fun _ h => h
  have hbA : ¬ (fun q : Nat => s.heap.size ≤ q) b := Nat.not_le.mpr hbl
  refine lv_aload_n hx hb (show decode code 835 = .ok (.aload_n 1, 1) by decide +kernel) rfl (lv_at hl 3 rfl) ?_
  refine lv_aload_n hx hb (show decode code 836 = .ok (.aload_n 0, 1) by decide +kernel) rfl (lv_at hl 4 rfl) ?_
  refine lv_iload hx hb (show decode code 837 = .ok (.iload 4, 2) by decide +kernel) (lv_at hl 0 rfl) ?_
  refine lv_iconst (v := 1) hx hb (show decode code 839 = .ok (.iconst 1, 1) by decide +kernel) (by decide +kernel) ?_
  refine lv_iadd hx hb (show decode code 840 = .ok (.iadd, 1) by decide +kernel) ?_
  refine xtopi (v := 1) (by decide +kernel) ?_
  refine va_sld hx hb hX hbl hbA hS (show vp_in 1 6 by unfold vp_in; decide +kernel) (show decode code 841 = .ok (.iaload, 1) by decide +kernel) ?_
  refine xki (wr := [(qx, .inl (cx, 80, .inl (fun _ => 0))), (hm0, .inr (1, fsM)), (qt, .inl (ct, 32768, .inl (fun _ => 0))), (qs, .inl (cs, 200, .inl (fun _ => 0))), (qh, .inl (ch, 62, .inl (fun _ => 0))), (qo, .inl (co, 1, .inr (.inl (fun _ => 0))))]) (xrV (As := [.int (xs (1 : Int32).toNatClampNeg)]) (rest := []) ⟨hx, hb, hml, hown, hts⟩ (c_SE_ever0 l D ad de H.size hx0 (z_SE.set 0 (.ref qx)) (by simp [z_SE_len]) (xg_ne (by decide +kernel) rfl) (xs (1 : Int32).toNatClampNeg)) w_1091 w_1 w_1088 w_1089 w_1090 rfl rfl ⟨by decide +kernel, by decide +kernel, rfl⟩ ⟨by decide +kernel, by decide +kernel⟩ hP hK hD hE hS hA [0] [] rfl (by decide +kernel) rfl ⟨0, 0, _, _, rfl, rfl, rfl⟩ hl.1 rfl (Nat.le_of_ble_eq_true rfl) (show decode code 842 = .ok (.invokevirtual 122, 3) by decide +kernel) ⟨by decide +kernel, by decide +kernel⟩) hP hK hD hS hA [0] [1, 2, 3, 4, 5, 6] rfl rfl (by decide +kernel) (by decide +kernel) (fun r_2 u_3 H locs hw_4 hP hK hD hS => ?_)
  obtain rfl : r_2 = (-1) := hw_4
  have hP : va_P D cl [(qx, .inl (cx, 80, .inl (fun _ => 0))), (hm0, .inr (1, fsM)), (qt, .inl (ct, 32768, .inl (fun _ => 0))), (qs, .inl (cs, 200, .inl (fun _ => 0))), (qh, .inl (ch, 62, .inl (fun _ => 0))), (qo, .inl (co, 1, .inr (.inl (fun _ => 0)))), (hx0, .inr (0, (z_SE.set 0 (.ref qx))))] H := hP
  have hD : va_D _ [(qx, .inl (cx, 80, .inl (fun _ => 0))), (hm0, .inr (1, fsM)), (qt, .inl (ct, 32768, .inl (fun _ => 0))), (qs, .inl (cs, 200, .inl (fun _ => 0))), (qh, .inl (ch, 62, .inl (fun _ => 0))), (qo, .inl (co, 1, .inr (.inl (fun _ => 0)))), (hx0, .inr (0, (z_SE.set 0 (.ref qx))))] := hD
  refine W.widen (k := 67) (n := 427617) (by decide +kernel) (by decide +kernel) ?_
  refine lv_aload_n hx hb (show decode code 845 = .ok (.aload_n 2, 1) by decide +kernel) rfl (lv_at hl 2 rfl) ?_
  refine lv_aload_n hx hb (show decode code 846 = .ok (.aload_n 0, 1) by decide +kernel) rfl (lv_at hl 4 rfl) ?_
  refine lv_iload hx hb (show decode code 847 = .ok (.iload 4, 2) by decide +kernel) (lv_at hl 0 rfl) ?_
  refine lv_iconst (v := 1) hx hb (show decode code 849 = .ok (.iconst 1, 1) by decide +kernel) (by decide +kernel) ?_
  refine lv_iadd hx hb (show decode code 850 = .ok (.iadd, 1) by decide +kernel) ?_
  refine xtopi (v := 1) (by decide +kernel) ?_
  refine va_sld hx hb hX hbl hbA hS (show vp_in 1 6 by unfold vp_in; decide +kernel) (show decode code 851 = .ok (.iaload, 1) by decide +kernel) ?_
  refine xki (wr := [(qx, .inl (cx, 80, .inl (fun _ => 0))), (qt, .inl (ct, 32768, .inl (fun _ => 0))), (qs, .inl (cs, 200, .inl (fun _ => 0))), (qh, .inl (ch, 62, .inl (fun _ => 0))), (qo, .inl (co, 1, .inr (.inl (fun _ => 0)))), (hx0, .inr (0, (z_SE.set 0 (.ref qx))))]) (xrV (As := [.int (xs (1 : Int32).toNatClampNeg)]) (rest := [.int (-1)]) ⟨hx, hb, hml, hown, hts⟩ (c_MD_ever0 l D ad de H.size hm0 fsM lM ((kM 85 rfl).trans rfl) ((kM 46 rfl).trans rfl) (xs (1 : Int32).toNatClampNeg)) w_2295 w_2 w_2292 w_2293 w_2294 rfl rfl ⟨by decide +kernel, by decide +kernel, rfl⟩ ⟨by decide +kernel, by decide +kernel⟩ hP hK hD hE hS hA [1] [] rfl (by decide +kernel) rfl ⟨1, 1, _, _, rfl, rfl, rfl⟩ hl.1 rfl (Nat.le_of_ble_eq_true rfl) (show decode code 852 = .ok (.invokevirtual 125, 3) by decide +kernel) ⟨by decide +kernel, by decide +kernel⟩) hP hK hD hS hA [1] [0, 2, 3, 4, 5, 6] rfl rfl (by decide +kernel) (by decide +kernel) (fun r_6 u_7 H locs hw_8 hP hK hD hS => ?_)
  obtain rfl : r_6 = (-1) := hw_8
  have hP : va_P D cl [(qx, .inl (cx, 80, .inl (fun _ => 0))), (qt, .inl (ct, 32768, .inl (fun _ => 0))), (qs, .inl (cs, 200, .inl (fun _ => 0))), (qh, .inl (ch, 62, .inl (fun _ => 0))), (qo, .inl (co, 1, .inr (.inl (fun _ => 0)))), (hx0, .inr (0, (z_SE.set 0 (.ref qx)))), (hm0, .inr (1, (fsM.set 0 (.int 0))))] H := hP
  have hD : va_D _ [(qx, .inl (cx, 80, .inl (fun _ => 0))), (qt, .inl (ct, 32768, .inl (fun _ => 0))), (qs, .inl (cs, 200, .inl (fun _ => 0))), (qh, .inl (ch, 62, .inl (fun _ => 0))), (qo, .inl (co, 1, .inr (.inl (fun _ => 0)))), (hx0, .inr (0, (z_SE.set 0 (.ref qx)))), (hm0, .inr (1, (fsM.set 0 (.int 0))))] := hD
  refine W.widen (k := 67) (n := 427617) (by decide +kernel) (by decide +kernel) ?_
  refine lv_icmp_eq (tgt := 1140) hx hb (show decode code 855 = .ok (.if_icmp .eq 285, 3) by decide +kernel) (by decide +kernel) (fun c_9 => ?_) (fun c_9 => absurd c_9 (by decide +kernel))
  exact law_tail C0 hS (lv_sub hl [0, 4] rfl) (by decide +kernel) (by decide +kernel)
set_option maxHeartbeats 4000000 in
set_option maxRecDepth 100000 in
theorem law_case_18 {p : Program} {l : Launch} {e : Env} {s : State} {m : MethodId} {below : List Frame} {meth : Method} {c : Code} {b : Nat} {xs : Nat → Int32} {D : va_G} {ad : Nat → Nat} {de : Nat} {hx0 qx hm0 qt qs qh qo : Nat} {cx ct cs ch co : ClassId} {fsM : List Value} {H : Heap} {locs : List Loc} {ls : Array Slot} (hlt : l.stackTraces = false) (C0 : lw_At p s m meth c b 6 xs) (hE : xe ad de (fun q : Nat => s.heap.size ≤ q) s s.heap)
    (lM : fsM.length = 107) (kM : mdK fsM z_MD) (rtM : xfa fsM 1 (.ref qt)) (rsM : xfa fsM 74 (.ref qs)) (rhM : xfa fsM 84 (.ref qh)) (hK : va_K D cl [(cx, .byte), (ct, .byte), (cs, .boolean), (ch, .int), (co, .long)] s) (hP : va_P D cl [(hx0, .inr (0, (z_SE.set 0 (.ref qx)))), (qx, .inl (cx, 80, .inl (fun _ => 0))), (hm0, .inr (1, fsM)), (qt, .inl (ct, 32768, .inl (fun _ => 0))), (qs, .inl (cs, 200, .inl (fun _ => 0))), (qh, .inl (ch, 62, .inl (fun _ => 0))), (qo, .inl (co, 1, .inr (.inl (fun _ => 0))))] H) (hD : va_D (fun q : Nat => s.heap.size ≤ q) [(hx0, .inr (0, (z_SE.set 0 (.ref qx)))), (qx, .inl (cx, 80, .inl (fun _ => 0))), (hm0, .inr (1, fsM)), (qt, .inl (ct, 32768, .inl (fun _ => 0))), (qs, .inl (cs, 200, .inl (fun _ => 0))), (qh, .inl (ch, 62, .inl (fun _ => 0))), (qo, .inl (co, 1, .inr (.inl (fun _ => 0))))]) (hS : va_S (fun q : Nat => s.heap.size ≤ q) s.heap H locs) (hl : lv_has ls 8 [(4, .int 0), (3, .ref qo), (2, .ref hm0), (1, .ref hx0), (0, .ref b)]) : W p l e room_1 s m #[Value.ref b] below meth c H locs 67 427617 (lw_Z below #[Value.ref b] s) (F0 m 860 ls []) := by
  obtain ⟨hx, hb, hr, hml, hown, hts0, hX, hbl, hlocks, hgv⟩ := id C0
  have hts : ∀ w ∈ tt, w.before #[Value.ref b] s = true := fun w h => hts0 w (tt_tbl w h)
  have hown : s.vm.findClass "SignalEngineLaw" = some m.cls := hown
  have hA : ∀ q : Nat, s.heap.size ≤ q → (fun q : Nat => s.heap.size ≤ q) q := fun _ h => h
  have hbA : ¬ (fun q : Nat => s.heap.size ≤ q) b := Nat.not_le.mpr hbl
  refine lv_aload_n hx hb (show decode code 860 = .ok (.aload_n 1, 1) by decide +kernel) rfl (lv_at hl 3 rfl) ?_
  refine lv_aload_n hx hb (show decode code 861 = .ok (.aload_n 0, 1) by decide +kernel) rfl (lv_at hl 4 rfl) ?_
  refine lv_iload hx hb (show decode code 862 = .ok (.iload 4, 2) by decide +kernel) (lv_at hl 0 rfl) ?_
  refine lv_iconst (v := 1) hx hb (show decode code 864 = .ok (.iconst 1, 1) by decide +kernel) (by decide +kernel) ?_
  refine lv_iadd hx hb (show decode code 865 = .ok (.iadd, 1) by decide +kernel) ?_
  refine xtopi (v := 1) (by decide +kernel) ?_
  refine va_sld hx hb hX hbl hbA hS (show vp_in 1 6 by unfold vp_in; decide +kernel) (show decode code 866 = .ok (.iaload, 1) by decide +kernel) ?_
  refine lv_aload_n hx hb (show decode code 867 = .ok (.aload_n 0, 1) by decide +kernel) rfl (lv_at hl 4 rfl) ?_
  refine lv_iload hx hb (show decode code 868 = .ok (.iload 4, 2) by decide +kernel) (lv_at hl 0 rfl) ?_
  refine lv_iconst (v := 2) hx hb (show decode code 870 = .ok (.iconst 2, 1) by decide +kernel) (by decide +kernel) ?_
  refine lv_iadd hx hb (show decode code 871 = .ok (.iadd, 1) by decide +kernel) ?_
  refine xtopi (v := 2) (by decide +kernel) ?_
  refine va_sld hx hb hX hbl hbA hS (show vp_in 2 6 by unfold vp_in; decide +kernel) (show decode code 872 = .ok (.iaload, 1) by decide +kernel) ?_
  refine xki (wr := [(qx, .inl (cx, 80, .inl (fun _ => 0))), (hm0, .inr (1, fsM)), (qt, .inl (ct, 32768, .inl (fun _ => 0))), (qs, .inl (cs, 200, .inl (fun _ => 0))), (qh, .inl (ch, 62, .inl (fun _ => 0))), (qo, .inl (co, 1, .inr (.inl (fun _ => 0))))]) (xrV (As := [.int (xs (1 : Int32).toNatClampNeg), .int (xs (2 : Int32).toNatClampNeg)]) (rest := []) ⟨hx, hb, hml, hown, hts⟩ (c_SE_together0 l D ad de H.size hx0 (z_SE.set 0 (.ref qx)) (by simp [z_SE_len]) (xg_ne (by decide +kernel) rfl) (xs (1 : Int32).toNatClampNeg) (xs (2 : Int32).toNatClampNeg)) w_1095 w_1 w_1107 w_1093 w_1094 rfl rfl ⟨by decide +kernel, by decide +kernel, rfl⟩ ⟨by decide +kernel, by decide +kernel⟩ hP hK hD hE hS hA [0] [] rfl (by decide +kernel) rfl ⟨0, 0, _, _, rfl, rfl, rfl⟩ hl.1 rfl (Nat.le_of_ble_eq_true rfl) (show decode code 873 = .ok (.invokevirtual 126, 3) by decide +kernel) ⟨by decide +kernel, by decide +kernel⟩) hP hK hD hS hA [0] [1, 2, 3, 4, 5, 6] rfl rfl (by decide +kernel) (by decide +kernel) (fun r_3 u_4 H locs hw_5 hP hK hD hS => ?_)
  obtain rfl : r_3 = (-1) := hw_5
  have hP : va_P D cl [(qx, .inl (cx, 80, .inl (fun _ => 0))), (hm0, .inr (1, fsM)), (qt, .inl (ct, 32768, .inl (fun _ => 0))), (qs, .inl (cs, 200, .inl (fun _ => 0))), (qh, .inl (ch, 62, .inl (fun _ => 0))), (qo, .inl (co, 1, .inr (.inl (fun _ => 0)))), (hx0, .inr (0, (z_SE.set 0 (.ref qx))))] H := hP
  have hD : va_D _ [(qx, .inl (cx, 80, .inl (fun _ => 0))), (hm0, .inr (1, fsM)), (qt, .inl (ct, 32768, .inl (fun _ => 0))), (qs, .inl (cs, 200, .inl (fun _ => 0))), (qh, .inl (ch, 62, .inl (fun _ => 0))), (qo, .inl (co, 1, .inr (.inl (fun _ => 0)))), (hx0, .inr (0, (z_SE.set 0 (.ref qx))))] := hD
  refine W.widen (k := 67) (n := 427617) (by decide +kernel) (by decide +kernel) ?_
  refine lv_aload_n hx hb (show decode code 876 = .ok (.aload_n 2, 1) by decide +kernel) rfl (lv_at hl 2 rfl) ?_
  refine lv_aload_n hx hb (show decode code 877 = .ok (.aload_n 0, 1) by decide +kernel) rfl (lv_at hl 4 rfl) ?_
  refine lv_iload hx hb (show decode code 878 = .ok (.iload 4, 2) by decide +kernel) (lv_at hl 0 rfl) ?_
  refine lv_iconst (v := 1) hx hb (show decode code 880 = .ok (.iconst 1, 1) by decide +kernel) (by decide +kernel) ?_
  refine lv_iadd hx hb (show decode code 881 = .ok (.iadd, 1) by decide +kernel) ?_
  refine xtopi (v := 1) (by decide +kernel) ?_
  refine va_sld hx hb hX hbl hbA hS (show vp_in 1 6 by unfold vp_in; decide +kernel) (show decode code 882 = .ok (.iaload, 1) by decide +kernel) ?_
  refine lv_aload_n hx hb (show decode code 883 = .ok (.aload_n 0, 1) by decide +kernel) rfl (lv_at hl 4 rfl) ?_
  refine lv_iload hx hb (show decode code 884 = .ok (.iload 4, 2) by decide +kernel) (lv_at hl 0 rfl) ?_
  refine lv_iconst (v := 2) hx hb (show decode code 886 = .ok (.iconst 2, 1) by decide +kernel) (by decide +kernel) ?_
  refine lv_iadd hx hb (show decode code 887 = .ok (.iadd, 1) by decide +kernel) ?_
  refine xtopi (v := 2) (by decide +kernel) ?_
  refine va_sld hx hb hX hbl hbA hS (show vp_in 2 6 by unfold vp_in; decide +kernel) (show decode code 888 = .ok (.iaload, 1) by decide +kernel) ?_
  refine xki (wr := [(qx, .inl (cx, 80, .inl (fun _ => 0))), (qt, .inl (ct, 32768, .inl (fun _ => 0))), (qs, .inl (cs, 200, .inl (fun _ => 0))), (qh, .inl (ch, 62, .inl (fun _ => 0))), (qo, .inl (co, 1, .inr (.inl (fun _ => 0)))), (hx0, .inr (0, (z_SE.set 0 (.ref qx))))]) (xrV (As := [.int (xs (1 : Int32).toNatClampNeg), .int (xs (2 : Int32).toNatClampNeg)]) (rest := [.int (-1)]) ⟨hx, hb, hml, hown, hts⟩ (c_MD_together0 l D ad de H.size hm0 fsM lM ((kM 85 rfl).trans rfl) ((kM 46 rfl).trans rfl) (xs (1 : Int32).toNatClampNeg) (xs (2 : Int32).toNatClampNeg)) w_2303 w_2 w_2300 w_2301 w_2302 rfl rfl ⟨by decide +kernel, by decide +kernel, rfl⟩ ⟨by decide +kernel, by decide +kernel⟩ hP hK hD hE hS hA [1] [] rfl (by decide +kernel) rfl ⟨1, 1, _, _, rfl, rfl, rfl⟩ hl.1 rfl (Nat.le_of_ble_eq_true rfl) (show decode code 889 = .ok (.invokevirtual 129, 3) by decide +kernel) ⟨by decide +kernel, by decide +kernel⟩) hP hK hD hS hA [1] [0, 2, 3, 4, 5, 6] rfl rfl (by decide +kernel) (by decide +kernel) (fun r_8 u_9 H locs hw_10 hP hK hD hS => ?_)
  obtain rfl : r_8 = (-1) := hw_10
  have hP : va_P D cl [(qx, .inl (cx, 80, .inl (fun _ => 0))), (qt, .inl (ct, 32768, .inl (fun _ => 0))), (qs, .inl (cs, 200, .inl (fun _ => 0))), (qh, .inl (ch, 62, .inl (fun _ => 0))), (qo, .inl (co, 1, .inr (.inl (fun _ => 0)))), (hx0, .inr (0, (z_SE.set 0 (.ref qx)))), (hm0, .inr (1, (fsM.set 0 (.int 0))))] H := hP
  have hD : va_D _ [(qx, .inl (cx, 80, .inl (fun _ => 0))), (qt, .inl (ct, 32768, .inl (fun _ => 0))), (qs, .inl (cs, 200, .inl (fun _ => 0))), (qh, .inl (ch, 62, .inl (fun _ => 0))), (qo, .inl (co, 1, .inr (.inl (fun _ => 0)))), (hx0, .inr (0, (z_SE.set 0 (.ref qx)))), (hm0, .inr (1, (fsM.set 0 (.int 0))))] := hD
  refine W.widen (k := 67) (n := 427617) (by decide +kernel) (by decide +kernel) ?_
  refine lv_icmp_eq (tgt := 1140) hx hb (show decode code 892 = .ok (.if_icmp .eq 248, 3) by decide +kernel) (by decide +kernel) (fun c_11 => ?_) (fun c_11 => absurd c_11 (by decide +kernel))
  exact law_tail C0 hS (lv_sub hl [0, 4] rfl) (by decide +kernel) (by decide +kernel)
set_option maxHeartbeats 4000000 in
set_option maxRecDepth 100000 in
theorem law_case_19 {p : Program} {l : Launch} {e : Env} {s : State} {m : MethodId} {below : List Frame} {meth : Method} {c : Code} {b : Nat} {xs : Nat → Int32} {D : va_G} {ad : Nat → Nat} {de : Nat} {hx0 qx hm0 qt qs qh qo : Nat} {cx ct cs ch co : ClassId} {fsM : List Value} {H : Heap} {locs : List Loc} {ls : Array Slot} (hlt : l.stackTraces = false) (C0 : lw_At p s m meth c b 6 xs) (hE : xe ad de (fun q : Nat => s.heap.size ≤ q) s s.heap)
    (lM : fsM.length = 107) (kM : mdK fsM z_MD) (rtM : xfa fsM 1 (.ref qt)) (rsM : xfa fsM 74 (.ref qs)) (rhM : xfa fsM 84 (.ref qh)) (hK : va_K D cl [(cx, .byte), (ct, .byte), (cs, .boolean), (ch, .int), (co, .long)] s) (hP : va_P D cl [(hx0, .inr (0, (z_SE.set 0 (.ref qx)))), (qx, .inl (cx, 80, .inl (fun _ => 0))), (hm0, .inr (1, fsM)), (qt, .inl (ct, 32768, .inl (fun _ => 0))), (qs, .inl (cs, 200, .inl (fun _ => 0))), (qh, .inl (ch, 62, .inl (fun _ => 0))), (qo, .inl (co, 1, .inr (.inl (fun _ => 0))))] H) (hD : va_D (fun q : Nat => s.heap.size ≤ q) [(hx0, .inr (0, (z_SE.set 0 (.ref qx)))), (qx, .inl (cx, 80, .inl (fun _ => 0))), (hm0, .inr (1, fsM)), (qt, .inl (ct, 32768, .inl (fun _ => 0))), (qs, .inl (cs, 200, .inl (fun _ => 0))), (qh, .inl (ch, 62, .inl (fun _ => 0))), (qo, .inl (co, 1, .inr (.inl (fun _ => 0))))]) (hS : va_S (fun q : Nat => s.heap.size ≤ q) s.heap H locs) (hl : lv_has ls 8 [(4, .int 0), (3, .ref qo), (2, .ref hm0), (1, .ref hx0), (0, .ref b)]) : W p l e room_1 s m #[Value.ref b] below meth c H locs 67 427617 (lw_Z below #[Value.ref b] s) (F0 m 897 ls []) := by
  obtain ⟨hx, hb, hr, hml, hown, hts0, hX, hbl, hlocks, hgv⟩ := id C0
  have hts : ∀ w ∈ tt, w.before #[Value.ref b] s = true := fun w h => hts0 w (tt_tbl w h)
  have hown : s.vm.findClass "SignalEngineLaw" = some m.cls := hown
  have hA : ∀ q : Nat, s.heap.size ≤ q → (fun q : Nat => s.heap.size ≤ q) q := fun _ h => h
  have hbA : ¬ (fun q : Nat => s.heap.size ≤ q) b := Nat.not_le.mpr hbl
  refine lv_aload_n hx hb (show decode code 897 = .ok (.aload_n 1, 1) by decide +kernel) rfl (lv_at hl 3 rfl) ?_
  refine lv_aload_n hx hb (show decode code 898 = .ok (.aload_n 3, 1) by decide +kernel) rfl (lv_at hl 1 rfl) ?_
  refine xki (wr := [(qx, .inl (cx, 80, .inl (fun _ => 0))), (hm0, .inr (1, fsM)), (qt, .inl (ct, 32768, .inl (fun _ => 0))), (qs, .inl (cs, 200, .inl (fun _ => 0))), (qh, .inl (ch, 62, .inl (fun _ => 0))), (qo, .inl (co, 1, .inr (.inl (fun _ => 0))))]) (xrSH (As := [.ref hx0, .ref qo]) (rest := []) ⟨hx, hb, hml, hown, hts⟩ (c_LW_classes0 l hlt D ad de H.size hx0 (z_SE.set 0 (.ref qx)) (by simp [z_SE_len]) (xg_ne (by decide +kernel) rfl) qo) w_1440 w_0 w_1438 w_1439 rfl rfl ⟨by decide +kernel, by decide +kernel, rfl⟩ ⟨by decide +kernel, by decide +kernel⟩ hP hK hD hE hS hA [0] [] rfl (by decide +kernel) rfl hl.1 rfl (Nat.le_of_ble_eq_true rfl) (show decode code 899 = .ok (.invokestatic 130, 3) by decide +kernel) ⟨by decide +kernel, by decide +kernel⟩) hP hK hD hS hA [0] [1, 2, 3, 4, 5, 6] rfl rfl (by decide +kernel) (by decide +kernel) (fun r_1 u_2 H locs hw_3 hP hK hD hS => ?_)
  obtain rfl : r_1 = 1 := hw_3
  have hP : va_P D cl [(qx, .inl (cx, 80, .inl (fun _ => 0))), (hm0, .inr (1, fsM)), (qt, .inl (ct, 32768, .inl (fun _ => 0))), (qs, .inl (cs, 200, .inl (fun _ => 0))), (qh, .inl (ch, 62, .inl (fun _ => 0))), (qo, .inl (co, 1, .inr (.inl (fun _ => 0)))), (hx0, .inr (0, (z_SE.set 0 (.ref qx))))] H := hP
  have hD : va_D _ [(qx, .inl (cx, 80, .inl (fun _ => 0))), (hm0, .inr (1, fsM)), (qt, .inl (ct, 32768, .inl (fun _ => 0))), (qs, .inl (cs, 200, .inl (fun _ => 0))), (qh, .inl (ch, 62, .inl (fun _ => 0))), (qo, .inl (co, 1, .inr (.inl (fun _ => 0)))), (hx0, .inr (0, (z_SE.set 0 (.ref qx))))] := hD
  refine W.widen (k := 68) (n := 427623) (by decide +kernel) (by decide +kernel) ?_
  refine lv_istore (lv' := [(5, .int 1), (4, .int 0), (3, .ref qo), (2, .ref hm0), (1, .ref hx0), (0, .ref b)]) hx hb (show decode code 902 = .ok (.istore 5, 2) by decide +kernel) hl (by decide +kernel) rfl (fun ls hl => ?_)
  refine lv_aload_n hx hb (show decode code 904 = .ok (.aload_n 2, 1) by decide +kernel) rfl (lv_at hl 3 rfl) ?_
  refine xki (wr := [(qx, .inl (cx, 80, .inl (fun _ => 0))), (qt, .inl (ct, 32768, .inl (fun _ => 0))), (qs, .inl (cs, 200, .inl (fun _ => 0))), (qh, .inl (ch, 62, .inl (fun _ => 0))), (qo, .inl (co, 1, .inr (.inl (fun _ => 0)))), (hx0, .inr (0, (z_SE.set 0 (.ref qx))))]) (xrV (As := []) (rest := []) ⟨hx, hb, hml, hown, hts⟩ (c_MD_classes0 l D ad de H.size hm0 fsM lM ((kM 85 rfl).trans rfl)) w_2307 w_2 w_2304 w_2305 w_2306 rfl rfl ⟨by decide +kernel, by decide +kernel, rfl⟩ ⟨by decide +kernel, by decide +kernel⟩ hP hK hD hE hS hA [1] [] rfl (by decide +kernel) rfl ⟨1, 1, _, _, rfl, rfl, rfl⟩ hl.1 rfl (Nat.le_of_ble_eq_true rfl) (show decode code 905 = .ok (.invokevirtual 132, 3) by decide +kernel) ⟨by decide +kernel, by decide +kernel⟩) hP hK hD hS hA [1] [0, 2, 3, 4, 5, 6] rfl rfl (by decide +kernel) (by decide +kernel) (fun r_4 u_5 H locs hw_6 hP hK hD hS => ?_)
  obtain rfl : r_4 = 0 := hw_6
  have hP : va_P D cl [(qx, .inl (cx, 80, .inl (fun _ => 0))), (qt, .inl (ct, 32768, .inl (fun _ => 0))), (qs, .inl (cs, 200, .inl (fun _ => 0))), (qh, .inl (ch, 62, .inl (fun _ => 0))), (qo, .inl (co, 1, .inr (.inl (fun _ => 0)))), (hx0, .inr (0, (z_SE.set 0 (.ref qx)))), (hm0, .inr (1, (fsM.set 0 (.int 1))))] H := hP
  have hD : va_D _ [(qx, .inl (cx, 80, .inl (fun _ => 0))), (qt, .inl (ct, 32768, .inl (fun _ => 0))), (qs, .inl (cs, 200, .inl (fun _ => 0))), (qh, .inl (ch, 62, .inl (fun _ => 0))), (qo, .inl (co, 1, .inr (.inl (fun _ => 0)))), (hx0, .inr (0, (z_SE.set 0 (.ref qx)))), (hm0, .inr (1, (fsM.set 0 (.int 1))))] := hD
  refine W.widen (k := 68) (n := 427623) (by decide +kernel) (by decide +kernel) ?_
  refine lv_istore (lv' := [(6, .int 0), (5, .int 1), (4, .int 0), (3, .ref qo), (2, .ref hm0), (1, .ref hx0), (0, .ref b)]) hx hb (show decode code 908 = .ok (.istore 6, 2) by decide +kernel) hl (by decide +kernel) rfl (fun ls hl => ?_)
  refine lv_aload_n hx hb (show decode code 910 = .ok (.aload_n 2, 1) by decide +kernel) rfl (lv_at hl 4 rfl) ?_
  refine xki (wr := [(qx, .inl (cx, 80, .inl (fun _ => 0))), (qt, .inl (ct, 32768, .inl (fun _ => 0))), (qs, .inl (cs, 200, .inl (fun _ => 0))), (qh, .inl (ch, 62, .inl (fun _ => 0))), (qo, .inl (co, 1, .inr (.inl (fun _ => 0)))), (hx0, .inr (0, (z_SE.set 0 (.ref qx))))]) (xrV (As := []) (rest := []) ⟨hx, hb, hml, hown, hts⟩ (c_MD_thrown1 l D ad de H.size hm0 (fsM.set 0 (.int 1)) (by simp [lM]) (xg_eq (by simp [lM]))) w_1888 w_2 w_1885 w_1886 w_1887 rfl rfl ⟨by decide +kernel, by decide +kernel, rfl⟩ ⟨by decide +kernel, by decide +kernel⟩ hP hK hD hE hS hA [6] [] rfl (by decide +kernel) rfl ⟨6, 1, _, _, rfl, rfl, rfl⟩ hl.1 rfl (Nat.le_of_ble_eq_true rfl) (show decode code 911 = .ok (.invokevirtual 80, 3) by decide +kernel) ⟨by decide +kernel, by decide +kernel⟩) hP hK hD hS hA [6] [0, 1, 2, 3, 4, 5] rfl rfl (by decide +kernel) (by decide +kernel) (fun r_7 u_8 H locs hw_9 hP hK hD hS => ?_)
  obtain rfl : r_7 = 1 := hw_9
  have hP : va_P D cl [(qx, .inl (cx, 80, .inl (fun _ => 0))), (qt, .inl (ct, 32768, .inl (fun _ => 0))), (qs, .inl (cs, 200, .inl (fun _ => 0))), (qh, .inl (ch, 62, .inl (fun _ => 0))), (qo, .inl (co, 1, .inr (.inl (fun _ => 0)))), (hx0, .inr (0, (z_SE.set 0 (.ref qx)))), (hm0, .inr (1, (fsM.set 0 (.int 1))))] H := hP
  have hD : va_D _ [(qx, .inl (cx, 80, .inl (fun _ => 0))), (qt, .inl (ct, 32768, .inl (fun _ => 0))), (qs, .inl (cs, 200, .inl (fun _ => 0))), (qh, .inl (ch, 62, .inl (fun _ => 0))), (qo, .inl (co, 1, .inr (.inl (fun _ => 0)))), (hx0, .inr (0, (z_SE.set 0 (.ref qx)))), (hm0, .inr (1, (fsM.set 0 (.int 1))))] := hD
  refine W.widen (k := 68) (n := 427623) (by decide +kernel) (by decide +kernel) ?_
  refine lv_iload hx hb (show decode code 914 = .ok (.iload 5, 2) by decide +kernel) (lv_at hl 1 rfl) ?_
  refine lv_icmp_eq (tgt := 921) hx hb (show decode code 916 = .ok (.if_icmp .eq 5, 3) by decide +kernel) (by decide +kernel) (fun c_10 => ?_) (fun c_10 => absurd c_10 (by decide +kernel))
  refine lv_iload hx hb (show decode code 921 = .ok (.iload 5, 2) by decide +kernel) (lv_at hl 1 rfl) ?_
  refine lv_if_ne (tgt := 938) hx hb (show decode code 923 = .ok (.ifCond .ne 15, 3) by decide +kernel) (by decide +kernel) (fun c_11 => ?_) (fun c_11 => absurd c_11 (by decide +kernel))
  refine lv_goto (tgt := 1140) hx hb (show decode code 938 = .ok (.goto 202, 3) by decide +kernel) (by decide +kernel) ?_
  exact law_tail C0 hS (lv_sub hl [2, 6] rfl) (by decide +kernel) (by decide +kernel)
set_option maxHeartbeats 4000000 in
set_option maxRecDepth 100000 in
theorem law_case_20 {p : Program} {l : Launch} {e : Env} {s : State} {m : MethodId} {below : List Frame} {meth : Method} {c : Code} {b : Nat} {xs : Nat → Int32} {D : va_G} {ad : Nat → Nat} {de : Nat} {hx0 qx hm0 qt qs qh qo : Nat} {cx ct cs ch co : ClassId} {fsM : List Value} {H : Heap} {locs : List Loc} {ls : Array Slot} (hlt : l.stackTraces = false) (C0 : lw_At p s m meth c b 6 xs) (hE : xe ad de (fun q : Nat => s.heap.size ≤ q) s s.heap)
    (lM : fsM.length = 107) (kM : mdK fsM z_MD) (rtM : xfa fsM 1 (.ref qt)) (rsM : xfa fsM 74 (.ref qs)) (rhM : xfa fsM 84 (.ref qh)) (hK : va_K D cl [(cx, .byte), (ct, .byte), (cs, .boolean), (ch, .int), (co, .long)] s) (hP : va_P D cl [(hx0, .inr (0, (z_SE.set 0 (.ref qx)))), (qx, .inl (cx, 80, .inl (fun _ => 0))), (hm0, .inr (1, fsM)), (qt, .inl (ct, 32768, .inl (fun _ => 0))), (qs, .inl (cs, 200, .inl (fun _ => 0))), (qh, .inl (ch, 62, .inl (fun _ => 0))), (qo, .inl (co, 1, .inr (.inl (fun _ => 0))))] H) (hD : va_D (fun q : Nat => s.heap.size ≤ q) [(hx0, .inr (0, (z_SE.set 0 (.ref qx)))), (qx, .inl (cx, 80, .inl (fun _ => 0))), (hm0, .inr (1, fsM)), (qt, .inl (ct, 32768, .inl (fun _ => 0))), (qs, .inl (cs, 200, .inl (fun _ => 0))), (qh, .inl (ch, 62, .inl (fun _ => 0))), (qo, .inl (co, 1, .inr (.inl (fun _ => 0))))]) (hS : va_S (fun q : Nat => s.heap.size ≤ q) s.heap H locs) (hl : lv_has ls 8 [(4, .int 0), (3, .ref qo), (2, .ref hm0), (1, .ref hx0), (0, .ref b)]) : W p l e room_1 s m #[Value.ref b] below meth c H locs 67 427617 (lw_Z below #[Value.ref b] s) (F0 m 941 ls []) := by
  obtain ⟨hx, hb, hr, hml, hown, hts0, hX, hbl, hlocks, hgv⟩ := id C0
  have hts : ∀ w ∈ tt, w.before #[Value.ref b] s = true := fun w h => hts0 w (tt_tbl w h)
  have hown : s.vm.findClass "SignalEngineLaw" = some m.cls := hown
  have hA : ∀ q : Nat, s.heap.size ≤ q → (fun q : Nat => s.heap.size ≤ q) q := fun _ h => h
  have hbA : ¬ (fun q : Nat => s.heap.size ≤ q) b := Nat.not_le.mpr hbl
  refine lv_aload_n hx hb (show decode code 941 = .ok (.aload_n 1, 1) by decide +kernel) rfl (lv_at hl 3 rfl) ?_
  refine lv_aload_n hx hb (show decode code 942 = .ok (.aload_n 0, 1) by decide +kernel) rfl (lv_at hl 4 rfl) ?_
  refine lv_iload hx hb (show decode code 943 = .ok (.iload 4, 2) by decide +kernel) (lv_at hl 0 rfl) ?_
  refine lv_iconst (v := 1) hx hb (show decode code 945 = .ok (.iconst 1, 1) by decide +kernel) (by decide +kernel) ?_
  refine lv_iadd hx hb (show decode code 946 = .ok (.iadd, 1) by decide +kernel) ?_
  refine xtopi (v := 1) (by decide +kernel) ?_
  refine va_sld hx hb hX hbl hbA hS (show vp_in 1 6 by unfold vp_in; decide +kernel) (show decode code 947 = .ok (.iaload, 1) by decide +kernel) ?_
  refine xki (wr := [(qx, .inl (cx, 80, .inl (fun _ => 0))), (hm0, .inr (1, fsM)), (qt, .inl (ct, 32768, .inl (fun _ => 0))), (qs, .inl (cs, 200, .inl (fun _ => 0))), (qh, .inl (ch, 62, .inl (fun _ => 0))), (qo, .inl (co, 1, .inr (.inl (fun _ => 0))))]) (xrV (As := [.int (xs (1 : Int32).toNatClampNeg)]) (rest := []) ⟨hx, hb, hml, hown, hts⟩ (c_SE_alike0 l D ad de H.size hx0 (z_SE.set 0 (.ref qx)) (by simp [z_SE_len]) (xg_ne (by decide +kernel) rfl) (xs (1 : Int32).toNatClampNeg)) w_1111 w_1 w_1108 w_1109 w_1110 rfl rfl ⟨by decide +kernel, by decide +kernel, rfl⟩ ⟨by decide +kernel, by decide +kernel⟩ hP hK hD hE hS hA [0] [] rfl (by decide +kernel) rfl ⟨0, 0, _, _, rfl, rfl, rfl⟩ hl.1 rfl (Nat.le_of_ble_eq_true rfl) (show decode code 948 = .ok (.invokevirtual 133, 3) by decide +kernel) ⟨by decide +kernel, by decide +kernel⟩) hP hK hD hS hA [0] [1, 2, 3, 4, 5, 6] rfl rfl (by decide +kernel) (by decide +kernel) (fun r_2 u_3 H locs hw_4 hP hK hD hS => ?_)
  obtain rfl : r_2 = (-1) := hw_4
  have hP : va_P D cl [(qx, .inl (cx, 80, .inl (fun _ => 0))), (hm0, .inr (1, fsM)), (qt, .inl (ct, 32768, .inl (fun _ => 0))), (qs, .inl (cs, 200, .inl (fun _ => 0))), (qh, .inl (ch, 62, .inl (fun _ => 0))), (qo, .inl (co, 1, .inr (.inl (fun _ => 0)))), (hx0, .inr (0, (z_SE.set 0 (.ref qx))))] H := hP
  have hD : va_D _ [(qx, .inl (cx, 80, .inl (fun _ => 0))), (hm0, .inr (1, fsM)), (qt, .inl (ct, 32768, .inl (fun _ => 0))), (qs, .inl (cs, 200, .inl (fun _ => 0))), (qh, .inl (ch, 62, .inl (fun _ => 0))), (qo, .inl (co, 1, .inr (.inl (fun _ => 0)))), (hx0, .inr (0, (z_SE.set 0 (.ref qx))))] := hD
  refine W.widen (k := 67) (n := 427617) (by decide +kernel) (by decide +kernel) ?_
  refine lv_aload_n hx hb (show decode code 951 = .ok (.aload_n 2, 1) by decide +kernel) rfl (lv_at hl 2 rfl) ?_
  refine lv_aload_n hx hb (show decode code 952 = .ok (.aload_n 0, 1) by decide +kernel) rfl (lv_at hl 4 rfl) ?_
  refine lv_iload hx hb (show decode code 953 = .ok (.iload 4, 2) by decide +kernel) (lv_at hl 0 rfl) ?_
  refine lv_iconst (v := 1) hx hb (show decode code 955 = .ok (.iconst 1, 1) by decide +kernel) (by decide +kernel) ?_
  refine lv_iadd hx hb (show decode code 956 = .ok (.iadd, 1) by decide +kernel) ?_
  refine xtopi (v := 1) (by decide +kernel) ?_
  refine va_sld hx hb hX hbl hbA hS (show vp_in 1 6 by unfold vp_in; decide +kernel) (show decode code 957 = .ok (.iaload, 1) by decide +kernel) ?_
  refine xki (wr := [(qx, .inl (cx, 80, .inl (fun _ => 0))), (qt, .inl (ct, 32768, .inl (fun _ => 0))), (qs, .inl (cs, 200, .inl (fun _ => 0))), (qh, .inl (ch, 62, .inl (fun _ => 0))), (qo, .inl (co, 1, .inr (.inl (fun _ => 0)))), (hx0, .inr (0, (z_SE.set 0 (.ref qx))))]) (xrV (As := [.int (xs (1 : Int32).toNatClampNeg)]) (rest := [.int (-1)]) ⟨hx, hb, hml, hown, hts⟩ (c_MD_alike0 l D ad de H.size hm0 fsM lM ((kM 85 rfl).trans rfl) (xs (1 : Int32).toNatClampNeg)) w_2315 w_2 w_2312 w_2313 w_2314 rfl rfl ⟨by decide +kernel, by decide +kernel, rfl⟩ ⟨by decide +kernel, by decide +kernel⟩ hP hK hD hE hS hA [1] [] rfl (by decide +kernel) rfl ⟨1, 1, _, _, rfl, rfl, rfl⟩ hl.1 rfl (Nat.le_of_ble_eq_true rfl) (show decode code 958 = .ok (.invokevirtual 136, 3) by decide +kernel) ⟨by decide +kernel, by decide +kernel⟩) hP hK hD hS hA [1] [0, 2, 3, 4, 5, 6] rfl rfl (by decide +kernel) (by decide +kernel) (fun r_6 u_7 H locs hw_8 hP hK hD hS => ?_)
  obtain rfl : r_6 = (-1) := hw_8
  have hP : va_P D cl [(qx, .inl (cx, 80, .inl (fun _ => 0))), (qt, .inl (ct, 32768, .inl (fun _ => 0))), (qs, .inl (cs, 200, .inl (fun _ => 0))), (qh, .inl (ch, 62, .inl (fun _ => 0))), (qo, .inl (co, 1, .inr (.inl (fun _ => 0)))), (hx0, .inr (0, (z_SE.set 0 (.ref qx)))), (hm0, .inr (1, (fsM.set 0 (.int 0))))] H := hP
  have hD : va_D _ [(qx, .inl (cx, 80, .inl (fun _ => 0))), (qt, .inl (ct, 32768, .inl (fun _ => 0))), (qs, .inl (cs, 200, .inl (fun _ => 0))), (qh, .inl (ch, 62, .inl (fun _ => 0))), (qo, .inl (co, 1, .inr (.inl (fun _ => 0)))), (hx0, .inr (0, (z_SE.set 0 (.ref qx)))), (hm0, .inr (1, (fsM.set 0 (.int 0))))] := hD
  refine W.widen (k := 67) (n := 427617) (by decide +kernel) (by decide +kernel) ?_
  refine lv_icmp_eq (tgt := 1140) hx hb (show decode code 961 = .ok (.if_icmp .eq 179, 3) by decide +kernel) (by decide +kernel) (fun c_9 => ?_) (fun c_9 => absurd c_9 (by decide +kernel))
  exact law_tail C0 hS (lv_sub hl [0, 4] rfl) (by decide +kernel) (by decide +kernel)
