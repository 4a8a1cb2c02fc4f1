
set_option maxHeartbeats 8000000 in
set_option maxRecDepth 100000 in
/-- THE LAW, from its entry -/
theorem whole_start {p : Program} {e : Env} {s : State} {m : MethodId} {below : List Frame} {meth : Method} {c : Code} (l : Launch) (hlt : l.stackTraces = false) {b L : Nat} {xs : Nat → Int32} (hL : L ≤ 6) (C0 : lw_At p s m meth c b L xs) : W p l e room_1 s m #[Value.ref b] below meth c s.heap [] 0 0 (lw_Z below #[Value.ref b] s) (entryFrame m ([Value.ref b] : List Value).toArray 8) := by
  obtain ⟨hx, hb, hr, hml, hown, hts0, hX, hbl, hlocks, hgv⟩ := id C0
  have hts : ∀ w ∈ tt, w.before #[Value.ref b] s = true := fun w h => hts0 w (tt_tbl w h)
  have hown : s.vm.findClass "SignalEngineLaw" = some m.cls := hown
  have hA : ∀ q : Nat, s.heap.size ≤ q → (fun q : Nat => s.heap.size ≤ q) q := fun _ h => h
  have hbA : ¬ (fun q : Nat => s.heap.size ≤ q) b := Nat.not_le.mpr hbl
  obtain ⟨c0, iS0, hKn0⟩ := u_known (C := R_SE) (T := F_SE) (N := 14) (n := 14) hts i_SE (hts _ w_35)
  obtain ⟨c1, iS1, hKn1⟩ := u_known (C := R_MD) (T := F_MD) (N := 107) (n := 107) hts i_MD (hts _ w_1553)
  obtain ⟨c2, iS2, hKn2⟩ := u_known (C := R_LX) (T := F_LX) (N := 6) (n := 6) hts i_LX (hts _ w_225)
  obtain ⟨c3, iS3, hKn3⟩ := u_known (C := R_NM) (T := F_NM) (N := 6) (n := 6) hts i_NM (hts _ w_258)
  obtain ⟨c4, iS4, hKn4⟩ := u_known (C := R_PA) (T := F_PA) (N := 7) (n := 7) hts i_PA (hts _ w_124)
  obtain ⟨c5, iS5, hKn5⟩ := u_known (C := R_PI) (T := F_PI) (N := 6) (n := 6) hts i_PI (hts _ w_162)
  obtain ⟨c6, iS6, hKn6⟩ := u_known (C := R_DR) (T := F_DR) (N := 6) (n := 6) hts i_DR (hts _ w_130)
  obtain ⟨c7, iS7, hKn7⟩ := u_known (C := R_AL) (T := F_AL) (N := 3) (n := 3) hts i_AL (hts _ w_136)
  obtain ⟨c8, iS8, hKn8⟩ := u_known (C := R_ND) (T := F_ND) (N := 13) (n := 13) hts i_ND (hts _ w_547)
  obtain ⟨c9, iS9, hKn9⟩ := u_known (C := R_PG) (T := F_PG) (N := 17) (n := 17) hts i_PG (hts _ w_860)
  obtain ⟨c10, iS10, hKn10⟩ := u_known (C := R_RE) (T := F_RE) (N := 18) (n := 18) hts i_RE (hts _ w_975)
  obtain ⟨c11, iS11, hKn11⟩ := u_known (C := R_AT) (T := F_AT) (N := 15) (n := 15) hts i_AT (hts _ w_1315)
  obtain ⟨c12, iS12, hKn12⟩ := u_known (C := R_NT) (T := F_NT) (N := 15) (n := 15) hts i_NT (hts _ w_1453)
  obtain ⟨D, hKc⟩ : ∃ D : va_G, ∀ (k : Nat) (q : vw_C), cl[k]? = some q → u_Kn s q.1 q.2.1 q.2.2 (D.1 k) (D.2 k) := by
    refine ⟨(fun k => if k = 0 then c0 else if k = 1 then c1 else if k = 2 then c2 else if k = 3 then c3 else if k = 4 then c4 else if k = 5 then c5 else if k = 6 then c6 else if k = 7 then c7 else if k = 8 then c8 else if k = 9 then c9 else if k = 10 then c10 else if k = 11 then c11 else c12, fun k => if k = 0 then iS0 else if k = 1 then iS1 else if k = 2 then iS2 else if k = 3 then iS3 else if k = 4 then iS4 else if k = 5 then iS5 else if k = 6 then iS6 else if k = 7 then iS7 else if k = 8 then iS8 else if k = 9 then iS9 else if k = 10 then iS10 else if k = 11 then iS11 else iS12), ?_⟩
    intro k q hq
    match k, hq with
    | 0, hq => cases hq; exact hKn0
    | 1, hq => cases hq; exact hKn1
    | 2, hq => cases hq; exact hKn2
    | 3, hq => cases hq; exact hKn3
    | 4, hq => cases hq; exact hKn4
    | 5, hq => cases hq; exact hKn5
    | 6, hq => cases hq; exact hKn6
    | 7, hq => cases hq; exact hKn7
    | 8, hq => cases hq; exact hKn8
    | 9, hq => cases hq; exact hKn9
    | 10, hq => cases hq; exact hKn10
    | 11, hq => cases hq; exact hKn11
    | 12, hq => cases hq; exact hKn12
    | k + 13, hq => simp [cl] at hq
  obtain ⟨ad, de, hE⟩ := xl_env (A := fun q : Nat => s.heap.size ≤ q) hts0 hgv (fun q h => Nat.not_le.mpr h)
  have hS : va_S (fun q : Nat => s.heap.size ≤ q) s.heap s.heap [] := va_S.rf
  have hK : va_K D cl [] s := ⟨hKc, fun k q h => by simp at h⟩
  have hP : va_P D cl [] s.heap := fun k q h => by simp at h
  have hD : va_D (fun q : Nat => s.heap.size ≤ q) [] := ⟨fun i j p q h => by simp at h, fun k q h => by simp at h⟩
  have hl := lv_entry ([.ref b]) (n := 8) (Nat.le_of_ble_eq_true rfl)
  rw [lg_entry_eq]
  generalize (lg_sl ([.ref b]) ++ List.replicate (8 - (lg_sl ([.ref b])).length) Slot.unset).toArray = ls at hl ⊢
  have hl : lv_has ls 8 [(0, .ref b)] := hl
  refine va_new (ci := 0) (fs := z_SE) (C := R_SE) (T := F_SE) (N := 14) hx hb hts i_SE t_SE t_SE_ok hown (hts _ w_34) (hts _ w_35) (hts _ w_1) hK hP hD hS hA rfl z_SE_ok (by decide +kernel) (by decide +kernel) (show decode code 0 = .ok (.new 8, 3) by decide +kernel) (fun q_1 H hP hD hS => ?_)
  have hP : va_P D cl [(q_1, .inr (0, z_SE))] H := hP
  have hD : va_D _ [(q_1, .inr (0, z_SE))] := hD
  refine W.widen (k := 1) (n := 14) (by decide +kernel) (by decide +kernel) ?_
  refine lv_dup hx hb (show decode code 3 = .ok (.dup, 1) by decide +kernel) rfl ?_
  refine xkv (wr := []) (xrI (As := []) (rest := [.ref q_1]) ⟨hx, hb, hml, hown, hts⟩ (c_SEinit l D ad de H.size q_1 z_SE z_SE_len) w_38 w_1 w_36 w_37 rfl rfl rfl ⟨by decide +kernel, by decide +kernel, rfl⟩ ⟨by decide +kernel, by decide +kernel⟩ hP hK hD hE hS hA [0] [] rfl (by decide +kernel) rfl hl.1 rfl (Nat.le_of_ble_eq_true rfl) (show decode code 4 = .ok (.invokespecial 45, 3) by decide +kernel) ⟨by decide +kernel, by decide +kernel⟩) hP hK hD hS hA [0] [] rfl rfl (by decide +kernel) (by decide +kernel) (fun u_3 H locs hw_4 hP hK hD hS => ?_)
  obtain ⟨q_5, cA_6⟩ := u_3
  have hP : va_P D cl [(q_1, .inr (0, (z_SE.set 0 (.ref q_5)))), (q_5, .inl (cA_6, 80, .inl (fun _ => 0)))] H := hP
  have hD : va_D _ [(q_1, .inr (0, (z_SE.set 0 (.ref q_5)))), (q_5, .inl (cA_6, 80, .inl (fun _ => 0)))] := hD
  have hK : va_K D cl [(cA_6, .byte)] s := hK
  refine W.widen (k := 2) (n := 94) (by decide +kernel) (by decide +kernel) ?_
  refine lv_astore_n (lv' := [(1, .ref q_1), (0, .ref b)]) hx hb (show decode code 7 = .ok (.astore_n 1, 1) by decide +kernel) rfl hl (by decide +kernel) rfl (fun ls hl => ?_)
  refine va_new (ci := 1) (fs := z_MD) (C := R_MD) (T := F_MD) (N := 107) hx hb hts i_MD t_MD t_MD_ok hown (hts _ w_1552) (hts _ w_1553) (hts _ w_2) hK hP hD hS hA rfl z_MD_ok (by decide +kernel) (by decide +kernel) (show decode code 8 = .ok (.new 46, 3) by decide +kernel) (fun q_7 H hP hD hS => ?_)
  have hP : va_P D cl [(q_1, .inr (0, (z_SE.set 0 (.ref q_5)))), (q_5, .inl (cA_6, 80, .inl (fun _ => 0))), (q_7, .inr (1, z_MD))] H := hP
  have hD : va_D _ [(q_1, .inr (0, (z_SE.set 0 (.ref q_5)))), (q_5, .inl (cA_6, 80, .inl (fun _ => 0))), (q_7, .inr (1, z_MD))] := hD
  refine W.widen (k := 3) (n := 201) (by decide +kernel) (by decide +kernel) ?_
  refine lv_dup hx hb (show decode code 11 = .ok (.dup, 1) by decide +kernel) rfl ?_
  refine xkv (wr := [(q_1, .inr (0, (z_SE.set 0 (.ref q_5)))), (q_5, .inl (cA_6, 80, .inl (fun _ => 0)))]) (xrI (As := []) (rest := [.ref q_7]) ⟨hx, hb, hml, hown, hts⟩ (c_MDinit l D ad de H.size q_7 z_MD z_MD_len) w_1556 w_2 w_1554 w_1555 rfl rfl rfl ⟨by decide +kernel, by decide +kernel, rfl⟩ ⟨by decide +kernel, by decide +kernel⟩ hP hK hD hE hS hA [2] [] rfl (by decide +kernel) rfl hl.1 rfl (Nat.le_of_ble_eq_true rfl) (show decode code 12 = .ok (.invokespecial 48, 3) by decide +kernel) ⟨by decide +kernel, by decide +kernel⟩) hP hK hD hS hA [2] [0, 1] rfl rfl (by decide +kernel) (by decide +kernel) (fun u_9 H locs hw_10 hP hK hD hS => ?_)
  obtain ⟨fsM, qt, ct, qs, cs, qh, ch⟩ := u_9; obtain ⟨lM, kM, rtM, rsM, rhM⟩ := hw_10
  have hP : va_P D cl [(q_1, .inr (0, (z_SE.set 0 (.ref q_5)))), (q_5, .inl (cA_6, 80, .inl (fun _ => 0))), (q_7, .inr (1, fsM)), (qt, .inl (ct, 32768, .inl (fun _ => 0))), (qs, .inl (cs, 200, .inl (fun _ => 0))), (qh, .inl (ch, 62, .inl (fun _ => 0)))] H := hP
  have hD : va_D _ [(q_1, .inr (0, (z_SE.set 0 (.ref q_5)))), (q_5, .inl (cA_6, 80, .inl (fun _ => 0))), (q_7, .inr (1, fsM)), (qt, .inl (ct, 32768, .inl (fun _ => 0))), (qs, .inl (cs, 200, .inl (fun _ => 0))), (qh, .inl (ch, 62, .inl (fun _ => 0)))] := hD
  have hK : va_K D cl [(cA_6, .byte), (ct, .byte), (cs, .boolean), (ch, .int)] s := hK
  refine W.widen (k := 66) (n := 427616) (by decide +kernel) (by decide +kernel) ?_
  refine lv_astore_n (lv' := [(2, .ref q_7), (1, .ref q_1), (0, .ref b)]) hx hb (show decode code 15 = .ok (.astore_n 2, 1) by decide +kernel) rfl hl (by decide +kernel) rfl (fun ls hl => ?_)
  refine lv_iconst (v := 1) hx hb (show decode code 16 = .ok (.iconst 1, 1) by decide +kernel) (by decide +kernel) ?_
  refine va_newa (atype := .long) (a0 := (1, .inr (.inl (fun _ => 0)))) (ty := .long) hx hb (hts _ w_1884) rfl hK hP hD hS hA (fun _ => rfl) (by decide +kernel) (by decide +kernel) (by decide +kernel) (by decide +kernel) (by decide +kernel) (show decode code 17 = .ok (.newarray .long, 2) by decide +kernel) (fun q_11 cA_12 H hK hP hD hS => ?_)
  have hP : va_P D cl [(q_1, .inr (0, (z_SE.set 0 (.ref q_5)))), (q_5, .inl (cA_6, 80, .inl (fun _ => 0))), (q_7, .inr (1, fsM)), (qt, .inl (ct, 32768, .inl (fun _ => 0))), (qs, .inl (cs, 200, .inl (fun _ => 0))), (qh, .inl (ch, 62, .inl (fun _ => 0))), (q_11, .inl (cA_12, 1, .inr (.inl (fun _ => 0))))] H := hP
  have hD : va_D _ [(q_1, .inr (0, (z_SE.set 0 (.ref q_5)))), (q_5, .inl (cA_6, 80, .inl (fun _ => 0))), (q_7, .inr (1, fsM)), (qt, .inl (ct, 32768, .inl (fun _ => 0))), (qs, .inl (cs, 200, .inl (fun _ => 0))), (qh, .inl (ch, 62, .inl (fun _ => 0))), (q_11, .inl (cA_12, 1, .inr (.inl (fun _ => 0))))] := hD
  have hK : va_K D cl [(cA_6, .byte), (ct, .byte), (cs, .boolean), (ch, .int), (cA_12, .long)] s := hK
  refine W.widen (k := 67) (n := 427617) (by decide +kernel) (by decide +kernel) ?_
  refine lv_astore_n (lv' := [(3, .ref q_11), (2, .ref q_7), (1, .ref q_1), (0, .ref b)]) hx hb (show decode code 19 = .ok (.astore_n 3, 1) by decide +kernel) rfl hl (by decide +kernel) rfl (fun ls hl => ?_)
  refine lv_iconst (v := 0) hx hb (show decode code 20 = .ok (.iconst 0, 1) by decide +kernel) (by decide +kernel) ?_
  refine lv_istore (lv' := [(4, .int 0), (3, .ref q_11), (2, .ref q_7), (1, .ref q_1), (0, .ref b)]) hx hb (show decode code 21 = .ok (.istore 4, 2) by decide +kernel) hl (by decide +kernel) rfl (fun ls hl => ?_)
  have hP := hP.sub (ws' := [(q_1, .inr (0, (z_SE.set 0 (.ref q_5)))), (q_5, .inl (cA_6, 80, .inl (fun _ => 0))), (q_7, .inr (1, fsM)), (qt, .inl (ct, 32768, .inl (fun _ => 0))), (qs, .inl (cs, 200, .inl (fun _ => 0))), (qh, .inl (ch, 62, .inl (fun _ => 0))), (q_11, .inl (cA_12, 1, .inr (.inl (fun _ => 0))))]) [0, 1, 2, 3, 4, 5, 6] rfl
  have hD := hD.sub (ws' := [(q_1, .inr (0, (z_SE.set 0 (.ref q_5)))), (q_5, .inl (cA_6, 80, .inl (fun _ => 0))), (q_7, .inr (1, fsM)), (qt, .inl (ct, 32768, .inl (fun _ => 0))), (qs, .inl (cs, 200, .inl (fun _ => 0))), (qh, .inl (ch, 62, .inl (fun _ => 0))), (q_11, .inl (cA_12, 1, .inr (.inl (fun _ => 0))))]) [0, 1, 2, 3, 4, 5, 6] (by decide +kernel) rfl
  have hK := hK.sub (tys' := [(cA_6, .byte), (ct, .byte), (cs, .boolean), (ch, .int), (cA_12, .long)]) [0, 1, 2, 3, 4] rfl
  have hl := lv_sub hl [0, 1, 2, 3, 4] rfl (l' := [(4, .int 0), (3, .ref q_11), (2, .ref q_7), (1, .ref q_1), (0, .ref b)])
  refine lv_iload hx hb (show decode code 23 = .ok (.iload 4, 2) by decide +kernel) (lv_at hl 0 rfl) ?_
  refine lv_aload_n hx hb (show decode code 25 = .ok (.aload_n 0, 1) by decide +kernel) rfl (lv_at hl 4 rfl) ?_
  refine va_slen hx hb hX hbl hbA hS (show decode code 26 = .ok (.arraylength, 1) by decide +kernel) ?_
  refine lv_bipush (v := 6) hx hb (show decode code 27 = .ok (.bipush 6, 2) by decide +kernel) (by decide +kernel) ?_
  refine lv_isub hx hb (show decode code 29 = .ok (.isub, 1) by decide +kernel) ?_
  refine lv_icmp_gt (tgt := 1146) hx hb (show decode code 30 = .ok (.if_icmp .gt 1116, 3) by decide +kernel) (by decide +kernel) (fun c1 => ?_) (fun c1 => ?_)
  · refine lv_iconst (v := 1) hx hb (show decode code 1146 = .ok (.iconst 1, 1) by decide +kernel) (by decide +kernel) ?_
    refine va_forget (fun q hq => hS.2.2 q hq) ?_
    refine W.widen (k := 600002) (n := 7302232) (by decide +kernel) (by decide +kernel) ?_
    exact lw_ret hx hb hr hlocks (show decode code 1147 = .ok (.ireturn, 1) by decide +kernel)
  · have h6 : L = 6 := by
      rcases Nat.lt_or_ge L 6 with h | h
      · exact absurd (law_short L h) c1
      · omega
    subst h6
    refine lv_aload_n hx hb (show decode code 33 = .ok (.aload_n 0, 1) by decide +kernel) rfl (lv_at hl 4 rfl) ?_
    refine lv_iload hx hb (show decode code 34 = .ok (.iload 4, 2) by decide +kernel) (lv_at hl 0 rfl) ?_
    refine va_sld hx hb hX hbl hbA hS (show vp_in 0 6 by unfold vp_in; decide +kernel) (show decode code 36 = .ok (.iaload, 1) by decide +kernel) ?_
    refine lv_topi (fun v0 _ => ?_)
    refine lv_bipush (v := 31) hx hb (show decode code 37 = .ok (.bipush 31, 2) by decide +kernel) (by decide +kernel) ?_
    refine lv_iand hx hb (show decode code 39 = .ok (.iand, 1) by decide +kernel) ?_
    obtain ⟨j, hj, ej⟩ := pk_andE v0 (m := 31) 5 (by decide +kernel)
    refine xtopi ej ?_
    have hc : j = 0 ∨ j = 1 ∨ j = 2 ∨ j = 3 ∨ j = 4 ∨ j = 5 ∨ j = 6 ∨ j = 7 ∨ j = 8 ∨ j = 9 ∨ j = 10 ∨ j = 11 ∨ j = 12 ∨ j = 13 ∨ j = 14 ∨ j = 15 ∨ j = 16 ∨ j = 17 ∨ j = 18 ∨ j = 19 ∨ j = 20 ∨ j = 21 ∨ j = 22 ∨ j = 23 ∨ j = 24 ∨ j = 25 ∨ j = 26 ∨ j = 27 ∨ j = 28 ∨ j = 29 ∨ j = 30 ∨ j = 31 := by omega
    rcases hc with rfl | rfl | rfl | rfl | rfl | rfl | rfl | rfl | rfl | rfl | rfl | rfl | rfl | rfl | rfl | rfl | rfl | rfl | rfl | rfl | rfl | rfl | rfl | rfl | rfl | rfl | rfl | rfl | rfl | rfl | rfl | rfl
    · refine lv_tableIn (off := 120) (tgt := 160) hx hb dsw_law (by decide +kernel) (by decide +kernel) (by decide +kernel) (by decide +kernel) ?_
      exact law_case_0 hlt C0 hE lM kM rtM rsM rhM hK hP hD hS hl
    · refine lv_tableIn (off := 193) (tgt := 233) hx hb dsw_law (by decide +kernel) (by decide +kernel) (by decide +kernel) (by decide +kernel) ?_
      exact law_case_1 hlt C0 hE lM kM rtM rsM rhM hK hP hD hS hl
    · refine lv_tableIn (off := 218) (tgt := 258) hx hb dsw_law (by decide +kernel) (by decide +kernel) (by decide +kernel) (by decide +kernel) ?_
      exact law_case_2 hlt C0 hE lM kM rtM rsM rhM hK hP hD hS hl
    · refine lv_tableIn (off := 231) (tgt := 271) hx hb dsw_law (by decide +kernel) (by decide +kernel) (by decide +kernel) (by decide +kernel) ?_
      exact law_case_3 hlt C0 hE lM kM rtM rsM rhM hK hP hD hS hl
    · refine lv_tableIn (off := 268) (tgt := 308) hx hb dsw_law (by decide +kernel) (by decide +kernel) (by decide +kernel) (by decide +kernel) ?_
      exact law_case_4 hlt C0 hE lM kM rtM rsM rhM hK hP hD hS hl
    · refine lv_tableIn (off := 305) (tgt := 345) hx hb dsw_law (by decide +kernel) (by decide +kernel) (by decide +kernel) (by decide +kernel) ?_
      exact law_case_5 hlt C0 hE lM kM rtM rsM rhM hK hP hD hS hl
    · refine lv_tableIn (off := 342) (tgt := 382) hx hb dsw_law (by decide +kernel) (by decide +kernel) (by decide +kernel) (by decide +kernel) ?_
      exact law_case_6 hlt C0 hE lM kM rtM rsM rhM hK hP hD hS hl
    · refine lv_tableIn (off := 386) (tgt := 426) hx hb dsw_law (by decide +kernel) (by decide +kernel) (by decide +kernel) (by decide +kernel) ?_
      exact law_case_7 hlt C0 hE lM kM rtM rsM rhM hK hP hD hS hl
    · refine lv_tableIn (off := 442) (tgt := 482) hx hb dsw_law (by decide +kernel) (by decide +kernel) (by decide +kernel) (by decide +kernel) ?_
      exact law_case_8 hlt C0 hE lM kM rtM rsM rhM hK hP hD hS hl
    · refine lv_tableIn (off := 467) (tgt := 507) hx hb dsw_law (by decide +kernel) (by decide +kernel) (by decide +kernel) (by decide +kernel) ?_
      exact law_case_9 hlt C0 hE lM kM rtM rsM rhM hK hP hD hS hl
    · refine lv_tableIn (off := 492) (tgt := 532) hx hb dsw_law (by decide +kernel) (by decide +kernel) (by decide +kernel) (by decide +kernel) ?_
      exact law_case_10 hlt C0 hE lM kM rtM rsM rhM hK hP hD hS hl
    · refine lv_tableIn (off := 528) (tgt := 568) hx hb dsw_law (by decide +kernel) (by decide +kernel) (by decide +kernel) (by decide +kernel) ?_
      exact law_case_11 hlt C0 hE lM kM rtM rsM rhM hK hP hD hS hl
    · refine lv_tableIn (off := 572) (tgt := 612) hx hb dsw_law (by decide +kernel) (by decide +kernel) (by decide +kernel) (by decide +kernel) ?_
      exact law_case_12 hlt C0 hE lM kM rtM rsM rhM hK hP hD hS hl
    · refine lv_tableIn (off := 597) (tgt := 637) hx hb dsw_law (by decide +kernel) (by decide +kernel) (by decide +kernel) (by decide +kernel) ?_
      exact law_case_13 hlt C0 hE lM kM rtM rsM rhM hK hP hD hS hl
    · refine lv_tableIn (off := 634) (tgt := 674) hx hb dsw_law (by decide +kernel) (by decide +kernel) (by decide +kernel) (by decide +kernel) ?_
      exact law_case_14 hlt C0 hE lM kM rtM rsM rhM hK hP hD hS hl
    · refine lv_tableIn (off := 702) (tgt := 742) hx hb dsw_law (by decide +kernel) (by decide +kernel) (by decide +kernel) (by decide +kernel) ?_
      exact law_case_15 hlt C0 hE lM kM rtM rsM rhM hK hP hD hS hl
    · refine lv_tableIn (off := 770) (tgt := 810) hx hb dsw_law (by decide +kernel) (by decide +kernel) (by decide +kernel) (by decide +kernel) ?_
      exact law_case_16 hlt C0 hE lM kM rtM rsM rhM hK hP hD hS hl
    · refine lv_tableIn (off := 795) (tgt := 835) hx hb dsw_law (by decide +kernel) (by decide +kernel) (by decide +kernel) (by decide +kernel) ?_
      exact law_case_17 hlt C0 hE lM kM rtM rsM rhM hK hP hD hS hl
    · refine lv_tableIn (off := 820) (tgt := 860) hx hb dsw_law (by decide +kernel) (by decide +kernel) (by decide +kernel) (by decide +kernel) ?_
      exact law_case_18 hlt C0 hE lM kM rtM rsM rhM hK hP hD hS hl
    · refine lv_tableIn (off := 857) (tgt := 897) hx hb dsw_law (by decide +kernel) (by decide +kernel) (by decide +kernel) (by decide +kernel) ?_
      exact law_case_19 hlt C0 hE lM kM rtM rsM rhM hK hP hD hS hl
    · refine lv_tableIn (off := 901) (tgt := 941) hx hb dsw_law (by decide +kernel) (by decide +kernel) (by decide +kernel) (by decide +kernel) ?_
      exact law_case_20 hlt C0 hE lM kM rtM rsM rhM hK hP hD hS hl
    · refine lv_tableIn (off := 926) (tgt := 966) hx hb dsw_law (by decide +kernel) (by decide +kernel) (by decide +kernel) (by decide +kernel) ?_
      exact law_case_21 hlt C0 hE lM kM rtM rsM rhM hK hP hD hS hl
    · refine lv_tableIn (off := 970) (tgt := 1010) hx hb dsw_law (by decide +kernel) (by decide +kernel) (by decide +kernel) (by decide +kernel) ?_
      exact law_case_22 hlt C0 hE lM kM rtM rsM rhM hK hP hD hS hl
    · refine lv_tableIn (off := 1025) (tgt := 1065) hx hb dsw_law (by decide +kernel) (by decide +kernel) (by decide +kernel) (by decide +kernel) ?_
      exact law_case_23 hlt C0 hE lM kM rtM rsM rhM hK hP hD hS hl
    · refine lv_tableIn (off := 1050) (tgt := 1090) hx hb dsw_law (by decide +kernel) (by decide +kernel) (by decide +kernel) (by decide +kernel) ?_
      exact law_case_24 hlt C0 hE lM kM rtM rsM rhM hK hP hD hS hl
    · refine lv_tableIn (off := 1075) (tgt := 1115) hx hb dsw_law (by decide +kernel) (by decide +kernel) (by decide +kernel) (by decide +kernel) ?_
      exact law_case_25 hlt C0 hE lM kM rtM rsM rhM hK hP hD hS hl
    · refine lv_tableOut (tgt := 1140) hx hb dsw_law (by decide +kernel) (by decide +kernel) ?_
      exact law_tail C0 hS (lv_sub hl [0, 4] rfl) (by decide +kernel) (by decide +kernel)
    · refine lv_tableOut (tgt := 1140) hx hb dsw_law (by decide +kernel) (by decide +kernel) ?_
      exact law_tail C0 hS (lv_sub hl [0, 4] rfl) (by decide +kernel) (by decide +kernel)
    · refine lv_tableOut (tgt := 1140) hx hb dsw_law (by decide +kernel) (by decide +kernel) ?_
      exact law_tail C0 hS (lv_sub hl [0, 4] rfl) (by decide +kernel) (by decide +kernel)
    · refine lv_tableOut (tgt := 1140) hx hb dsw_law (by decide +kernel) (by decide +kernel) ?_
      exact law_tail C0 hS (lv_sub hl [0, 4] rfl) (by decide +kernel) (by decide +kernel)
    · refine lv_tableOut (tgt := 1140) hx hb dsw_law (by decide +kernel) (by decide +kernel) ?_
      exact law_tail C0 hS (lv_sub hl [0, 4] rfl) (by decide +kernel) (by decide +kernel)
    · refine lv_tableOut (tgt := 1140) hx hb dsw_law (by decide +kernel) (by decide +kernel) ?_
      exact law_tail C0 hS (lv_sub hl [0, 4] rfl) (by decide +kernel) (by decide +kernel)
set_option maxHeartbeats 4000000 in
theorem lw_walk (l : Launch) (hlt : l.stackTraces = false) (b : Addr) (xs : List Int32) : MetFree l x (headSpec (Jvm.Cond.code x code maxLocals ret :: tables_1) room_1) (lw_P b xs) (fun _ _ _ _ _ => True) lw_Q := by
  refine MetFree.of_bodyS (code := code) (maxLocals := maxLocals) (ret := ret) (by decide) ?_ ?_
  · intro args s m h hn
    obtain ⟨meth, c, h1, h2, h3, h4, h5, h6, -, -⟩ := Cond.code_spec hn (atoms_spec (ws := Jvm.Cond.code x code maxLocals ret :: tables_1) h _ List.mem_cons_self)
    exact ⟨meth, c, h1, h2, h3, h4, h5, h6⟩
  · intro p e s m args below meth c s₁ B hml0 hP _
    obtain ⟨rfl, hx, hbd, hgv⟩ := hP
    obtain ⟨scr, harrAt, hlist, hof, hsmall⟩ := hx
    obtain ⟨hcb, hkn, -, -⟩ := State.arrayAt?_spec harrAt
    have hown : s.vm.findClass R_law = some m.cls := findClass_of_methodNamed B.named
    have hts0 : ∀ c ∈ (Jvm.Cond.code x code maxLocals ret :: tables_1), c.before #[Value.ref b] s = true := atoms_spec (ws := Jvm.Cond.code x code maxLocals ret :: tables_1) B.pre
    have hts : ∀ w ∈ lw_tbl, w.before #[Value.ref b] s = true := k2_hts_sels lw_privs (fun w hw => hts0 w (List.mem_cons_of_mem _ hw)) lw_privs_ok
    have hml : c.maxLocals = 8 := B.maxLocals_eq (hts0 _ List.mem_cons_self)
    have X₀ : Stand p l e room_1 s m #[Value.ref b] below meth c s₁ [] 0 0 := Stand.of_body B
    have hh0 : s₁.heap = s.heap := by rw [B.state]; rfl
    have hsz : scr.slots.size = xs.length := by rw [← Array.length_toList, hlist, List.length_map]
    have hval : ∀ j : Nat, j < xs.length → scr.slots[j]? = some (.int (xs.getD j 0)) := fun j hj => by
      rw [← Array.getElem?_toList, hlist]
      simp [hj]
    have hbl : b < s.heap.size := (Array.getElem?_eq_some_iff.mp hcb).1
    have hX : va_X b xs.length (fun j => xs.getD j 0) s s.heap := ⟨scr, hcb, hof, hkn, hsz, hval⟩
    have K : W p l e room_1 s m #[Value.ref b] below meth c s₁.heap [] 0 0 (lw_Z below #[Value.ref b] s) (entryFrame m ([Value.ref b] : List Value).toArray 8) := by
      rw [hh0]
      exact whole_start l hlt hbd ⟨B.exec, B.bytes, B.returns, hml, hown, hts, hX, hbl, B.notSynchronized, hgv⟩
    obtain ⟨t, a1, o, b1, b2, b3⟩ := K s₁ rfl X₀
    exact ⟨t, o, a1, b1, b2, b3⟩
theorem lw_pre_spec {args : Array Value} {s : State} (h : (Jvm.Cond.and given_1 narrow_1).before args s = true) (hr : rest_1_c.before args s = true) : ∃ (b : Addr) (xs : List Int32), lw_P b xs args s := by
  have hs := flat_of_before _ h
  have hq := flat_of_before _ hr
  have hc : (Cond.count 1).before args s = true := hs _ (by decide +kernel)
  have harr : (Cond.arrayOf (.arg 0) .int).before args s = true := hs _ (by decide +kernel)
  have hle : (Cond.le (.length (.arg 0)) (.int 6)).before args s = true := hs _ (by decide +kernel)
  have hlen : (Cond.isInt (.length (.arg 0))).before args s = true := hq _ (by decide +kernel)
  have hall : (Cond.all (.arg 0) (.isInt (.elem (.arg 0) (.index 0)))).before args s = true := hq _ (by decide +kernel)
  obtain ⟨b, xs, hb, hx⟩ := State.ints_of_pre rfl harr hlen hall
  have hsm : xs.length < 2 ^ 31 := hx.choose_spec.2.2.2
  have hev : (Term.length (.arg 0)).eval args s none [] s = some (.int xs.length.toInt32) := hx.length_eval hb
  have hv := Cond.le_ints hev (show (Term.int 6).eval args s none [] s = some (.int 6) from rfl)
  have hd : xs.length.toInt32 ≤ 6 := by
    simpa [Cond.before, Cond.holds, hv] using hle
  have hN : xs.length ≤ 6 := (Int32.ofNat_le_ofNat hsm (by decide)).mp (show Int32.ofNat xs.length ≤ Int32.ofNat 6 from hd)
  exact ⟨b, xs, Cond.one_arg hc (show args[0]? = some (.ref b) from hb), hx, hN, h⟩
theorem lw_comes (l : Launch) (hlt : l.stackTraces = false) : Comes l x (Jvm.Cond.code x code maxLocals ret :: tables_1) room_1 (fun tb e args s => Calls_1 tb e args s ∧ rest_1 tb e args s ∧ Pre_1 tb e args s)
    (fun _ _ args s o t => lw_Q args s o t) := by
  intro p e ha hc hk s m args below hf hfit hheap happ hpre
  obtain ⟨b, xs, hP⟩ := lw_pre_spec hpre.2.2 hpre.2.1
  obtain ⟨k, o, h1, h2, h3, hQ⟩ := lw_walk l hlt b xs p e ha hc hk s m args below hf ((Spec.applies_iff_loose hf).mp happ).1 hP trivial
  exact ⟨k, o, h1, h2, h3, hQ⟩
theorem lw_frame {s t : State} {o : Outcome} {args : Array Value} (h : Framed s o t [] 600002 7302232) :
    Framed s o t (fieldLocs frame_1_writes args s ++ arrayLocs frame_1_arrays args s ++ staticLocs frame_1_statics s) 600002 7302232 := h
theorem lw_limb (L : Cond) (hL : ∀ (args : Array Value) (s t : State), L.after args s (.returned (some (.int 1))) t = true) :
    ArmFor flags0 classFile x code maxLocals ret World_1 tables_1 room_1 Calls_1 rest_1 Pre_1
      (fun tb e a s o t => postC L tb e a s o t ∧ Framed s o t (fieldLocs frame_1_writes a s ++ arrayLocs frame_1_arrays a s ++ staticLocs frame_1_statics s) 600002 7302232) := by
  intro l hfl _ _ p e ha hc hk s m args below hf hfit hheap happ hpre
  obtain ⟨k, o, h1, h2, h3, rfl, hF⟩ := lw_comes l (xl_off hfl) p e ha hc hk s m args below hf hfit hheap happ hpre
  exact ⟨k, _, h1, h2, h3, hL args s _, lw_frame hF⟩
theorem i_vc : Claimed_1_1 ∧ Claimed_1_2 := ⟨lw_limb limb_1_1 (fun args s t => by simp [limb_1_1, Cond.after, Cond.holds, Cond.value]), lw_limb limb_1_2 (fun args s t => Cond.after_iff.mpr (by
  first | (rw [show limb_1_2 = Cond.eq .result (.int 1) from rfl, Cond.eq_ints (x := 1) (y := 1) rfl rfl]; simp; done) | (simp [limb_1_2, Cond.value, Term.eval]; done)))⟩

