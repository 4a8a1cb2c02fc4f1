/-! the law's loop -/
set_option maxRecDepth 100000 in
theorem dsw_code_40 : decode code 40 = .ok (.tableswitch 1100 0 25 #[120, 193, 218, 231, 268, 305, 342, 386, 442, 467, 492, 528, 572, 597, 634, 702, 770, 795, 820, 857, 901, 926, 970, 1025, 1050, 1075], 120) := by decide +kernel
noncomputable def lw_st (G : hg_E) (xs : Nat → Int32) (L ox : Nat) (S : hg_S) (v : Int64) (M : md_S) (i : Int32) : Option (hg_S × Int64 × md_S) :=
  (dc_ix i L).bind fun j => dc_let ((xs j &&& 31) : Int32) fun k => if k = 0 then (lw_t0 G xs L ox S v M i) else if k = 1 then (lw_t1 G xs L ox S v M i) else if k = 2 then (lw_t2 G xs L ox S v M i) else if k = 3 then (lw_t3 G xs L ox S v M i) else if k = 4 then (lw_t4 G xs L ox S v M i) else if k = 5 then (lw_t5 G xs L ox S v M i) else if k = 6 then (lw_t6 G xs L ox S v M i) else if k = 7 then (lw_t7 G xs L ox S v M i) else if k = 8 then (lw_t8 G xs L ox S v M i) else if k = 9 then (lw_t9 G xs L ox S v M i) else if k = 10 then (lw_t10 G xs L ox S v M i) else if k = 11 then (lw_t11 G xs L ox S v M i) else if k = 12 then (lw_t12 G xs L ox S v M i) else if k = 13 then (lw_t13 G xs L ox S v M i) else if k = 14 then (lw_t14 G xs L ox S v M i) else if k = 15 then (lw_t15 G xs L ox S v M i) else if k = 16 then (lw_t16 G xs L ox S v M i) else if k = 17 then (lw_t17 G xs L ox S v M i) else if k = 18 then (lw_t18 G xs L ox S v M i) else if k = 19 then (lw_t19 G xs L ox S v M i) else if k = 20 then (lw_t20 G xs L ox S v M i) else if k = 21 then (lw_t21 G xs L ox S v M i) else if k = 22 then (lw_t22 G xs L ox S v M i) else if k = 23 then (lw_t23 G xs L ox S v M i) else if k = 24 then (lw_t24 G xs L ox S v M i) else if k = 25 then (lw_t25 G xs L ox S v M i) else (some (S, v, M))
noncomputable def lw_lp (G : hg_E) (xs : Nat → Int32) (L ox : Nat) (q : hg_S × Int64 × md_S × Int32) : Option ((hg_S × Int64 × md_S × Int32) ⊕ Unit) :=
  if (Int32.ofNat L - 6) < q.2.2.2 then some (.inr ()) else (lw_st G xs L ox q.1 q.2.1 q.2.2.1 q.2.2.2).bind fun z => some (.inl (z.1, z.2.1, z.2.2, q.2.2.2 + 6))
set_option maxHeartbeats 4000000 in
set_option maxRecDepth 100000 in
theorem lw_loop {X : dc_X} {l : Launch} (hlt : l.stackTraces = false) {D : va_G} {G : hg_E} {w o ox sb L : Nat} {a : Nat → Nat} {ca : Nat → ClassId} {xs : Nat → Int32} (hC : hg_K X D G code 8 "SignalEngineLaw") (hKm : hl_KM X D (md_T ca)) (hX : lw_X X sb L xs) (hN : hl_N X) (hend : ∀ (S : hg_S) (i : Int32), hg_G X l room_1 D 8 S 1146 [(0, va_rf (some sb)), (1, va_rf (some ox)), (2, va_rf (some o)), (3, va_rf (some w)), (4, .int i)] []) : ∀ q, dc_wp (dc_it (lw_lp G xs L ox) q) (fun _ => True) → hg_G X l room_1 D 8 (lw_W G w o a ca q.1 q.2.1 q.2.2.1) 23 [(0, va_rf (some sb)), (1, va_rf (some ox)), (2, va_rf (some o)), (3, va_rf (some w)), (4, .int q.2.2.2)] [] := by
  refine dc_loopF ?_
  intro Fc hl _
  rintro ⟨S, v, M, i⟩ h
  have h : dc_wp (if (Int32.ofNat L - 6) < i then some (.inr ()) else (lw_st G xs L ox S v M i).bind fun z => some (.inl (z.1, z.2.1, z.2.2, i + 6))) Fc := h
  show hg_G X l room_1 D 8 (lw_W G w o a ca S v M) 23 [(0, va_rf (some sb)), (1, va_rf (some ox)), (2, va_rf (some o)), (3, va_rf (some w)), (4, .int i)] []
  refine hg_iload (pc := 23) (i := 4) hC 4 rfl (show decode code 23 = .ok (.iload 4, 2) by decide +kernel) ?_
  refine hg_aloadn (pc := 25) (j := 0) (i := 0) (r := (some sb)) hC 0 rfl rfl (show decode code 25 = .ok (.aload_n 0, 1) by decide +kernel) ?_
  refine lw_sln (pc := 26) hC hX (show decode code 26 = .ok (.arraylength, 1) by decide +kernel) ?_
  refine hg_bipush (pc := 27) (v := 6) hC (show decode code 27 = .ok (.bipush 6, 2) by decide +kernel) (by decide +kernel) ?_
  refine hg_isub (pc := 29) hC (show decode code 29 = .ok (.isub, 1) by decide +kernel) ?_
  refine hg_icmp_gt (pc := 30) (tgt := 1146) hC (show decode code 30 = .ok (.if_icmp .gt 1116, 3) by decide +kernel) (by decide +kernel) h ?_ ?_
  · intro _
    exact hend _ i
  · intro h
    have lab : ∀ q : hg_S × Int64 × md_S, dc_wp (some (.inl (q.1, q.2.1, q.2.2, i + 6) : (hg_S × Int64 × md_S × Int32) ⊕ Unit)) Fc → hg_G X l room_1 D 8 (lw_W G w o a ca q.1 q.2.1 q.2.2) 1140 [(0, va_rf (some sb)), (1, va_rf (some ox)), (2, va_rf (some o)), (3, va_rf (some w)), (4, .int i)] [] := by
      intro q hq
      refine hg_iinc (pc := 1140) (i := 4) (v := (i + 6)) (lv' := [(4, .int (i + 6)), (0, va_rf (some sb)), (1, va_rf (some ox)), (2, va_rf (some o)), (3, va_rf (some w))]) hC 4 rfl rfl (Nat.le_of_ble_eq_true rfl) rfl (show decode code 1140 = .ok (.iinc 4 6, 3) by decide +kernel) ?_
      refine hg_goto (pc := 1143) (tgt := 23) hC (show decode code 1143 = .ok (.goto (-1120), 3) by decide +kernel) (by decide +kernel) ?_
      exact hg_sub [1, 2, 3, 4, 0] rfl (hl (q.1, q.2.1, q.2.2, i + 6) (dc_some hq))
    have h : dc_wp (lw_st G xs L ox S v M i) (fun z => dc_wp (some (.inl (z.1, z.2.1, z.2.2, i + 6))) Fc) := dc_bind h
    delta lw_st at h
    refine hg_aloadn (pc := 33) (j := 0) (i := 0) (r := (some sb)) hC 0 rfl rfl (show decode code 33 = .ok (.aload_n 0, 1) by decide +kernel) ?_
    refine hg_iload (pc := 34) (i := 4) hC 4 rfl (show decode code 34 = .ok (.iload 4, 2) by decide +kernel) ?_
    refine lw_sld (pc := 36) hC hX (show decode code 36 = .ok (.iaload, 1) by decide +kernel) h ?_
    intro j h
    refine hg_bipush (pc := 37) (v := 31) hC (show decode code 37 = .ok (.bipush 31, 2) by decide +kernel) (by decide +kernel) ?_
    refine hg_iand (pc := 39) hC (show decode code 39 = .ok (.iand, 1) by decide +kernel) ?_
    refine hg_letI h ?_
    intro k h
    rcases dc_ite h with ⟨hk0, h2⟩ | ⟨hk0, h2⟩
    · subst hk0
      refine hg_tabIn (pc := 40) (off := 120) (tgt := 160) hC dsw_code_40 (by decide +kernel) (by decide +kernel) (by decide +kernel) (by decide +kernel) ?_
      exact lw_c0 hlt hC hKm hX hN S v M i _ lab h2
    clear h; have h := h2; clear h2
    rcases dc_ite h with ⟨hk1, h2⟩ | ⟨hk1, h2⟩
    · subst hk1
      refine hg_tabIn (pc := 40) (off := 193) (tgt := 233) hC dsw_code_40 (by decide +kernel) (by decide +kernel) (by decide +kernel) (by decide +kernel) ?_
      exact lw_c1 hlt hC hKm hX hN S v M i _ lab h2
    clear h; have h := h2; clear h2
    rcases dc_ite h with ⟨hk2, h2⟩ | ⟨hk2, h2⟩
    · subst hk2
      refine hg_tabIn (pc := 40) (off := 218) (tgt := 258) hC dsw_code_40 (by decide +kernel) (by decide +kernel) (by decide +kernel) (by decide +kernel) ?_
      exact lw_c2 hlt hC hKm hX hN S v M i _ lab h2
    clear h; have h := h2; clear h2
    rcases dc_ite h with ⟨hk3, h2⟩ | ⟨hk3, h2⟩
    · subst hk3
      refine hg_tabIn (pc := 40) (off := 231) (tgt := 271) hC dsw_code_40 (by decide +kernel) (by decide +kernel) (by decide +kernel) (by decide +kernel) ?_
      exact lw_c3 hlt hC hKm hX hN S v M i _ lab h2
    clear h; have h := h2; clear h2
    rcases dc_ite h with ⟨hk4, h2⟩ | ⟨hk4, h2⟩
    · subst hk4
      refine hg_tabIn (pc := 40) (off := 268) (tgt := 308) hC dsw_code_40 (by decide +kernel) (by decide +kernel) (by decide +kernel) (by decide +kernel) ?_
      exact lw_c4 hlt hC hKm hX hN S v M i _ lab h2
    clear h; have h := h2; clear h2
    rcases dc_ite h with ⟨hk5, h2⟩ | ⟨hk5, h2⟩
    · subst hk5
      refine hg_tabIn (pc := 40) (off := 305) (tgt := 345) hC dsw_code_40 (by decide +kernel) (by decide +kernel) (by decide +kernel) (by decide +kernel) ?_
      exact lw_c5 hlt hC hKm hX hN S v M i _ lab h2
    clear h; have h := h2; clear h2
    rcases dc_ite h with ⟨hk6, h2⟩ | ⟨hk6, h2⟩
    · subst hk6
      refine hg_tabIn (pc := 40) (off := 342) (tgt := 382) hC dsw_code_40 (by decide +kernel) (by decide +kernel) (by decide +kernel) (by decide +kernel) ?_
      exact lw_c6 hlt hC hKm hX hN S v M i _ lab h2
    clear h; have h := h2; clear h2
    rcases dc_ite h with ⟨hk7, h2⟩ | ⟨hk7, h2⟩
    · subst hk7
      refine hg_tabIn (pc := 40) (off := 386) (tgt := 426) hC dsw_code_40 (by decide +kernel) (by decide +kernel) (by decide +kernel) (by decide +kernel) ?_
      exact lw_c7 hlt hC hKm hX hN S v M i _ lab h2
    clear h; have h := h2; clear h2
    rcases dc_ite h with ⟨hk8, h2⟩ | ⟨hk8, h2⟩
    · subst hk8
      refine hg_tabIn (pc := 40) (off := 442) (tgt := 482) hC dsw_code_40 (by decide +kernel) (by decide +kernel) (by decide +kernel) (by decide +kernel) ?_
      exact lw_c8 hlt hC hKm hX hN S v M i _ lab h2
    clear h; have h := h2; clear h2
    rcases dc_ite h with ⟨hk9, h2⟩ | ⟨hk9, h2⟩
    · subst hk9
      refine hg_tabIn (pc := 40) (off := 467) (tgt := 507) hC dsw_code_40 (by decide +kernel) (by decide +kernel) (by decide +kernel) (by decide +kernel) ?_
      exact lw_c9 hlt hC hKm hX hN S v M i _ lab h2
    clear h; have h := h2; clear h2
    rcases dc_ite h with ⟨hk10, h2⟩ | ⟨hk10, h2⟩
    · subst hk10
      refine hg_tabIn (pc := 40) (off := 492) (tgt := 532) hC dsw_code_40 (by decide +kernel) (by decide +kernel) (by decide +kernel) (by decide +kernel) ?_
      exact lw_c10 hlt hC hKm hX hN S v M i _ lab h2
    clear h; have h := h2; clear h2
    rcases dc_ite h with ⟨hk11, h2⟩ | ⟨hk11, h2⟩
    · subst hk11
      refine hg_tabIn (pc := 40) (off := 528) (tgt := 568) hC dsw_code_40 (by decide +kernel) (by decide +kernel) (by decide +kernel) (by decide +kernel) ?_
      exact lw_c11 hlt hC hKm hX hN S v M i _ lab h2
    clear h; have h := h2; clear h2
    rcases dc_ite h with ⟨hk12, h2⟩ | ⟨hk12, h2⟩
    · subst hk12
      refine hg_tabIn (pc := 40) (off := 572) (tgt := 612) hC dsw_code_40 (by decide +kernel) (by decide +kernel) (by decide +kernel) (by decide +kernel) ?_
      exact lw_c12 hlt hC hKm hX hN S v M i _ lab h2
    clear h; have h := h2; clear h2
    rcases dc_ite h with ⟨hk13, h2⟩ | ⟨hk13, h2⟩
    · subst hk13
      refine hg_tabIn (pc := 40) (off := 597) (tgt := 637) hC dsw_code_40 (by decide +kernel) (by decide +kernel) (by decide +kernel) (by decide +kernel) ?_
      exact lw_c13 hlt hC hKm hX hN S v M i _ lab h2
    clear h; have h := h2; clear h2
    rcases dc_ite h with ⟨hk14, h2⟩ | ⟨hk14, h2⟩
    · subst hk14
      refine hg_tabIn (pc := 40) (off := 634) (tgt := 674) hC dsw_code_40 (by decide +kernel) (by decide +kernel) (by decide +kernel) (by decide +kernel) ?_
      exact lw_c14 hlt hC hKm hX hN S v M i _ lab h2
    clear h; have h := h2; clear h2
    rcases dc_ite h with ⟨hk15, h2⟩ | ⟨hk15, h2⟩
    · subst hk15
      refine hg_tabIn (pc := 40) (off := 702) (tgt := 742) hC dsw_code_40 (by decide +kernel) (by decide +kernel) (by decide +kernel) (by decide +kernel) ?_
      exact lw_c15 hlt hC hKm hX hN S v M i _ lab h2
    clear h; have h := h2; clear h2
    rcases dc_ite h with ⟨hk16, h2⟩ | ⟨hk16, h2⟩
    · subst hk16
      refine hg_tabIn (pc := 40) (off := 770) (tgt := 810) hC dsw_code_40 (by decide +kernel) (by decide +kernel) (by decide +kernel) (by decide +kernel) ?_
      exact lw_c16 hlt hC hKm hX hN S v M i _ lab h2
    clear h; have h := h2; clear h2
    rcases dc_ite h with ⟨hk17, h2⟩ | ⟨hk17, h2⟩
    · subst hk17
      refine hg_tabIn (pc := 40) (off := 795) (tgt := 835) hC dsw_code_40 (by decide +kernel) (by decide +kernel) (by decide +kernel) (by decide +kernel) ?_
      exact lw_c17 hlt hC hKm hX hN S v M i _ lab h2
    clear h; have h := h2; clear h2
    rcases dc_ite h with ⟨hk18, h2⟩ | ⟨hk18, h2⟩
    · subst hk18
      refine hg_tabIn (pc := 40) (off := 820) (tgt := 860) hC dsw_code_40 (by decide +kernel) (by decide +kernel) (by decide +kernel) (by decide +kernel) ?_
      exact lw_c18 hlt hC hKm hX hN S v M i _ lab h2
    clear h; have h := h2; clear h2
    rcases dc_ite h with ⟨hk19, h2⟩ | ⟨hk19, h2⟩
    · subst hk19
      refine hg_tabIn (pc := 40) (off := 857) (tgt := 897) hC dsw_code_40 (by decide +kernel) (by decide +kernel) (by decide +kernel) (by decide +kernel) ?_
      exact lw_c19 hlt hC hKm hX hN S v M i _ lab h2
    clear h; have h := h2; clear h2
    rcases dc_ite h with ⟨hk20, h2⟩ | ⟨hk20, h2⟩
    · subst hk20
      refine hg_tabIn (pc := 40) (off := 901) (tgt := 941) hC dsw_code_40 (by decide +kernel) (by decide +kernel) (by decide +kernel) (by decide +kernel) ?_
      exact lw_c20 hlt hC hKm hX hN S v M i _ lab h2
    clear h; have h := h2; clear h2
    rcases dc_ite h with ⟨hk21, h2⟩ | ⟨hk21, h2⟩
    · subst hk21
      refine hg_tabIn (pc := 40) (off := 926) (tgt := 966) hC dsw_code_40 (by decide +kernel) (by decide +kernel) (by decide +kernel) (by decide +kernel) ?_
      exact lw_c21 hlt hC hKm hX hN S v M i _ lab h2
    clear h; have h := h2; clear h2
    rcases dc_ite h with ⟨hk22, h2⟩ | ⟨hk22, h2⟩
    · subst hk22
      refine hg_tabIn (pc := 40) (off := 970) (tgt := 1010) hC dsw_code_40 (by decide +kernel) (by decide +kernel) (by decide +kernel) (by decide +kernel) ?_
      exact lw_c22 hlt hC hKm hX hN S v M i _ lab h2
    clear h; have h := h2; clear h2
    rcases dc_ite h with ⟨hk23, h2⟩ | ⟨hk23, h2⟩
    · subst hk23
      refine hg_tabIn (pc := 40) (off := 1025) (tgt := 1065) hC dsw_code_40 (by decide +kernel) (by decide +kernel) (by decide +kernel) (by decide +kernel) ?_
      exact lw_c23 hlt hC hKm hX hN S v M i _ lab h2
    clear h; have h := h2; clear h2
    rcases dc_ite h with ⟨hk24, h2⟩ | ⟨hk24, h2⟩
    · subst hk24
      refine hg_tabIn (pc := 40) (off := 1050) (tgt := 1090) hC dsw_code_40 (by decide +kernel) (by decide +kernel) (by decide +kernel) (by decide +kernel) ?_
      exact lw_c24 hlt hC hKm hX hN S v M i _ lab h2
    clear h; have h := h2; clear h2
    rcases dc_ite h with ⟨hk25, h2⟩ | ⟨hk25, h2⟩
    · subst hk25
      refine hg_tabIn (pc := 40) (off := 1075) (tgt := 1115) hC dsw_code_40 (by decide +kernel) (by decide +kernel) (by decide +kernel) (by decide +kernel) ?_
      exact lw_c25 hlt hC hKm hX hN S v M i _ lab h2
    clear h; have h := h2; clear h2
    refine hg_tabOut (pc := 40) (tgt := 1140) hC dsw_code_40 (by have := dc_swc hk0 (show (0 : Int32).toInt = 0 by decide +kernel); have := dc_swc hk1 (show (1 : Int32).toInt = 1 by decide +kernel); have := dc_swc hk2 (show (2 : Int32).toInt = 2 by decide +kernel); have := dc_swc hk3 (show (3 : Int32).toInt = 3 by decide +kernel); have := dc_swc hk4 (show (4 : Int32).toInt = 4 by decide +kernel); have := dc_swc hk5 (show (5 : Int32).toInt = 5 by decide +kernel); have := dc_swc hk6 (show (6 : Int32).toInt = 6 by decide +kernel); have := dc_swc hk7 (show (7 : Int32).toInt = 7 by decide +kernel); have := dc_swc hk8 (show (8 : Int32).toInt = 8 by decide +kernel); have := dc_swc hk9 (show (9 : Int32).toInt = 9 by decide +kernel); have := dc_swc hk10 (show (10 : Int32).toInt = 10 by decide +kernel); have := dc_swc hk11 (show (11 : Int32).toInt = 11 by decide +kernel); have := dc_swc hk12 (show (12 : Int32).toInt = 12 by decide +kernel); have := dc_swc hk13 (show (13 : Int32).toInt = 13 by decide +kernel); have := dc_swc hk14 (show (14 : Int32).toInt = 14 by decide +kernel); have := dc_swc hk15 (show (15 : Int32).toInt = 15 by decide +kernel); have := dc_swc hk16 (show (16 : Int32).toInt = 16 by decide +kernel); have := dc_swc hk17 (show (17 : Int32).toInt = 17 by decide +kernel); have := dc_swc hk18 (show (18 : Int32).toInt = 18 by decide +kernel); have := dc_swc hk19 (show (19 : Int32).toInt = 19 by decide +kernel); have := dc_swc hk20 (show (20 : Int32).toInt = 20 by decide +kernel); have := dc_swc hk21 (show (21 : Int32).toInt = 21 by decide +kernel); have := dc_swc hk22 (show (22 : Int32).toInt = 22 by decide +kernel); have := dc_swc hk23 (show (23 : Int32).toInt = 23 by decide +kernel); have := dc_swc hk24 (show (24 : Int32).toInt = 24 by decide +kernel); have := dc_swc hk25 (show (25 : Int32).toInt = 25 by decide +kernel); omega) (by decide +kernel) ?_
    exact lab (S, v, M) (dc_some (q := (S, v, M)) (F := fun z => dc_wp (some (.inl (z.1, z.2.1, z.2.2, i + 6))) Fc) h)
