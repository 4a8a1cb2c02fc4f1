noncomputable def hm_AT_noteDoubt_L72 (G : hg_E) (S : hg_S) (o : Nat) : Option (hg_S) :=
  some S
noncomputable def hm_AT_noteDoubt_L57 (G : hg_E) (S : hg_S) (o : Nat) (x1 : Int32) (x2 : Int32) (y0 : Int32) : Option (hg_S) :=
  if y0 = 0 then (hm_AT_noteDoubt_L72 G S o) else ((hg_pf S (some o) 11 13 (.int x1)).bind fun S1 => (hg_pf S1 (some o) 11 14 (.int x2)).bind fun S2 => hm_AT_noteDoubt_L72 G S2 o)
noncomputable def hm_AT_noteDoubt_L56 (G : hg_E) (S : hg_S) (o : Nat) (x1 : Int32) (x2 : Int32) : Option (hg_S) :=
  hm_AT_noteDoubt_L57 G S o x1 x2 0
noncomputable def hm_AT_noteDoubt_L52 (G : hg_E) (S : hg_S) (o : Nat) (x1 : Int32) (x2 : Int32) : Option (hg_S) :=
  hm_AT_noteDoubt_L57 G S o x1 x2 1
noncomputable def hm_AT_noteDoubt (G : hg_E) (S : hg_S) (o : Nat) (p1 : Int32) (p2 : Int32) : Option (hg_S) :=
  (hg_gi S (some o) 11 13).bind fun e3 => if e3 = (-1) then (hm_AT_noteDoubt_L52 G S o p1 p2) else ((hg_gr S (some o) 11 2).bind fun e4 => (hg_ld S e4 (G.1 0) p1).bind fun e5 => (hg_gr S (some o) 11 2).bind fun e6 => (hg_gi S (some o) 11 13).bind fun e7 => (hg_ld S e6 (G.1 0) e7).bind fun e8 => if e5 < e8 then (hm_AT_noteDoubt_L52 G S o p1 p2) else ((hg_gr S (some o) 11 2).bind fun e9 => (hg_ld S e9 (G.1 0) p1).bind fun e10 => (hg_gr S (some o) 11 2).bind fun e11 => (hg_gi S (some o) 11 13).bind fun e12 => (hg_ld S e11 (G.1 0) e12).bind fun e13 => if e10 = e13 then ((hg_gi S (some o) 11 13).bind fun e14 => if p1 < e14 then (hm_AT_noteDoubt_L52 G S o p1 p2) else (hm_AT_noteDoubt_L56 G S o p1 p2)) else (hm_AT_noteDoubt_L56 G S o p1 p2)))
set_option maxHeartbeats 4000000 in
set_option maxRecDepth 100000 in
/-- SignalEngine$Atlas.noteDoubt(II)V -/
theorem hm_AT_noteDoubt_ok (l : Launch) (D : va_G) (G : hg_E) (Z : hg_S) (o : Nat) (p1 : Int32) (p2 : Int32) (q : hg_S) (hq : hm_AT_noteDoubt G Z o p1 p2 = some q) : hg_C l ⟨"SignalEngine$Atlas", "noteDoubt", "(II)V"⟩ prog_3_method_9_code 4 none 0 0 D G [.ref o, .int p1, .int p2] Z (.inl (none, q) : hg_O) := by
  refine hg_start (cv := fun q => (.inl (none, q) : hg_O)) hq ?_
  intro F hF h
  refine hg_enter (lv := [(0, va_rf (some o)), (1, .int p1), (2, .int p2)]) (by decide +kernel) (by simp [lg_sl, va_rf_cat, hg_cti, hg_ctr]) (by simp [lv_args, va_rf_cat, va_rf_some, hg_cti, hg_ctr]) ?_
  intro X hC hR
  have lab_72 : ∀ (S : hg_S), dc_wp (hm_AT_noteDoubt_L72 G S o) F → hg_G X l (hg_rm 0 0 Z) D 4 S 72 [(0, va_rf (some o))] [] := by
    intro S  h
    delta hm_AT_noteDoubt_L72 at h
    exact hg_vret (pc := 72) hC hR (hF _ (dc_some h)) (show decode prog_3_method_9_code 72 = .ok (.return_, 1) by decide +kernel)
  have lab_57 : ∀ (S : hg_S) (x1 : Int32) (x2 : Int32) (y0 : Int32), dc_wp (hm_AT_noteDoubt_L57 G S o x1 x2 y0) F → hg_G X l (hg_rm 0 0 Z) D 4 S 57 [(0, va_rf (some o)), (1, .int x1), (2, .int x2)] [.int y0] := by
    intro S x1 x2 y0 h
    delta hm_AT_noteDoubt_L57 at h
    refine hg_istoren (pc := 57) (j := 3) (i := 3) (lv' := [(3, .int y0), (0, va_rf (some o)), (1, .int x1), (2, .int x2)]) hC rfl (Nat.le_of_ble_eq_true rfl) rfl (show decode prog_3_method_9_code 57 = .ok (.istore_n 3, 1) by decide +kernel) ?_
    refine hg_iloadn (pc := 58) (j := 3) (i := 3) hC 0 rfl rfl (show decode prog_3_method_9_code 58 = .ok (.iload_n 3, 1) by decide +kernel) ?_
    refine hg_if_eq (pc := 59) (tgt := 72) hC (show decode prog_3_method_9_code 59 = .ok (.ifCond .eq 13, 3) by decide +kernel) (by decide +kernel) h ?_ ?_
    · intro h
      exact hg_sub [1] rfl (lab_72 S h)
    · intro h
      refine hg_aloadn (pc := 62) (j := 0) (i := 0) (r := (some o)) hC 1 rfl rfl (show decode prog_3_method_9_code 62 = .ok (.aload_n 0, 1) by decide +kernel) ?_
      refine hg_iloadn (pc := 63) (j := 1) (i := 1) hC 2 rfl rfl (show decode prog_3_method_9_code 63 = .ok (.iload_n 1, 1) by decide +kernel) ?_
      refine hg_rput (pc := 64) (r := (some o)) (v := .int x1) hC fp_SignalEngine_Atlas_67 rfl rfl (show decode prog_3_method_9_code 64 = .ok (.putfield 67, 3) by decide +kernel) h ?_
      intro S1 h
      refine hg_aloadn (pc := 67) (j := 0) (i := 0) (r := (some o)) hC 1 rfl rfl (show decode prog_3_method_9_code 67 = .ok (.aload_n 0, 1) by decide +kernel) ?_
      refine hg_iloadn (pc := 68) (j := 2) (i := 2) hC 3 rfl rfl (show decode prog_3_method_9_code 68 = .ok (.iload_n 2, 1) by decide +kernel) ?_
      refine hg_rput (pc := 69) (r := (some o)) (v := .int x2) hC fp_SignalEngine_Atlas_109 rfl rfl (show decode prog_3_method_9_code 69 = .ok (.putfield 109, 3) by decide +kernel) h ?_
      intro S2 h
      exact hg_sub [1] rfl (lab_72 S2 h)
  have lab_56 : ∀ (S : hg_S) (x1 : Int32) (x2 : Int32), dc_wp (hm_AT_noteDoubt_L56 G S o x1 x2) F → hg_G X l (hg_rm 0 0 Z) D 4 S 56 [(0, va_rf (some o)), (1, .int x1), (2, .int x2)] [] := by
    intro S x1 x2 h
    delta hm_AT_noteDoubt_L56 at h
    refine hg_iconst (pc := 56) (v := 0) hC (show decode prog_3_method_9_code 56 = .ok (.iconst 0, 1) by decide +kernel) (by decide +kernel) ?_
    exact lab_57 S x1 x2 0 h
  have lab_52 : ∀ (S : hg_S) (x1 : Int32) (x2 : Int32), dc_wp (hm_AT_noteDoubt_L52 G S o x1 x2) F → hg_G X l (hg_rm 0 0 Z) D 4 S 52 [(0, va_rf (some o)), (1, .int x1), (2, .int x2)] [] := by
    intro S x1 x2 h
    delta hm_AT_noteDoubt_L52 at h
    refine hg_iconst (pc := 52) (v := 1) hC (show decode prog_3_method_9_code 52 = .ok (.iconst 1, 1) by decide +kernel) (by decide +kernel) ?_
    refine hg_goto (pc := 53) (tgt := 57) hC (show decode prog_3_method_9_code 53 = .ok (.goto 4, 3) by decide +kernel) (by decide +kernel) ?_
    exact lab_57 S x1 x2 1 h
  show hg_G X l (hg_rm 0 0 Z) D 4 Z 0 [(0, va_rf (some o)), (1, .int p1), (2, .int p2)] []
  have h : dc_wp (hm_AT_noteDoubt G Z o p1 p2) F := h
  delta hm_AT_noteDoubt at h
  refine hg_aloadn (pc := 0) (j := 0) (i := 0) (r := (some o)) hC 0 rfl rfl (show decode prog_3_method_9_code 0 = .ok (.aload_n 0, 1) by decide +kernel) ?_
  refine hg_rgi (pc := 1) (r := (some o)) hC fl_SignalEngine_Atlas_67 (show decode prog_3_method_9_code 1 = .ok (.getfield 67, 3) by decide +kernel) h ?_
  intro e3 h
  refine hg_iconst (pc := 4) (v := (-1)) hC (show decode prog_3_method_9_code 4 = .ok (.iconst (-1), 1) by decide +kernel) (by decide +kernel) ?_
  refine hg_icmp_eq (pc := 5) (tgt := 52) hC (show decode prog_3_method_9_code 5 = .ok (.if_icmp .eq 47, 3) by decide +kernel) (by decide +kernel) h ?_ ?_
  · intro h
    exact lab_52 Z p1 p2 h
  · intro h
    refine hg_aloadn (pc := 8) (j := 0) (i := 0) (r := (some o)) hC 0 rfl rfl (show decode prog_3_method_9_code 8 = .ok (.aload_n 0, 1) by decide +kernel) ?_
    refine hg_rgr (pc := 9) (r := (some o)) hC fl_SignalEngine_Atlas_18 (show decode prog_3_method_9_code 9 = .ok (.getfield 18, 3) by decide +kernel) h ?_
    intro e4 h
    refine hg_iloadn (pc := 12) (j := 1) (i := 1) hC 1 rfl rfl (show decode prog_3_method_9_code 12 = .ok (.iload_n 1, 1) by decide +kernel) ?_
    refine hg_riald (pc := 13) (r := e4) hC (show decode prog_3_method_9_code 13 = .ok (.iaload, 1) by decide +kernel) h ?_
    intro e5 h
    refine hg_aloadn (pc := 14) (j := 0) (i := 0) (r := (some o)) hC 0 rfl rfl (show decode prog_3_method_9_code 14 = .ok (.aload_n 0, 1) by decide +kernel) ?_
    refine hg_rgr (pc := 15) (r := (some o)) hC fl_SignalEngine_Atlas_18 (show decode prog_3_method_9_code 15 = .ok (.getfield 18, 3) by decide +kernel) h ?_
    intro e6 h
    refine hg_aloadn (pc := 18) (j := 0) (i := 0) (r := (some o)) hC 0 rfl rfl (show decode prog_3_method_9_code 18 = .ok (.aload_n 0, 1) by decide +kernel) ?_
    refine hg_rgi (pc := 19) (r := (some o)) hC fl_SignalEngine_Atlas_67 (show decode prog_3_method_9_code 19 = .ok (.getfield 67, 3) by decide +kernel) h ?_
    intro e7 h
    refine hg_riald (pc := 22) (r := e6) hC (show decode prog_3_method_9_code 22 = .ok (.iaload, 1) by decide +kernel) h ?_
    intro e8 h
    refine hg_icmp_lt (pc := 23) (tgt := 52) hC (show decode prog_3_method_9_code 23 = .ok (.if_icmp .lt 29, 3) by decide +kernel) (by decide +kernel) h ?_ ?_
    · intro h
      exact lab_52 Z p1 p2 h
    · intro h
      refine hg_aloadn (pc := 26) (j := 0) (i := 0) (r := (some o)) hC 0 rfl rfl (show decode prog_3_method_9_code 26 = .ok (.aload_n 0, 1) by decide +kernel) ?_
      refine hg_rgr (pc := 27) (r := (some o)) hC fl_SignalEngine_Atlas_18 (show decode prog_3_method_9_code 27 = .ok (.getfield 18, 3) by decide +kernel) h ?_
      intro e9 h
      refine hg_iloadn (pc := 30) (j := 1) (i := 1) hC 1 rfl rfl (show decode prog_3_method_9_code 30 = .ok (.iload_n 1, 1) by decide +kernel) ?_
      refine hg_riald (pc := 31) (r := e9) hC (show decode prog_3_method_9_code 31 = .ok (.iaload, 1) by decide +kernel) h ?_
      intro e10 h
      refine hg_aloadn (pc := 32) (j := 0) (i := 0) (r := (some o)) hC 0 rfl rfl (show decode prog_3_method_9_code 32 = .ok (.aload_n 0, 1) by decide +kernel) ?_
      refine hg_rgr (pc := 33) (r := (some o)) hC fl_SignalEngine_Atlas_18 (show decode prog_3_method_9_code 33 = .ok (.getfield 18, 3) by decide +kernel) h ?_
      intro e11 h
      refine hg_aloadn (pc := 36) (j := 0) (i := 0) (r := (some o)) hC 0 rfl rfl (show decode prog_3_method_9_code 36 = .ok (.aload_n 0, 1) by decide +kernel) ?_
      refine hg_rgi (pc := 37) (r := (some o)) hC fl_SignalEngine_Atlas_67 (show decode prog_3_method_9_code 37 = .ok (.getfield 67, 3) by decide +kernel) h ?_
      intro e12 h
      refine hg_riald (pc := 40) (r := e11) hC (show decode prog_3_method_9_code 40 = .ok (.iaload, 1) by decide +kernel) h ?_
      intro e13 h
      refine hg_icmp_ne (pc := 41) (tgt := 56) hC (show decode prog_3_method_9_code 41 = .ok (.if_icmp .ne 15, 3) by decide +kernel) (by decide +kernel) h ?_ ?_
      · intro h
        refine hg_iloadn (pc := 44) (j := 1) (i := 1) hC 1 rfl rfl (show decode prog_3_method_9_code 44 = .ok (.iload_n 1, 1) by decide +kernel) ?_
        refine hg_aloadn (pc := 45) (j := 0) (i := 0) (r := (some o)) hC 0 rfl rfl (show decode prog_3_method_9_code 45 = .ok (.aload_n 0, 1) by decide +kernel) ?_
        refine hg_rgi (pc := 46) (r := (some o)) hC fl_SignalEngine_Atlas_67 (show decode prog_3_method_9_code 46 = .ok (.getfield 67, 3) by decide +kernel) h ?_
        intro e14 h
        refine hg_icmp_ge (pc := 49) (tgt := 56) hC (show decode prog_3_method_9_code 49 = .ok (.if_icmp .ge 7, 3) by decide +kernel) (by decide +kernel) h ?_ ?_
        · intro h
          exact lab_52 Z p1 p2 h
        · intro h
          exact lab_56 Z p1 p2 h
      · intro h
        exact lab_56 Z p1 p2 h
noncomputable def hm_AT_tryAll_L182 (G : hg_E) (S : hg_S) (o : Nat) : Option (hg_S) :=
  some S
noncomputable def hm_AT_tryAll_L158 (G : hg_E) (S : hg_S) (o : Nat) (x5 : Int32) : Option (hg_S) :=
  (hg_gi S (some o) 11 10).bind fun e1 => (hg_gi S (some o) 11 8).bind fun e2 => if (e1 - x5) = e2 then ((hg_gi S (some o) 11 11).bind fun e3 => (hg_pf S (some o) 11 11 (.int (e3 + 1))).bind fun S4 => hm_AT_tryAll_L182 G S4 o) else (hm_AT_tryAll_L182 G S o)
noncomputable def hm_AT_tryAll_L152 (G : hg_E) (S : hg_S) (o : Nat) (x1 : Int32) (x2 : Option Nat) (x3 : Option Nat) (x4 : Option Nat) (x5 : Int32) (x6 : Int32) : Option ((hg_S × Int32) ⊕ ((hg_S))) :=
  some (.inl (S, (x6 + 1)))
noncomputable def hm_AT_tryAll_L116 (G : hg_E) (S : hg_S) (o : Nat) (x1 : Int32) (x2 : Option Nat) (x3 : Option Nat) (x4 : Option Nat) (x5 : Int32) (x6 : Int32) (x7 : Int32) : Option ((hg_S × Int32) ⊕ ((hg_S))) :=
  (hg_gr S (some o) 11 0).bind fun e5 => (hm_AT_cell G S x1 x6).bind fun q6 => (hg_ld S e5 (G.1 0) q6).bind fun e7 => if x7 = 0 then ((hg_chk S (some o) 11).bind fun b8 => (hm_AT_reaches G S b8 e7).bind fun q11 => if q11 = 0 then ((hg_chk S (some o) 11).bind fun b12 => (hm_AT_meet G S b12 e7 x1 x6).bind fun q15 => hm_AT_tryAll_L152 G q15 o x1 x2 x3 x4 x5 x6) else (hm_AT_tryAll_L152 G S o x1 x2 x3 x4 x5 x6)) else (hm_AT_tryAll_L152 G S o x1 x2 x3 x4 x5 x6)
noncomputable def hm_AT_tryAll_L69 (G : hg_E) (S : hg_S) (o : Nat) (x1 : Int32) (x2 : Option Nat) (x3 : Option Nat) (x4 : Option Nat) (x5 : Int32) (x6 : Int32) (y0 : Int32) (y1 : Int32) (y2 : Option Nat) : Option ((hg_S × Int32) ⊕ ((hg_S))) :=
  (hg_chk S y2 10).bind fun b16 => (hm_RE_react G S b16 y1 y0 x4).bind fun q19 => (hm_AT_cell G q19.1 x1 x6).bind fun q20 => (hg_chk q19.1 (some o) 11).bind fun b21 => (hm_AT_note G q19.1 b21 q20 q19.2 x2 x3).bind fun q24 => if q19.2 = 2 then ((hg_chk q24 (some o) 11).bind fun b25 => (hm_AT_noteDoubt G q24 b25 x1 x6).bind fun q28 => hm_AT_tryAll_L116 G q28 o x1 x2 x3 x4 x5 x6 q19.2) else ((hg_gi q24 (some o) 11 10).bind fun e29 => (hg_pf q24 (some o) 11 10 (.int (e29 + 1))).bind fun S30 => hm_AT_tryAll_L116 G S30 o x1 x2 x3 x4 x5 x6 q19.2)
noncomputable def hm_AT_tryAll_b45 (G : hg_E) (S : hg_S) (o : Nat) (x1 : Int32) (x2 : Option Nat) (x3 : Option Nat) (x4 : Option Nat) (x5 : Int32) (x6 : Int32) : Option ((hg_S × Int32) ⊕ ((hg_S))) :=
  (hg_gi S (some o) 11 8).bind fun e31 => if x6 < e31 then (if x1 = 256 then (hm_AT_tryAll_L69 G S o x1 x2 x3 x4 x5 x6 0 x6 x3) else (hm_AT_tryAll_L69 G S o x1 x2 x3 x4 x5 x6 1 x6 x3)) else (some (.inr S))
noncomputable def hm_AT_tryAll_s45 (G : hg_E) (o : Nat) (x1 : Int32) (x2 : Option Nat) (x3 : Option Nat) (x4 : Option Nat) (x5 : Int32) (q : hg_S × Int32) : Option ((hg_S × Int32) ⊕ ((hg_S))) :=
  hm_AT_tryAll_b45 G q.1 o x1 x2 x3 x4 x5 q.2
noncomputable def hm_AT_tryAll_L45 (G : hg_E) (S : hg_S) (o : Nat) (x1 : Int32) (x2 : Option Nat) (x3 : Option Nat) (x4 : Option Nat) (x5 : Int32) (x6 : Int32) : Option (hg_S) :=
  (dc_it (hm_AT_tryAll_s45 G o x1 x2 x3 x4 x5) (S, x6)).bind (fun (z : hg_S) => hm_AT_tryAll_L158 G z o x5)
noncomputable def hm_AT_tryAll_L36 (G : hg_E) (S : hg_S) (o : Nat) (x1 : Int32) (x2 : Option Nat) (x3 : Option Nat) (x4 : Option Nat) : Option (hg_S) :=
  (hg_gi S (some o) 11 10).bind fun e32 => hm_AT_tryAll_L45 G S o x1 x2 x3 x4 e32 0
noncomputable def hm_AT_tryAll_L29 (G : hg_E) (S : hg_S) (o : Nat) (x1 : Int32) (x2 : Option Nat) (x3 : Option Nat) (x4 : Option Nat) (x5 : Int32) (y0 : Int32) (y1 : Int32) (y2 : Option Nat) : Option ((hg_S × Int32) ⊕ ((hg_S))) :=
  (dc_zb y0).bind fun _ => (hg_st S y2 (G.1 2) y1 y0).bind fun S34 => some (.inl (S34, (x5 + 1)))
noncomputable def hm_AT_tryAll_b3 (G : hg_E) (S : hg_S) (o : Nat) (x1 : Int32) (x2 : Option Nat) (x3 : Option Nat) (x4 : Option Nat) (x5 : Int32) : Option ((hg_S × Int32) ⊕ ((hg_S))) :=
  (hg_ln S x4 (G.1 2)).bind fun e35 => if x5 < e35 then (if ((((Int32.toUInt32 x1 >>> (Int32.toUInt32 x5 &&& Int32.toUInt32 31)).toInt32)) &&& 1) = 0 then (hm_AT_tryAll_L29 G S o x1 x2 x3 x4 x5 0 x5 x4) else (hm_AT_tryAll_L29 G S o x1 x2 x3 x4 x5 1 x5 x4)) else (some (.inr S))
noncomputable def hm_AT_tryAll_s3 (G : hg_E) (o : Nat) (x1 : Int32) (x2 : Option Nat) (x3 : Option Nat) (x4 : Option Nat) (q : hg_S × Int32) : Option ((hg_S × Int32) ⊕ ((hg_S))) :=
  hm_AT_tryAll_b3 G q.1 o x1 x2 x3 x4 q.2
noncomputable def hm_AT_tryAll_L3 (G : hg_E) (S : hg_S) (o : Nat) (x1 : Int32) (x2 : Option Nat) (x3 : Option Nat) (x4 : Option Nat) (x5 : Int32) : Option (hg_S) :=
  (dc_it (hm_AT_tryAll_s3 G o x1 x2 x3 x4) (S, x5)).bind (fun (z : hg_S) => hm_AT_tryAll_L36 G z o x1 x2 x3 x4)
noncomputable def hm_AT_tryAll (G : hg_E) (S : hg_S) (o : Nat) (p1 : Int32) (p2 : Option Nat) (p3 : Option Nat) (p4 : Option Nat) : Option (hg_S) :=
  hm_AT_tryAll_L3 G S o p1 p2 p3 p4 0
set_option maxHeartbeats 4000000 in
set_option maxRecDepth 100000 in
/-- SignalEngine$Atlas.tryAll(ILSignalEngine$Program;LSignalEngine$Reactor;[Z)V -/
theorem hm_AT_tryAll_ok (l : Launch) (D : va_G) (G : hg_E) (Z : hg_S) (o : Nat) (p1 : Int32) (p2 : Option Nat) (p3 : Option Nat) (p4 : Option Nat) (q : hg_S) (hq : hm_AT_tryAll G Z o p1 p2 p3 p4 = some q) : hg_C l ⟨"SignalEngine$Atlas", "tryAll", "(ILSignalEngine$Program;LSignalEngine$Reactor;[Z)V"⟩ prog_3_method_7_code 9 none 6 136 D G [.ref o, .int p1, va_rf p2, va_rf p3, va_rf p4] Z (.inl (none, q) : hg_O) := by
  refine hg_start (cv := fun q => (.inl (none, q) : hg_O)) hq ?_
  intro F hF h
  refine hg_enter (lv := [(0, va_rf (some o)), (1, .int p1), (2, va_rf p2), (3, va_rf p3), (4, va_rf p4)]) (by decide +kernel) (by simp [lg_sl, va_rf_cat, hg_cti, hg_ctr]) (by simp [lv_args, va_rf_cat, va_rf_some, hg_cti, hg_ctr]) ?_
  intro X hC hR
  have lab_182 : ∀ (S : hg_S), dc_wp (hm_AT_tryAll_L182 G S o) F → hg_G X l (hg_rm 6 136 Z) D 9 S 182 [(0, va_rf (some o))] [] := by
    intro S  h
    delta hm_AT_tryAll_L182 at h
    exact hg_vret (pc := 182) hC hR (hF _ (dc_some h)) (show decode prog_3_method_7_code 182 = .ok (.return_, 1) by decide +kernel)
  have lab_158 : ∀ (S : hg_S) (x5 : Int32), dc_wp (hm_AT_tryAll_L158 G S o x5) F → hg_G X l (hg_rm 6 136 Z) D 9 S 158 [(0, va_rf (some o)), (5, .int x5)] [] := by
    intro S x5 h
    delta hm_AT_tryAll_L158 at h
    refine hg_aloadn (pc := 158) (j := 0) (i := 0) (r := (some o)) hC 0 rfl rfl (show decode prog_3_method_7_code 158 = .ok (.aload_n 0, 1) by decide +kernel) ?_
    refine hg_rgi (pc := 159) (r := (some o)) hC fl_SignalEngine_Atlas_61 (show decode prog_3_method_7_code 159 = .ok (.getfield 61, 3) by decide +kernel) h ?_
    intro e1 h
    refine hg_iload (pc := 162) (i := 5) hC 1 rfl (show decode prog_3_method_7_code 162 = .ok (.iload 5, 2) by decide +kernel) ?_
    refine hg_isub (pc := 164) hC (show decode prog_3_method_7_code 164 = .ok (.isub, 1) by decide +kernel) ?_
    refine hg_aloadn (pc := 165) (j := 0) (i := 0) (r := (some o)) hC 0 rfl rfl (show decode prog_3_method_7_code 165 = .ok (.aload_n 0, 1) by decide +kernel) ?_
    refine hg_rgi (pc := 166) (r := (some o)) hC fl_SignalEngine_Atlas_40 (show decode prog_3_method_7_code 166 = .ok (.getfield 40, 3) by decide +kernel) h ?_
    intro e2 h
    refine hg_icmp_ne (pc := 169) (tgt := 182) hC (show decode prog_3_method_7_code 169 = .ok (.if_icmp .ne 13, 3) by decide +kernel) (by decide +kernel) h ?_ ?_
    · intro h
      refine hg_aloadn (pc := 172) (j := 0) (i := 0) (r := (some o)) hC 0 rfl rfl (show decode prog_3_method_7_code 172 = .ok (.aload_n 0, 1) by decide +kernel) ?_
      refine hg_dup (pc := 173) hC (show decode prog_3_method_7_code 173 = .ok (.dup, 1) by decide +kernel) rfl ?_
      refine hg_rgi (pc := 174) (r := (some o)) hC fl_SignalEngine_Atlas_64 (show decode prog_3_method_7_code 174 = .ok (.getfield 64, 3) by decide +kernel) h ?_
      intro e3 h
      refine hg_iconst (pc := 177) (v := 1) hC (show decode prog_3_method_7_code 177 = .ok (.iconst 1, 1) by decide +kernel) (by decide +kernel) ?_
      refine hg_iadd (pc := 178) hC (show decode prog_3_method_7_code 178 = .ok (.iadd, 1) by decide +kernel) ?_
      refine hg_rput (pc := 179) (r := (some o)) (v := .int (e3 + 1)) hC fp_SignalEngine_Atlas_64 rfl rfl (show decode prog_3_method_7_code 179 = .ok (.putfield 64, 3) by decide +kernel) h ?_
      intro S4 h
      exact hg_sub [0] rfl (lab_182 S4 h)
    · intro h
      exact hg_sub [0] rfl (lab_182 S h)
  have loop_45 : ∀ (x1 : Int32) (x2 : Option Nat) (x3 : Option Nat) (x4 : Option Nat) (x5 : Int32) (q : hg_S × Int32), dc_wp (dc_it (hm_AT_tryAll_s45 G o x1 x2 x3 x4 x5) q) (fun z => dc_wp ((fun (z : hg_S) => hm_AT_tryAll_L158 G z o x5) z) F) → hg_G X l (hg_rm 6 136 Z) D 9 q.1 45 [(0, va_rf (some o)), (1, .int x1), (2, va_rf x2), (3, va_rf x3), (4, va_rf x4), (5, .int x5), (6, .int q.2)] [] := by
    intro x1 x2 x3 x4 x5
    refine dc_loopF ?_
    intro F_45 hl_45 hr_45
    have lab_152 : ∀ (S : hg_S) (x6 : Int32), dc_wp (hm_AT_tryAll_L152 G S o x1 x2 x3 x4 x5 x6) F_45 → hg_G X l (hg_rm 6 136 Z) D 9 S 152 [(0, va_rf (some o)), (1, .int x1), (2, va_rf x2), (3, va_rf x3), (4, va_rf x4), (5, .int x5), (6, .int x6)] [] := by
      intro S x6 h
      delta hm_AT_tryAll_L152 at h
      refine hg_iinc (pc := 152) (i := 6) (v := (x6 + 1)) (lv' := [(6, .int (x6 + 1)), (0, va_rf (some o)), (1, .int x1), (2, va_rf x2), (3, va_rf x3), (4, va_rf x4), (5, .int x5)]) hC 6 rfl rfl (Nat.le_of_ble_eq_true rfl) rfl (show decode prog_3_method_7_code 152 = .ok (.iinc 6 1, 3) by decide +kernel) ?_
      refine hg_goto (pc := 155) (tgt := 45) hC (show decode prog_3_method_7_code 155 = .ok (.goto (-110), 3) by decide +kernel) (by decide +kernel) ?_
      exact hg_sub [1, 2, 3, 4, 5, 6, 0] rfl (hl_45 (S, (x6 + 1)) (dc_some h))
    have lab_116 : ∀ (S : hg_S) (x6 : Int32) (x7 : Int32), dc_wp (hm_AT_tryAll_L116 G S o x1 x2 x3 x4 x5 x6 x7) F_45 → hg_G X l (hg_rm 6 136 Z) D 9 S 116 [(0, va_rf (some o)), (1, .int x1), (2, va_rf x2), (3, va_rf x3), (4, va_rf x4), (5, .int x5), (6, .int x6), (7, .int x7)] [] := by
      intro S x6 x7 h
      delta hm_AT_tryAll_L116 at h
      refine hg_aloadn (pc := 116) (j := 0) (i := 0) (r := (some o)) hC 0 rfl rfl (show decode prog_3_method_7_code 116 = .ok (.aload_n 0, 1) by decide +kernel) ?_
      refine hg_rgr (pc := 117) (r := (some o)) hC fl_SignalEngine_Atlas_11 (show decode prog_3_method_7_code 117 = .ok (.getfield 11, 3) by decide +kernel) h ?_
      intro e5 h
      refine hg_iloadn (pc := 120) (j := 1) (i := 1) hC 1 rfl rfl (show decode prog_3_method_7_code 120 = .ok (.iload_n 1, 1) by decide +kernel) ?_
      refine hg_iload (pc := 121) (i := 6) hC 6 rfl (show decode prog_3_method_7_code 121 = .ok (.iload 6, 2) by decide +kernel) ?_
      refine hg_kSi (pc := 123) (As := [.int x1, .int x6]) (rest := [va_rf e5]) (vo := fun q => q) (so := fun q => S) hC cw_SignalEngine_Atlas_87 (fun q hq => hm_AT_cell_ok l D G S x1 x6 q hq) (Nat.le_of_ble_eq_true rfl) (Nat.le_of_ble_eq_true rfl) rfl (by simp only [List.map, va_rf_cat]; exact Nat.le_of_ble_eq_true rfl) (show decode prog_3_method_7_code 123 = .ok (.invokestatic 87, 3) by decide +kernel) h ?_
      intro q6 h
      refine hg_riald (pc := 126) (r := e5) hC (show decode prog_3_method_7_code 126 = .ok (.iaload, 1) by decide +kernel) h ?_
      intro e7 h
      refine hg_istore (pc := 127) (i := 8) (lv' := [(8, .int e7), (0, va_rf (some o)), (1, .int x1), (2, va_rf x2), (3, va_rf x3), (4, va_rf x4), (5, .int x5), (6, .int x6), (7, .int x7)]) hC (Nat.le_of_ble_eq_true rfl) rfl (show decode prog_3_method_7_code 127 = .ok (.istore 8, 2) by decide +kernel) ?_
      refine hg_iload (pc := 129) (i := 7) hC 8 rfl (show decode prog_3_method_7_code 129 = .ok (.iload 7, 2) by decide +kernel) ?_
      refine hg_if_ne (pc := 131) (tgt := 152) hC (show decode prog_3_method_7_code 131 = .ok (.ifCond .ne 21, 3) by decide +kernel) (by decide +kernel) h ?_ ?_
      · intro h
        refine hg_aloadn (pc := 134) (j := 0) (i := 0) (r := (some o)) hC 1 rfl rfl (show decode prog_3_method_7_code 134 = .ok (.aload_n 0, 1) by decide +kernel) ?_
        refine hg_iload (pc := 135) (i := 8) hC 0 rfl (show decode prog_3_method_7_code 135 = .ok (.iload 8, 2) by decide +kernel) ?_
        obtain ⟨b8, hb9, h⟩ := dc_bind h
        obtain ⟨hb9, hv10⟩ := hg_chk_of (C := R_AT) rfl hb9
        refine hg_kVi (pc := 137) (b := b8) (r := (some o)) (As := [.int e7]) (rest := []) (vo := fun q => q) (so := fun q => S) hC cw_SignalEngine_Atlas_36 (fun q hq => hm_AT_reaches_ok l D G S b8 e7 q hq) (Nat.le_of_ble_eq_true rfl) (Nat.le_of_ble_eq_true rfl) hb9 hv10 rfl (Nat.le_of_ble_eq_true rfl) (show decode prog_3_method_7_code 137 = .ok (.invokevirtual 36, 3) by decide +kernel) h ?_
        intro q11 h
        refine hg_if_ne (pc := 140) (tgt := 152) hC (show decode prog_3_method_7_code 140 = .ok (.ifCond .ne 12, 3) by decide +kernel) (by decide +kernel) h ?_ ?_
        · intro h
          refine hg_aloadn (pc := 143) (j := 0) (i := 0) (r := (some o)) hC 1 rfl rfl (show decode prog_3_method_7_code 143 = .ok (.aload_n 0, 1) by decide +kernel) ?_
          refine hg_iload (pc := 144) (i := 8) hC 0 rfl (show decode prog_3_method_7_code 144 = .ok (.iload 8, 2) by decide +kernel) ?_
          refine hg_iloadn (pc := 146) (j := 1) (i := 1) hC 2 rfl rfl (show decode prog_3_method_7_code 146 = .ok (.iload_n 1, 1) by decide +kernel) ?_
          refine hg_iload (pc := 147) (i := 6) hC 7 rfl (show decode prog_3_method_7_code 147 = .ok (.iload 6, 2) by decide +kernel) ?_
          obtain ⟨b12, hb13, h⟩ := dc_bind h
          obtain ⟨hb13, hv14⟩ := hg_chk_of (C := R_AT) rfl hb13
          refine hg_kVv (pc := 149) (b := b12) (r := (some o)) (As := [.int e7, .int x1, .int x6]) (rest := []) (so := fun q => q) hC cw_SignalEngine_Atlas_70 (fun q hq => hm_AT_meet_ok l D G S b12 e7 x1 x6 q hq) (Nat.le_of_ble_eq_true rfl) (Nat.le_of_ble_eq_true rfl) hb13 hv14 rfl (Nat.le_of_ble_eq_true rfl) (show decode prog_3_method_7_code 149 = .ok (.invokevirtual 70, 3) by decide +kernel) h ?_
          intro q15 h
          exact hg_sub [1, 2, 3, 4, 5, 6, 7] rfl (lab_152 q15 x6 h)
        · intro h
          exact hg_sub [1, 2, 3, 4, 5, 6, 7] rfl (lab_152 S x6 h)
      · intro h
        exact hg_sub [1, 2, 3, 4, 5, 6, 7] rfl (lab_152 S x6 h)
    have lab_69 : ∀ (S : hg_S) (x6 : Int32) (y0 : Int32) (y1 : Int32) (y2 : Option Nat), dc_wp (hm_AT_tryAll_L69 G S o x1 x2 x3 x4 x5 x6 y0 y1 y2) F_45 → hg_G X l (hg_rm 6 136 Z) D 9 S 69 [(0, va_rf (some o)), (1, .int x1), (2, va_rf x2), (3, va_rf x3), (4, va_rf x4), (5, .int x5), (6, .int x6)] [.int y0, .int y1, va_rf y2] := by
      intro S x6 y0 y1 y2 h
      delta hm_AT_tryAll_L69 at h
      refine hg_aload (pc := 69) (i := 4) (r := x4) hC 4 rfl (show decode prog_3_method_7_code 69 = .ok (.aload 4, 2) by decide +kernel) ?_
      obtain ⟨b16, hb17, h⟩ := dc_bind h
      obtain ⟨hb17, hv18⟩ := hg_chk_of (C := R_RE) rfl hb17
      refine hg_kVi (pc := 71) (b := b16) (r := y2) (As := [.int y1, .int y0, va_rf x4]) (rest := []) (vo := fun q => q.2) (so := fun q => q.1) hC cw_SignalEngine_Atlas_81 (fun q hq => hm_RE_react_ok l D G S b16 y1 y0 x4 q hq) (Nat.le_of_ble_eq_true rfl) (Nat.le_of_ble_eq_true rfl) hb17 hv18 rfl (Nat.le_of_ble_eq_true rfl) (show decode prog_3_method_7_code 71 = .ok (.invokevirtual 81, 3) by decide +kernel) h ?_
      intro q19 h
      refine hg_istore (pc := 74) (i := 7) (lv' := [(7, .int q19.2), (0, va_rf (some o)), (1, .int x1), (2, va_rf x2), (3, va_rf x3), (4, va_rf x4), (5, .int x5), (6, .int x6)]) hC (Nat.le_of_ble_eq_true rfl) rfl (show decode prog_3_method_7_code 74 = .ok (.istore 7, 2) by decide +kernel) ?_
      refine hg_aloadn (pc := 76) (j := 0) (i := 0) (r := (some o)) hC 1 rfl rfl (show decode prog_3_method_7_code 76 = .ok (.aload_n 0, 1) by decide +kernel) ?_
      refine hg_iloadn (pc := 77) (j := 1) (i := 1) hC 2 rfl rfl (show decode prog_3_method_7_code 77 = .ok (.iload_n 1, 1) by decide +kernel) ?_
      refine hg_iload (pc := 78) (i := 6) hC 7 rfl (show decode prog_3_method_7_code 78 = .ok (.iload 6, 2) by decide +kernel) ?_
      refine hg_kSi (pc := 80) (As := [.int x1, .int x6]) (rest := [va_rf (some o)]) (vo := fun q => q) (so := fun q => q19.1) hC cw_SignalEngine_Atlas_87 (fun q hq => hm_AT_cell_ok l D G q19.1 x1 x6 q hq) (Nat.le_of_ble_eq_true rfl) (Nat.le_of_ble_eq_true rfl) rfl (Nat.le_of_ble_eq_true rfl) (show decode prog_3_method_7_code 80 = .ok (.invokestatic 87, 3) by decide +kernel) h ?_
      intro q20 h
      refine hg_iload (pc := 83) (i := 7) hC 0 rfl (show decode prog_3_method_7_code 83 = .ok (.iload 7, 2) by decide +kernel) ?_
      refine hg_aloadn (pc := 85) (j := 2) (i := 2) (r := x2) hC 3 rfl rfl (show decode prog_3_method_7_code 85 = .ok (.aload_n 2, 1) by decide +kernel) ?_
      refine hg_aloadn (pc := 86) (j := 3) (i := 3) (r := x3) hC 4 rfl rfl (show decode prog_3_method_7_code 86 = .ok (.aload_n 3, 1) by decide +kernel) ?_
      obtain ⟨b21, hb22, h⟩ := dc_bind h
      obtain ⟨hb22, hv23⟩ := hg_chk_of (C := R_AT) rfl hb22
      refine hg_kVv (pc := 87) (b := b21) (r := (some o)) (As := [.int q20, .int q19.2, va_rf x2, va_rf x3]) (rest := []) (so := fun q => q) hC cw_SignalEngine_Atlas_91 (fun q hq => hm_AT_note_ok l D G q19.1 b21 q20 q19.2 x2 x3 q hq) (Nat.le_of_ble_eq_true rfl) (Nat.le_of_ble_eq_true rfl) hb22 hv23 rfl (Nat.le_of_ble_eq_true rfl) (show decode prog_3_method_7_code 87 = .ok (.invokevirtual 91, 3) by decide +kernel) h ?_
      intro q24 h
      refine hg_iload (pc := 90) (i := 7) hC 0 rfl (show decode prog_3_method_7_code 90 = .ok (.iload 7, 2) by decide +kernel) ?_
      refine hg_iconst (pc := 92) (v := 2) hC (show decode prog_3_method_7_code 92 = .ok (.iconst 2, 1) by decide +kernel) (by decide +kernel) ?_
      refine hg_icmp_ne (pc := 93) (tgt := 106) hC (show decode prog_3_method_7_code 93 = .ok (.if_icmp .ne 13, 3) by decide +kernel) (by decide +kernel) h ?_ ?_
      · intro h
        refine hg_aloadn (pc := 96) (j := 0) (i := 0) (r := (some o)) hC 1 rfl rfl (show decode prog_3_method_7_code 96 = .ok (.aload_n 0, 1) by decide +kernel) ?_
        refine hg_iloadn (pc := 97) (j := 1) (i := 1) hC 2 rfl rfl (show decode prog_3_method_7_code 97 = .ok (.iload_n 1, 1) by decide +kernel) ?_
        refine hg_iload (pc := 98) (i := 6) hC 7 rfl (show decode prog_3_method_7_code 98 = .ok (.iload 6, 2) by decide +kernel) ?_
        obtain ⟨b25, hb26, h⟩ := dc_bind h
        obtain ⟨hb26, hv27⟩ := hg_chk_of (C := R_AT) rfl hb26
        refine hg_kVv (pc := 100) (b := b25) (r := (some o)) (As := [.int x1, .int x6]) (rest := []) (so := fun q => q) hC cw_SignalEngine_Atlas_95 (fun q hq => hm_AT_noteDoubt_ok l D G q24 b25 x1 x6 q hq) (Nat.le_of_ble_eq_true rfl) (Nat.le_of_ble_eq_true rfl) hb26 hv27 rfl (Nat.le_of_ble_eq_true rfl) (show decode prog_3_method_7_code 100 = .ok (.invokevirtual 95, 3) by decide +kernel) h ?_
        intro q28 h
        refine hg_goto (pc := 103) (tgt := 116) hC (show decode prog_3_method_7_code 103 = .ok (.goto 13, 3) by decide +kernel) (by decide +kernel) ?_
        exact hg_sub [1, 2, 3, 4, 5, 6, 7, 0] rfl (lab_116 q28 x6 q19.2 h)
      · intro h
        refine hg_aloadn (pc := 106) (j := 0) (i := 0) (r := (some o)) hC 1 rfl rfl (show decode prog_3_method_7_code 106 = .ok (.aload_n 0, 1) by decide +kernel) ?_
        refine hg_dup (pc := 107) hC (show decode prog_3_method_7_code 107 = .ok (.dup, 1) by decide +kernel) rfl ?_
        refine hg_rgi (pc := 108) (r := (some o)) hC fl_SignalEngine_Atlas_61 (show decode prog_3_method_7_code 108 = .ok (.getfield 61, 3) by decide +kernel) h ?_
        intro e29 h
        refine hg_iconst (pc := 111) (v := 1) hC (show decode prog_3_method_7_code 111 = .ok (.iconst 1, 1) by decide +kernel) (by decide +kernel) ?_
        refine hg_iadd (pc := 112) hC (show decode prog_3_method_7_code 112 = .ok (.iadd, 1) by decide +kernel) ?_
        refine hg_rput (pc := 113) (r := (some o)) (v := .int (e29 + 1)) hC fp_SignalEngine_Atlas_61 rfl rfl (show decode prog_3_method_7_code 113 = .ok (.putfield 61, 3) by decide +kernel) h ?_
        intro S30 h
        exact hg_sub [1, 2, 3, 4, 5, 6, 7, 0] rfl (lab_116 S30 x6 q19.2 h)
    rintro ⟨S, x6⟩ h
    have h : dc_wp (hm_AT_tryAll_b45 G S o x1 x2 x3 x4 x5 x6) F_45 := h
    delta hm_AT_tryAll_b45 at h
    refine hg_iload (pc := 45) (i := 6) hC 6 rfl (show decode prog_3_method_7_code 45 = .ok (.iload 6, 2) by decide +kernel) ?_
    refine hg_aloadn (pc := 47) (j := 0) (i := 0) (r := (some o)) hC 0 rfl rfl (show decode prog_3_method_7_code 47 = .ok (.aload_n 0, 1) by decide +kernel) ?_
    refine hg_rgi (pc := 48) (r := (some o)) hC fl_SignalEngine_Atlas_40 (show decode prog_3_method_7_code 48 = .ok (.getfield 40, 3) by decide +kernel) h ?_
    intro e31 h
    refine hg_icmp_ge (pc := 51) (tgt := 158) hC (show decode prog_3_method_7_code 51 = .ok (.if_icmp .ge 107, 3) by decide +kernel) (by decide +kernel) h ?_ ?_
    · intro h
      refine hg_aloadn (pc := 54) (j := 3) (i := 3) (r := x3) hC 3 rfl rfl (show decode prog_3_method_7_code 54 = .ok (.aload_n 3, 1) by decide +kernel) ?_
      refine hg_iload (pc := 55) (i := 6) hC 6 rfl (show decode prog_3_method_7_code 55 = .ok (.iload 6, 2) by decide +kernel) ?_
      refine hg_iloadn (pc := 57) (j := 1) (i := 1) hC 1 rfl rfl (show decode prog_3_method_7_code 57 = .ok (.iload_n 1, 1) by decide +kernel) ?_
      refine hg_sipush (pc := 58) (v := 256) hC (show decode prog_3_method_7_code 58 = .ok (.sipush 256, 3) by decide +kernel) (by decide +kernel) ?_
      refine hg_icmp_eq (pc := 61) (tgt := 68) hC (show decode prog_3_method_7_code 61 = .ok (.if_icmp .eq 7, 3) by decide +kernel) (by decide +kernel) h ?_ ?_
      · intro h
        refine hg_iconst (pc := 68) (v := 0) hC (show decode prog_3_method_7_code 68 = .ok (.iconst 0, 1) by decide +kernel) (by decide +kernel) ?_
        exact lab_69 S x6 0 x6 x3 h
      · intro h
        refine hg_iconst (pc := 64) (v := 1) hC (show decode prog_3_method_7_code 64 = .ok (.iconst 1, 1) by decide +kernel) (by decide +kernel) ?_
        refine hg_goto (pc := 65) (tgt := 69) hC (show decode prog_3_method_7_code 65 = .ok (.goto 4, 3) by decide +kernel) (by decide +kernel) ?_
        exact lab_69 S x6 1 x6 x3 h
    · intro h
      have h : dc_wp (hm_AT_tryAll_L158 G S o x5) F := hr_45 S (dc_some h)
      exact hg_sub [0, 5] rfl (lab_158 S x5 h)
  have lab_45 : ∀ (S : hg_S) (x1 : Int32) (x2 : Option Nat) (x3 : Option Nat) (x4 : Option Nat) (x5 : Int32) (x6 : Int32), dc_wp (hm_AT_tryAll_L45 G S o x1 x2 x3 x4 x5 x6) F → hg_G X l (hg_rm 6 136 Z) D 9 S 45 [(0, va_rf (some o)), (1, .int x1), (2, va_rf x2), (3, va_rf x3), (4, va_rf x4), (5, .int x5), (6, .int x6)] [] := fun S x1 x2 x3 x4 x5 x6 h => loop_45 x1 x2 x3 x4 x5 (S, x6) (dc_bind h)
  have lab_36 : ∀ (S : hg_S) (x1 : Int32) (x2 : Option Nat) (x3 : Option Nat) (x4 : Option Nat), dc_wp (hm_AT_tryAll_L36 G S o x1 x2 x3 x4) F → hg_G X l (hg_rm 6 136 Z) D 9 S 36 [(0, va_rf (some o)), (1, .int x1), (2, va_rf x2), (3, va_rf x3), (4, va_rf x4)] [] := by
    intro S x1 x2 x3 x4 h
    delta hm_AT_tryAll_L36 at h
    refine hg_aloadn (pc := 36) (j := 0) (i := 0) (r := (some o)) hC 0 rfl rfl (show decode prog_3_method_7_code 36 = .ok (.aload_n 0, 1) by decide +kernel) ?_
    refine hg_rgi (pc := 37) (r := (some o)) hC fl_SignalEngine_Atlas_61 (show decode prog_3_method_7_code 37 = .ok (.getfield 61, 3) by decide +kernel) h ?_
    intro e32 h
    refine hg_istore (pc := 40) (i := 5) (lv' := [(5, .int e32), (0, va_rf (some o)), (1, .int x1), (2, va_rf x2), (3, va_rf x3), (4, va_rf x4)]) hC (Nat.le_of_ble_eq_true rfl) (by simp [va_rf_cat, hg_cti]) (show decode prog_3_method_7_code 40 = .ok (.istore 5, 2) by decide +kernel) ?_
    refine hg_iconst (pc := 42) (v := 0) hC (show decode prog_3_method_7_code 42 = .ok (.iconst 0, 1) by decide +kernel) (by decide +kernel) ?_
    refine hg_istore (pc := 43) (i := 6) (lv' := [(6, .int 0), (5, .int e32), (0, va_rf (some o)), (1, .int x1), (2, va_rf x2), (3, va_rf x3), (4, va_rf x4)]) hC (Nat.le_of_ble_eq_true rfl) rfl (show decode prog_3_method_7_code 43 = .ok (.istore 6, 2) by decide +kernel) ?_
    exact hg_sub [2, 3, 4, 5, 6, 1, 0] rfl (lab_45 S x1 x2 x3 x4 e32 0 h)
  have loop_3 : ∀ (x1 : Int32) (x2 : Option Nat) (x3 : Option Nat) (x4 : Option Nat) (q : hg_S × Int32), dc_wp (dc_it (hm_AT_tryAll_s3 G o x1 x2 x3 x4) q) (fun z => dc_wp ((fun (z : hg_S) => hm_AT_tryAll_L36 G z o x1 x2 x3 x4) z) F) → hg_G X l (hg_rm 6 136 Z) D 9 q.1 3 [(0, va_rf (some o)), (1, .int x1), (2, va_rf x2), (3, va_rf x3), (4, va_rf x4), (5, .int q.2)] [] := by
    intro x1 x2 x3 x4
    refine dc_loopF ?_
    intro F_3 hl_3 hr_3
    have lab_29 : ∀ (S : hg_S) (x5 : Int32) (y0 : Int32) (y1 : Int32) (y2 : Option Nat), dc_wp (hm_AT_tryAll_L29 G S o x1 x2 x3 x4 x5 y0 y1 y2) F_3 → hg_G X l (hg_rm 6 136 Z) D 9 S 29 [(0, va_rf (some o)), (1, .int x1), (2, va_rf x2), (3, va_rf x3), (4, va_rf x4), (5, .int x5)] [.int y0, .int y1, va_rf y2] := by
      intro S x5 y0 y1 y2 h
      delta hm_AT_tryAll_L29 at h
      obtain ⟨hz33, h⟩ := dc_zb_wp (dc_bind h)
      refine hg_rzast (pc := 29) (r := y2) hC hz33 (show decode prog_3_method_7_code 29 = .ok (.bastore, 1) by decide +kernel) h ?_
      intro S34 h
      refine hg_iinc (pc := 30) (i := 5) (v := (x5 + 1)) (lv' := [(5, .int (x5 + 1)), (0, va_rf (some o)), (1, .int x1), (2, va_rf x2), (3, va_rf x3), (4, va_rf x4)]) hC 5 rfl rfl (Nat.le_of_ble_eq_true rfl) (by simp [va_rf_cat, hg_cti]) (show decode prog_3_method_7_code 30 = .ok (.iinc 5 1, 3) by decide +kernel) ?_
      refine hg_goto (pc := 33) (tgt := 3) hC (show decode prog_3_method_7_code 33 = .ok (.goto (-30), 3) by decide +kernel) (by decide +kernel) ?_
      exact hg_sub [1, 2, 3, 4, 5, 0] rfl (hl_3 (S34, (x5 + 1)) (dc_some h))
    rintro ⟨S, x5⟩ h
    have h : dc_wp (hm_AT_tryAll_b3 G S o x1 x2 x3 x4 x5) F_3 := h
    delta hm_AT_tryAll_b3 at h
    refine hg_iload (pc := 3) (i := 5) hC 5 rfl (show decode prog_3_method_7_code 3 = .ok (.iload 5, 2) by decide +kernel) ?_
    refine hg_aload (pc := 5) (i := 4) (r := x4) hC 4 rfl (show decode prog_3_method_7_code 5 = .ok (.aload 4, 2) by decide +kernel) ?_
    refine hg_rlen (pc := 7) (r := x4) (t := 2) hC rfl (show decode prog_3_method_7_code 7 = .ok (.arraylength, 1) by decide +kernel) h ?_
    intro e35 h
    refine hg_icmp_ge (pc := 8) (tgt := 36) hC (show decode prog_3_method_7_code 8 = .ok (.if_icmp .ge 28, 3) by decide +kernel) (by decide +kernel) h ?_ ?_
    · intro h
      refine hg_aload (pc := 11) (i := 4) (r := x4) hC 4 rfl (show decode prog_3_method_7_code 11 = .ok (.aload 4, 2) by decide +kernel) ?_
      refine hg_iload (pc := 13) (i := 5) hC 5 rfl (show decode prog_3_method_7_code 13 = .ok (.iload 5, 2) by decide +kernel) ?_
      refine hg_iloadn (pc := 15) (j := 1) (i := 1) hC 1 rfl rfl (show decode prog_3_method_7_code 15 = .ok (.iload_n 1, 1) by decide +kernel) ?_
      refine hg_iload (pc := 16) (i := 5) hC 5 rfl (show decode prog_3_method_7_code 16 = .ok (.iload 5, 2) by decide +kernel) ?_
      refine hg_iushr (pc := 18) hC (show decode prog_3_method_7_code 18 = .ok (.iushr, 1) by decide +kernel) ?_
      refine hg_iconst (pc := 19) (v := 1) hC (show decode prog_3_method_7_code 19 = .ok (.iconst 1, 1) by decide +kernel) (by decide +kernel) ?_
      refine hg_iand (pc := 20) hC (show decode prog_3_method_7_code 20 = .ok (.iand, 1) by decide +kernel) ?_
      refine hg_if_eq (pc := 21) (tgt := 28) hC (show decode prog_3_method_7_code 21 = .ok (.ifCond .eq 7, 3) by decide +kernel) (by decide +kernel) h ?_ ?_
      · intro h
        refine hg_iconst (pc := 28) (v := 0) hC (show decode prog_3_method_7_code 28 = .ok (.iconst 0, 1) by decide +kernel) (by decide +kernel) ?_
        exact lab_29 S x5 0 x5 x4 h
      · intro h
        refine hg_iconst (pc := 24) (v := 1) hC (show decode prog_3_method_7_code 24 = .ok (.iconst 1, 1) by decide +kernel) (by decide +kernel) ?_
        refine hg_goto (pc := 25) (tgt := 29) hC (show decode prog_3_method_7_code 25 = .ok (.goto 4, 3) by decide +kernel) (by decide +kernel) ?_
        exact lab_29 S x5 1 x5 x4 h
    · intro h
      have h : dc_wp (hm_AT_tryAll_L36 G S o x1 x2 x3 x4) F := hr_3 S (dc_some h)
      exact hg_sub [0, 1, 2, 3, 4] rfl (lab_36 S x1 x2 x3 x4 h)
  have lab_3 : ∀ (S : hg_S) (x1 : Int32) (x2 : Option Nat) (x3 : Option Nat) (x4 : Option Nat) (x5 : Int32), dc_wp (hm_AT_tryAll_L3 G S o x1 x2 x3 x4 x5) F → hg_G X l (hg_rm 6 136 Z) D 9 S 3 [(0, va_rf (some o)), (1, .int x1), (2, va_rf x2), (3, va_rf x3), (4, va_rf x4), (5, .int x5)] [] := fun S x1 x2 x3 x4 x5 h => loop_3 x1 x2 x3 x4 (S, x5) (dc_bind h)
  show hg_G X l (hg_rm 6 136 Z) D 9 Z 0 [(0, va_rf (some o)), (1, .int p1), (2, va_rf p2), (3, va_rf p3), (4, va_rf p4)] []
  have h : dc_wp (hm_AT_tryAll G Z o p1 p2 p3 p4) F := h
  delta hm_AT_tryAll at h
  refine hg_iconst (pc := 0) (v := 0) hC (show decode prog_3_method_7_code 0 = .ok (.iconst 0, 1) by decide +kernel) (by decide +kernel) ?_
  refine hg_istore (pc := 1) (i := 5) (lv' := [(5, .int 0), (0, va_rf (some o)), (1, .int p1), (2, va_rf p2), (3, va_rf p3), (4, va_rf p4)]) hC (Nat.le_of_ble_eq_true rfl) (by simp [va_rf_cat, hg_cti]) (show decode prog_3_method_7_code 1 = .ok (.istore 5, 2) by decide +kernel) ?_
  exact hg_sub [1, 2, 3, 4, 5, 0] rfl (lab_3 Z p1 p2 p3 p4 0 h)
noncomputable def hm_AT_actAlike_L131 (G : hg_E) (S : hg_S) (o : Nat) : Option (Int32) :=
  some 1
noncomputable def hm_AT_actAlike_L123 (G : hg_E) (S : hg_S) (o : Nat) : Option (Int32) :=
  some 0
noncomputable def hm_AT_actAlike_L95 (G : hg_E) (S : hg_S) (o : Nat) (x1 : Int32) (x2 : Int32) (x3 : Int32) (x6 : Int32) : Option ((Int32) ⊕ ((Unit) ⊕ (Unit))) :=
  if x6 = 0 then (some (.inr (.inl ()))) else ((hg_gr S (some o) 11 1).bind fun e1 => (hm_AT_cell G S x1 x3).bind fun q2 => (hg_ld S e1 (G.1 0) q2).bind fun e3 => (hg_gr S (some o) 11 1).bind fun e4 => (hm_AT_cell G S x2 x3).bind fun q5 => (hg_ld S e4 (G.1 0) q5).bind fun e6 => if e3 = e6 then (some (.inl (x3 + 1))) else (some (.inr (.inl ()))))
noncomputable def hm_AT_actAlike_L93 (G : hg_E) (S : hg_S) (o : Nat) (x1 : Int32) (x2 : Int32) (x3 : Int32) (y0 : Int32) : Option ((Int32) ⊕ ((Unit) ⊕ (Unit))) :=
  hm_AT_actAlike_L95 G S o x1 x2 x3 y0
noncomputable def hm_AT_actAlike_L46 (G : hg_E) (S : hg_S) (o : Nat) (x1 : Int32) (x2 : Int32) (x3 : Int32) (x4 : Int32) (x5 : Int32) (y0 : Int32) : Option ((Int32) ⊕ ((Unit) ⊕ (Unit))) :=
  if y0 = 0 then ((hg_chk S (some o) 11).bind fun b7 => (hm_AT_reaches G S b7 x4).bind fun q10 => if q10 = 0 then (hm_AT_actAlike_L95 G S o x1 x2 x3 y0) else ((hg_chk S (some o) 11).bind fun b11 => (hm_AT_reaches G S b11 x5).bind fun q14 => if q14 = 0 then (hm_AT_actAlike_L95 G S o x1 x2 x3 y0) else ((hg_gr S (some o) 11 6).bind fun e15 => (hg_ld S e15 (G.1 0) x4).bind fun e16 => (hg_gr S (some o) 11 6).bind fun e17 => (hg_ld S e17 (G.1 0) x5).bind fun e18 => if e16 = e18 then (hm_AT_actAlike_L93 G S o x1 x2 x3 1) else (hm_AT_actAlike_L93 G S o x1 x2 x3 0)))) else (hm_AT_actAlike_L95 G S o x1 x2 x3 y0)
noncomputable def hm_AT_actAlike_b2 (G : hg_E) (S : hg_S) (o : Nat) (x1 : Int32) (x2 : Int32) (x3 : Int32) : Option ((Int32) ⊕ ((Unit) ⊕ (Unit))) :=
  (hg_gi S (some o) 11 8).bind fun e19 => if x3 < e19 then ((hg_gr S (some o) 11 0).bind fun e20 => (hm_AT_cell G S x1 x3).bind fun q21 => (hg_ld S e20 (G.1 0) q21).bind fun e22 => (hg_gr S (some o) 11 0).bind fun e23 => (hm_AT_cell G S x2 x3).bind fun q24 => (hg_ld S e23 (G.1 0) q24).bind fun e25 => if e22 = e25 then (hm_AT_actAlike_L46 G S o x1 x2 x3 e22 e25 1) else (hm_AT_actAlike_L46 G S o x1 x2 x3 e22 e25 0)) else (some (.inr (.inr ())))
noncomputable def hm_AT_actAlike_s2 (G : hg_E) (S : hg_S) (o : Nat) (x1 : Int32) (x2 : Int32) (q : Int32) : Option ((Int32) ⊕ ((Unit) ⊕ (Unit))) :=
  hm_AT_actAlike_b2 G S o x1 x2 q
noncomputable def hm_AT_actAlike_L2 (G : hg_E) (S : hg_S) (o : Nat) (x1 : Int32) (x2 : Int32) (x3 : Int32) : Option (Int32) :=
  (dc_it (hm_AT_actAlike_s2 G S o x1 x2) x3).bind (Sum.elim (fun (z : Unit) => hm_AT_actAlike_L123 G S o) (fun (z : Unit) => hm_AT_actAlike_L131 G S o))
noncomputable def hm_AT_actAlike (G : hg_E) (S : hg_S) (o : Nat) (p1 : Int32) (p2 : Int32) : Option (Int32) :=
  hm_AT_actAlike_L2 G S o p1 p2 0
set_option maxHeartbeats 4000000 in
set_option maxRecDepth 100000 in
/-- SignalEngine$Atlas.actAlike(II)Z -/
theorem hm_AT_actAlike_ok (l : Launch) (D : va_G) (G : hg_E) (Z : hg_S) (o : Nat) (p1 : Int32) (p2 : Int32) (q : Int32) (hq : hm_AT_actAlike G Z o p1 p2 = some q) : hg_C l ⟨"SignalEngine$Atlas", "actAlike", "(II)Z"⟩ prog_3_method_15_code 7 (some (.boolean)) 1 21 D G [.ref o, .int p1, .int p2] Z (.inl (some (.int q), Z) : hg_O) := by
  refine hg_start (cv := fun q => (.inl (some (.int q), Z) : hg_O)) hq ?_
  intro F hF h
  refine hg_enter (lv := [(0, va_rf (some o)), (1, .int p1), (2, .int p2)]) (by decide +kernel) (by simp [lg_sl, va_rf_cat, hg_cti, hg_ctr]) (by simp [lv_args, va_rf_cat, va_rf_some, hg_cti, hg_ctr]) ?_
  intro X hC hR
  have lab_131 : dc_wp (hm_AT_actAlike_L131 G Z o) F → hg_G X l (hg_rm 1 21 Z) D 7 Z 131 [(0, va_rf (some o))] [] := by
    intro  h
    delta hm_AT_actAlike_L131 at h
    refine hg_iconst (pc := 131) (v := 1) hC (show decode prog_3_method_15_code 131 = .ok (.iconst 1, 1) by decide +kernel) (by decide +kernel) ?_
    exact hg_zret (pc := 132) hC hR (Or.inr rfl) (hF _ (dc_some h)) (show decode prog_3_method_15_code 132 = .ok (.ireturn, 1) by decide +kernel)
  have lab_123 : dc_wp (hm_AT_actAlike_L123 G Z o) F → hg_G X l (hg_rm 1 21 Z) D 7 Z 123 [(0, va_rf (some o))] [] := by
    intro  h
    delta hm_AT_actAlike_L123 at h
    refine hg_iconst (pc := 123) (v := 0) hC (show decode prog_3_method_15_code 123 = .ok (.iconst 0, 1) by decide +kernel) (by decide +kernel) ?_
    exact hg_zret (pc := 124) hC hR (Or.inl rfl) (hF _ (dc_some h)) (show decode prog_3_method_15_code 124 = .ok (.ireturn, 1) by decide +kernel)
  have loop_2 : ∀ (x1 : Int32) (x2 : Int32) (q : Int32), dc_wp (dc_it (hm_AT_actAlike_s2 G Z o x1 x2) q) (fun z => dc_wp ((Sum.elim (fun (z : Unit) => hm_AT_actAlike_L123 G Z o) (fun (z : Unit) => hm_AT_actAlike_L131 G Z o)) z) F) → hg_G X l (hg_rm 1 21 Z) D 7 Z 2 [(0, va_rf (some o)), (1, .int x1), (2, .int x2), (3, .int q)] [] := by
    intro x1 x2
    refine dc_loopF ?_
    intro F_2 hl_2 hr_2
    have lab_95 : ∀ (x3 : Int32) (x6 : Int32), dc_wp (hm_AT_actAlike_L95 G Z o x1 x2 x3 x6) F_2 → hg_G X l (hg_rm 1 21 Z) D 7 Z 95 [(0, va_rf (some o)), (1, .int x1), (2, .int x2), (3, .int x3), (6, .int x6)] [] := by
      intro x3 x6 h
      delta hm_AT_actAlike_L95 at h
      refine hg_iload (pc := 95) (i := 6) hC 4 rfl (show decode prog_3_method_15_code 95 = .ok (.iload 6, 2) by decide +kernel) ?_
      refine hg_if_eq (pc := 97) (tgt := 123) hC (show decode prog_3_method_15_code 97 = .ok (.ifCond .eq 26, 3) by decide +kernel) (by decide +kernel) h ?_ ?_
      · intro h
        have h : dc_wp (hm_AT_actAlike_L123 G Z o) F := hr_2 (.inl ()) (dc_some h)
        exact hg_sub [0] rfl (lab_123 h)
      · intro h
        refine hg_aloadn (pc := 100) (j := 0) (i := 0) (r := (some o)) hC 0 rfl rfl (show decode prog_3_method_15_code 100 = .ok (.aload_n 0, 1) by decide +kernel) ?_
        refine hg_rgr (pc := 101) (r := (some o)) hC fl_SignalEngine_Atlas_15 (show decode prog_3_method_15_code 101 = .ok (.getfield 15, 3) by decide +kernel) h ?_
        intro e1 h
        refine hg_iloadn (pc := 104) (j := 1) (i := 1) hC 1 rfl rfl (show decode prog_3_method_15_code 104 = .ok (.iload_n 1, 1) by decide +kernel) ?_
        refine hg_iloadn (pc := 105) (j := 3) (i := 3) hC 3 rfl rfl (show decode prog_3_method_15_code 105 = .ok (.iload_n 3, 1) by decide +kernel) ?_
        refine hg_kSi (pc := 106) (As := [.int x1, .int x3]) (rest := [va_rf e1]) (vo := fun q => q) (so := fun q => Z) hC cw_SignalEngine_Atlas_87 (fun q hq => hm_AT_cell_ok l D G Z x1 x3 q hq) (Nat.le_of_ble_eq_true rfl) (Nat.le_of_ble_eq_true rfl) rfl (by simp only [List.map, va_rf_cat]; exact Nat.le_of_ble_eq_true rfl) (show decode prog_3_method_15_code 106 = .ok (.invokestatic 87, 3) by decide +kernel) h ?_
        intro q2 h
        refine hg_riald (pc := 109) (r := e1) hC (show decode prog_3_method_15_code 109 = .ok (.iaload, 1) by decide +kernel) h ?_
        intro e3 h
        refine hg_aloadn (pc := 110) (j := 0) (i := 0) (r := (some o)) hC 0 rfl rfl (show decode prog_3_method_15_code 110 = .ok (.aload_n 0, 1) by decide +kernel) ?_
        refine hg_rgr (pc := 111) (r := (some o)) hC fl_SignalEngine_Atlas_15 (show decode prog_3_method_15_code 111 = .ok (.getfield 15, 3) by decide +kernel) h ?_
        intro e4 h
        refine hg_iloadn (pc := 114) (j := 2) (i := 2) hC 2 rfl rfl (show decode prog_3_method_15_code 114 = .ok (.iload_n 2, 1) by decide +kernel) ?_
        refine hg_iloadn (pc := 115) (j := 3) (i := 3) hC 3 rfl rfl (show decode prog_3_method_15_code 115 = .ok (.iload_n 3, 1) by decide +kernel) ?_
        refine hg_kSi (pc := 116) (As := [.int x2, .int x3]) (rest := [va_rf e4, .int e3]) (vo := fun q => q) (so := fun q => Z) hC cw_SignalEngine_Atlas_87 (fun q hq => hm_AT_cell_ok l D G Z x2 x3 q hq) (Nat.le_of_ble_eq_true rfl) (Nat.le_of_ble_eq_true rfl) rfl (by simp only [List.map, va_rf_cat]; exact Nat.le_of_ble_eq_true rfl) (show decode prog_3_method_15_code 116 = .ok (.invokestatic 87, 3) by decide +kernel) h ?_
        intro q5 h
        refine hg_riald (pc := 119) (r := e4) hC (show decode prog_3_method_15_code 119 = .ok (.iaload, 1) by decide +kernel) h ?_
        intro e6 h
        refine hg_icmp_eq (pc := 120) (tgt := 125) hC (show decode prog_3_method_15_code 120 = .ok (.if_icmp .eq 5, 3) by decide +kernel) (by decide +kernel) h ?_ ?_
        · intro h
          refine hg_iinc (pc := 125) (i := 3) (v := (x3 + 1)) (lv' := [(3, .int (x3 + 1)), (0, va_rf (some o)), (1, .int x1), (2, .int x2), (6, .int x6)]) hC 3 rfl rfl (Nat.le_of_ble_eq_true rfl) rfl (show decode prog_3_method_15_code 125 = .ok (.iinc 3 1, 3) by decide +kernel) ?_
          refine hg_goto (pc := 128) (tgt := 2) hC (show decode prog_3_method_15_code 128 = .ok (.goto (-126), 3) by decide +kernel) (by decide +kernel) ?_
          exact hg_sub [1, 2, 3, 0] rfl (hl_2 (x3 + 1) (dc_some h))
        · intro h
          have h : dc_wp (hm_AT_actAlike_L123 G Z o) F := hr_2 (.inl ()) (dc_some h)
          exact hg_sub [0] rfl (lab_123 h)
    have lab_93 : ∀ (x3 : Int32) (y0 : Int32), dc_wp (hm_AT_actAlike_L93 G Z o x1 x2 x3 y0) F_2 → hg_G X l (hg_rm 1 21 Z) D 7 Z 93 [(0, va_rf (some o)), (1, .int x1), (2, .int x2), (3, .int x3)] [.int y0] := by
      intro x3 y0 h
      delta hm_AT_actAlike_L93 at h
      refine hg_istore (pc := 93) (i := 6) (lv' := [(6, .int y0), (0, va_rf (some o)), (1, .int x1), (2, .int x2), (3, .int x3)]) hC (Nat.le_of_ble_eq_true rfl) rfl (show decode prog_3_method_15_code 93 = .ok (.istore 6, 2) by decide +kernel) ?_
      exact hg_sub [1, 2, 3, 4, 0] rfl (lab_95 x3 y0 h)
    have lab_46 : ∀ (x3 : Int32) (x4 : Int32) (x5 : Int32) (y0 : Int32), dc_wp (hm_AT_actAlike_L46 G Z o x1 x2 x3 x4 x5 y0) F_2 → hg_G X l (hg_rm 1 21 Z) D 7 Z 46 [(0, va_rf (some o)), (1, .int x1), (2, .int x2), (3, .int x3), (4, .int x4), (5, .int x5)] [.int y0] := by
      intro x3 x4 x5 y0 h
      delta hm_AT_actAlike_L46 at h
      refine hg_istore (pc := 46) (i := 6) (lv' := [(6, .int y0), (0, va_rf (some o)), (1, .int x1), (2, .int x2), (3, .int x3), (4, .int x4), (5, .int x5)]) hC (Nat.le_of_ble_eq_true rfl) rfl (show decode prog_3_method_15_code 46 = .ok (.istore 6, 2) by decide +kernel) ?_
      refine hg_iload (pc := 48) (i := 6) hC 0 rfl (show decode prog_3_method_15_code 48 = .ok (.iload 6, 2) by decide +kernel) ?_
      refine hg_if_ne (pc := 50) (tgt := 95) hC (show decode prog_3_method_15_code 50 = .ok (.ifCond .ne 45, 3) by decide +kernel) (by decide +kernel) h ?_ ?_
      · intro h
        refine hg_aloadn (pc := 53) (j := 0) (i := 0) (r := (some o)) hC 1 rfl rfl (show decode prog_3_method_15_code 53 = .ok (.aload_n 0, 1) by decide +kernel) ?_
        refine hg_iload (pc := 54) (i := 4) hC 5 rfl (show decode prog_3_method_15_code 54 = .ok (.iload 4, 2) by decide +kernel) ?_
        obtain ⟨b7, hb8, h⟩ := dc_bind h
        obtain ⟨hb8, hv9⟩ := hg_chk_of (C := R_AT) rfl hb8
        refine hg_kVi (pc := 56) (b := b7) (r := (some o)) (As := [.int x4]) (rest := []) (vo := fun q => q) (so := fun q => Z) hC cw_SignalEngine_Atlas_36 (fun q hq => hm_AT_reaches_ok l D G Z b7 x4 q hq) (Nat.le_of_ble_eq_true rfl) (Nat.le_of_ble_eq_true rfl) hb8 hv9 rfl (Nat.le_of_ble_eq_true rfl) (show decode prog_3_method_15_code 56 = .ok (.invokevirtual 36, 3) by decide +kernel) h ?_
        intro q10 h
        refine hg_if_eq (pc := 59) (tgt := 95) hC (show decode prog_3_method_15_code 59 = .ok (.ifCond .eq 36, 3) by decide +kernel) (by decide +kernel) h ?_ ?_
        · intro h
          exact hg_sub [1, 2, 3, 4, 0] rfl (lab_95 x3 y0 h)
        · intro h
          refine hg_aloadn (pc := 62) (j := 0) (i := 0) (r := (some o)) hC 1 rfl rfl (show decode prog_3_method_15_code 62 = .ok (.aload_n 0, 1) by decide +kernel) ?_
          refine hg_iload (pc := 63) (i := 5) hC 6 rfl (show decode prog_3_method_15_code 63 = .ok (.iload 5, 2) by decide +kernel) ?_
          obtain ⟨b11, hb12, h⟩ := dc_bind h
          obtain ⟨hb12, hv13⟩ := hg_chk_of (C := R_AT) rfl hb12
          refine hg_kVi (pc := 65) (b := b11) (r := (some o)) (As := [.int x5]) (rest := []) (vo := fun q => q) (so := fun q => Z) hC cw_SignalEngine_Atlas_36 (fun q hq => hm_AT_reaches_ok l D G Z b11 x5 q hq) (Nat.le_of_ble_eq_true rfl) (Nat.le_of_ble_eq_true rfl) hb12 hv13 rfl (Nat.le_of_ble_eq_true rfl) (show decode prog_3_method_15_code 65 = .ok (.invokevirtual 36, 3) by decide +kernel) h ?_
          intro q14 h
          refine hg_if_eq (pc := 68) (tgt := 95) hC (show decode prog_3_method_15_code 68 = .ok (.ifCond .eq 27, 3) by decide +kernel) (by decide +kernel) h ?_ ?_
          · intro h
            exact hg_sub [1, 2, 3, 4, 0] rfl (lab_95 x3 y0 h)
          · intro h
            refine hg_aloadn (pc := 71) (j := 0) (i := 0) (r := (some o)) hC 1 rfl rfl (show decode prog_3_method_15_code 71 = .ok (.aload_n 0, 1) by decide +kernel) ?_
            refine hg_rgr (pc := 72) (r := (some o)) hC fl_SignalEngine_Atlas_30 (show decode prog_3_method_15_code 72 = .ok (.getfield 30, 3) by decide +kernel) h ?_
            intro e15 h
            refine hg_iload (pc := 75) (i := 4) hC 5 rfl (show decode prog_3_method_15_code 75 = .ok (.iload 4, 2) by decide +kernel) ?_
            refine hg_riald (pc := 77) (r := e15) hC (show decode prog_3_method_15_code 77 = .ok (.iaload, 1) by decide +kernel) h ?_
            intro e16 h
            refine hg_aloadn (pc := 78) (j := 0) (i := 0) (r := (some o)) hC 1 rfl rfl (show decode prog_3_method_15_code 78 = .ok (.aload_n 0, 1) by decide +kernel) ?_
            refine hg_rgr (pc := 79) (r := (some o)) hC fl_SignalEngine_Atlas_30 (show decode prog_3_method_15_code 79 = .ok (.getfield 30, 3) by decide +kernel) h ?_
            intro e17 h
            refine hg_iload (pc := 82) (i := 5) hC 6 rfl (show decode prog_3_method_15_code 82 = .ok (.iload 5, 2) by decide +kernel) ?_
            refine hg_riald (pc := 84) (r := e17) hC (show decode prog_3_method_15_code 84 = .ok (.iaload, 1) by decide +kernel) h ?_
            intro e18 h
            refine hg_icmp_ne (pc := 85) (tgt := 92) hC (show decode prog_3_method_15_code 85 = .ok (.if_icmp .ne 7, 3) by decide +kernel) (by decide +kernel) h ?_ ?_
            · intro h
              refine hg_iconst (pc := 88) (v := 1) hC (show decode prog_3_method_15_code 88 = .ok (.iconst 1, 1) by decide +kernel) (by decide +kernel) ?_
              refine hg_goto (pc := 89) (tgt := 93) hC (show decode prog_3_method_15_code 89 = .ok (.goto 4, 3) by decide +kernel) (by decide +kernel) ?_
              exact hg_sub [1, 2, 3, 4] rfl (lab_93 x3 1 h)
            · intro h
              refine hg_iconst (pc := 92) (v := 0) hC (show decode prog_3_method_15_code 92 = .ok (.iconst 0, 1) by decide +kernel) (by decide +kernel) ?_
              exact hg_sub [1, 2, 3, 4] rfl (lab_93 x3 0 h)
      · intro h
        exact hg_sub [1, 2, 3, 4, 0] rfl (lab_95 x3 y0 h)
    rintro x3 h
    have h : dc_wp (hm_AT_actAlike_b2 G Z o x1 x2 x3) F_2 := h
    delta hm_AT_actAlike_b2 at h
    refine hg_iloadn (pc := 2) (j := 3) (i := 3) hC 3 rfl rfl (show decode prog_3_method_15_code 2 = .ok (.iload_n 3, 1) by decide +kernel) ?_
    refine hg_aloadn (pc := 3) (j := 0) (i := 0) (r := (some o)) hC 0 rfl rfl (show decode prog_3_method_15_code 3 = .ok (.aload_n 0, 1) by decide +kernel) ?_
    refine hg_rgi (pc := 4) (r := (some o)) hC fl_SignalEngine_Atlas_40 (show decode prog_3_method_15_code 4 = .ok (.getfield 40, 3) by decide +kernel) h ?_
    intro e19 h
    refine hg_icmp_ge (pc := 7) (tgt := 131) hC (show decode prog_3_method_15_code 7 = .ok (.if_icmp .ge 124, 3) by decide +kernel) (by decide +kernel) h ?_ ?_
    · intro h
      refine hg_aloadn (pc := 10) (j := 0) (i := 0) (r := (some o)) hC 0 rfl rfl (show decode prog_3_method_15_code 10 = .ok (.aload_n 0, 1) by decide +kernel) ?_
      refine hg_rgr (pc := 11) (r := (some o)) hC fl_SignalEngine_Atlas_11 (show decode prog_3_method_15_code 11 = .ok (.getfield 11, 3) by decide +kernel) h ?_
      intro e20 h
      refine hg_iloadn (pc := 14) (j := 1) (i := 1) hC 1 rfl rfl (show decode prog_3_method_15_code 14 = .ok (.iload_n 1, 1) by decide +kernel) ?_
      refine hg_iloadn (pc := 15) (j := 3) (i := 3) hC 3 rfl rfl (show decode prog_3_method_15_code 15 = .ok (.iload_n 3, 1) by decide +kernel) ?_
      refine hg_kSi (pc := 16) (As := [.int x1, .int x3]) (rest := [va_rf e20]) (vo := fun q => q) (so := fun q => Z) hC cw_SignalEngine_Atlas_87 (fun q hq => hm_AT_cell_ok l D G Z x1 x3 q hq) (Nat.le_of_ble_eq_true rfl) (Nat.le_of_ble_eq_true rfl) rfl (by simp only [List.map, va_rf_cat]; exact Nat.le_of_ble_eq_true rfl) (show decode prog_3_method_15_code 16 = .ok (.invokestatic 87, 3) by decide +kernel) h ?_
      intro q21 h
      refine hg_riald (pc := 19) (r := e20) hC (show decode prog_3_method_15_code 19 = .ok (.iaload, 1) by decide +kernel) h ?_
      intro e22 h
      refine hg_istore (pc := 20) (i := 4) (lv' := [(4, .int e22), (0, va_rf (some o)), (1, .int x1), (2, .int x2), (3, .int x3)]) hC (Nat.le_of_ble_eq_true rfl) rfl (show decode prog_3_method_15_code 20 = .ok (.istore 4, 2) by decide +kernel) ?_
      refine hg_aloadn (pc := 22) (j := 0) (i := 0) (r := (some o)) hC 1 rfl rfl (show decode prog_3_method_15_code 22 = .ok (.aload_n 0, 1) by decide +kernel) ?_
      refine hg_rgr (pc := 23) (r := (some o)) hC fl_SignalEngine_Atlas_11 (show decode prog_3_method_15_code 23 = .ok (.getfield 11, 3) by decide +kernel) h ?_
      intro e23 h
      refine hg_iloadn (pc := 26) (j := 2) (i := 2) hC 3 rfl rfl (show decode prog_3_method_15_code 26 = .ok (.iload_n 2, 1) by decide +kernel) ?_
      refine hg_iloadn (pc := 27) (j := 3) (i := 3) hC 4 rfl rfl (show decode prog_3_method_15_code 27 = .ok (.iload_n 3, 1) by decide +kernel) ?_
      refine hg_kSi (pc := 28) (As := [.int x2, .int x3]) (rest := [va_rf e23]) (vo := fun q => q) (so := fun q => Z) hC cw_SignalEngine_Atlas_87 (fun q hq => hm_AT_cell_ok l D G Z x2 x3 q hq) (Nat.le_of_ble_eq_true rfl) (Nat.le_of_ble_eq_true rfl) rfl (by simp only [List.map, va_rf_cat]; exact Nat.le_of_ble_eq_true rfl) (show decode prog_3_method_15_code 28 = .ok (.invokestatic 87, 3) by decide +kernel) h ?_
      intro q24 h
      refine hg_riald (pc := 31) (r := e23) hC (show decode prog_3_method_15_code 31 = .ok (.iaload, 1) by decide +kernel) h ?_
      intro e25 h
      refine hg_istore (pc := 32) (i := 5) (lv' := [(5, .int e25), (4, .int e22), (0, va_rf (some o)), (1, .int x1), (2, .int x2), (3, .int x3)]) hC (Nat.le_of_ble_eq_true rfl) rfl (show decode prog_3_method_15_code 32 = .ok (.istore 5, 2) by decide +kernel) ?_
      refine hg_iload (pc := 34) (i := 4) hC 1 rfl (show decode prog_3_method_15_code 34 = .ok (.iload 4, 2) by decide +kernel) ?_
      refine hg_iload (pc := 36) (i := 5) hC 0 rfl (show decode prog_3_method_15_code 36 = .ok (.iload 5, 2) by decide +kernel) ?_
      refine hg_icmp_ne (pc := 38) (tgt := 45) hC (show decode prog_3_method_15_code 38 = .ok (.if_icmp .ne 7, 3) by decide +kernel) (by decide +kernel) h ?_ ?_
      · intro h
        refine hg_iconst (pc := 41) (v := 1) hC (show decode prog_3_method_15_code 41 = .ok (.iconst 1, 1) by decide +kernel) (by decide +kernel) ?_
        refine hg_goto (pc := 42) (tgt := 46) hC (show decode prog_3_method_15_code 42 = .ok (.goto 4, 3) by decide +kernel) (by decide +kernel) ?_
        exact hg_sub [2, 3, 4, 5, 1, 0] rfl (lab_46 x3 e22 e25 1 h)
      · intro h
        refine hg_iconst (pc := 45) (v := 0) hC (show decode prog_3_method_15_code 45 = .ok (.iconst 0, 1) by decide +kernel) (by decide +kernel) ?_
        exact hg_sub [2, 3, 4, 5, 1, 0] rfl (lab_46 x3 e22 e25 0 h)
    · intro h
      have h : dc_wp (hm_AT_actAlike_L131 G Z o) F := hr_2 (.inr ()) (dc_some h)
      exact hg_sub [0] rfl (lab_131 h)
  have lab_2 : ∀ (x1 : Int32) (x2 : Int32) (x3 : Int32), dc_wp (hm_AT_actAlike_L2 G Z o x1 x2 x3) F → hg_G X l (hg_rm 1 21 Z) D 7 Z 2 [(0, va_rf (some o)), (1, .int x1), (2, .int x2), (3, .int x3)] [] := fun x1 x2 x3 h => loop_2 x1 x2 x3 (dc_bind h)
  show hg_G X l (hg_rm 1 21 Z) D 7 Z 0 [(0, va_rf (some o)), (1, .int p1), (2, .int p2)] []
  have h : dc_wp (hm_AT_actAlike G Z o p1 p2) F := h
  delta hm_AT_actAlike at h
  refine hg_iconst (pc := 0) (v := 0) hC (show decode prog_3_method_15_code 0 = .ok (.iconst 0, 1) by decide +kernel) (by decide +kernel) ?_
  refine hg_istoren (pc := 1) (j := 3) (i := 3) (lv' := [(3, .int 0), (0, va_rf (some o)), (1, .int p1), (2, .int p2)]) hC rfl (Nat.le_of_ble_eq_true rfl) rfl (show decode prog_3_method_15_code 1 = .ok (.istore_n 3, 1) by decide +kernel) ?_
  exact hg_sub [1, 2, 3, 0] rfl (lab_2 p1 p2 0 h)
noncomputable def hm_AT_leastAlike_L67 (G : hg_E) (S : hg_S) (o : Nat) (x1 : Int32) : Option (Int32) :=
  some x1
noncomputable def hm_AT_leastAlike_L59 (G : hg_E) (S : hg_S) (o : Nat) (x2 : Int32) : Option (Int32) :=
  some x2
noncomputable def hm_AT_leastAlike_L61 (G : hg_E) (S : hg_S) (o : Nat) (x1 : Int32) (x2 : Int32) : Option ((Int32) ⊕ ((Int32) ⊕ (Unit))) :=
  some (.inl (x2 + 1))
noncomputable def hm_AT_leastAlike_L30 (G : hg_E) (S : hg_S) (o : Nat) (x1 : Int32) (x2 : Int32) (y0 : Int32) : Option ((Int32) ⊕ ((Int32) ⊕ (Unit))) :=
  if y0 = 0 then (hm_AT_leastAlike_L61 G S o x1 x2) else ((hg_gr S (some o) 11 6).bind fun e1 => (hg_ld S e1 (G.1 0) x2).bind fun e2 => (hg_gr S (some o) 11 6).bind fun e3 => (hg_ld S e3 (G.1 0) x1).bind fun e4 => if e2 = e4 then ((hg_chk S (some o) 11).bind fun b5 => (hm_AT_actAlike G S b5 x2 x1).bind fun q8 => if q8 = 0 then (hm_AT_leastAlike_L61 G S o x1 x2) else (some (.inr (.inl x2)))) else (hm_AT_leastAlike_L61 G S o x1 x2))
noncomputable def hm_AT_leastAlike_L29 (G : hg_E) (S : hg_S) (o : Nat) (x1 : Int32) (x2 : Int32) : Option ((Int32) ⊕ ((Int32) ⊕ (Unit))) :=
  hm_AT_leastAlike_L30 G S o x1 x2 0
noncomputable def hm_AT_leastAlike_b2 (G : hg_E) (S : hg_S) (o : Nat) (x1 : Int32) (x2 : Int32) : Option ((Int32) ⊕ ((Int32) ⊕ (Unit))) :=
  if x2 < x1 then ((hg_chk S (some o) 11).bind fun b9 => (hm_AT_reaches G S b9 x2).bind fun q12 => if q12 = 0 then (hm_AT_leastAlike_L29 G S o x1 x2) else ((hg_gr S (some o) 11 7).bind fun e13 => (hg_ld S e13 (G.1 0) x2).bind fun e14 => if e14 = x2 then (hm_AT_leastAlike_L30 G S o x1 x2 1) else (hm_AT_leastAlike_L29 G S o x1 x2))) else (some (.inr (.inr ())))
noncomputable def hm_AT_leastAlike_s2 (G : hg_E) (S : hg_S) (o : Nat) (x1 : Int32) (q : Int32) : Option ((Int32) ⊕ ((Int32) ⊕ (Unit))) :=
  hm_AT_leastAlike_b2 G S o x1 q
noncomputable def hm_AT_leastAlike_L2 (G : hg_E) (S : hg_S) (o : Nat) (x1 : Int32) (x2 : Int32) : Option (Int32) :=
  (dc_it (hm_AT_leastAlike_s2 G S o x1) x2).bind (Sum.elim (fun (z : Int32) => hm_AT_leastAlike_L59 G S o z) (fun (z : Unit) => hm_AT_leastAlike_L67 G S o x1))
noncomputable def hm_AT_leastAlike (G : hg_E) (S : hg_S) (o : Nat) (p1 : Int32) : Option (Int32) :=
  hm_AT_leastAlike_L2 G S o p1 0
set_option maxHeartbeats 4000000 in
set_option maxRecDepth 100000 in
/-- SignalEngine$Atlas.leastAlike(I)I -/
theorem hm_AT_leastAlike_ok (l : Launch) (D : va_G) (G : hg_E) (Z : hg_S) (o : Nat) (p1 : Int32) (q : Int32) (hq : hm_AT_leastAlike G Z o p1 = some q) : hg_C l ⟨"SignalEngine$Atlas", "leastAlike", "(I)I"⟩ prog_3_method_14_code 4 (some (.int)) 2 47 D G [.ref o, .int p1] Z (.inl (some (.int q), Z) : hg_O) := by
  refine hg_start (cv := fun q => (.inl (some (.int q), Z) : hg_O)) hq ?_
  intro F hF h
  refine hg_enter (lv := [(0, va_rf (some o)), (1, .int p1)]) (by decide +kernel) (by simp [lg_sl, va_rf_cat, hg_cti, hg_ctr]) (by simp [lv_args, va_rf_cat, va_rf_some, hg_cti, hg_ctr]) ?_
  intro X hC hR
  have lab_67 : ∀ (x1 : Int32), dc_wp (hm_AT_leastAlike_L67 G Z o x1) F → hg_G X l (hg_rm 2 47 Z) D 4 Z 67 [(0, va_rf (some o)), (1, .int x1)] [] := by
    intro x1 h
    delta hm_AT_leastAlike_L67 at h
    refine hg_iloadn (pc := 67) (j := 1) (i := 1) hC 1 rfl rfl (show decode prog_3_method_14_code 67 = .ok (.iload_n 1, 1) by decide +kernel) ?_
    exact hg_iret (pc := 68) hC hR (hF _ (dc_some h)) (show decode prog_3_method_14_code 68 = .ok (.ireturn, 1) by decide +kernel)
  have lab_59 : ∀ (x2 : Int32), dc_wp (hm_AT_leastAlike_L59 G Z o x2) F → hg_G X l (hg_rm 2 47 Z) D 4 Z 59 [(0, va_rf (some o)), (2, .int x2)] [] := by
    intro x2 h
    delta hm_AT_leastAlike_L59 at h
    refine hg_iloadn (pc := 59) (j := 2) (i := 2) hC 1 rfl rfl (show decode prog_3_method_14_code 59 = .ok (.iload_n 2, 1) by decide +kernel) ?_
    exact hg_iret (pc := 60) hC hR (hF _ (dc_some h)) (show decode prog_3_method_14_code 60 = .ok (.ireturn, 1) by decide +kernel)
  have loop_2 : ∀ (x1 : Int32) (q : Int32), dc_wp (dc_it (hm_AT_leastAlike_s2 G Z o x1) q) (fun z => dc_wp ((Sum.elim (fun (z : Int32) => hm_AT_leastAlike_L59 G Z o z) (fun (z : Unit) => hm_AT_leastAlike_L67 G Z o x1)) z) F) → hg_G X l (hg_rm 2 47 Z) D 4 Z 2 [(0, va_rf (some o)), (1, .int x1), (2, .int q)] [] := by
    intro x1
    refine dc_loopF ?_
    intro F_2 hl_2 hr_2
    have lab_61 : ∀ (x2 : Int32), dc_wp (hm_AT_leastAlike_L61 G Z o x1 x2) F_2 → hg_G X l (hg_rm 2 47 Z) D 4 Z 61 [(0, va_rf (some o)), (1, .int x1), (2, .int x2)] [] := by
      intro x2 h
      delta hm_AT_leastAlike_L61 at h
      refine hg_iinc (pc := 61) (i := 2) (v := (x2 + 1)) (lv' := [(2, .int (x2 + 1)), (0, va_rf (some o)), (1, .int x1)]) hC 2 rfl rfl (Nat.le_of_ble_eq_true rfl) rfl (show decode prog_3_method_14_code 61 = .ok (.iinc 2 1, 3) by decide +kernel) ?_
      refine hg_goto (pc := 64) (tgt := 2) hC (show decode prog_3_method_14_code 64 = .ok (.goto (-62), 3) by decide +kernel) (by decide +kernel) ?_
      exact hg_sub [1, 2, 0] rfl (hl_2 (x2 + 1) (dc_some h))
    have lab_30 : ∀ (x2 : Int32) (y0 : Int32), dc_wp (hm_AT_leastAlike_L30 G Z o x1 x2 y0) F_2 → hg_G X l (hg_rm 2 47 Z) D 4 Z 30 [(0, va_rf (some o)), (1, .int x1), (2, .int x2)] [.int y0] := by
      intro x2 y0 h
      delta hm_AT_leastAlike_L30 at h
      refine hg_istoren (pc := 30) (j := 3) (i := 3) (lv' := [(3, .int y0), (0, va_rf (some o)), (1, .int x1), (2, .int x2)]) hC rfl (Nat.le_of_ble_eq_true rfl) rfl (show decode prog_3_method_14_code 30 = .ok (.istore_n 3, 1) by decide +kernel) ?_
      refine hg_iloadn (pc := 31) (j := 3) (i := 3) hC 0 rfl rfl (show decode prog_3_method_14_code 31 = .ok (.iload_n 3, 1) by decide +kernel) ?_
      refine hg_if_eq (pc := 32) (tgt := 61) hC (show decode prog_3_method_14_code 32 = .ok (.ifCond .eq 29, 3) by decide +kernel) (by decide +kernel) h ?_ ?_
      · intro h
        exact hg_sub [1, 2, 3] rfl (lab_61 x2 h)
      · intro h
        refine hg_aloadn (pc := 35) (j := 0) (i := 0) (r := (some o)) hC 1 rfl rfl (show decode prog_3_method_14_code 35 = .ok (.aload_n 0, 1) by decide +kernel) ?_
        refine hg_rgr (pc := 36) (r := (some o)) hC fl_SignalEngine_Atlas_30 (show decode prog_3_method_14_code 36 = .ok (.getfield 30, 3) by decide +kernel) h ?_
        intro e1 h
        refine hg_iloadn (pc := 39) (j := 2) (i := 2) hC 3 rfl rfl (show decode prog_3_method_14_code 39 = .ok (.iload_n 2, 1) by decide +kernel) ?_
        refine hg_riald (pc := 40) (r := e1) hC (show decode prog_3_method_14_code 40 = .ok (.iaload, 1) by decide +kernel) h ?_
        intro e2 h
        refine hg_aloadn (pc := 41) (j := 0) (i := 0) (r := (some o)) hC 1 rfl rfl (show decode prog_3_method_14_code 41 = .ok (.aload_n 0, 1) by decide +kernel) ?_
        refine hg_rgr (pc := 42) (r := (some o)) hC fl_SignalEngine_Atlas_30 (show decode prog_3_method_14_code 42 = .ok (.getfield 30, 3) by decide +kernel) h ?_
        intro e3 h
        refine hg_iloadn (pc := 45) (j := 1) (i := 1) hC 2 rfl rfl (show decode prog_3_method_14_code 45 = .ok (.iload_n 1, 1) by decide +kernel) ?_
        refine hg_riald (pc := 46) (r := e3) hC (show decode prog_3_method_14_code 46 = .ok (.iaload, 1) by decide +kernel) h ?_
        intro e4 h
        refine hg_icmp_ne (pc := 47) (tgt := 61) hC (show decode prog_3_method_14_code 47 = .ok (.if_icmp .ne 14, 3) by decide +kernel) (by decide +kernel) h ?_ ?_
        · intro h
          refine hg_aloadn (pc := 50) (j := 0) (i := 0) (r := (some o)) hC 1 rfl rfl (show decode prog_3_method_14_code 50 = .ok (.aload_n 0, 1) by decide +kernel) ?_
          refine hg_iloadn (pc := 51) (j := 2) (i := 2) hC 3 rfl rfl (show decode prog_3_method_14_code 51 = .ok (.iload_n 2, 1) by decide +kernel) ?_
          refine hg_iloadn (pc := 52) (j := 1) (i := 1) hC 2 rfl rfl (show decode prog_3_method_14_code 52 = .ok (.iload_n 1, 1) by decide +kernel) ?_
          obtain ⟨b5, hb6, h⟩ := dc_bind h
          obtain ⟨hb6, hv7⟩ := hg_chk_of (C := R_AT) rfl hb6
          refine hg_kVi (pc := 53) (b := b5) (r := (some o)) (As := [.int x2, .int x1]) (rest := []) (vo := fun q => q) (so := fun q => Z) hC cw_SignalEngine_Atlas_133 (fun q hq => hm_AT_actAlike_ok l D G Z b5 x2 x1 q hq) (Nat.le_of_ble_eq_true rfl) (Nat.le_of_ble_eq_true rfl) hb6 hv7 rfl (Nat.le_of_ble_eq_true rfl) (show decode prog_3_method_14_code 53 = .ok (.invokevirtual 133, 3) by decide +kernel) h ?_
          intro q8 h
          refine hg_if_eq (pc := 56) (tgt := 61) hC (show decode prog_3_method_14_code 56 = .ok (.ifCond .eq 5, 3) by decide +kernel) (by decide +kernel) h ?_ ?_
          · intro h
            exact hg_sub [1, 2, 3] rfl (lab_61 x2 h)
          · intro h
            have h : dc_wp (hm_AT_leastAlike_L59 G Z o x2) F := hr_2 (.inl x2) (dc_some h)
            exact hg_sub [1, 3] rfl (lab_59 x2 h)
        · intro h
          exact hg_sub [1, 2, 3] rfl (lab_61 x2 h)
    have lab_29 : ∀ (x2 : Int32), dc_wp (hm_AT_leastAlike_L29 G Z o x1 x2) F_2 → hg_G X l (hg_rm 2 47 Z) D 4 Z 29 [(0, va_rf (some o)), (1, .int x1), (2, .int x2)] [] := by
      intro x2 h
      delta hm_AT_leastAlike_L29 at h
      refine hg_iconst (pc := 29) (v := 0) hC (show decode prog_3_method_14_code 29 = .ok (.iconst 0, 1) by decide +kernel) (by decide +kernel) ?_
      exact lab_30 x2 0 h
    rintro x2 h
    have h : dc_wp (hm_AT_leastAlike_b2 G Z o x1 x2) F_2 := h
    delta hm_AT_leastAlike_b2 at h
    refine hg_iloadn (pc := 2) (j := 2) (i := 2) hC 2 rfl rfl (show decode prog_3_method_14_code 2 = .ok (.iload_n 2, 1) by decide +kernel) ?_
    refine hg_iloadn (pc := 3) (j := 1) (i := 1) hC 1 rfl rfl (show decode prog_3_method_14_code 3 = .ok (.iload_n 1, 1) by decide +kernel) ?_
    refine hg_icmp_ge (pc := 4) (tgt := 67) hC (show decode prog_3_method_14_code 4 = .ok (.if_icmp .ge 63, 3) by decide +kernel) (by decide +kernel) h ?_ ?_
    · intro h
      refine hg_aloadn (pc := 7) (j := 0) (i := 0) (r := (some o)) hC 0 rfl rfl (show decode prog_3_method_14_code 7 = .ok (.aload_n 0, 1) by decide +kernel) ?_
      refine hg_iloadn (pc := 8) (j := 2) (i := 2) hC 2 rfl rfl (show decode prog_3_method_14_code 8 = .ok (.iload_n 2, 1) by decide +kernel) ?_
      obtain ⟨b9, hb10, h⟩ := dc_bind h
      obtain ⟨hb10, hv11⟩ := hg_chk_of (C := R_AT) rfl hb10
      refine hg_kVi (pc := 9) (b := b9) (r := (some o)) (As := [.int x2]) (rest := []) (vo := fun q => q) (so := fun q => Z) hC cw_SignalEngine_Atlas_36 (fun q hq => hm_AT_reaches_ok l D G Z b9 x2 q hq) (Nat.le_of_ble_eq_true rfl) (Nat.le_of_ble_eq_true rfl) hb10 hv11 rfl (Nat.le_of_ble_eq_true rfl) (show decode prog_3_method_14_code 9 = .ok (.invokevirtual 36, 3) by decide +kernel) h ?_
      intro q12 h
      refine hg_if_eq (pc := 12) (tgt := 29) hC (show decode prog_3_method_14_code 12 = .ok (.ifCond .eq 17, 3) by decide +kernel) (by decide +kernel) h ?_ ?_
      · intro h
        exact lab_29 x2 h
      · intro h
        refine hg_aloadn (pc := 15) (j := 0) (i := 0) (r := (some o)) hC 0 rfl rfl (show decode prog_3_method_14_code 15 = .ok (.aload_n 0, 1) by decide +kernel) ?_
        refine hg_rgr (pc := 16) (r := (some o)) hC fl_SignalEngine_Atlas_33 (show decode prog_3_method_14_code 16 = .ok (.getfield 33, 3) by decide +kernel) h ?_
        intro e13 h
        refine hg_iloadn (pc := 19) (j := 2) (i := 2) hC 2 rfl rfl (show decode prog_3_method_14_code 19 = .ok (.iload_n 2, 1) by decide +kernel) ?_
        refine hg_riald (pc := 20) (r := e13) hC (show decode prog_3_method_14_code 20 = .ok (.iaload, 1) by decide +kernel) h ?_
        intro e14 h
        refine hg_iloadn (pc := 21) (j := 2) (i := 2) hC 2 rfl rfl (show decode prog_3_method_14_code 21 = .ok (.iload_n 2, 1) by decide +kernel) ?_
        refine hg_icmp_ne (pc := 22) (tgt := 29) hC (show decode prog_3_method_14_code 22 = .ok (.if_icmp .ne 7, 3) by decide +kernel) (by decide +kernel) h ?_ ?_
        · intro h
          refine hg_iconst (pc := 25) (v := 1) hC (show decode prog_3_method_14_code 25 = .ok (.iconst 1, 1) by decide +kernel) (by decide +kernel) ?_
          refine hg_goto (pc := 26) (tgt := 30) hC (show decode prog_3_method_14_code 26 = .ok (.goto 4, 3) by decide +kernel) (by decide +kernel) ?_
          exact lab_30 x2 1 h
        · intro h
          exact lab_29 x2 h
    · intro h
      have h : dc_wp (hm_AT_leastAlike_L67 G Z o x1) F := hr_2 (.inr ()) (dc_some h)
      exact hg_sub [0, 1] rfl (lab_67 x1 h)
  have lab_2 : ∀ (x1 : Int32) (x2 : Int32), dc_wp (hm_AT_leastAlike_L2 G Z o x1 x2) F → hg_G X l (hg_rm 2 47 Z) D 4 Z 2 [(0, va_rf (some o)), (1, .int x1), (2, .int x2)] [] := fun x1 x2 h => loop_2 x1 x2 (dc_bind h)
  show hg_G X l (hg_rm 2 47 Z) D 4 Z 0 [(0, va_rf (some o)), (1, .int p1)] []
  have h : dc_wp (hm_AT_leastAlike G Z o p1) F := h
  delta hm_AT_leastAlike at h
  refine hg_iconst (pc := 0) (v := 0) hC (show decode prog_3_method_14_code 0 = .ok (.iconst 0, 1) by decide +kernel) (by decide +kernel) ?_
  refine hg_istoren (pc := 1) (j := 2) (i := 2) (lv' := [(2, .int 0), (0, va_rf (some o)), (1, .int p1)]) hC rfl (Nat.le_of_ble_eq_true rfl) rfl (show decode prog_3_method_14_code 1 = .ok (.istore_n 2, 1) by decide +kernel) ?_
  exact hg_sub [1, 2, 0] rfl (lab_2 p1 0 h)
noncomputable def hm_AT_splitGroups_L63 (G : hg_E) (S : hg_S) (o : Nat) : Option (hg_S) :=
  (hg_gr S (some o) 11 7).bind fun e1 => (hg_gr S (some o) 11 6).bind fun e2 => (hg_cpy G S 0 .int e1 0 e2 0 257).bind fun S3 => some S3
noncomputable def hm_AT_splitGroups_L57 (G : hg_E) (S : hg_S) (o : Nat) (x1 : Int32) : Option ((hg_S × Int32) ⊕ ((hg_S))) :=
  some (.inl (S, (x1 + 1)))
noncomputable def hm_AT_splitGroups_L53 (G : hg_E) (S : hg_S) (o : Nat) (x1 : Int32) (y0 : Int32) (y1 : Int32) : Option ((hg_S × Int32) ⊕ ((hg_S))) :=
  (hg_pf S (some o) 11 12 (.int (y1 + y0))).bind fun S4 => hm_AT_splitGroups_L57 G S4 o x1
noncomputable def hm_AT_splitGroups_b7 (G : hg_E) (S : hg_S) (o : Nat) (x1 : Int32) : Option ((hg_S × Int32) ⊕ ((hg_S))) :=
  if x1 < 257 then ((hg_chk S (some o) 11).bind fun b5 => (hm_AT_reaches G S b5 x1).bind fun q8 => if q8 = 0 then (hm_AT_splitGroups_L57 G S o x1) else ((hg_gr S (some o) 11 7).bind fun e9 => (hg_chk S (some o) 11).bind fun b10 => (hm_AT_leastAlike G S b10 x1).bind fun q13 => (hg_st S e9 (G.1 0) x1 q13).bind fun S14 => (hg_gi S14 (some o) 11 12).bind fun e15 => (hg_gr S14 (some o) 11 7).bind fun e16 => (hg_ld S14 e16 (G.1 0) x1).bind fun e17 => if e17 = x1 then (hm_AT_splitGroups_L53 G S14 o x1 1 e15) else (hm_AT_splitGroups_L53 G S14 o x1 0 e15))) else (some (.inr S))
noncomputable def hm_AT_splitGroups_s7 (G : hg_E) (o : Nat) (q : hg_S × Int32) : Option ((hg_S × Int32) ⊕ ((hg_S))) :=
  hm_AT_splitGroups_b7 G q.1 o q.2
noncomputable def hm_AT_splitGroups_L7 (G : hg_E) (S : hg_S) (o : Nat) (x1 : Int32) : Option (hg_S) :=
  (dc_it (hm_AT_splitGroups_s7 G o) (S, x1)).bind (fun (z : hg_S) => hm_AT_splitGroups_L63 G z o)
noncomputable def hm_AT_splitGroups (G : hg_E) (S : hg_S) (o : Nat) : Option (hg_S) :=
  (hg_pf S (some o) 11 12 (.int 0)).bind fun S18 => hm_AT_splitGroups_L7 G S18 o 0
set_option maxHeartbeats 4000000 in
set_option maxRecDepth 100000 in
/-- SignalEngine$Atlas.splitGroups()V -/
theorem hm_AT_splitGroups_ok (l : Launch) (D : va_G) (G : hg_E) (Z : hg_S) (o : Nat) (q : hg_S) (hq : hm_AT_splitGroups G Z o = some q) : hg_C l ⟨"SignalEngine$Atlas", "splitGroups", "()V"⟩ prog_3_method_13_code 2 none 3 70 D G [.ref o] Z (.inl (none, q) : hg_O) := by
  refine hg_start (cv := fun q => (.inl (none, q) : hg_O)) hq ?_
  intro F hF h
  refine hg_enter (lv := [(0, va_rf (some o))]) (by decide +kernel) (by simp [lg_sl, va_rf_cat, hg_cti, hg_ctr]) (by simp [lv_args, va_rf_cat, va_rf_some, hg_cti, hg_ctr]) ?_
  intro X hC hR
  have lab_63 : ∀ (S : hg_S), dc_wp (hm_AT_splitGroups_L63 G S o) F → hg_G X l (hg_rm 3 70 Z) D 2 S 63 [(0, va_rf (some o))] [] := by
    intro S  h
    delta hm_AT_splitGroups_L63 at h
    refine hg_aloadn (pc := 63) (j := 0) (i := 0) (r := (some o)) hC 0 rfl rfl (show decode prog_3_method_13_code 63 = .ok (.aload_n 0, 1) by decide +kernel) ?_
    refine hg_rgr (pc := 64) (r := (some o)) hC fl_SignalEngine_Atlas_33 (show decode prog_3_method_13_code 64 = .ok (.getfield 33, 3) by decide +kernel) h ?_
    intro e1 h
    refine hg_iconst (pc := 67) (v := 0) hC (show decode prog_3_method_13_code 67 = .ok (.iconst 0, 1) by decide +kernel) (by decide +kernel) ?_
    refine hg_aloadn (pc := 68) (j := 0) (i := 0) (r := (some o)) hC 0 rfl rfl (show decode prog_3_method_13_code 68 = .ok (.aload_n 0, 1) by decide +kernel) ?_
    refine hg_rgr (pc := 69) (r := (some o)) hC fl_SignalEngine_Atlas_30 (show decode prog_3_method_13_code 69 = .ok (.getfield 30, 3) by decide +kernel) h ?_
    intro e2 h
    refine hg_iconst (pc := 72) (v := 0) hC (show decode prog_3_method_13_code 72 = .ok (.iconst 0, 1) by decide +kernel) (by decide +kernel) ?_
    refine hg_sipush (pc := 73) (v := 257) hC (show decode prog_3_method_13_code 73 = .ok (.sipush 257, 3) by decide +kernel) (by decide +kernel) ?_
    refine hg_rcpy (pc := 76) (t := 0) (r0 := e1) (r1 := e2) hC rfl rfl w_1418 w_106 w_105 w_5 (Nat.le_of_ble_eq_true rfl) (Nat.le_of_ble_eq_true rfl) (show decode prog_3_method_13_code 76 = .ok (.invokestatic 127, 3) by decide +kernel) h ?_
    intro S3 h
    exact hg_vret (pc := 79) hC hR (hF _ (dc_some h)) (show decode prog_3_method_13_code 79 = .ok (.return_, 1) by decide +kernel)
  have loop_7 : ∀ (q : hg_S × Int32), dc_wp (dc_it (hm_AT_splitGroups_s7 G o) q) (fun z => dc_wp ((fun (z : hg_S) => hm_AT_splitGroups_L63 G z o) z) F) → hg_G X l (hg_rm 3 70 Z) D 2 q.1 7 [(0, va_rf (some o)), (1, .int q.2)] [] := by
    refine dc_loopF ?_
    intro F_7 hl_7 hr_7
    have lab_57 : ∀ (S : hg_S) (x1 : Int32), dc_wp (hm_AT_splitGroups_L57 G S o x1) F_7 → hg_G X l (hg_rm 3 70 Z) D 2 S 57 [(0, va_rf (some o)), (1, .int x1)] [] := by
      intro S x1 h
      delta hm_AT_splitGroups_L57 at h
      refine hg_iinc (pc := 57) (i := 1) (v := (x1 + 1)) (lv' := [(1, .int (x1 + 1)), (0, va_rf (some o))]) hC 1 rfl rfl (Nat.le_of_ble_eq_true rfl) rfl (show decode prog_3_method_13_code 57 = .ok (.iinc 1 1, 3) by decide +kernel) ?_
      refine hg_goto (pc := 60) (tgt := 7) hC (show decode prog_3_method_13_code 60 = .ok (.goto (-53), 3) by decide +kernel) (by decide +kernel) ?_
      exact hg_sub [1, 0] rfl (hl_7 (S, (x1 + 1)) (dc_some h))
    have lab_53 : ∀ (S : hg_S) (x1 : Int32) (y0 : Int32) (y1 : Int32), dc_wp (hm_AT_splitGroups_L53 G S o x1 y0 y1) F_7 → hg_G X l (hg_rm 3 70 Z) D 2 S 53 [(0, va_rf (some o)), (1, .int x1)] [.int y0, .int y1, va_rf (some o)] := by
      intro S x1 y0 y1 h
      delta hm_AT_splitGroups_L53 at h
      refine hg_iadd (pc := 53) hC (show decode prog_3_method_13_code 53 = .ok (.iadd, 1) by decide +kernel) ?_
      refine hg_rput (pc := 54) (r := (some o)) (v := .int (y1 + y0)) hC fp_SignalEngine_Atlas_117 rfl rfl (show decode prog_3_method_13_code 54 = .ok (.putfield 117, 3) by decide +kernel) h ?_
      intro S4 h
      exact lab_57 S4 x1 h
    rintro ⟨S, x1⟩ h
    have h : dc_wp (hm_AT_splitGroups_b7 G S o x1) F_7 := h
    delta hm_AT_splitGroups_b7 at h
    refine hg_iloadn (pc := 7) (j := 1) (i := 1) hC 1 rfl rfl (show decode prog_3_method_13_code 7 = .ok (.iload_n 1, 1) by decide +kernel) ?_
    refine hg_sipush (pc := 8) (v := 257) hC (show decode prog_3_method_13_code 8 = .ok (.sipush 257, 3) by decide +kernel) (by decide +kernel) ?_
    refine hg_icmp_ge (pc := 11) (tgt := 63) hC (show decode prog_3_method_13_code 11 = .ok (.if_icmp .ge 52, 3) by decide +kernel) (by decide +kernel) h ?_ ?_
    · intro h
      refine hg_aloadn (pc := 14) (j := 0) (i := 0) (r := (some o)) hC 0 rfl rfl (show decode prog_3_method_13_code 14 = .ok (.aload_n 0, 1) by decide +kernel) ?_
      refine hg_iloadn (pc := 15) (j := 1) (i := 1) hC 1 rfl rfl (show decode prog_3_method_13_code 15 = .ok (.iload_n 1, 1) by decide +kernel) ?_
      obtain ⟨b5, hb6, h⟩ := dc_bind h
      obtain ⟨hb6, hv7⟩ := hg_chk_of (C := R_AT) rfl hb6
      refine hg_kVi (pc := 16) (b := b5) (r := (some o)) (As := [.int x1]) (rest := []) (vo := fun q => q) (so := fun q => S) hC cw_SignalEngine_Atlas_36 (fun q hq => hm_AT_reaches_ok l D G S b5 x1 q hq) (Nat.le_of_ble_eq_true rfl) (Nat.le_of_ble_eq_true rfl) hb6 hv7 rfl (Nat.le_of_ble_eq_true rfl) (show decode prog_3_method_13_code 16 = .ok (.invokevirtual 36, 3) by decide +kernel) h ?_
      intro q8 h
      refine hg_if_eq (pc := 19) (tgt := 57) hC (show decode prog_3_method_13_code 19 = .ok (.ifCond .eq 38, 3) by decide +kernel) (by decide +kernel) h ?_ ?_
      · intro h
        exact lab_57 S x1 h
      · intro h
        refine hg_aloadn (pc := 22) (j := 0) (i := 0) (r := (some o)) hC 0 rfl rfl (show decode prog_3_method_13_code 22 = .ok (.aload_n 0, 1) by decide +kernel) ?_
        refine hg_rgr (pc := 23) (r := (some o)) hC fl_SignalEngine_Atlas_33 (show decode prog_3_method_13_code 23 = .ok (.getfield 33, 3) by decide +kernel) h ?_
        intro e9 h
        refine hg_iloadn (pc := 26) (j := 1) (i := 1) hC 1 rfl rfl (show decode prog_3_method_13_code 26 = .ok (.iload_n 1, 1) by decide +kernel) ?_
        refine hg_aloadn (pc := 27) (j := 0) (i := 0) (r := (some o)) hC 0 rfl rfl (show decode prog_3_method_13_code 27 = .ok (.aload_n 0, 1) by decide +kernel) ?_
        refine hg_iloadn (pc := 28) (j := 1) (i := 1) hC 1 rfl rfl (show decode prog_3_method_13_code 28 = .ok (.iload_n 1, 1) by decide +kernel) ?_
        obtain ⟨b10, hb11, h⟩ := dc_bind h
        obtain ⟨hb11, hv12⟩ := hg_chk_of (C := R_AT) rfl hb11
        refine hg_kVi (pc := 29) (b := b10) (r := (some o)) (As := [.int x1]) (rest := [.int x1, va_rf e9]) (vo := fun q => q) (so := fun q => S) hC cw_SignalEngine_Atlas_123 (fun q hq => hm_AT_leastAlike_ok l D G S b10 x1 q hq) (Nat.le_of_ble_eq_true rfl) (Nat.le_of_ble_eq_true rfl) hb11 hv12 rfl (by simp only [List.map, va_rf_cat]; exact Nat.le_of_ble_eq_true rfl) (show decode prog_3_method_13_code 29 = .ok (.invokevirtual 123, 3) by decide +kernel) h ?_
        intro q13 h
        refine hg_riast (pc := 32) (r := e9) hC (show decode prog_3_method_13_code 32 = .ok (.iastore, 1) by decide +kernel) h ?_
        intro S14 h
        refine hg_aloadn (pc := 33) (j := 0) (i := 0) (r := (some o)) hC 0 rfl rfl (show decode prog_3_method_13_code 33 = .ok (.aload_n 0, 1) by decide +kernel) ?_
        refine hg_dup (pc := 34) hC (show decode prog_3_method_13_code 34 = .ok (.dup, 1) by decide +kernel) rfl ?_
        refine hg_rgi (pc := 35) (r := (some o)) hC fl_SignalEngine_Atlas_117 (show decode prog_3_method_13_code 35 = .ok (.getfield 117, 3) by decide +kernel) h ?_
        intro e15 h
        refine hg_aloadn (pc := 38) (j := 0) (i := 0) (r := (some o)) hC 0 rfl rfl (show decode prog_3_method_13_code 38 = .ok (.aload_n 0, 1) by decide +kernel) ?_
        refine hg_rgr (pc := 39) (r := (some o)) hC fl_SignalEngine_Atlas_33 (show decode prog_3_method_13_code 39 = .ok (.getfield 33, 3) by decide +kernel) h ?_
        intro e16 h
        refine hg_iloadn (pc := 42) (j := 1) (i := 1) hC 1 rfl rfl (show decode prog_3_method_13_code 42 = .ok (.iload_n 1, 1) by decide +kernel) ?_
        refine hg_riald (pc := 43) (r := e16) hC (show decode prog_3_method_13_code 43 = .ok (.iaload, 1) by decide +kernel) h ?_
        intro e17 h
        refine hg_iloadn (pc := 44) (j := 1) (i := 1) hC 1 rfl rfl (show decode prog_3_method_13_code 44 = .ok (.iload_n 1, 1) by decide +kernel) ?_
        refine hg_icmp_ne (pc := 45) (tgt := 52) hC (show decode prog_3_method_13_code 45 = .ok (.if_icmp .ne 7, 3) by decide +kernel) (by decide +kernel) h ?_ ?_
        · intro h
          refine hg_iconst (pc := 48) (v := 1) hC (show decode prog_3_method_13_code 48 = .ok (.iconst 1, 1) by decide +kernel) (by decide +kernel) ?_
          refine hg_goto (pc := 49) (tgt := 53) hC (show decode prog_3_method_13_code 49 = .ok (.goto 4, 3) by decide +kernel) (by decide +kernel) ?_
          exact lab_53 S14 x1 1 e15 h
        · intro h
          refine hg_iconst (pc := 52) (v := 0) hC (show decode prog_3_method_13_code 52 = .ok (.iconst 0, 1) by decide +kernel) (by decide +kernel) ?_
          exact lab_53 S14 x1 0 e15 h
    · intro h
      have h : dc_wp (hm_AT_splitGroups_L63 G S o) F := hr_7 S (dc_some h)
      exact hg_sub [0] rfl (lab_63 S h)
  have lab_7 : ∀ (S : hg_S) (x1 : Int32), dc_wp (hm_AT_splitGroups_L7 G S o x1) F → hg_G X l (hg_rm 3 70 Z) D 2 S 7 [(0, va_rf (some o)), (1, .int x1)] [] := fun S x1 h => loop_7  (S, x1) (dc_bind h)
  show hg_G X l (hg_rm 3 70 Z) D 2 Z 0 [(0, va_rf (some o))] []
  have h : dc_wp (hm_AT_splitGroups G Z o) F := h
  delta hm_AT_splitGroups at h
  refine hg_aloadn (pc := 0) (j := 0) (i := 0) (r := (some o)) hC 0 rfl rfl (show decode prog_3_method_13_code 0 = .ok (.aload_n 0, 1) by decide +kernel) ?_
  refine hg_iconst (pc := 1) (v := 0) hC (show decode prog_3_method_13_code 1 = .ok (.iconst 0, 1) by decide +kernel) (by decide +kernel) ?_
  refine hg_rput (pc := 2) (r := (some o)) (v := .int 0) hC fp_SignalEngine_Atlas_117 rfl rfl (show decode prog_3_method_13_code 2 = .ok (.putfield 117, 3) by decide +kernel) h ?_
  intro S18 h
  refine hg_iconst (pc := 5) (v := 0) hC (show decode prog_3_method_13_code 5 = .ok (.iconst 0, 1) by decide +kernel) (by decide +kernel) ?_
  refine hg_istoren (pc := 6) (j := 1) (i := 1) (lv' := [(1, .int 0), (0, va_rf (some o))]) hC rfl (Nat.le_of_ble_eq_true rfl) rfl (show decode prog_3_method_13_code 6 = .ok (.istore_n 1, 1) by decide +kernel) ?_
  exact hg_sub [1, 0] rfl (lab_7 S18 0 h)
noncomputable def hm_AT_sortOut_L98 (G : hg_E) (S : hg_S) (o : Nat) : Option (hg_S) :=
  some S
noncomputable def hm_AT_sortOut_b68 (G : hg_E) (S : hg_S) (o : Nat) (x2 : Int32) (x3 : Int32) : Option ((hg_S × Int32 × Int32) ⊕ ((hg_S))) :=
  if x3 < 257 then ((hg_gi S (some o) 11 12).bind fun e1 => if e1 = x2 then (some (.inr S)) else ((hg_gi S (some o) 11 12).bind fun e2 => (hg_chk S (some o) 11).bind fun b3 => (hm_AT_splitGroups G S b3).bind fun q6 => some (.inl (q6, e2, (x3 + 1))))) else (some (.inr S))
noncomputable def hm_AT_sortOut_s68 (G : hg_E) (o : Nat) (q : hg_S × Int32 × Int32) : Option ((hg_S × Int32 × Int32) ⊕ ((hg_S))) :=
  hm_AT_sortOut_b68 G q.1 o q.2.1 q.2.2
noncomputable def hm_AT_sortOut_L68 (G : hg_E) (S : hg_S) (o : Nat) (x2 : Int32) (x3 : Int32) : Option (hg_S) :=
  (dc_it (hm_AT_sortOut_s68 G o) (S, x2, x3)).bind (fun (z : hg_S) => hm_AT_sortOut_L98 G z o)
noncomputable def hm_AT_sortOut_L59 (G : hg_E) (S : hg_S) (o : Nat) : Option (hg_S) :=
  (hg_pf S (some o) 11 12 (.int 1)).bind fun S7 => hm_AT_sortOut_L68 G S7 o 0 0
noncomputable def hm_AT_sortOut_b33 (G : hg_E) (S : hg_S) (o : Nat) (x1 : Int32) (x2 : Int32) : Option ((hg_S × Int32) ⊕ ((hg_S))) :=
  (hg_gi S (some o) 11 9).bind fun e8 => if x2 < e8 then ((hg_gr S (some o) 11 6).bind fun e9 => (hg_gr S (some o) 11 5).bind fun e10 => (hg_ld S e10 (G.1 0) x2).bind fun e11 => (hg_st S e9 (G.1 0) e11 x1).bind fun S12 => some (.inl (S12, (x2 + 1)))) else (some (.inr S))
noncomputable def hm_AT_sortOut_s33 (G : hg_E) (o : Nat) (x1 : Int32) (q : hg_S × Int32) : Option ((hg_S × Int32) ⊕ ((hg_S))) :=
  hm_AT_sortOut_b33 G q.1 o x1 q.2
noncomputable def hm_AT_sortOut_L33 (G : hg_E) (S : hg_S) (o : Nat) (x1 : Int32) (x2 : Int32) : Option (hg_S) :=
  (dc_it (hm_AT_sortOut_s33 G o x1) (S, x2)).bind (fun (z : hg_S) => hm_AT_sortOut_L59 G z o)
noncomputable def hm_AT_sortOut_L31 (G : hg_E) (S : hg_S) (o : Nat) (x1 : Int32) : Option (hg_S) :=
  hm_AT_sortOut_L33 G S o x1 0
noncomputable def hm_AT_sortOut_b6 (G : hg_E) (S : hg_S) (o : Nat) (x1 : Int32) (x2 : Int32) : Option ((Int32 × Int32) ⊕ ((Int32))) :=
  (hg_gi S (some o) 11 9).bind fun e13 => if x2 < e13 then ((hg_gr S (some o) 11 5).bind fun e14 => (hg_ld S e14 (G.1 0) x2).bind fun e15 => dc_let ((hg_min x1 e15) : Int32) fun v16 => some (.inl (v16, (x2 + 1)))) else (some (.inr x1))
noncomputable def hm_AT_sortOut_s6 (G : hg_E) (S : hg_S) (o : Nat) (q : Int32 × Int32) : Option ((Int32 × Int32) ⊕ ((Int32))) :=
  hm_AT_sortOut_b6 G S o q.1 q.2
noncomputable def hm_AT_sortOut_L6 (G : hg_E) (S : hg_S) (o : Nat) (x1 : Int32) (x2 : Int32) : Option (hg_S) :=
  (dc_it (hm_AT_sortOut_s6 G S o) (x1, x2)).bind (fun (z : Int32) => hm_AT_sortOut_L31 G S o z)
noncomputable def hm_AT_sortOut (G : hg_E) (S : hg_S) (o : Nat) : Option (hg_S) :=
  hm_AT_sortOut_L6 G S o 256 0
set_option maxHeartbeats 4000000 in
set_option maxRecDepth 100000 in
/-- SignalEngine$Atlas.sortOut()V -/
theorem hm_AT_sortOut_ok (l : Launch) (D : va_G) (G : hg_E) (Z : hg_S) (o : Nat) (q : hg_S) (hq : hm_AT_sortOut G Z o = some q) : hg_C l ⟨"SignalEngine$Atlas", "sortOut", "()V"⟩ prog_3_method_12_code 4 none 4 91 D G [.ref o] Z (.inl (none, q) : hg_O) := by
  refine hg_start (cv := fun q => (.inl (none, q) : hg_O)) hq ?_
  intro F hF h
  refine hg_enter (lv := [(0, va_rf (some o))]) (by decide +kernel) (by simp [lg_sl, va_rf_cat, hg_cti, hg_ctr]) (by simp [lv_args, va_rf_cat, va_rf_some, hg_cti, hg_ctr]) ?_
  intro X hC hR
  have lab_98 : ∀ (S : hg_S), dc_wp (hm_AT_sortOut_L98 G S o) F → hg_G X l (hg_rm 4 91 Z) D 4 S 98 [(0, va_rf (some o))] [] := by
    intro S  h
    delta hm_AT_sortOut_L98 at h
    exact hg_vret (pc := 98) hC hR (hF _ (dc_some h)) (show decode prog_3_method_12_code 98 = .ok (.return_, 1) by decide +kernel)
  have loop_68 : ∀ (q : hg_S × Int32 × Int32), dc_wp (dc_it (hm_AT_sortOut_s68 G o) q) (fun z => dc_wp ((fun (z : hg_S) => hm_AT_sortOut_L98 G z o) z) F) → hg_G X l (hg_rm 4 91 Z) D 4 q.1 68 [(0, va_rf (some o)), (2, .int q.2.1), (3, .int q.2.2)] [] := by
    refine dc_loopF ?_
    intro F_68 hl_68 hr_68
    rintro ⟨S, x2, x3⟩ h
    have h : dc_wp (hm_AT_sortOut_b68 G S o x2 x3) F_68 := h
    delta hm_AT_sortOut_b68 at h
    refine hg_iloadn (pc := 68) (j := 3) (i := 3) hC 2 rfl rfl (show decode prog_3_method_12_code 68 = .ok (.iload_n 3, 1) by decide +kernel) ?_
    refine hg_sipush (pc := 69) (v := 257) hC (show decode prog_3_method_12_code 69 = .ok (.sipush 257, 3) by decide +kernel) (by decide +kernel) ?_
    refine hg_icmp_ge (pc := 72) (tgt := 98) hC (show decode prog_3_method_12_code 72 = .ok (.if_icmp .ge 26, 3) by decide +kernel) (by decide +kernel) h ?_ ?_
    · intro h
      refine hg_aloadn (pc := 75) (j := 0) (i := 0) (r := (some o)) hC 0 rfl rfl (show decode prog_3_method_12_code 75 = .ok (.aload_n 0, 1) by decide +kernel) ?_
      refine hg_rgi (pc := 76) (r := (some o)) hC fl_SignalEngine_Atlas_117 (show decode prog_3_method_12_code 76 = .ok (.getfield 117, 3) by decide +kernel) h ?_
      intro e1 h
      refine hg_iloadn (pc := 79) (j := 2) (i := 2) hC 1 rfl rfl (show decode prog_3_method_12_code 79 = .ok (.iload_n 2, 1) by decide +kernel) ?_
      refine hg_icmp_eq (pc := 80) (tgt := 98) hC (show decode prog_3_method_12_code 80 = .ok (.if_icmp .eq 18, 3) by decide +kernel) (by decide +kernel) h ?_ ?_
      · intro h
        have h : dc_wp (hm_AT_sortOut_L98 G S o) F := hr_68 S (dc_some h)
        exact hg_sub [0] rfl (lab_98 S h)
      · intro h
        refine hg_aloadn (pc := 83) (j := 0) (i := 0) (r := (some o)) hC 0 rfl rfl (show decode prog_3_method_12_code 83 = .ok (.aload_n 0, 1) by decide +kernel) ?_
        refine hg_rgi (pc := 84) (r := (some o)) hC fl_SignalEngine_Atlas_117 (show decode prog_3_method_12_code 84 = .ok (.getfield 117, 3) by decide +kernel) h ?_
        intro e2 h
        refine hg_istoren (pc := 87) (j := 2) (i := 2) (lv' := [(2, .int e2), (0, va_rf (some o)), (3, .int x3)]) hC rfl (Nat.le_of_ble_eq_true rfl) rfl (show decode prog_3_method_12_code 87 = .ok (.istore_n 2, 1) by decide +kernel) ?_
        refine hg_aloadn (pc := 88) (j := 0) (i := 0) (r := (some o)) hC 1 rfl rfl (show decode prog_3_method_12_code 88 = .ok (.aload_n 0, 1) by decide +kernel) ?_
        obtain ⟨b3, hb4, h⟩ := dc_bind h
        obtain ⟨hb4, hv5⟩ := hg_chk_of (C := R_AT) rfl hb4
        refine hg_kVv (pc := 89) (b := b3) (r := (some o)) (As := []) (rest := []) (so := fun q => q) hC cw_SignalEngine_Atlas_120 (fun q hq => hm_AT_splitGroups_ok l D G S b3 q hq) (Nat.le_of_ble_eq_true rfl) (Nat.le_of_ble_eq_true rfl) hb4 hv5 rfl (Nat.le_of_ble_eq_true rfl) (show decode prog_3_method_12_code 89 = .ok (.invokevirtual 120, 3) by decide +kernel) h ?_
        intro q6 h
        refine hg_iinc (pc := 92) (i := 3) (v := (x3 + 1)) (lv' := [(3, .int (x3 + 1)), (2, .int e2), (0, va_rf (some o))]) hC 2 rfl rfl (Nat.le_of_ble_eq_true rfl) rfl (show decode prog_3_method_12_code 92 = .ok (.iinc 3 1, 3) by decide +kernel) ?_
        refine hg_goto (pc := 95) (tgt := 68) hC (show decode prog_3_method_12_code 95 = .ok (.goto (-27), 3) by decide +kernel) (by decide +kernel) ?_
        exact hg_sub [2, 1, 0] rfl (hl_68 (q6, e2, (x3 + 1)) (dc_some h))
    · intro h
      have h : dc_wp (hm_AT_sortOut_L98 G S o) F := hr_68 S (dc_some h)
      exact hg_sub [0] rfl (lab_98 S h)
  have lab_68 : ∀ (S : hg_S) (x2 : Int32) (x3 : Int32), dc_wp (hm_AT_sortOut_L68 G S o x2 x3) F → hg_G X l (hg_rm 4 91 Z) D 4 S 68 [(0, va_rf (some o)), (2, .int x2), (3, .int x3)] [] := fun S x2 x3 h => loop_68  (S, x2, x3) (dc_bind h)
  have lab_59 : ∀ (S : hg_S), dc_wp (hm_AT_sortOut_L59 G S o) F → hg_G X l (hg_rm 4 91 Z) D 4 S 59 [(0, va_rf (some o))] [] := by
    intro S  h
    delta hm_AT_sortOut_L59 at h
    refine hg_aloadn (pc := 59) (j := 0) (i := 0) (r := (some o)) hC 0 rfl rfl (show decode prog_3_method_12_code 59 = .ok (.aload_n 0, 1) by decide +kernel) ?_
    refine hg_iconst (pc := 60) (v := 1) hC (show decode prog_3_method_12_code 60 = .ok (.iconst 1, 1) by decide +kernel) (by decide +kernel) ?_
    refine hg_rput (pc := 61) (r := (some o)) (v := .int 1) hC fp_SignalEngine_Atlas_117 rfl rfl (show decode prog_3_method_12_code 61 = .ok (.putfield 117, 3) by decide +kernel) h ?_
    intro S7 h
    refine hg_iconst (pc := 64) (v := 0) hC (show decode prog_3_method_12_code 64 = .ok (.iconst 0, 1) by decide +kernel) (by decide +kernel) ?_
    refine hg_istoren (pc := 65) (j := 2) (i := 2) (lv' := [(2, .int 0), (0, va_rf (some o))]) hC rfl (Nat.le_of_ble_eq_true rfl) rfl (show decode prog_3_method_12_code 65 = .ok (.istore_n 2, 1) by decide +kernel) ?_
    refine hg_iconst (pc := 66) (v := 0) hC (show decode prog_3_method_12_code 66 = .ok (.iconst 0, 1) by decide +kernel) (by decide +kernel) ?_
    refine hg_istoren (pc := 67) (j := 3) (i := 3) (lv' := [(3, .int 0), (2, .int 0), (0, va_rf (some o))]) hC rfl (Nat.le_of_ble_eq_true rfl) rfl (show decode prog_3_method_12_code 67 = .ok (.istore_n 3, 1) by decide +kernel) ?_
    exact hg_sub [2, 1, 0] rfl (lab_68 S7 0 0 h)
  have loop_33 : ∀ (x1 : Int32) (q : hg_S × Int32), dc_wp (dc_it (hm_AT_sortOut_s33 G o x1) q) (fun z => dc_wp ((fun (z : hg_S) => hm_AT_sortOut_L59 G z o) z) F) → hg_G X l (hg_rm 4 91 Z) D 4 q.1 33 [(0, va_rf (some o)), (1, .int x1), (2, .int q.2)] [] := by
    intro x1
    refine dc_loopF ?_
    intro F_33 hl_33 hr_33
    rintro ⟨S, x2⟩ h
    have h : dc_wp (hm_AT_sortOut_b33 G S o x1 x2) F_33 := h
    delta hm_AT_sortOut_b33 at h
    refine hg_iloadn (pc := 33) (j := 2) (i := 2) hC 2 rfl rfl (show decode prog_3_method_12_code 33 = .ok (.iload_n 2, 1) by decide +kernel) ?_
    refine hg_aloadn (pc := 34) (j := 0) (i := 0) (r := (some o)) hC 0 rfl rfl (show decode prog_3_method_12_code 34 = .ok (.aload_n 0, 1) by decide +kernel) ?_
    refine hg_rgi (pc := 35) (r := (some o)) hC fl_SignalEngine_Atlas_58 (show decode prog_3_method_12_code 35 = .ok (.getfield 58, 3) by decide +kernel) h ?_
    intro e8 h
    refine hg_icmp_ge (pc := 38) (tgt := 59) hC (show decode prog_3_method_12_code 38 = .ok (.if_icmp .ge 21, 3) by decide +kernel) (by decide +kernel) h ?_ ?_
    · intro h
      refine hg_aloadn (pc := 41) (j := 0) (i := 0) (r := (some o)) hC 0 rfl rfl (show decode prog_3_method_12_code 41 = .ok (.aload_n 0, 1) by decide +kernel) ?_
      refine hg_rgr (pc := 42) (r := (some o)) hC fl_SignalEngine_Atlas_30 (show decode prog_3_method_12_code 42 = .ok (.getfield 30, 3) by decide +kernel) h ?_
      intro e9 h
      refine hg_aloadn (pc := 45) (j := 0) (i := 0) (r := (some o)) hC 0 rfl rfl (show decode prog_3_method_12_code 45 = .ok (.aload_n 0, 1) by decide +kernel) ?_
      refine hg_rgr (pc := 46) (r := (some o)) hC fl_SignalEngine_Atlas_27 (show decode prog_3_method_12_code 46 = .ok (.getfield 27, 3) by decide +kernel) h ?_
      intro e10 h
      refine hg_iloadn (pc := 49) (j := 2) (i := 2) hC 2 rfl rfl (show decode prog_3_method_12_code 49 = .ok (.iload_n 2, 1) by decide +kernel) ?_
      refine hg_riald (pc := 50) (r := e10) hC (show decode prog_3_method_12_code 50 = .ok (.iaload, 1) by decide +kernel) h ?_
      intro e11 h
      refine hg_iloadn (pc := 51) (j := 1) (i := 1) hC 1 rfl rfl (show decode prog_3_method_12_code 51 = .ok (.iload_n 1, 1) by decide +kernel) ?_
      refine hg_riast (pc := 52) (r := e9) hC (show decode prog_3_method_12_code 52 = .ok (.iastore, 1) by decide +kernel) h ?_
      intro S12 h
      refine hg_iinc (pc := 53) (i := 2) (v := (x2 + 1)) (lv' := [(2, .int (x2 + 1)), (0, va_rf (some o)), (1, .int x1)]) hC 2 rfl rfl (Nat.le_of_ble_eq_true rfl) rfl (show decode prog_3_method_12_code 53 = .ok (.iinc 2 1, 3) by decide +kernel) ?_
      refine hg_goto (pc := 56) (tgt := 33) hC (show decode prog_3_method_12_code 56 = .ok (.goto (-23), 3) by decide +kernel) (by decide +kernel) ?_
      exact hg_sub [1, 2, 0] rfl (hl_33 (S12, (x2 + 1)) (dc_some h))
    · intro h
      have h : dc_wp (hm_AT_sortOut_L59 G S o) F := hr_33 S (dc_some h)
      exact hg_sub [0] rfl (lab_59 S h)
  have lab_33 : ∀ (S : hg_S) (x1 : Int32) (x2 : Int32), dc_wp (hm_AT_sortOut_L33 G S o x1 x2) F → hg_G X l (hg_rm 4 91 Z) D 4 S 33 [(0, va_rf (some o)), (1, .int x1), (2, .int x2)] [] := fun S x1 x2 h => loop_33 x1 (S, x2) (dc_bind h)
  have lab_31 : ∀ (S : hg_S) (x1 : Int32), dc_wp (hm_AT_sortOut_L31 G S o x1) F → hg_G X l (hg_rm 4 91 Z) D 4 S 31 [(0, va_rf (some o)), (1, .int x1)] [] := by
    intro S x1 h
    delta hm_AT_sortOut_L31 at h
    refine hg_iconst (pc := 31) (v := 0) hC (show decode prog_3_method_12_code 31 = .ok (.iconst 0, 1) by decide +kernel) (by decide +kernel) ?_
    refine hg_istoren (pc := 32) (j := 2) (i := 2) (lv' := [(2, .int 0), (0, va_rf (some o)), (1, .int x1)]) hC rfl (Nat.le_of_ble_eq_true rfl) rfl (show decode prog_3_method_12_code 32 = .ok (.istore_n 2, 1) by decide +kernel) ?_
    exact hg_sub [1, 2, 0] rfl (lab_33 S x1 0 h)
  have loop_6 : ∀ (S : hg_S) (q : Int32 × Int32), dc_wp (dc_it (hm_AT_sortOut_s6 G S o) q) (fun z => dc_wp ((fun (z : Int32) => hm_AT_sortOut_L31 G S o z) z) F) → hg_G X l (hg_rm 4 91 Z) D 4 S 6 [(0, va_rf (some o)), (1, .int q.1), (2, .int q.2)] [] := by
    intro S 
    refine dc_loopF ?_
    intro F_6 hl_6 hr_6
    rintro ⟨x1, x2⟩ h
    have h : dc_wp (hm_AT_sortOut_b6 G S o x1 x2) F_6 := h
    delta hm_AT_sortOut_b6 at h
    refine hg_iloadn (pc := 6) (j := 2) (i := 2) hC 2 rfl rfl (show decode prog_3_method_12_code 6 = .ok (.iload_n 2, 1) by decide +kernel) ?_
    refine hg_aloadn (pc := 7) (j := 0) (i := 0) (r := (some o)) hC 0 rfl rfl (show decode prog_3_method_12_code 7 = .ok (.aload_n 0, 1) by decide +kernel) ?_
    refine hg_rgi (pc := 8) (r := (some o)) hC fl_SignalEngine_Atlas_58 (show decode prog_3_method_12_code 8 = .ok (.getfield 58, 3) by decide +kernel) h ?_
    intro e13 h
    refine hg_icmp_ge (pc := 11) (tgt := 31) hC (show decode prog_3_method_12_code 11 = .ok (.if_icmp .ge 20, 3) by decide +kernel) (by decide +kernel) h ?_ ?_
    · intro h
      refine hg_iloadn (pc := 14) (j := 1) (i := 1) hC 1 rfl rfl (show decode prog_3_method_12_code 14 = .ok (.iload_n 1, 1) by decide +kernel) ?_
      refine hg_aloadn (pc := 15) (j := 0) (i := 0) (r := (some o)) hC 0 rfl rfl (show decode prog_3_method_12_code 15 = .ok (.aload_n 0, 1) by decide +kernel) ?_
      refine hg_rgr (pc := 16) (r := (some o)) hC fl_SignalEngine_Atlas_27 (show decode prog_3_method_12_code 16 = .ok (.getfield 27, 3) by decide +kernel) h ?_
      intro e14 h
      refine hg_iloadn (pc := 19) (j := 2) (i := 2) hC 2 rfl rfl (show decode prog_3_method_12_code 19 = .ok (.iload_n 2, 1) by decide +kernel) ?_
      refine hg_riald (pc := 20) (r := e14) hC (show decode prog_3_method_12_code 20 = .ok (.iaload, 1) by decide +kernel) h ?_
      intro e15 h
      refine hg_mmin (pc := 21) hC w_1405 w_102 w_4 w_103 (Nat.le_of_ble_eq_true rfl) (Nat.le_of_ble_eq_true rfl) (show decode prog_3_method_12_code 21 = .ok (.invokestatic 112, 3) by decide +kernel) ?_
      refine hg_letI h ?_
      intro v16 h
      refine hg_istoren (pc := 24) (j := 1) (i := 1) (lv' := [(1, .int v16), (0, va_rf (some o)), (2, .int x2)]) hC rfl (Nat.le_of_ble_eq_true rfl) rfl (show decode prog_3_method_12_code 24 = .ok (.istore_n 1, 1) by decide +kernel) ?_
      refine hg_iinc (pc := 25) (i := 2) (v := (x2 + 1)) (lv' := [(2, .int (x2 + 1)), (1, .int v16), (0, va_rf (some o))]) hC 2 rfl rfl (Nat.le_of_ble_eq_true rfl) rfl (show decode prog_3_method_12_code 25 = .ok (.iinc 2 1, 3) by decide +kernel) ?_
      refine hg_goto (pc := 28) (tgt := 6) hC (show decode prog_3_method_12_code 28 = .ok (.goto (-22), 3) by decide +kernel) (by decide +kernel) ?_
      exact hg_sub [2, 1, 0] rfl (hl_6 (v16, (x2 + 1)) (dc_some h))
    · intro h
      have h : dc_wp (hm_AT_sortOut_L31 G S o x1) F := hr_6 x1 (dc_some h)
      exact hg_sub [0, 1] rfl (lab_31 S x1 h)
  have lab_6 : ∀ (S : hg_S) (x1 : Int32) (x2 : Int32), dc_wp (hm_AT_sortOut_L6 G S o x1 x2) F → hg_G X l (hg_rm 4 91 Z) D 4 S 6 [(0, va_rf (some o)), (1, .int x1), (2, .int x2)] [] := fun S x1 x2 h => loop_6 S  (x1, x2) (dc_bind h)
  show hg_G X l (hg_rm 4 91 Z) D 4 Z 0 [(0, va_rf (some o))] []
  have h : dc_wp (hm_AT_sortOut G Z o) F := h
  delta hm_AT_sortOut at h
  refine hg_sipush (pc := 0) (v := 256) hC (show decode prog_3_method_12_code 0 = .ok (.sipush 256, 3) by decide +kernel) (by decide +kernel) ?_
  refine hg_istoren (pc := 3) (j := 1) (i := 1) (lv' := [(1, .int 256), (0, va_rf (some o))]) hC rfl (Nat.le_of_ble_eq_true rfl) rfl (show decode prog_3_method_12_code 3 = .ok (.istore_n 1, 1) by decide +kernel) ?_
  refine hg_iconst (pc := 4) (v := 0) hC (show decode prog_3_method_12_code 4 = .ok (.iconst 0, 1) by decide +kernel) (by decide +kernel) ?_
  refine hg_istoren (pc := 5) (j := 2) (i := 2) (lv' := [(2, .int 0), (1, .int 256), (0, va_rf (some o))]) hC rfl (Nat.le_of_ble_eq_true rfl) rfl (show decode prog_3_method_12_code 5 = .ok (.istore_n 2, 1) by decide +kernel) ?_
  exact hg_sub [2, 1, 0] rfl (lab_6 Z 256 0 h)
noncomputable def hm_AT_survey_L94 (G : hg_E) (S : hg_S) (o : Nat) : Option (hg_S) :=
  (hg_chk S (some o) 11).bind fun b1 => (hm_AT_sortOut G S b1).bind fun q4 => some q4
noncomputable def hm_AT_survey_b57 (G : hg_E) (S : hg_S) (o : Nat) (x1 : Option Nat) (x2 : Option Nat) (x3 : Option Nat) (x4 : Int32) : Option ((hg_S × Int32) ⊕ ((hg_S))) :=
  (hg_gi S (some o) 11 9).bind fun e5 => if x4 < e5 then (if x4 < 257 then ((hg_gr S (some o) 11 5).bind fun e6 => (hg_ld S e6 (G.1 0) x4).bind fun e7 => (hg_chk S (some o) 11).bind fun b8 => (hm_AT_tryAll G S b8 e7 x1 x2 x3).bind fun q11 => some (.inl (q11, (x4 + 1)))) else (some (.inr S))) else (some (.inr S))
noncomputable def hm_AT_survey_s57 (G : hg_E) (o : Nat) (x1 : Option Nat) (x2 : Option Nat) (x3 : Option Nat) (q : hg_S × Int32) : Option ((hg_S × Int32) ⊕ ((hg_S))) :=
  hm_AT_survey_b57 G q.1 o x1 x2 x3 q.2
noncomputable def hm_AT_survey_L57 (G : hg_E) (S : hg_S) (o : Nat) (x1 : Option Nat) (x2 : Option Nat) (x3 : Option Nat) (x4 : Int32) : Option (hg_S) :=
  (dc_it (hm_AT_survey_s57 G o x1 x2 x3) (S, x4)).bind (fun (z : hg_S) => hm_AT_survey_L94 G z o)
noncomputable def hm_AT_survey (G : hg_E) (S : hg_S) (o : Nat) (p1 : Option Nat) (p2 : Option Nat) : Option (hg_S) :=
  (hg_gi S p1 9 3).bind fun e12 => (hg_newa G S 2 e12).bind fun S13 => dc_let ((some S.2.1) : Option Nat) fun v14 => (hg_gi S13 p1 9 1).bind fun e15 => (hg_pf S13 (some o) 11 8 (.int (((1 : Int32) <<< (e15 &&& (31 : Int32)))))).bind fun S16 => (hg_gr S16 (some o) 11 2).bind fun e17 => (hm_JA_fill G S16 e17 ((-1) : Int32)).bind fun q18 => (hg_pf q18 (some o) 11 9 (.int 0)).bind fun S19 => (hg_pf S19 (some o) 11 10 (.int 0)).bind fun S20 => (hg_pf S20 (some o) 11 11 (.int 0)).bind fun S21 => (hg_pf S21 (some o) 11 13 (.int (-1))).bind fun S22 => (hg_chk S22 (some o) 11).bind fun b23 => (hm_AT_meet G S22 b23 (256 : Int32) ((-1) : Int32) ((-1) : Int32)).bind fun q26 => hm_AT_survey_L57 G q26 o p1 p2 v14 0
set_option maxHeartbeats 4000000 in
set_option maxRecDepth 100000 in
/-- SignalEngine$Atlas.survey(LSignalEngine$Program;LSignalEngine$Reactor;)V -/
theorem hm_AT_survey_ok (l : Launch) (D : va_G) (G : hg_E) (Z : hg_S) (o : Nat) (p1 : Option Nat) (p2 : Option Nat) (q : hg_S) (hq : hm_AT_survey G Z o p1 p2 = some q) : hg_C l ⟨"SignalEngine$Atlas", "survey", "(LSignalEngine$Program;LSignalEngine$Reactor;)V"⟩ prog_3_method_5_code 5 none 7 164 D G [.ref o, va_rf p1, va_rf p2] Z (.inl (none, q) : hg_O) := by
  refine hg_start (cv := fun q => (.inl (none, q) : hg_O)) hq ?_
  intro F hF h
  refine hg_enter (lv := [(0, va_rf (some o)), (1, va_rf p1), (2, va_rf p2)]) (by decide +kernel) (by simp [lg_sl, va_rf_cat, hg_cti, hg_ctr]) (by simp [lv_args, va_rf_cat, va_rf_some, hg_cti, hg_ctr]) ?_
  intro X hC hR
  have lab_94 : ∀ (S : hg_S), dc_wp (hm_AT_survey_L94 G S o) F → hg_G X l (hg_rm 7 164 Z) D 5 S 94 [(0, va_rf (some o))] [] := by
    intro S  h
    delta hm_AT_survey_L94 at h
    refine hg_aloadn (pc := 94) (j := 0) (i := 0) (r := (some o)) hC 0 rfl rfl (show decode prog_3_method_5_code 94 = .ok (.aload_n 0, 1) by decide +kernel) ?_
    obtain ⟨b1, hb2, h⟩ := dc_bind h
    obtain ⟨hb2, hv3⟩ := hg_chk_of (C := R_AT) rfl hb2
    refine hg_kVv (pc := 95) (b := b1) (r := (some o)) (As := []) (rest := []) (so := fun q => q) hC cw_SignalEngine_Atlas_78 (fun q hq => hm_AT_sortOut_ok l D G S b1 q hq) (Nat.le_of_ble_eq_true rfl) (Nat.le_of_ble_eq_true rfl) hb2 hv3 rfl (Nat.le_of_ble_eq_true rfl) (show decode prog_3_method_5_code 95 = .ok (.invokevirtual 78, 3) by decide +kernel) h ?_
    intro q4 h
    exact hg_vret (pc := 98) hC hR (hF _ (dc_some h)) (show decode prog_3_method_5_code 98 = .ok (.return_, 1) by decide +kernel)
  have loop_57 : ∀ (x1 : Option Nat) (x2 : Option Nat) (x3 : Option Nat) (q : hg_S × Int32), dc_wp (dc_it (hm_AT_survey_s57 G o x1 x2 x3) q) (fun z => dc_wp ((fun (z : hg_S) => hm_AT_survey_L94 G z o) z) F) → hg_G X l (hg_rm 7 164 Z) D 5 q.1 57 [(0, va_rf (some o)), (1, va_rf x1), (2, va_rf x2), (3, va_rf x3), (4, .int q.2)] [] := by
    intro x1 x2 x3
    refine dc_loopF ?_
    intro F_57 hl_57 hr_57
    rintro ⟨S, x4⟩ h
    have h : dc_wp (hm_AT_survey_b57 G S o x1 x2 x3 x4) F_57 := h
    delta hm_AT_survey_b57 at h
    refine hg_iload (pc := 57) (i := 4) hC 4 rfl (show decode prog_3_method_5_code 57 = .ok (.iload 4, 2) by decide +kernel) ?_
    refine hg_aloadn (pc := 59) (j := 0) (i := 0) (r := (some o)) hC 0 rfl rfl (show decode prog_3_method_5_code 59 = .ok (.aload_n 0, 1) by decide +kernel) ?_
    refine hg_rgi (pc := 60) (r := (some o)) hC fl_SignalEngine_Atlas_58 (show decode prog_3_method_5_code 60 = .ok (.getfield 58, 3) by decide +kernel) h ?_
    intro e5 h
    refine hg_icmp_ge (pc := 63) (tgt := 94) hC (show decode prog_3_method_5_code 63 = .ok (.if_icmp .ge 31, 3) by decide +kernel) (by decide +kernel) h ?_ ?_
    · intro h
      refine hg_iload (pc := 66) (i := 4) hC 4 rfl (show decode prog_3_method_5_code 66 = .ok (.iload 4, 2) by decide +kernel) ?_
      refine hg_sipush (pc := 68) (v := 257) hC (show decode prog_3_method_5_code 68 = .ok (.sipush 257, 3) by decide +kernel) (by decide +kernel) ?_
      refine hg_icmp_ge (pc := 71) (tgt := 94) hC (show decode prog_3_method_5_code 71 = .ok (.if_icmp .ge 23, 3) by decide +kernel) (by decide +kernel) h ?_ ?_
      · intro h
        refine hg_aloadn (pc := 74) (j := 0) (i := 0) (r := (some o)) hC 0 rfl rfl (show decode prog_3_method_5_code 74 = .ok (.aload_n 0, 1) by decide +kernel) ?_
        refine hg_aloadn (pc := 75) (j := 0) (i := 0) (r := (some o)) hC 0 rfl rfl (show decode prog_3_method_5_code 75 = .ok (.aload_n 0, 1) by decide +kernel) ?_
        refine hg_rgr (pc := 76) (r := (some o)) hC fl_SignalEngine_Atlas_27 (show decode prog_3_method_5_code 76 = .ok (.getfield 27, 3) by decide +kernel) h ?_
        intro e6 h
        refine hg_iload (pc := 79) (i := 4) hC 4 rfl (show decode prog_3_method_5_code 79 = .ok (.iload 4, 2) by decide +kernel) ?_
        refine hg_riald (pc := 81) (r := e6) hC (show decode prog_3_method_5_code 81 = .ok (.iaload, 1) by decide +kernel) h ?_
        intro e7 h
        refine hg_aloadn (pc := 82) (j := 1) (i := 1) (r := x1) hC 1 rfl rfl (show decode prog_3_method_5_code 82 = .ok (.aload_n 1, 1) by decide +kernel) ?_
        refine hg_aloadn (pc := 83) (j := 2) (i := 2) (r := x2) hC 2 rfl rfl (show decode prog_3_method_5_code 83 = .ok (.aload_n 2, 1) by decide +kernel) ?_
        refine hg_aloadn (pc := 84) (j := 3) (i := 3) (r := x3) hC 3 rfl rfl (show decode prog_3_method_5_code 84 = .ok (.aload_n 3, 1) by decide +kernel) ?_
        obtain ⟨b8, hb9, h⟩ := dc_bind h
        obtain ⟨hb9, hv10⟩ := hg_chk_of (C := R_AT) rfl hb9
        refine hg_kVv (pc := 85) (b := b8) (r := (some o)) (As := [.int e7, va_rf x1, va_rf x2, va_rf x3]) (rest := []) (so := fun q => q) hC cw_SignalEngine_Atlas_74 (fun q hq => hm_AT_tryAll_ok l D G S b8 e7 x1 x2 x3 q hq) (Nat.le_of_ble_eq_true rfl) (Nat.le_of_ble_eq_true rfl) hb9 hv10 rfl (Nat.le_of_ble_eq_true rfl) (show decode prog_3_method_5_code 85 = .ok (.invokevirtual 74, 3) by decide +kernel) h ?_
        intro q11 h
        refine hg_iinc (pc := 88) (i := 4) (v := (x4 + 1)) (lv' := [(4, .int (x4 + 1)), (0, va_rf (some o)), (1, va_rf x1), (2, va_rf x2), (3, va_rf x3)]) hC 4 rfl rfl (Nat.le_of_ble_eq_true rfl) (by simp [va_rf_cat, hg_cti]) (show decode prog_3_method_5_code 88 = .ok (.iinc 4 1, 3) by decide +kernel) ?_
        refine hg_goto (pc := 91) (tgt := 57) hC (show decode prog_3_method_5_code 91 = .ok (.goto (-34), 3) by decide +kernel) (by decide +kernel) ?_
        exact hg_sub [1, 2, 3, 4, 0] rfl (hl_57 (q11, (x4 + 1)) (dc_some h))
      · intro h
        have h : dc_wp (hm_AT_survey_L94 G S o) F := hr_57 S (dc_some h)
        exact hg_sub [0] rfl (lab_94 S h)
    · intro h
      have h : dc_wp (hm_AT_survey_L94 G S o) F := hr_57 S (dc_some h)
      exact hg_sub [0] rfl (lab_94 S h)
  have lab_57 : ∀ (S : hg_S) (x1 : Option Nat) (x2 : Option Nat) (x3 : Option Nat) (x4 : Int32), dc_wp (hm_AT_survey_L57 G S o x1 x2 x3 x4) F → hg_G X l (hg_rm 7 164 Z) D 5 S 57 [(0, va_rf (some o)), (1, va_rf x1), (2, va_rf x2), (3, va_rf x3), (4, .int x4)] [] := fun S x1 x2 x3 x4 h => loop_57 x1 x2 x3 (S, x4) (dc_bind h)
  show hg_G X l (hg_rm 7 164 Z) D 5 Z 0 [(0, va_rf (some o)), (1, va_rf p1), (2, va_rf p2)] []
  have h : dc_wp (hm_AT_survey G Z o p1 p2) F := h
  delta hm_AT_survey at h
  refine hg_aloadn (pc := 0) (j := 1) (i := 1) (r := p1) hC 1 rfl rfl (show decode prog_3_method_5_code 0 = .ok (.aload_n 1, 1) by decide +kernel) ?_
  refine hg_rgi (pc := 1) (r := p1) hC fl_SignalEngine_Atlas_44 (show decode prog_3_method_5_code 1 = .ok (.getfield 44, 3) by decide +kernel) h ?_
  intro e12 h
  refine hg_rnewa (pc := 4) (t := 2) (atype := .boolean) hC rfl rfl (fun _ h9 => h9) rfl (by decide) w_1043 (show decode prog_3_method_5_code 4 = .ok (.newarray .boolean, 2) by decide +kernel) h ?_
  intro S13 h
  refine hg_letR h ?_
  intro v14 h
  refine hg_astoren (pc := 6) (j := 3) (i := 3) (r := v14) (lv' := [(3, va_rf v14), (0, va_rf (some o)), (1, va_rf p1), (2, va_rf p2)]) hC rfl (Nat.le_of_ble_eq_true rfl) (by simp [va_rf_cat, hg_cti]) (show decode prog_3_method_5_code 6 = .ok (.astore_n 3, 1) by decide +kernel) ?_
  refine hg_aloadn (pc := 7) (j := 0) (i := 0) (r := (some o)) hC 1 rfl rfl (show decode prog_3_method_5_code 7 = .ok (.aload_n 0, 1) by decide +kernel) ?_
  refine hg_iconst (pc := 8) (v := 1) hC (show decode prog_3_method_5_code 8 = .ok (.iconst 1, 1) by decide +kernel) (by decide +kernel) ?_
  refine hg_aloadn (pc := 9) (j := 1) (i := 1) (r := p1) hC 2 rfl rfl (show decode prog_3_method_5_code 9 = .ok (.aload_n 1, 1) by decide +kernel) ?_
  refine hg_rgi (pc := 10) (r := p1) hC fl_SignalEngine_Atlas_49 (show decode prog_3_method_5_code 10 = .ok (.getfield 49, 3) by decide +kernel) h ?_
  intro e15 h
  refine hg_ishl (pc := 13) hC (show decode prog_3_method_5_code 13 = .ok (.ishl, 1) by decide +kernel) ?_
  refine hg_rput (pc := 14) (r := (some o)) (v := .int (((1 : Int32) <<< (e15 &&& (31 : Int32))))) hC fp_SignalEngine_Atlas_40 rfl rfl (show decode prog_3_method_5_code 14 = .ok (.putfield 40, 3) by decide +kernel) h ?_
  intro S16 h
  refine hg_aloadn (pc := 17) (j := 0) (i := 0) (r := (some o)) hC 1 rfl rfl (show decode prog_3_method_5_code 17 = .ok (.aload_n 0, 1) by decide +kernel) ?_
  refine hg_rgr (pc := 18) (r := (some o)) hC fl_SignalEngine_Atlas_18 (show decode prog_3_method_5_code 18 = .ok (.getfield 18, 3) by decide +kernel) h ?_
  intro e17 h
  refine hg_iconst (pc := 21) (v := (-1)) hC (show decode prog_3_method_5_code 21 = .ok (.iconst (-1), 1) by decide +kernel) (by decide +kernel) ?_
  refine hg_kSv (pc := 22) (As := [va_rf e17, .int (-1)]) (rest := []) (so := fun q => q) hC cw_SignalEngine_Atlas_52 (fun q hq => hm_JA_fill_ok l D G S16 e17 ((-1) : Int32) q hq) (Nat.le_of_ble_eq_true rfl) (Nat.le_of_ble_eq_true rfl) rfl (Nat.le_of_ble_eq_true rfl) (show decode prog_3_method_5_code 22 = .ok (.invokestatic 52, 3) by decide +kernel) h ?_
  intro q18 h
  refine hg_aloadn (pc := 25) (j := 0) (i := 0) (r := (some o)) hC 1 rfl rfl (show decode prog_3_method_5_code 25 = .ok (.aload_n 0, 1) by decide +kernel) ?_
  refine hg_iconst (pc := 26) (v := 0) hC (show decode prog_3_method_5_code 26 = .ok (.iconst 0, 1) by decide +kernel) (by decide +kernel) ?_
  refine hg_rput (pc := 27) (r := (some o)) (v := .int 0) hC fp_SignalEngine_Atlas_58 rfl rfl (show decode prog_3_method_5_code 27 = .ok (.putfield 58, 3) by decide +kernel) h ?_
  intro S19 h
  refine hg_aloadn (pc := 30) (j := 0) (i := 0) (r := (some o)) hC 1 rfl rfl (show decode prog_3_method_5_code 30 = .ok (.aload_n 0, 1) by decide +kernel) ?_
  refine hg_iconst (pc := 31) (v := 0) hC (show decode prog_3_method_5_code 31 = .ok (.iconst 0, 1) by decide +kernel) (by decide +kernel) ?_
  refine hg_rput (pc := 32) (r := (some o)) (v := .int 0) hC fp_SignalEngine_Atlas_61 rfl rfl (show decode prog_3_method_5_code 32 = .ok (.putfield 61, 3) by decide +kernel) h ?_
  intro S20 h
  refine hg_aloadn (pc := 35) (j := 0) (i := 0) (r := (some o)) hC 1 rfl rfl (show decode prog_3_method_5_code 35 = .ok (.aload_n 0, 1) by decide +kernel) ?_
  refine hg_iconst (pc := 36) (v := 0) hC (show decode prog_3_method_5_code 36 = .ok (.iconst 0, 1) by decide +kernel) (by decide +kernel) ?_
  refine hg_rput (pc := 37) (r := (some o)) (v := .int 0) hC fp_SignalEngine_Atlas_64 rfl rfl (show decode prog_3_method_5_code 37 = .ok (.putfield 64, 3) by decide +kernel) h ?_
  intro S21 h
  refine hg_aloadn (pc := 40) (j := 0) (i := 0) (r := (some o)) hC 1 rfl rfl (show decode prog_3_method_5_code 40 = .ok (.aload_n 0, 1) by decide +kernel) ?_
  refine hg_iconst (pc := 41) (v := (-1)) hC (show decode prog_3_method_5_code 41 = .ok (.iconst (-1), 1) by decide +kernel) (by decide +kernel) ?_
  refine hg_rput (pc := 42) (r := (some o)) (v := .int (-1)) hC fp_SignalEngine_Atlas_67 rfl rfl (show decode prog_3_method_5_code 42 = .ok (.putfield 67, 3) by decide +kernel) h ?_
  intro S22 h
  refine hg_aloadn (pc := 45) (j := 0) (i := 0) (r := (some o)) hC 1 rfl rfl (show decode prog_3_method_5_code 45 = .ok (.aload_n 0, 1) by decide +kernel) ?_
  refine hg_sipush (pc := 46) (v := 256) hC (show decode prog_3_method_5_code 46 = .ok (.sipush 256, 3) by decide +kernel) (by decide +kernel) ?_
  refine hg_iconst (pc := 49) (v := (-1)) hC (show decode prog_3_method_5_code 49 = .ok (.iconst (-1), 1) by decide +kernel) (by decide +kernel) ?_
  refine hg_iconst (pc := 50) (v := (-1)) hC (show decode prog_3_method_5_code 50 = .ok (.iconst (-1), 1) by decide +kernel) (by decide +kernel) ?_
  obtain ⟨b23, hb24, h⟩ := dc_bind h
  obtain ⟨hb24, hv25⟩ := hg_chk_of (C := R_AT) rfl hb24
  refine hg_kVv (pc := 51) (b := b23) (r := (some o)) (As := [.int 256, .int (-1), .int (-1)]) (rest := []) (so := fun q => q) hC cw_SignalEngine_Atlas_70 (fun q hq => hm_AT_meet_ok l D G S22 b23 (256 : Int32) ((-1) : Int32) ((-1) : Int32) q hq) (Nat.le_of_ble_eq_true rfl) (Nat.le_of_ble_eq_true rfl) hb24 hv25 rfl (Nat.le_of_ble_eq_true rfl) (show decode prog_3_method_5_code 51 = .ok (.invokevirtual 70, 3) by decide +kernel) h ?_
  intro q26 h
  refine hg_iconst (pc := 54) (v := 0) hC (show decode prog_3_method_5_code 54 = .ok (.iconst 0, 1) by decide +kernel) (by decide +kernel) ?_
  refine hg_istore (pc := 55) (i := 4) (lv' := [(4, .int 0), (3, va_rf v14), (0, va_rf (some o)), (1, va_rf p1), (2, va_rf p2)]) hC (Nat.le_of_ble_eq_true rfl) (by simp [va_rf_cat, hg_cti]) (show decode prog_3_method_5_code 55 = .ok (.istore 4, 2) by decide +kernel) ?_
  exact hg_sub [2, 3, 4, 1, 0] rfl (lab_57 q26 p1 p2 v14 0 h)
noncomputable def hm_SE_explore_L72 (G : hg_E) (S : hg_S) (o : Nat) : Option ((hg_S × Int32) ⊕ hg_X) :=
  (hg_gr S (some o) 0 10).bind fun e1 => (hg_gi S e1 11 9).bind fun e2 => some (.inl (S, e2))
noncomputable def hm_SE_explore_L52 (G : hg_E) (S : hg_S) (o : Nat) : Option ((hg_S × Int32) ⊕ hg_X) :=
  (hg_gr S (some o) 0 10).bind fun e3 => (hg_gr S (some o) 0 3).bind fun e4 => (hg_gr S (some o) 0 4).bind fun e5 => (hg_chk S e3 11).bind fun b6 => (hm_AT_survey G S b6 e4 e5).bind fun q9 => (hg_pf q9 (some o) 0 12 (.int 1)).bind fun S10 => hm_SE_explore_L72 G S10 o
noncomputable def hm_SE_explore (G : hg_E) (S : hg_S) (o : Nat) : Option ((hg_S × Int32) ⊕ hg_X) :=
  (hg_gr S (some o) 0 3).bind fun e11 => if e11 = none then (if 1 ≤ S.2.2.1 ∧ 6 ≤ S.2.2.2 then some (.inr ((S.1, S.2.1 + 1, S.2.2.1 - 1, S.2.2.2 - 6), S.2.1, false)) else none) else ((hg_gr S (some o) 0 3).bind fun e13 => (hg_chk S e13 9).bind fun b14 => (hm_PG_canBeExplored G S b14).bind fun q17 => if q17 = 0 then (some (.inl (S, (-1)))) else ((hg_gi S (some o) 0 12).bind fun e18 => if e18 = 0 then ((hg_gr S (some o) 0 10).bind fun e19 => if e19 = none then ((hg_new S 11 15 [.null, .null, .null, .null, .null, .null, .null, .null, .int 0, .int 0, .int 0, .int 0, .int 0, .int 0, .int 0]).bind fun S20 => (hm_AT_init G S20 S.2.1).bind fun q21 => (hg_pf q21 (some o) 0 10 (va_rf (some S.2.1))).bind fun S22 => hm_SE_explore_L52 G S22 o) else (hm_SE_explore_L52 G S o)) else (hm_SE_explore_L72 G S o)))
set_option maxHeartbeats 4000000 in
set_option maxRecDepth 100000 in
/-- SignalEngine.explore()I -/
theorem hm_SE_explore_ok (l : Launch) (hlt : l.stackTraces = false) (D : va_G) (G : hg_E) (Z : hg_S) (o : Nat) (q : (hg_S × Int32) ⊕ hg_X) (hq : hm_SE_explore G Z o = some q) : hg_C l ⟨"SignalEngine", "explore", "()I"⟩ prog_1_method_16_code 1 (some (.int)) 8 188 D G [.ref o] Z (Sum.elim (fun q => (.inl (some (.int q.2), q.1) : hg_O)) hg_ox q) := by
  refine hg_start (cv := fun q => (Sum.elim (fun q => (.inl (some (.int q.2), q.1) : hg_O)) hg_ox q)) hq ?_
  intro F hF h
  refine hg_enter (lv := [(0, va_rf (some o))]) (by decide +kernel) (by simp [lg_sl, va_rf_cat, hg_cti, hg_ctr]) (by simp [lv_args, va_rf_cat, va_rf_some, hg_cti, hg_ctr]) ?_
  intro X hC hR
  have lab_72 : ∀ (S : hg_S), dc_wp (hm_SE_explore_L72 G S o) F → hg_G X l (hg_rm 8 188 Z) D 1 S 72 [(0, va_rf (some o))] [] := by
    intro S  h
    delta hm_SE_explore_L72 at h
    refine hg_aloadn (pc := 72) (j := 0) (i := 0) (r := (some o)) hC 0 rfl rfl (show decode prog_1_method_16_code 72 = .ok (.aload_n 0, 1) by decide +kernel) ?_
    refine hg_rgr (pc := 73) (r := (some o)) hC fl_SignalEngine_169 (show decode prog_1_method_16_code 73 = .ok (.getfield 169, 3) by decide +kernel) h ?_
    intro e1 h
    refine hg_rgi (pc := 76) (r := e1) hC fl_SignalEngine_188 (show decode prog_1_method_16_code 76 = .ok (.getfield 188, 3) by decide +kernel) h ?_
    intro e2 h
    exact hg_iret (pc := 79) hC hR (hF _ (dc_some h)) (show decode prog_1_method_16_code 79 = .ok (.ireturn, 1) by decide +kernel)
  have lab_52 : ∀ (S : hg_S), dc_wp (hm_SE_explore_L52 G S o) F → hg_G X l (hg_rm 8 188 Z) D 1 S 52 [(0, va_rf (some o))] [] := by
    intro S  h
    delta hm_SE_explore_L52 at h
    refine hg_aloadn (pc := 52) (j := 0) (i := 0) (r := (some o)) hC 0 rfl rfl (show decode prog_1_method_16_code 52 = .ok (.aload_n 0, 1) by decide +kernel) ?_
    refine hg_rgr (pc := 53) (r := (some o)) hC fl_SignalEngine_169 (show decode prog_1_method_16_code 53 = .ok (.getfield 169, 3) by decide +kernel) h ?_
    intro e3 h
    refine hg_aloadn (pc := 56) (j := 0) (i := 0) (r := (some o)) hC 0 rfl rfl (show decode prog_1_method_16_code 56 = .ok (.aload_n 0, 1) by decide +kernel) ?_
    refine hg_rgr (pc := 57) (r := (some o)) hC fl_SignalEngine_52 (show decode prog_1_method_16_code 57 = .ok (.getfield 52, 3) by decide +kernel) h ?_
    intro e4 h
    refine hg_aloadn (pc := 60) (j := 0) (i := 0) (r := (some o)) hC 0 rfl rfl (show decode prog_1_method_16_code 60 = .ok (.aload_n 0, 1) by decide +kernel) ?_
    refine hg_rgr (pc := 61) (r := (some o)) hC fl_SignalEngine_61 (show decode prog_1_method_16_code 61 = .ok (.getfield 61, 3) by decide +kernel) h ?_
    intro e5 h
    obtain ⟨b6, hb7, h⟩ := dc_bind h
    obtain ⟨hb7, hv8⟩ := hg_chk_of (C := R_AT) rfl hb7
    refine hg_kVv (pc := 64) (b := b6) (r := e3) (As := [va_rf e4, va_rf e5]) (rest := []) (so := fun q => q) hC cw_SignalEngine_184 (fun q hq => hm_AT_survey_ok l D G S b6 e4 e5 q hq) (Nat.le_of_ble_eq_true rfl) (Nat.le_of_ble_eq_true rfl) hb7 hv8 rfl (Nat.le_of_ble_eq_true rfl) (show decode prog_1_method_16_code 64 = .ok (.invokevirtual 184, 3) by decide +kernel) h ?_
    intro q9 h
    refine hg_aloadn (pc := 67) (j := 0) (i := 0) (r := (some o)) hC 0 rfl rfl (show decode prog_1_method_16_code 67 = .ok (.aload_n 0, 1) by decide +kernel) ?_
    refine hg_iconst (pc := 68) (v := 1) hC (show decode prog_1_method_16_code 68 = .ok (.iconst 1, 1) by decide +kernel) (by decide +kernel) ?_
    refine hg_rput (pc := 69) (r := (some o)) (v := .int 1) hC fp_SignalEngine_91 (dc_nar (Or.inr rfl)).2.1 (dc_nar (Or.inr rfl)).2.2 (show decode prog_1_method_16_code 69 = .ok (.putfield 91, 3) by decide +kernel) h ?_
    intro S10 h
    exact lab_72 S10 h
  show hg_G X l (hg_rm 8 188 Z) D 1 Z 0 [(0, va_rf (some o))] []
  have h : dc_wp (hm_SE_explore G Z o) F := h
  delta hm_SE_explore at h
  refine hg_aloadn (pc := 0) (j := 0) (i := 0) (r := (some o)) hC 0 rfl rfl (show decode prog_1_method_16_code 0 = .ok (.aload_n 0, 1) by decide +kernel) ?_
  refine hg_rgr (pc := 1) (r := (some o)) hC fl_SignalEngine_52 (show decode prog_1_method_16_code 1 = .ok (.getfield 52, 3) by decide +kernel) h ?_
  intro e11 h
  refine hg_ifnonnull (pc := 4) (tgt := 15) (r := e11) hC (show decode prog_1_method_16_code 4 = .ok (.ifnonnull 11, 3) by decide +kernel) (by decide +kernel) h ?_ ?_
  · intro h
    rcases dc_ite h with ⟨hr12, h⟩ | ⟨_, h⟩
    · exact hg_raise (pc := 7) (rest := []) hC hlt hR false exq_SignalEngine_142 exq_SignalEngine_142_two (show decode prog_1_method_16_code 7 = .ok (.new 140, 3) by decide +kernel) (show decode prog_1_method_16_code 10 = .ok (.dup, 1) by decide +kernel) (show decode prog_1_method_16_code 11 = .ok (.invokespecial 142, 3) by decide +kernel) (show decode prog_1_method_16_code 14 = .ok (.athrow, 1) by decide +kernel) hr12 (Nat.le_of_ble_eq_true rfl) (Nat.le_of_ble_eq_true rfl) ((fun (z : hg_X) (h : dc_wp (some (.inr z)) F) => hF (.inr z) (dc_some h)) ((Z.1, Z.2.1 + 1, Z.2.2.1 - 1, Z.2.2.2 - 6), Z.2.1, false) h)
    · exact (dc_not h).elim
  · intro h
    refine hg_aloadn (pc := 15) (j := 0) (i := 0) (r := (some o)) hC 0 rfl rfl (show decode prog_1_method_16_code 15 = .ok (.aload_n 0, 1) by decide +kernel) ?_
    refine hg_rgr (pc := 16) (r := (some o)) hC fl_SignalEngine_52 (show decode prog_1_method_16_code 16 = .ok (.getfield 52, 3) by decide +kernel) h ?_
    intro e13 h
    obtain ⟨b14, hb15, h⟩ := dc_bind h
    obtain ⟨hb15, hv16⟩ := hg_chk_of (C := R_PG) rfl hb15
    refine hg_kVi (pc := 19) (b := b14) (r := e13) (As := []) (rest := []) (vo := fun q => q) (so := fun q => Z) hC cw_SignalEngine_179 (fun q hq => hm_PG_canBeExplored_ok l D G Z b14 q hq) (Nat.le_of_ble_eq_true rfl) (Nat.le_of_ble_eq_true rfl) hb15 hv16 rfl (Nat.le_of_ble_eq_true rfl) (show decode prog_1_method_16_code 19 = .ok (.invokevirtual 179, 3) by decide +kernel) h ?_
    intro q17 h
    refine hg_if_ne (pc := 22) (tgt := 27) hC (show decode prog_1_method_16_code 22 = .ok (.ifCond .ne 5, 3) by decide +kernel) (by decide +kernel) h ?_ ?_
    · intro h
      refine hg_iconst (pc := 25) (v := (-1)) hC (show decode prog_1_method_16_code 25 = .ok (.iconst (-1), 1) by decide +kernel) (by decide +kernel) ?_
      exact hg_iret (pc := 26) hC hR (hF _ (dc_some h)) (show decode prog_1_method_16_code 26 = .ok (.ireturn, 1) by decide +kernel)
    · intro h
      refine hg_aloadn (pc := 27) (j := 0) (i := 0) (r := (some o)) hC 0 rfl rfl (show decode prog_1_method_16_code 27 = .ok (.aload_n 0, 1) by decide +kernel) ?_
      refine hg_rgi (pc := 28) (r := (some o)) hC fl_SignalEngine_91 (show decode prog_1_method_16_code 28 = .ok (.getfield 91, 3) by decide +kernel) h ?_
      intro e18 h
      refine hg_if_ne (pc := 31) (tgt := 72) hC (show decode prog_1_method_16_code 31 = .ok (.ifCond .ne 41, 3) by decide +kernel) (by decide +kernel) h ?_ ?_
      · intro h
        refine hg_aloadn (pc := 34) (j := 0) (i := 0) (r := (some o)) hC 0 rfl rfl (show decode prog_1_method_16_code 34 = .ok (.aload_n 0, 1) by decide +kernel) ?_
        refine hg_rgr (pc := 35) (r := (some o)) hC fl_SignalEngine_169 (show decode prog_1_method_16_code 35 = .ok (.getfield 169, 3) by decide +kernel) h ?_
        intro e19 h
        refine hg_ifnonnull (pc := 38) (tgt := 52) (r := e19) hC (show decode prog_1_method_16_code 38 = .ok (.ifnonnull 14, 3) by decide +kernel) (by decide +kernel) h ?_ ?_
        · intro h
          refine hg_aloadn (pc := 41) (j := 0) (i := 0) (r := (some o)) hC 0 rfl rfl (show decode prog_1_method_16_code 41 = .ok (.aload_n 0, 1) by decide +kernel) ?_
          refine hg_rnew (pc := 42) hC nw_SignalEngine_174 (show decode prog_1_method_16_code 42 = .ok (.new 174, 3) by decide +kernel) h ?_
          intro S20 h
          refine hg_dup (pc := 45) hC (show decode prog_1_method_16_code 45 = .ok (.dup, 1) by decide +kernel) (va_rf_cat _) ?_
          refine hg_kJv (pc := 46) (b := Z.2.1) (r := (some Z.2.1)) (As := []) (rest := [va_rf (some Z.2.1), va_rf (some o)]) (so := fun q => q) hC cw_SignalEngine_183 (fun q hq => hm_AT_init_ok l D G S20 Z.2.1 q hq) (Nat.le_of_ble_eq_true rfl) (Nat.le_of_ble_eq_true rfl) rfl rfl (by simp only [List.map, va_rf_cat]; exact Nat.le_of_ble_eq_true rfl) (show decode prog_1_method_16_code 46 = .ok (.invokespecial 183, 3) by decide +kernel) h ?_
          intro q21 h
          refine hg_rput (pc := 49) (r := (some o)) (v := va_rf (some Z.2.1)) hC fp_SignalEngine_169 (hg_nr _).1 (hg_nr _).2 (show decode prog_1_method_16_code 49 = .ok (.putfield 169, 3) by decide +kernel) h ?_
          intro S22 h
          exact lab_52 S22 h
        · intro h
          exact lab_52 Z h
      · intro h
        exact lab_72 Z h
noncomputable def hm_AT_has_L25 (G : hg_E) (S : hg_S) (o : Nat) (y0 : Int32) : Option (Int32) :=
  (dc_zb y0).bind fun _ => some y0
noncomputable def hm_AT_has_L24 (G : hg_E) (S : hg_S) (o : Nat) : Option (Int32) :=
  hm_AT_has_L25 G S o 0
noncomputable def hm_AT_has (G : hg_E) (S : hg_S) (o : Nat) (p1 : Int32) (p2 : Int32) : Option (Int32) :=
  (hg_chk S (some o) 11).bind fun b2 => (hm_AT_reaches G S b2 p1).bind fun q5 => if q5 = 0 then (hm_AT_has_L24 G S o) else (if p2 < 0 then (hm_AT_has_L24 G S o) else ((hg_gi S (some o) 11 8).bind fun e6 => if p2 < e6 then (hm_AT_has_L25 G S o 1) else (hm_AT_has_L24 G S o)))
set_option maxHeartbeats 4000000 in
set_option maxRecDepth 100000 in
/-- SignalEngine$Atlas.has(II)Z -/
theorem hm_AT_has_ok (l : Launch) (D : va_G) (G : hg_E) (Z : hg_S) (o : Nat) (p1 : Int32) (p2 : Int32) (q : Int32) (hq : hm_AT_has G Z o p1 p2 = some q) : hg_C l ⟨"SignalEngine$Atlas", "has", "(II)Z"⟩ prog_3_method_4_code 3 (some (.boolean)) 1 21 D G [.ref o, .int p1, .int p2] Z (.inl (some (.int q), Z) : hg_O) := by
  refine hg_start (cv := fun q => (.inl (some (.int q), Z) : hg_O)) hq ?_
  intro F hF h
  refine hg_enter (lv := [(0, va_rf (some o)), (1, .int p1), (2, .int p2)]) (by decide +kernel) (by simp [lg_sl, va_rf_cat, hg_cti, hg_ctr]) (by simp [lv_args, va_rf_cat, va_rf_some, hg_cti, hg_ctr]) ?_
  intro X hC hR
  have lab_25 : ∀ (y0 : Int32), dc_wp (hm_AT_has_L25 G Z o y0) F → hg_G X l (hg_rm 1 21 Z) D 3 Z 25 [(0, va_rf (some o))] [.int y0] := by
    intro y0 h
    delta hm_AT_has_L25 at h
    obtain ⟨hz1, h⟩ := dc_zb_wp (dc_bind h)
    exact hg_zret (pc := 25) hC hR hz1 (hF _ (dc_some h)) (show decode prog_3_method_4_code 25 = .ok (.ireturn, 1) by decide +kernel)
  have lab_24 : dc_wp (hm_AT_has_L24 G Z o) F → hg_G X l (hg_rm 1 21 Z) D 3 Z 24 [(0, va_rf (some o))] [] := by
    intro  h
    delta hm_AT_has_L24 at h
    refine hg_iconst (pc := 24) (v := 0) hC (show decode prog_3_method_4_code 24 = .ok (.iconst 0, 1) by decide +kernel) (by decide +kernel) ?_
    exact lab_25 0 h
  show hg_G X l (hg_rm 1 21 Z) D 3 Z 0 [(0, va_rf (some o)), (1, .int p1), (2, .int p2)] []
  have h : dc_wp (hm_AT_has G Z o p1 p2) F := h
  delta hm_AT_has at h
  refine hg_aloadn (pc := 0) (j := 0) (i := 0) (r := (some o)) hC 0 rfl rfl (show decode prog_3_method_4_code 0 = .ok (.aload_n 0, 1) by decide +kernel) ?_
  refine hg_iloadn (pc := 1) (j := 1) (i := 1) hC 1 rfl rfl (show decode prog_3_method_4_code 1 = .ok (.iload_n 1, 1) by decide +kernel) ?_
  obtain ⟨b2, hb3, h⟩ := dc_bind h
  obtain ⟨hb3, hv4⟩ := hg_chk_of (C := R_AT) rfl hb3
  refine hg_kVi (pc := 2) (b := b2) (r := (some o)) (As := [.int p1]) (rest := []) (vo := fun q => q) (so := fun q => Z) hC cw_SignalEngine_Atlas_36 (fun q hq => hm_AT_reaches_ok l D G Z b2 p1 q hq) (Nat.le_of_ble_eq_true rfl) (Nat.le_of_ble_eq_true rfl) hb3 hv4 rfl (Nat.le_of_ble_eq_true rfl) (show decode prog_3_method_4_code 2 = .ok (.invokevirtual 36, 3) by decide +kernel) h ?_
  intro q5 h
  refine hg_if_eq (pc := 5) (tgt := 24) hC (show decode prog_3_method_4_code 5 = .ok (.ifCond .eq 19, 3) by decide +kernel) (by decide +kernel) h ?_ ?_
  · intro h
    exact hg_sub [0] rfl (lab_24 h)
  · intro h
    refine hg_iloadn (pc := 8) (j := 2) (i := 2) hC 2 rfl rfl (show decode prog_3_method_4_code 8 = .ok (.iload_n 2, 1) by decide +kernel) ?_
    refine hg_if_lt (pc := 9) (tgt := 24) hC (show decode prog_3_method_4_code 9 = .ok (.ifCond .lt 15, 3) by decide +kernel) (by decide +kernel) h ?_ ?_
    · intro h
      exact hg_sub [0] rfl (lab_24 h)
    · intro h
      refine hg_iloadn (pc := 12) (j := 2) (i := 2) hC 2 rfl rfl (show decode prog_3_method_4_code 12 = .ok (.iload_n 2, 1) by decide +kernel) ?_
      refine hg_aloadn (pc := 13) (j := 0) (i := 0) (r := (some o)) hC 0 rfl rfl (show decode prog_3_method_4_code 13 = .ok (.aload_n 0, 1) by decide +kernel) ?_
      refine hg_rgi (pc := 14) (r := (some o)) hC fl_SignalEngine_Atlas_40 (show decode prog_3_method_4_code 14 = .ok (.getfield 40, 3) by decide +kernel) h ?_
      intro e6 h
      refine hg_icmp_ge (pc := 17) (tgt := 24) hC (show decode prog_3_method_4_code 17 = .ok (.if_icmp .ge 7, 3) by decide +kernel) (by decide +kernel) h ?_ ?_
      · intro h
        refine hg_iconst (pc := 20) (v := 1) hC (show decode prog_3_method_4_code 20 = .ok (.iconst 1, 1) by decide +kernel) (by decide +kernel) ?_
        refine hg_goto (pc := 21) (tgt := 25) hC (show decode prog_3_method_4_code 21 = .ok (.goto 4, 3) by decide +kernel) (by decide +kernel) ?_
        exact hg_sub [0] rfl (lab_25 1 h)
      · intro h
        exact hg_sub [0] rfl (lab_24 h)
noncomputable def hm_SE_next_L44 (G : hg_E) (S : hg_S) (o : Nat) (y0 : Int32) : Option ((hg_S × Int32) ⊕ hg_X) :=
  some (.inl (S, y0))
noncomputable def hm_SE_next (G : hg_E) (S : hg_S) (o : Nat) (p1 : Int32) (p2 : Int32) : Option ((hg_S × Int32) ⊕ hg_X) :=
  (hg_gi S (some o) 0 12).bind fun e1 => if e1 = 0 then (if 1 ≤ S.2.2.1 ∧ 6 ≤ S.2.2.2 then some (.inr ((S.1, S.2.1 + 1, S.2.2.1 - 1, S.2.2.2 - 6), S.2.1, false)) else none) else ((hg_gr S (some o) 0 10).bind fun e3 => (hg_chk S e3 11).bind fun b4 => (hm_AT_has G S b4 p1 p2).bind fun q7 => if q7 = 0 then (hm_SE_next_L44 G S o (-1)) else ((hg_gr S (some o) 0 10).bind fun e8 => (hg_gr S e8 11 0).bind fun e9 => (hm_AT_cell G S p1 p2).bind fun q10 => (hg_ld S e9 (G.1 0) q10).bind fun e11 => hm_SE_next_L44 G S o e11))
set_option maxHeartbeats 4000000 in
set_option maxRecDepth 100000 in
/-- SignalEngine.next(II)I -/
theorem hm_SE_next_ok (l : Launch) (hlt : l.stackTraces = false) (D : va_G) (G : hg_E) (Z : hg_S) (o : Nat) (p1 : Int32) (p2 : Int32) (q : (hg_S × Int32) ⊕ hg_X) (hq : hm_SE_next G Z o p1 p2 = some q) : hg_C l ⟨"SignalEngine", "next", "(II)I"⟩ prog_1_method_19_code 3 (some (.int)) 6 100 D G [.ref o, .int p1, .int p2] Z (Sum.elim (fun q => (.inl (some (.int q.2), q.1) : hg_O)) hg_ox q) := by
  refine hg_start (cv := fun q => (Sum.elim (fun q => (.inl (some (.int q.2), q.1) : hg_O)) hg_ox q)) hq ?_
  intro F hF h
  refine hg_enter (lv := [(0, va_rf (some o)), (1, .int p1), (2, .int p2)]) (by decide +kernel) (by simp [lg_sl, va_rf_cat, hg_cti, hg_ctr]) (by simp [lv_args, va_rf_cat, va_rf_some, hg_cti, hg_ctr]) ?_
  intro X hC hR
  have lab_44 : ∀ (S : hg_S) (y0 : Int32), dc_wp (hm_SE_next_L44 G S o y0) F → hg_G X l (hg_rm 6 100 Z) D 3 S 44 [(0, va_rf (some o))] [.int y0] := by
    intro S y0 h
    delta hm_SE_next_L44 at h
    exact hg_iret (pc := 44) hC hR (hF _ (dc_some h)) (show decode prog_1_method_19_code 44 = .ok (.ireturn, 1) by decide +kernel)
  show hg_G X l (hg_rm 6 100 Z) D 3 Z 0 [(0, va_rf (some o)), (1, .int p1), (2, .int p2)] []
  have h : dc_wp (hm_SE_next G Z o p1 p2) F := h
  delta hm_SE_next at h
  refine hg_aloadn (pc := 0) (j := 0) (i := 0) (r := (some o)) hC 0 rfl rfl (show decode prog_1_method_19_code 0 = .ok (.aload_n 0, 1) by decide +kernel) ?_
  refine hg_rgi (pc := 1) (r := (some o)) hC fl_SignalEngine_91 (show decode prog_1_method_19_code 1 = .ok (.getfield 91, 3) by decide +kernel) h ?_
  intro e1 h
  refine hg_if_ne (pc := 4) (tgt := 15) hC (show decode prog_1_method_19_code 4 = .ok (.ifCond .ne 11, 3) by decide +kernel) (by decide +kernel) h ?_ ?_
  · intro h
    rcases dc_ite h with ⟨hr2, h⟩ | ⟨_, h⟩
    · exact hg_raise (pc := 7) (rest := []) hC hlt hR false exq_SignalEngine_142 exq_SignalEngine_142_two (show decode prog_1_method_19_code 7 = .ok (.new 140, 3) by decide +kernel) (show decode prog_1_method_19_code 10 = .ok (.dup, 1) by decide +kernel) (show decode prog_1_method_19_code 11 = .ok (.invokespecial 142, 3) by decide +kernel) (show decode prog_1_method_19_code 14 = .ok (.athrow, 1) by decide +kernel) hr2 (Nat.le_of_ble_eq_true rfl) (Nat.le_of_ble_eq_true rfl) ((fun (z : hg_X) (h : dc_wp (some (.inr z)) F) => hF (.inr z) (dc_some h)) ((Z.1, Z.2.1 + 1, Z.2.2.1 - 1, Z.2.2.2 - 6), Z.2.1, false) h)
    · exact (dc_not h).elim
  · intro h
    refine hg_aloadn (pc := 15) (j := 0) (i := 0) (r := (some o)) hC 0 rfl rfl (show decode prog_1_method_19_code 15 = .ok (.aload_n 0, 1) by decide +kernel) ?_
    refine hg_rgr (pc := 16) (r := (some o)) hC fl_SignalEngine_169 (show decode prog_1_method_19_code 16 = .ok (.getfield 169, 3) by decide +kernel) h ?_
    intro e3 h
    refine hg_iloadn (pc := 19) (j := 1) (i := 1) hC 1 rfl rfl (show decode prog_1_method_19_code 19 = .ok (.iload_n 1, 1) by decide +kernel) ?_
    refine hg_iloadn (pc := 20) (j := 2) (i := 2) hC 2 rfl rfl (show decode prog_1_method_19_code 20 = .ok (.iload_n 2, 1) by decide +kernel) ?_
    obtain ⟨b4, hb5, h⟩ := dc_bind h
    obtain ⟨hb5, hv6⟩ := hg_chk_of (C := R_AT) rfl hb5
    refine hg_kVi (pc := 21) (b := b4) (r := e3) (As := [.int p1, .int p2]) (rest := []) (vo := fun q => q) (so := fun q => Z) hC cw_SignalEngine_197 (fun q hq => hm_AT_has_ok l D G Z b4 p1 p2 q hq) (Nat.le_of_ble_eq_true rfl) (Nat.le_of_ble_eq_true rfl) hb5 hv6 rfl (Nat.le_of_ble_eq_true rfl) (show decode prog_1_method_19_code 21 = .ok (.invokevirtual 197, 3) by decide +kernel) h ?_
    intro q7 h
    refine hg_if_eq (pc := 24) (tgt := 43) hC (show decode prog_1_method_19_code 24 = .ok (.ifCond .eq 19, 3) by decide +kernel) (by decide +kernel) h ?_ ?_
    · intro h
      refine hg_iconst (pc := 43) (v := (-1)) hC (show decode prog_1_method_19_code 43 = .ok (.iconst (-1), 1) by decide +kernel) (by decide +kernel) ?_
      exact hg_sub [0] rfl (lab_44 Z (-1) h)
    · intro h
      refine hg_aloadn (pc := 27) (j := 0) (i := 0) (r := (some o)) hC 0 rfl rfl (show decode prog_1_method_19_code 27 = .ok (.aload_n 0, 1) by decide +kernel) ?_
      refine hg_rgr (pc := 28) (r := (some o)) hC fl_SignalEngine_169 (show decode prog_1_method_19_code 28 = .ok (.getfield 169, 3) by decide +kernel) h ?_
      intro e8 h
      refine hg_rgr (pc := 31) (r := e8) hC fl_SignalEngine_201 (show decode prog_1_method_19_code 31 = .ok (.getfield 201, 3) by decide +kernel) h ?_
      intro e9 h
      refine hg_iloadn (pc := 34) (j := 1) (i := 1) hC 1 rfl rfl (show decode prog_1_method_19_code 34 = .ok (.iload_n 1, 1) by decide +kernel) ?_
      refine hg_iloadn (pc := 35) (j := 2) (i := 2) hC 2 rfl rfl (show decode prog_1_method_19_code 35 = .ok (.iload_n 2, 1) by decide +kernel) ?_
      refine hg_kSi (pc := 36) (As := [.int p1, .int p2]) (rest := [va_rf e9]) (vo := fun q => q) (so := fun q => Z) hC cw_SignalEngine_204 (fun q hq => hm_AT_cell_ok l D G Z p1 p2 q hq) (Nat.le_of_ble_eq_true rfl) (Nat.le_of_ble_eq_true rfl) rfl (by simp only [List.map, va_rf_cat]; exact Nat.le_of_ble_eq_true rfl) (show decode prog_1_method_19_code 36 = .ok (.invokestatic 204, 3) by decide +kernel) h ?_
      intro q10 h
      refine hg_riald (pc := 39) (r := e9) hC (show decode prog_1_method_19_code 39 = .ok (.iaload, 1) by decide +kernel) h ?_
      intro e11 h
      refine hg_goto (pc := 40) (tgt := 44) hC (show decode prog_1_method_19_code 40 = .ok (.goto 4, 3) by decide +kernel) (by decide +kernel) ?_
      exact hg_sub [0] rfl (lab_44 Z e11 h)
noncomputable def hm_SE_shows_L44 (G : hg_E) (S : hg_S) (o : Nat) (y0 : Int32) : Option ((hg_S × Int32) ⊕ hg_X) :=
  some (.inl (S, y0))
noncomputable def hm_SE_shows (G : hg_E) (S : hg_S) (o : Nat) (p1 : Int32) (p2 : Int32) : Option ((hg_S × Int32) ⊕ hg_X) :=
  (hg_gi S (some o) 0 12).bind fun e1 => if e1 = 0 then (if 1 ≤ S.2.2.1 ∧ 6 ≤ S.2.2.2 then some (.inr ((S.1, S.2.1 + 1, S.2.2.1 - 1, S.2.2.2 - 6), S.2.1, false)) else none) else ((hg_gr S (some o) 0 10).bind fun e3 => (hg_chk S e3 11).bind fun b4 => (hm_AT_has G S b4 p1 p2).bind fun q7 => if q7 = 0 then (hm_SE_shows_L44 G S o (-1)) else ((hg_gr S (some o) 0 10).bind fun e8 => (hg_gr S e8 11 1).bind fun e9 => (hm_AT_cell G S p1 p2).bind fun q10 => (hg_ld S e9 (G.1 0) q10).bind fun e11 => hm_SE_shows_L44 G S o e11))
set_option maxHeartbeats 4000000 in
set_option maxRecDepth 100000 in
/-- SignalEngine.shows(II)I -/
theorem hm_SE_shows_ok (l : Launch) (hlt : l.stackTraces = false) (D : va_G) (G : hg_E) (Z : hg_S) (o : Nat) (p1 : Int32) (p2 : Int32) (q : (hg_S × Int32) ⊕ hg_X) (hq : hm_SE_shows G Z o p1 p2 = some q) : hg_C l ⟨"SignalEngine", "shows", "(II)I"⟩ prog_1_method_20_code 3 (some (.int)) 6 100 D G [.ref o, .int p1, .int p2] Z (Sum.elim (fun q => (.inl (some (.int q.2), q.1) : hg_O)) hg_ox q) := by
  refine hg_start (cv := fun q => (Sum.elim (fun q => (.inl (some (.int q.2), q.1) : hg_O)) hg_ox q)) hq ?_
  intro F hF h
  refine hg_enter (lv := [(0, va_rf (some o)), (1, .int p1), (2, .int p2)]) (by decide +kernel) (by simp [lg_sl, va_rf_cat, hg_cti, hg_ctr]) (by simp [lv_args, va_rf_cat, va_rf_some, hg_cti, hg_ctr]) ?_
  intro X hC hR
  have lab_44 : ∀ (S : hg_S) (y0 : Int32), dc_wp (hm_SE_shows_L44 G S o y0) F → hg_G X l (hg_rm 6 100 Z) D 3 S 44 [(0, va_rf (some o))] [.int y0] := by
    intro S y0 h
    delta hm_SE_shows_L44 at h
    exact hg_iret (pc := 44) hC hR (hF _ (dc_some h)) (show decode prog_1_method_20_code 44 = .ok (.ireturn, 1) by decide +kernel)
  show hg_G X l (hg_rm 6 100 Z) D 3 Z 0 [(0, va_rf (some o)), (1, .int p1), (2, .int p2)] []
  have h : dc_wp (hm_SE_shows G Z o p1 p2) F := h
  delta hm_SE_shows at h
  refine hg_aloadn (pc := 0) (j := 0) (i := 0) (r := (some o)) hC 0 rfl rfl (show decode prog_1_method_20_code 0 = .ok (.aload_n 0, 1) by decide +kernel) ?_
  refine hg_rgi (pc := 1) (r := (some o)) hC fl_SignalEngine_91 (show decode prog_1_method_20_code 1 = .ok (.getfield 91, 3) by decide +kernel) h ?_
  intro e1 h
  refine hg_if_ne (pc := 4) (tgt := 15) hC (show decode prog_1_method_20_code 4 = .ok (.ifCond .ne 11, 3) by decide +kernel) (by decide +kernel) h ?_ ?_
  · intro h
    rcases dc_ite h with ⟨hr2, h⟩ | ⟨_, h⟩
    · exact hg_raise (pc := 7) (rest := []) hC hlt hR false exq_SignalEngine_142 exq_SignalEngine_142_two (show decode prog_1_method_20_code 7 = .ok (.new 140, 3) by decide +kernel) (show decode prog_1_method_20_code 10 = .ok (.dup, 1) by decide +kernel) (show decode prog_1_method_20_code 11 = .ok (.invokespecial 142, 3) by decide +kernel) (show decode prog_1_method_20_code 14 = .ok (.athrow, 1) by decide +kernel) hr2 (Nat.le_of_ble_eq_true rfl) (Nat.le_of_ble_eq_true rfl) ((fun (z : hg_X) (h : dc_wp (some (.inr z)) F) => hF (.inr z) (dc_some h)) ((Z.1, Z.2.1 + 1, Z.2.2.1 - 1, Z.2.2.2 - 6), Z.2.1, false) h)
    · exact (dc_not h).elim
  · intro h
    refine hg_aloadn (pc := 15) (j := 0) (i := 0) (r := (some o)) hC 0 rfl rfl (show decode prog_1_method_20_code 15 = .ok (.aload_n 0, 1) by decide +kernel) ?_
    refine hg_rgr (pc := 16) (r := (some o)) hC fl_SignalEngine_169 (show decode prog_1_method_20_code 16 = .ok (.getfield 169, 3) by decide +kernel) h ?_
    intro e3 h
    refine hg_iloadn (pc := 19) (j := 1) (i := 1) hC 1 rfl rfl (show decode prog_1_method_20_code 19 = .ok (.iload_n 1, 1) by decide +kernel) ?_
    refine hg_iloadn (pc := 20) (j := 2) (i := 2) hC 2 rfl rfl (show decode prog_1_method_20_code 20 = .ok (.iload_n 2, 1) by decide +kernel) ?_
    obtain ⟨b4, hb5, h⟩ := dc_bind h
    obtain ⟨hb5, hv6⟩ := hg_chk_of (C := R_AT) rfl hb5
    refine hg_kVi (pc := 21) (b := b4) (r := e3) (As := [.int p1, .int p2]) (rest := []) (vo := fun q => q) (so := fun q => Z) hC cw_SignalEngine_197 (fun q hq => hm_AT_has_ok l D G Z b4 p1 p2 q hq) (Nat.le_of_ble_eq_true rfl) (Nat.le_of_ble_eq_true rfl) hb5 hv6 rfl (Nat.le_of_ble_eq_true rfl) (show decode prog_1_method_20_code 21 = .ok (.invokevirtual 197, 3) by decide +kernel) h ?_
    intro q7 h
    refine hg_if_eq (pc := 24) (tgt := 43) hC (show decode prog_1_method_20_code 24 = .ok (.ifCond .eq 19, 3) by decide +kernel) (by decide +kernel) h ?_ ?_
    · intro h
      refine hg_iconst (pc := 43) (v := (-1)) hC (show decode prog_1_method_20_code 43 = .ok (.iconst (-1), 1) by decide +kernel) (by decide +kernel) ?_
      exact hg_sub [0] rfl (lab_44 Z (-1) h)
    · intro h
      refine hg_aloadn (pc := 27) (j := 0) (i := 0) (r := (some o)) hC 0 rfl rfl (show decode prog_1_method_20_code 27 = .ok (.aload_n 0, 1) by decide +kernel) ?_
      refine hg_rgr (pc := 28) (r := (some o)) hC fl_SignalEngine_169 (show decode prog_1_method_20_code 28 = .ok (.getfield 169, 3) by decide +kernel) h ?_
      intro e8 h
      refine hg_rgr (pc := 31) (r := e8) hC fl_SignalEngine_207 (show decode prog_1_method_20_code 31 = .ok (.getfield 207, 3) by decide +kernel) h ?_
      intro e9 h
      refine hg_iloadn (pc := 34) (j := 1) (i := 1) hC 1 rfl rfl (show decode prog_1_method_20_code 34 = .ok (.iload_n 1, 1) by decide +kernel) ?_
      refine hg_iloadn (pc := 35) (j := 2) (i := 2) hC 2 rfl rfl (show decode prog_1_method_20_code 35 = .ok (.iload_n 2, 1) by decide +kernel) ?_
      refine hg_kSi (pc := 36) (As := [.int p1, .int p2]) (rest := [va_rf e9]) (vo := fun q => q) (so := fun q => Z) hC cw_SignalEngine_204 (fun q hq => hm_AT_cell_ok l D G Z p1 p2 q hq) (Nat.le_of_ble_eq_true rfl) (Nat.le_of_ble_eq_true rfl) rfl (by simp only [List.map, va_rf_cat]; exact Nat.le_of_ble_eq_true rfl) (show decode prog_1_method_20_code 36 = .ok (.invokestatic 204, 3) by decide +kernel) h ?_
      intro q10 h
      refine hg_riald (pc := 39) (r := e9) hC (show decode prog_1_method_20_code 39 = .ok (.iaload, 1) by decide +kernel) h ?_
      intro e11 h
      refine hg_goto (pc := 40) (tgt := 44) hC (show decode prog_1_method_20_code 40 = .ok (.goto 4, 3) by decide +kernel) (by decide +kernel) ?_
      exact hg_sub [0] rfl (lab_44 Z e11 h)
noncomputable def hm_SE_classes (G : hg_E) (S : hg_S) (o : Nat) : Option ((hg_S × Int32) ⊕ hg_X) :=
  (hg_gi S (some o) 0 12).bind fun e1 => if e1 = 0 then (if 1 ≤ S.2.2.1 ∧ 6 ≤ S.2.2.2 then some (.inr ((S.1, S.2.1 + 1, S.2.2.1 - 1, S.2.2.2 - 6), S.2.1, false)) else none) else ((hg_gr S (some o) 0 10).bind fun e3 => (hg_gi S e3 11 12).bind fun e4 => some (.inl (S, e4)))
set_option maxHeartbeats 4000000 in
set_option maxRecDepth 100000 in
/-- SignalEngine.classes()I -/
theorem hm_SE_classes_ok (l : Launch) (hlt : l.stackTraces = false) (D : va_G) (G : hg_E) (Z : hg_S) (o : Nat) (q : (hg_S × Int32) ⊕ hg_X) (hq : hm_SE_classes G Z o = some q) : hg_C l ⟨"SignalEngine", "classes", "()I"⟩ prog_1_method_24_code 1 (some (.int)) 6 100 D G [.ref o] Z (Sum.elim (fun q => (.inl (some (.int q.2), q.1) : hg_O)) hg_ox q) := by
  refine hg_start (cv := fun q => (Sum.elim (fun q => (.inl (some (.int q.2), q.1) : hg_O)) hg_ox q)) hq ?_
  intro F hF h
  refine hg_enter (lv := [(0, va_rf (some o))]) (by decide +kernel) (by simp [lg_sl, va_rf_cat, hg_cti, hg_ctr]) (by simp [lv_args, va_rf_cat, va_rf_some, hg_cti, hg_ctr]) ?_
  intro X hC hR
  show hg_G X l (hg_rm 6 100 Z) D 1 Z 0 [(0, va_rf (some o))] []
  have h : dc_wp (hm_SE_classes G Z o) F := h
  delta hm_SE_classes at h
  refine hg_aloadn (pc := 0) (j := 0) (i := 0) (r := (some o)) hC 0 rfl rfl (show decode prog_1_method_24_code 0 = .ok (.aload_n 0, 1) by decide +kernel) ?_
  refine hg_rgi (pc := 1) (r := (some o)) hC fl_SignalEngine_91 (show decode prog_1_method_24_code 1 = .ok (.getfield 91, 3) by decide +kernel) h ?_
  intro e1 h
  refine hg_if_ne (pc := 4) (tgt := 15) hC (show decode prog_1_method_24_code 4 = .ok (.ifCond .ne 11, 3) by decide +kernel) (by decide +kernel) h ?_ ?_
  · intro h
    rcases dc_ite h with ⟨hr2, h⟩ | ⟨_, h⟩
    · exact hg_raise (pc := 7) (rest := []) hC hlt hR false exq_SignalEngine_142 exq_SignalEngine_142_two (show decode prog_1_method_24_code 7 = .ok (.new 140, 3) by decide +kernel) (show decode prog_1_method_24_code 10 = .ok (.dup, 1) by decide +kernel) (show decode prog_1_method_24_code 11 = .ok (.invokespecial 142, 3) by decide +kernel) (show decode prog_1_method_24_code 14 = .ok (.athrow, 1) by decide +kernel) hr2 (Nat.le_of_ble_eq_true rfl) (Nat.le_of_ble_eq_true rfl) ((fun (z : hg_X) (h : dc_wp (some (.inr z)) F) => hF (.inr z) (dc_some h)) ((Z.1, Z.2.1 + 1, Z.2.2.1 - 1, Z.2.2.2 - 6), Z.2.1, false) h)
    · exact (dc_not h).elim
  · intro h
    refine hg_aloadn (pc := 15) (j := 0) (i := 0) (r := (some o)) hC 0 rfl rfl (show decode prog_1_method_24_code 15 = .ok (.aload_n 0, 1) by decide +kernel) ?_
    refine hg_rgr (pc := 16) (r := (some o)) hC fl_SignalEngine_169 (show decode prog_1_method_24_code 16 = .ok (.getfield 169, 3) by decide +kernel) h ?_
    intro e3 h
    refine hg_rgi (pc := 19) (r := e3) hC fl_SignalEngine_227 (show decode prog_1_method_24_code 19 = .ok (.getfield 227, 3) by decide +kernel) h ?_
    intro e4 h
    exact hg_iret (pc := 22) hC hR (hF _ (dc_some h)) (show decode prog_1_method_24_code 22 = .ok (.ireturn, 1) by decide +kernel)
noncomputable def hm_NT_init (G : hg_E) (S : hg_S) (o : Nat) : Option (hg_S) :=
  (hg_newa G S 0 4096).bind fun S1 => (hg_pf S1 (some o) 12 0 (va_rf (some S.2.1))).bind fun S2 => (hg_newa G S2 0 4096).bind fun S3 => (hg_pf S3 (some o) 12 1 (va_rf (some S2.2.1))).bind fun S4 => (hg_newa G S4 0 13).bind fun S5 => (hg_pf S5 (some o) 12 2 (va_rf (some S4.2.1))).bind fun S6 => (hg_newa G S6 0 64).bind fun S7 => (hg_pf S7 (some o) 12 3 (va_rf (some S6.2.1))).bind fun S8 => (hg_newa G S8 0 256).bind fun S9 => (hg_pf S9 (some o) 12 4 (va_rf (some S8.2.1))).bind fun S10 => (hg_newa G S10 0 256).bind fun S11 => (hg_pf S11 (some o) 12 5 (va_rf (some S10.2.1))).bind fun S12 => (hg_newa G S12 0 256).bind fun S13 => (hg_pf S13 (some o) 12 6 (va_rf (some S12.2.1))).bind fun S14 => (hg_newa G S14 0 256).bind fun S15 => (hg_pf S15 (some o) 12 7 (va_rf (some S14.2.1))).bind fun S16 => (hg_newa G S16 0 256).bind fun S17 => (hg_pf S17 (some o) 12 8 (va_rf (some S16.2.1))).bind fun S18 => some S18
set_option maxHeartbeats 4000000 in
set_option maxRecDepth 100000 in
/-- SignalEngine$Net.<init>()V -/
theorem hm_NT_init_ok (l : Launch) (D : va_G) (G : hg_E) (Z : hg_S) (o : Nat) (q : hg_S) (hq : hm_NT_init G Z o = some q) : hg_C l ⟨"SignalEngine$Net", "<init>", "()V"⟩ prog_7_method_1_code 1 none 1 20 D G [.ref o] Z (.inl (none, q) : hg_O) := by
  refine hg_start (cv := fun q => (.inl (none, q) : hg_O)) hq ?_
  intro F hF h
  refine hg_enter (lv := [(0, va_rf (some o))]) (by decide +kernel) (by simp [lg_sl, va_rf_cat, hg_cti, hg_ctr]) (by simp [lv_args, va_rf_cat, va_rf_some, hg_cti, hg_ctr]) ?_
  intro X hC hR
  show hg_G X l (hg_rm 1 20 Z) D 1 Z 0 [(0, va_rf (some o))] []
  have h : dc_wp (hm_NT_init G Z o) F := h
  delta hm_NT_init at h
  refine hg_aloadn (pc := 0) (j := 0) (i := 0) (r := (some o)) hC 0 rfl rfl (show decode prog_7_method_1_code 0 = .ok (.aload_n 0, 1) by decide +kernel) ?_
  refine hg_oi (pc := 1) (a := o) hC w_1457 w_40 w_41 (show decode prog_7_method_1_code 1 = .ok (.invokespecial 3, 3) by decide +kernel) (Nat.le_of_ble_eq_true rfl) (Nat.le_of_ble_eq_true rfl) ?_
  refine hg_aloadn (pc := 4) (j := 0) (i := 0) (r := (some o)) hC 0 rfl rfl (show decode prog_7_method_1_code 4 = .ok (.aload_n 0, 1) by decide +kernel) ?_
  refine hg_sipush (pc := 5) (v := 4096) hC (show decode prog_7_method_1_code 5 = .ok (.sipush 4096, 3) by decide +kernel) (by decide +kernel) ?_
  refine hg_rnewa (pc := 8) (t := 0) (atype := .int) hC rfl rfl (fun _ h9 => h9) rfl (by decide) w_197 (show decode prog_7_method_1_code 8 = .ok (.newarray .int, 2) by decide +kernel) h ?_
  intro S1 h
  refine hg_rputF (pc := 10) (r := (some o)) (v := va_rf (some Z.2.1)) hC hR fp_SignalEngine_Net_11 (hg_na _).1 (hg_na _).2 (show decode prog_7_method_1_code 10 = .ok (.putfield 11, 3) by decide +kernel) h ?_
  intro S2 h
  refine hg_aloadn (pc := 13) (j := 0) (i := 0) (r := (some o)) hC 0 rfl rfl (show decode prog_7_method_1_code 13 = .ok (.aload_n 0, 1) by decide +kernel) ?_
  refine hg_sipush (pc := 14) (v := 4096) hC (show decode prog_7_method_1_code 14 = .ok (.sipush 4096, 3) by decide +kernel) (by decide +kernel) ?_
  refine hg_rnewa (pc := 17) (t := 0) (atype := .int) hC rfl rfl (fun _ h9 => h9) rfl (by decide) w_197 (show decode prog_7_method_1_code 17 = .ok (.newarray .int, 2) by decide +kernel) h ?_
  intro S3 h
  refine hg_rputF (pc := 19) (r := (some o)) (v := va_rf (some S2.2.1)) hC hR fp_SignalEngine_Net_15 (hg_na _).1 (hg_na _).2 (show decode prog_7_method_1_code 19 = .ok (.putfield 15, 3) by decide +kernel) h ?_
  intro S4 h
  refine hg_aloadn (pc := 22) (j := 0) (i := 0) (r := (some o)) hC 0 rfl rfl (show decode prog_7_method_1_code 22 = .ok (.aload_n 0, 1) by decide +kernel) ?_
  refine hg_bipush (pc := 23) (v := 13) hC (show decode prog_7_method_1_code 23 = .ok (.bipush 13, 2) by decide +kernel) (by decide +kernel) ?_
  refine hg_rnewa (pc := 25) (t := 0) (atype := .int) hC rfl rfl (fun _ h9 => h9) rfl (by decide) w_197 (show decode prog_7_method_1_code 25 = .ok (.newarray .int, 2) by decide +kernel) h ?_
  intro S5 h
  refine hg_rputF (pc := 27) (r := (some o)) (v := va_rf (some S4.2.1)) hC hR fp_SignalEngine_Net_18 (hg_na _).1 (hg_na _).2 (show decode prog_7_method_1_code 27 = .ok (.putfield 18, 3) by decide +kernel) h ?_
  intro S6 h
  refine hg_aloadn (pc := 30) (j := 0) (i := 0) (r := (some o)) hC 0 rfl rfl (show decode prog_7_method_1_code 30 = .ok (.aload_n 0, 1) by decide +kernel) ?_
  refine hg_bipush (pc := 31) (v := 64) hC (show decode prog_7_method_1_code 31 = .ok (.bipush 64, 2) by decide +kernel) (by decide +kernel) ?_
  refine hg_rnewa (pc := 33) (t := 0) (atype := .int) hC rfl rfl (fun _ h9 => h9) rfl (by decide) w_197 (show decode prog_7_method_1_code 33 = .ok (.newarray .int, 2) by decide +kernel) h ?_
  intro S7 h
  refine hg_rputF (pc := 35) (r := (some o)) (v := va_rf (some S6.2.1)) hC hR fp_SignalEngine_Net_21 (hg_na _).1 (hg_na _).2 (show decode prog_7_method_1_code 35 = .ok (.putfield 21, 3) by decide +kernel) h ?_
  intro S8 h
  refine hg_aloadn (pc := 38) (j := 0) (i := 0) (r := (some o)) hC 0 rfl rfl (show decode prog_7_method_1_code 38 = .ok (.aload_n 0, 1) by decide +kernel) ?_
  refine hg_sipush (pc := 39) (v := 256) hC (show decode prog_7_method_1_code 39 = .ok (.sipush 256, 3) by decide +kernel) (by decide +kernel) ?_
  refine hg_rnewa (pc := 42) (t := 0) (atype := .int) hC rfl rfl (fun _ h9 => h9) rfl (by decide) w_197 (show decode prog_7_method_1_code 42 = .ok (.newarray .int, 2) by decide +kernel) h ?_
  intro S9 h
  refine hg_rput (pc := 44) (r := (some o)) (v := va_rf (some S8.2.1)) hC fp_SignalEngine_Net_24 (hg_na _).1 (hg_na _).2 (show decode prog_7_method_1_code 44 = .ok (.putfield 24, 3) by decide +kernel) h ?_
  intro S10 h
  refine hg_aloadn (pc := 47) (j := 0) (i := 0) (r := (some o)) hC 0 rfl rfl (show decode prog_7_method_1_code 47 = .ok (.aload_n 0, 1) by decide +kernel) ?_
  refine hg_sipush (pc := 48) (v := 256) hC (show decode prog_7_method_1_code 48 = .ok (.sipush 256, 3) by decide +kernel) (by decide +kernel) ?_
  refine hg_rnewa (pc := 51) (t := 0) (atype := .int) hC rfl rfl (fun _ h9 => h9) rfl (by decide) w_197 (show decode prog_7_method_1_code 51 = .ok (.newarray .int, 2) by decide +kernel) h ?_
  intro S11 h
  refine hg_rput (pc := 53) (r := (some o)) (v := va_rf (some S10.2.1)) hC fp_SignalEngine_Net_27 (hg_na _).1 (hg_na _).2 (show decode prog_7_method_1_code 53 = .ok (.putfield 27, 3) by decide +kernel) h ?_
  intro S12 h
  refine hg_aloadn (pc := 56) (j := 0) (i := 0) (r := (some o)) hC 0 rfl rfl (show decode prog_7_method_1_code 56 = .ok (.aload_n 0, 1) by decide +kernel) ?_
  refine hg_sipush (pc := 57) (v := 256) hC (show decode prog_7_method_1_code 57 = .ok (.sipush 256, 3) by decide +kernel) (by decide +kernel) ?_
  refine hg_rnewa (pc := 60) (t := 0) (atype := .int) hC rfl rfl (fun _ h9 => h9) rfl (by decide) w_197 (show decode prog_7_method_1_code 60 = .ok (.newarray .int, 2) by decide +kernel) h ?_
  intro S13 h
  refine hg_rput (pc := 62) (r := (some o)) (v := va_rf (some S12.2.1)) hC fp_SignalEngine_Net_30 (hg_na _).1 (hg_na _).2 (show decode prog_7_method_1_code 62 = .ok (.putfield 30, 3) by decide +kernel) h ?_
  intro S14 h
  refine hg_aloadn (pc := 65) (j := 0) (i := 0) (r := (some o)) hC 0 rfl rfl (show decode prog_7_method_1_code 65 = .ok (.aload_n 0, 1) by decide +kernel) ?_
  refine hg_sipush (pc := 66) (v := 256) hC (show decode prog_7_method_1_code 66 = .ok (.sipush 256, 3) by decide +kernel) (by decide +kernel) ?_
  refine hg_rnewa (pc := 69) (t := 0) (atype := .int) hC rfl rfl (fun _ h9 => h9) rfl (by decide) w_197 (show decode prog_7_method_1_code 69 = .ok (.newarray .int, 2) by decide +kernel) h ?_
  intro S15 h
  refine hg_rput (pc := 71) (r := (some o)) (v := va_rf (some S14.2.1)) hC fp_SignalEngine_Net_33 (hg_na _).1 (hg_na _).2 (show decode prog_7_method_1_code 71 = .ok (.putfield 33, 3) by decide +kernel) h ?_
  intro S16 h
  refine hg_aloadn (pc := 74) (j := 0) (i := 0) (r := (some o)) hC 0 rfl rfl (show decode prog_7_method_1_code 74 = .ok (.aload_n 0, 1) by decide +kernel) ?_
  refine hg_sipush (pc := 75) (v := 256) hC (show decode prog_7_method_1_code 75 = .ok (.sipush 256, 3) by decide +kernel) (by decide +kernel) ?_
  refine hg_rnewa (pc := 78) (t := 0) (atype := .int) hC rfl rfl (fun _ h9 => h9) rfl (by decide) w_197 (show decode prog_7_method_1_code 78 = .ok (.newarray .int, 2) by decide +kernel) h ?_
  intro S17 h
  refine hg_rput (pc := 80) (r := (some o)) (v := va_rf (some S16.2.1)) hC fp_SignalEngine_Net_36 (hg_na _).1 (hg_na _).2 (show decode prog_7_method_1_code 80 = .ok (.putfield 36, 3) by decide +kernel) h ?_
  intro S18 h
  exact hg_vret (pc := 83) hC hR (hF _ (dc_some h)) (show decode prog_7_method_1_code 83 = .ok (.return_, 1) by decide +kernel)
