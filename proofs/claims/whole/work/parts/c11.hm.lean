noncomputable def hm_DR_extentOf_L12 (G : hg_E) (S : hg_S) (y0 : Int32) : Option (Int32) :=
  some y0
noncomputable def hm_DR_extentOf (G : hg_E) (S : hg_S) (p0 : Option Nat) : Option (Int32) :=
  if p0 = none then (hm_DR_extentOf_L12 G S 0) else ((hg_gi S p0 8 7).bind fun e1 => hm_DR_extentOf_L12 G S e1)
set_option maxHeartbeats 4000000 in
set_option maxRecDepth 100000 in
/-- SignalEngine$Draft.extentOf(LSignalEngine$Node;)I -/
theorem hm_DR_extentOf_ok (l : Launch) (D : va_G) (G : hg_E) (Z : hg_S) (p0 : Option Nat) (q : Int32) (hq : hm_DR_extentOf G Z p0 = some q) : hg_C l ⟨"SignalEngine$Draft", "extentOf", "(LSignalEngine$Node;)I"⟩ prog_4_method_14_code 1 (some (.int)) 0 0 D G [va_rf p0] Z (.inl (some (.int q), Z) : hg_O) := by
  refine hg_start (cv := fun q => (.inl (some (.int q), Z) : hg_O)) hq ?_
  intro F hF h
  refine hg_enter (lv := [(0, va_rf p0)]) (by decide +kernel) (by simp [lg_sl, va_rf_cat, hg_cti, hg_ctr]) (by simp [lv_args, va_rf_cat, va_rf_some, hg_cti, hg_ctr]) ?_
  intro X hC hR
  have lab_12 : ∀ (y0 : Int32), dc_wp (hm_DR_extentOf_L12 G Z y0) F → hg_G X l (hg_rm 0 0 Z) D 1 Z 12 [] [.int y0] := by
    intro y0 h
    delta hm_DR_extentOf_L12 at h
    exact hg_iret (pc := 12) hC hR (hF _ (dc_some h)) (show decode prog_4_method_14_code 12 = .ok (.ireturn, 1) by decide +kernel)
  show hg_G X l (hg_rm 0 0 Z) D 1 Z 0 [(0, va_rf p0)] []
  have h : dc_wp (hm_DR_extentOf G Z p0) F := h
  delta hm_DR_extentOf at h
  refine hg_aloadn (pc := 0) (j := 0) (i := 0) (r := p0) hC 0 rfl rfl (show decode prog_4_method_14_code 0 = .ok (.aload_n 0, 1) by decide +kernel) ?_
  refine hg_ifnonnull (pc := 1) (tgt := 8) (r := p0) hC (show decode prog_4_method_14_code 1 = .ok (.ifnonnull 7, 3) by decide +kernel) (by decide +kernel) h ?_ ?_
  · intro h
    refine hg_iconst (pc := 4) (v := 0) hC (show decode prog_4_method_14_code 4 = .ok (.iconst 0, 1) by decide +kernel) (by decide +kernel) ?_
    refine hg_goto (pc := 5) (tgt := 12) hC (show decode prog_4_method_14_code 5 = .ok (.goto 7, 3) by decide +kernel) (by decide +kernel) ?_
    exact hg_sub [] rfl (lab_12 0 h)
  · intro h
    refine hg_aloadn (pc := 8) (j := 0) (i := 0) (r := p0) hC 0 rfl rfl (show decode prog_4_method_14_code 8 = .ok (.aload_n 0, 1) by decide +kernel) ?_
    refine hg_rgi (pc := 9) (r := p0) hC fl_SignalEngine_Draft_89 (show decode prog_4_method_14_code 9 = .ok (.getfield 89, 3) by decide +kernel) h ?_
    intro e1 h
    exact hg_sub [] rfl (lab_12 e1 h)
noncomputable def hm_DR_hang_L32 (G : hg_E) (S : hg_S) (x0 : Option Nat) (x1 : Option Nat) (x3 : Int32) (y0 : Int32) (y1 : Int32) (y2 : Option Nat) : Option (hg_S) :=
  (hg_pf S y2 8 10 (.int (y1 + y0))).bind fun S1 => (hg_gi S1 x1 8 11).bind fun e2 => (hg_pf S1 x0 8 11 (.int (e2 + x3))).bind fun S3 => some S3
noncomputable def hm_DR_hang (G : hg_E) (S : hg_S) (p0 : Option Nat) (p1 : Option Nat) (p2 : Int32) (p3 : Int32) : Option (hg_S) :=
  (hg_pf S p0 8 8 (.int p2)).bind fun S4 => (hg_gi S4 p1 8 8).bind fun e5 => (hg_pf S4 p0 8 9 (.int e5)).bind fun S6 => (hg_gi S6 p1 8 10).bind fun e7 => (hg_gi S6 p1 8 0).bind fun e8 => if e8 = 8 then (hm_DR_hang_L32 G S6 p0 p1 p3 1 e7 p0) else (hm_DR_hang_L32 G S6 p0 p1 p3 0 e7 p0)
set_option maxHeartbeats 4000000 in
set_option maxRecDepth 100000 in
/-- SignalEngine$Draft.hang(LSignalEngine$Node;LSignalEngine$Node;II)V -/
theorem hm_DR_hang_ok (l : Launch) (D : va_G) (G : hg_E) (Z : hg_S) (p0 : Option Nat) (p1 : Option Nat) (p2 : Int32) (p3 : Int32) (q : hg_S) (hq : hm_DR_hang G Z p0 p1 p2 p3 = some q) : hg_C l ⟨"SignalEngine$Draft", "hang", "(LSignalEngine$Node;LSignalEngine$Node;II)V"⟩ prog_4_method_16_code 4 none 0 0 D G [va_rf p0, va_rf p1, .int p2, .int p3] Z (.inl (none, q) : hg_O) := by
  refine hg_start (cv := fun q => (.inl (none, q) : hg_O)) hq ?_
  intro F hF h
  refine hg_enter (lv := [(0, va_rf p0), (1, va_rf p1), (2, .int p2), (3, .int p3)]) (by decide +kernel) (by simp [lg_sl, va_rf_cat, hg_cti, hg_ctr]) (by simp [lv_args, va_rf_cat, va_rf_some, hg_cti, hg_ctr]) ?_
  intro X hC hR
  have lab_32 : ∀ (S : hg_S) (x0 : Option Nat) (x1 : Option Nat) (x3 : Int32) (y0 : Int32) (y1 : Int32) (y2 : Option Nat), dc_wp (hm_DR_hang_L32 G S x0 x1 x3 y0 y1 y2) F → hg_G X l (hg_rm 0 0 Z) D 4 S 32 [(0, va_rf x0), (1, va_rf x1), (3, .int x3)] [.int y0, .int y1, va_rf y2] := by
    intro S x0 x1 x3 y0 y1 y2 h
    delta hm_DR_hang_L32 at h
    refine hg_iadd (pc := 32) hC (show decode prog_4_method_16_code 32 = .ok (.iadd, 1) by decide +kernel) ?_
    refine hg_rput (pc := 33) (r := y2) (v := .int (y1 + y0)) hC fp_SignalEngine_Draft_111 rfl rfl (show decode prog_4_method_16_code 33 = .ok (.putfield 111, 3) by decide +kernel) h ?_
    intro S1 h
    refine hg_aloadn (pc := 36) (j := 0) (i := 0) (r := x0) hC 0 rfl rfl (show decode prog_4_method_16_code 36 = .ok (.aload_n 0, 1) by decide +kernel) ?_
    refine hg_aloadn (pc := 37) (j := 1) (i := 1) (r := x1) hC 1 rfl rfl (show decode prog_4_method_16_code 37 = .ok (.aload_n 1, 1) by decide +kernel) ?_
    refine hg_rgi (pc := 38) (r := x1) hC fl_SignalEngine_Draft_105 (show decode prog_4_method_16_code 38 = .ok (.getfield 105, 3) by decide +kernel) h ?_
    intro e2 h
    refine hg_iloadn (pc := 41) (j := 3) (i := 3) hC 2 rfl rfl (show decode prog_4_method_16_code 41 = .ok (.iload_n 3, 1) by decide +kernel) ?_
    refine hg_iadd (pc := 42) hC (show decode prog_4_method_16_code 42 = .ok (.iadd, 1) by decide +kernel) ?_
    refine hg_rput (pc := 43) (r := x0) (v := .int (e2 + x3)) hC fp_SignalEngine_Draft_105 rfl rfl (show decode prog_4_method_16_code 43 = .ok (.putfield 105, 3) by decide +kernel) h ?_
    intro S3 h
    exact hg_vret (pc := 46) hC hR (hF _ (dc_some h)) (show decode prog_4_method_16_code 46 = .ok (.return_, 1) by decide +kernel)
  show hg_G X l (hg_rm 0 0 Z) D 4 Z 0 [(0, va_rf p0), (1, va_rf p1), (2, .int p2), (3, .int p3)] []
  have h : dc_wp (hm_DR_hang G Z p0 p1 p2 p3) F := h
  delta hm_DR_hang at h
  refine hg_aloadn (pc := 0) (j := 0) (i := 0) (r := p0) hC 0 rfl rfl (show decode prog_4_method_16_code 0 = .ok (.aload_n 0, 1) by decide +kernel) ?_
  refine hg_iloadn (pc := 1) (j := 2) (i := 2) hC 2 rfl rfl (show decode prog_4_method_16_code 1 = .ok (.iload_n 2, 1) by decide +kernel) ?_
  refine hg_rput (pc := 2) (r := p0) (v := .int p2) hC fp_SignalEngine_Draft_132 rfl rfl (show decode prog_4_method_16_code 2 = .ok (.putfield 132, 3) by decide +kernel) h ?_
  intro S4 h
  refine hg_aloadn (pc := 5) (j := 0) (i := 0) (r := p0) hC 0 rfl rfl (show decode prog_4_method_16_code 5 = .ok (.aload_n 0, 1) by decide +kernel) ?_
  refine hg_aloadn (pc := 6) (j := 1) (i := 1) (r := p1) hC 1 rfl rfl (show decode prog_4_method_16_code 6 = .ok (.aload_n 1, 1) by decide +kernel) ?_
  refine hg_rgi (pc := 7) (r := p1) hC fl_SignalEngine_Draft_132 (show decode prog_4_method_16_code 7 = .ok (.getfield 132, 3) by decide +kernel) h ?_
  intro e5 h
  refine hg_rput (pc := 10) (r := p0) (v := .int e5) hC fp_SignalEngine_Draft_139 rfl rfl (show decode prog_4_method_16_code 10 = .ok (.putfield 139, 3) by decide +kernel) h ?_
  intro S6 h
  refine hg_aloadn (pc := 13) (j := 0) (i := 0) (r := p0) hC 0 rfl rfl (show decode prog_4_method_16_code 13 = .ok (.aload_n 0, 1) by decide +kernel) ?_
  refine hg_aloadn (pc := 14) (j := 1) (i := 1) (r := p1) hC 1 rfl rfl (show decode prog_4_method_16_code 14 = .ok (.aload_n 1, 1) by decide +kernel) ?_
  refine hg_rgi (pc := 15) (r := p1) hC fl_SignalEngine_Draft_111 (show decode prog_4_method_16_code 15 = .ok (.getfield 111, 3) by decide +kernel) h ?_
  intro e7 h
  refine hg_aloadn (pc := 18) (j := 1) (i := 1) (r := p1) hC 1 rfl rfl (show decode prog_4_method_16_code 18 = .ok (.aload_n 1, 1) by decide +kernel) ?_
  refine hg_rgi (pc := 19) (r := p1) hC fl_SignalEngine_Draft_120 (show decode prog_4_method_16_code 19 = .ok (.getfield 120, 3) by decide +kernel) h ?_
  intro e8 h
  refine hg_bipush (pc := 22) (v := 8) hC (show decode prog_4_method_16_code 22 = .ok (.bipush 8, 2) by decide +kernel) (by decide +kernel) ?_
  refine hg_icmp_ne (pc := 24) (tgt := 31) hC (show decode prog_4_method_16_code 24 = .ok (.if_icmp .ne 7, 3) by decide +kernel) (by decide +kernel) h ?_ ?_
  · intro h
    refine hg_iconst (pc := 27) (v := 1) hC (show decode prog_4_method_16_code 27 = .ok (.iconst 1, 1) by decide +kernel) (by decide +kernel) ?_
    refine hg_goto (pc := 28) (tgt := 32) hC (show decode prog_4_method_16_code 28 = .ok (.goto 4, 3) by decide +kernel) (by decide +kernel) ?_
    exact hg_sub [0, 1, 3] rfl (lab_32 S6 p0 p1 p3 1 e7 p0 h)
  · intro h
    refine hg_iconst (pc := 31) (v := 0) hC (show decode prog_4_method_16_code 31 = .ok (.iconst 0, 1) by decide +kernel) (by decide +kernel) ?_
    exact hg_sub [0, 1, 3] rfl (lab_32 S6 p0 p1 p3 0 e7 p0 h)
noncomputable def hm_DR_spread_L209 (G : hg_E) (S : hg_S) (o : Nat) : Option (hg_S) :=
  some S
noncomputable def hm_DR_spread_L206 (G : hg_E) (S : hg_S) (o : Nat) (y0 : Int32) (y1 : Int32) (y2 : Option Nat) (y3 : Option Nat) : Option (hg_S) :=
  (hm_DR_hang G S y3 y2 y1 y0).bind fun q1 => hm_DR_spread_L209 G q1 o
noncomputable def hm_DR_spread_L165 (G : hg_E) (S : hg_S) (o : Nat) (x1 : Option Nat) : Option (hg_S) :=
  (hg_gr S x1 8 3).bind fun e2 => if e2 = none then (hm_DR_spread_L209 G S o) else ((hg_gi S x1 8 8).bind fun e3 => (hg_gr S x1 8 2).bind fun e4 => (hm_DR_extentOf G S e4).bind fun q5 => dc_let (((e3 + 1) + q5) : Int32) fun v6 => (hg_gr S x1 8 3).bind fun e7 => (hg_gi S x1 8 0).bind fun e8 => if e8 = 5 then (hm_DR_spread_L206 G S o 1 v6 x1 e7) else (hm_DR_spread_L206 G S o 0 v6 x1 e7))
noncomputable def hm_DR_spread_L162 (G : hg_E) (S : hg_S) (o : Nat) (x1 : Option Nat) (y0 : Int32) (y1 : Int32) (y2 : Option Nat) (y3 : Option Nat) : Option (hg_S) :=
  (hm_DR_hang G S y3 y2 y1 y0).bind fun q9 => hm_DR_spread_L165 G q9 o x1
noncomputable def hm_DR_spread_L130 (G : hg_E) (S : hg_S) (o : Nat) (x1 : Option Nat) : Option (hg_S) :=
  (hg_gr S x1 8 2).bind fun e10 => if e10 = none then (hm_DR_spread_L165 G S o x1) else ((hg_gr S x1 8 2).bind fun e11 => (hg_gi S x1 8 8).bind fun e12 => (hg_gi S x1 8 0).bind fun e13 => if e13 = 6 then (hm_DR_spread_L162 G S o x1 1 (e12 + 1) x1 e11) else (hm_DR_spread_L162 G S o x1 0 (e12 + 1) x1 e11))
noncomputable def hm_DR_spread_L105 (G : hg_E) (S : hg_S) (o : Nat) (x1 : Option Nat) (x2 : Option Nat) : Option (hg_S) :=
  (hg_gi S x1 8 5).bind fun e14 => if e14 = (-1) then (hm_DR_spread_L130 G S o x1) else ((hg_gi S x1 8 10).bind fun e15 => (hg_gi S x1 8 5).bind fun e16 => (hg_ld S x2 (G.1 0) e16).bind fun e17 => (hg_pf S x1 8 4 (.int ((e15 - e17) + 1))).bind fun S18 => hm_DR_spread_L130 G S18 o x1)
noncomputable def hm_DR_spread_L75 (G : hg_E) (S : hg_S) (o : Nat) (x1 : Option Nat) (x2 : Option Nat) : Option (hg_S) :=
  (hg_gi S x1 8 5).bind fun e19 => if e19 = (-1) then (hm_DR_spread_L105 G S o x1 x2) else ((hg_gi S x1 8 0).bind fun e20 => if e20 = 8 then ((hg_gi S x1 8 5).bind fun e21 => (hg_gi S x1 8 10).bind fun e22 => (hg_st S x2 (G.1 0) e21 e22).bind fun S23 => hm_DR_spread_L130 G S23 o x1) else (hm_DR_spread_L105 G S o x1 x2))
noncomputable def hm_DR_spread_L46 (G : hg_E) (S : hg_S) (o : Nat) (x1 : Option Nat) (x2 : Option Nat) : Option (hg_S) :=
  (hg_gi S x1 8 6).bind fun e24 => if e24 = (-1) then (hm_DR_spread_L75 G S o x1 x2) else ((hg_gi S (some o) 6 4).bind fun e25 => (hg_gr S (some o) 6 1).bind fun e26 => (hg_gr S e26 5 3).bind fun e27 => (hg_gi S x1 8 6).bind fun e28 => (hg_ld S e27 (G.1 0) e28).bind fun e29 => (hg_pf S (some o) 6 4 (.int (e25 + e29))).bind fun S30 => hm_DR_spread_L75 G S30 o x1 x2)
noncomputable def hm_DR_spread (G : hg_E) (S : hg_S) (o : Nat) (p1 : Option Nat) (p2 : Option Nat) : Option (hg_S) :=
  (hg_gi S (some o) 6 2).bind fun e31 => (hg_gi S p1 8 11).bind fun e32 => (hg_pf S (some o) 6 2 (.int (e31 + e32))).bind fun S33 => (hg_gi S33 (some o) 6 5).bind fun e34 => (hg_gi S33 p1 8 10).bind fun e35 => (hg_pf S33 (some o) 6 5 (.int (dc_max e34 e35))).bind fun S36 => (hg_gi S36 p1 8 0).bind fun e37 => if e37 = 1 then ((hg_gi S36 (some o) 6 3).bind fun e38 => (hg_pf S36 (some o) 6 3 (.int (e38 + 1))).bind fun S39 => hm_DR_spread_L46 G S39 o p1 p2) else (hm_DR_spread_L46 G S36 o p1 p2)
set_option maxHeartbeats 4000000 in
set_option maxRecDepth 100000 in
/-- SignalEngine$Draft.spread(LSignalEngine$Node;[I)V -/
theorem hm_DR_spread_ok (l : Launch) (D : va_G) (G : hg_E) (Z : hg_S) (o : Nat) (p1 : Option Nat) (p2 : Option Nat) (q : hg_S) (hq : hm_DR_spread G Z o p1 p2 = some q) : hg_C l ⟨"SignalEngine$Draft", "spread", "(LSignalEngine$Node;[I)V"⟩ prog_4_method_15_code 4 none 1 23 D G [.ref o, va_rf p1, va_rf p2] Z (.inl (none, q) : hg_O) := by
  refine hg_start (cv := fun q => (.inl (none, q) : hg_O)) hq ?_
  intro F hF h
  refine hg_enter (lv := [(0, va_rf (some o)), (1, va_rf p1), (2, va_rf p2)]) (by decide +kernel) (by simp [lg_sl, va_rf_cat, hg_cti, hg_ctr]) (by simp [lv_args, va_rf_cat, va_rf_some, hg_cti, hg_ctr]) ?_
  intro X hC hR
  have lab_209 : ∀ (S : hg_S), dc_wp (hm_DR_spread_L209 G S o) F → hg_G X l (hg_rm 1 23 Z) D 4 S 209 [(0, va_rf (some o))] [] := by
    intro S  h
    delta hm_DR_spread_L209 at h
    exact hg_vret (pc := 209) hC hR (hF _ (dc_some h)) (show decode prog_4_method_15_code 209 = .ok (.return_, 1) by decide +kernel)
  have lab_206 : ∀ (S : hg_S) (y0 : Int32) (y1 : Int32) (y2 : Option Nat) (y3 : Option Nat), dc_wp (hm_DR_spread_L206 G S o y0 y1 y2 y3) F → hg_G X l (hg_rm 1 23 Z) D 4 S 206 [(0, va_rf (some o))] [.int y0, .int y1, va_rf y2, va_rf y3] := by
    intro S y0 y1 y2 y3 h
    delta hm_DR_spread_L206 at h
    refine hg_kSv (pc := 206) (As := [va_rf y3, va_rf y2, .int y1, .int y0]) (rest := []) (so := fun q => q) hC cw_SignalEngine_Draft_135 (fun q hq => hm_DR_hang_ok l D G S y3 y2 y1 y0 q hq) (Nat.le_of_ble_eq_true rfl) (Nat.le_of_ble_eq_true rfl) rfl (Nat.le_of_ble_eq_true rfl) (show decode prog_4_method_15_code 206 = .ok (.invokestatic 135, 3) by decide +kernel) h ?_
    intro q1 h
    exact lab_209 q1 h
  have lab_165 : ∀ (S : hg_S) (x1 : Option Nat), dc_wp (hm_DR_spread_L165 G S o x1) F → hg_G X l (hg_rm 1 23 Z) D 4 S 165 [(0, va_rf (some o)), (1, va_rf x1)] [] := by
    intro S x1 h
    delta hm_DR_spread_L165 at h
    refine hg_aloadn (pc := 165) (j := 1) (i := 1) (r := x1) hC 1 rfl rfl (show decode prog_4_method_15_code 165 = .ok (.aload_n 1, 1) by decide +kernel) ?_
    refine hg_rgr (pc := 166) (r := x1) hC fl_SignalEngine_Draft_86 (show decode prog_4_method_15_code 166 = .ok (.getfield 86, 3) by decide +kernel) h ?_
    intro e2 h
    refine hg_ifnull (pc := 169) (tgt := 209) (r := e2) hC (show decode prog_4_method_15_code 169 = .ok (.ifnull 40, 3) by decide +kernel) (by decide +kernel) h ?_ ?_
    · intro h
      exact hg_sub [0] rfl (lab_209 S h)
    · intro h
      refine hg_aloadn (pc := 172) (j := 1) (i := 1) (r := x1) hC 1 rfl rfl (show decode prog_4_method_15_code 172 = .ok (.aload_n 1, 1) by decide +kernel) ?_
      refine hg_rgi (pc := 173) (r := x1) hC fl_SignalEngine_Draft_132 (show decode prog_4_method_15_code 173 = .ok (.getfield 132, 3) by decide +kernel) h ?_
      intro e3 h
      refine hg_iconst (pc := 176) (v := 1) hC (show decode prog_4_method_15_code 176 = .ok (.iconst 1, 1) by decide +kernel) (by decide +kernel) ?_
      refine hg_iadd (pc := 177) hC (show decode prog_4_method_15_code 177 = .ok (.iadd, 1) by decide +kernel) ?_
      refine hg_aloadn (pc := 178) (j := 1) (i := 1) (r := x1) hC 1 rfl rfl (show decode prog_4_method_15_code 178 = .ok (.aload_n 1, 1) by decide +kernel) ?_
      refine hg_rgr (pc := 179) (r := x1) hC fl_SignalEngine_Draft_78 (show decode prog_4_method_15_code 179 = .ok (.getfield 78, 3) by decide +kernel) h ?_
      intro e4 h
      refine hg_kSi (pc := 182) (As := [va_rf e4]) (rest := [.int (e3 + 1)]) (vo := fun q => q) (so := fun q => S) hC cw_SignalEngine_Draft_82 (fun q hq => hm_DR_extentOf_ok l D G S e4 q hq) (Nat.le_of_ble_eq_true rfl) (Nat.le_of_ble_eq_true rfl) rfl (Nat.le_of_ble_eq_true rfl) (show decode prog_4_method_15_code 182 = .ok (.invokestatic 82, 3) by decide +kernel) h ?_
      intro q5 h
      refine hg_iadd (pc := 185) hC (show decode prog_4_method_15_code 185 = .ok (.iadd, 1) by decide +kernel) ?_
      refine hg_letI h ?_
      intro v6 h
      refine hg_istoren (pc := 186) (j := 3) (i := 3) (lv' := [(3, .int v6), (0, va_rf (some o)), (1, va_rf x1)]) hC rfl (Nat.le_of_ble_eq_true rfl) rfl (show decode prog_4_method_15_code 186 = .ok (.istore_n 3, 1) by decide +kernel) ?_
      refine hg_aloadn (pc := 187) (j := 1) (i := 1) (r := x1) hC 2 rfl rfl (show decode prog_4_method_15_code 187 = .ok (.aload_n 1, 1) by decide +kernel) ?_
      refine hg_rgr (pc := 188) (r := x1) hC fl_SignalEngine_Draft_86 (show decode prog_4_method_15_code 188 = .ok (.getfield 86, 3) by decide +kernel) h ?_
      intro e7 h
      refine hg_aloadn (pc := 191) (j := 1) (i := 1) (r := x1) hC 2 rfl rfl (show decode prog_4_method_15_code 191 = .ok (.aload_n 1, 1) by decide +kernel) ?_
      refine hg_iloadn (pc := 192) (j := 3) (i := 3) hC 0 rfl rfl (show decode prog_4_method_15_code 192 = .ok (.iload_n 3, 1) by decide +kernel) ?_
      refine hg_aloadn (pc := 193) (j := 1) (i := 1) (r := x1) hC 2 rfl rfl (show decode prog_4_method_15_code 193 = .ok (.aload_n 1, 1) by decide +kernel) ?_
      refine hg_rgi (pc := 194) (r := x1) hC fl_SignalEngine_Draft_120 (show decode prog_4_method_15_code 194 = .ok (.getfield 120, 3) by decide +kernel) h ?_
      intro e8 h
      refine hg_iconst (pc := 197) (v := 5) hC (show decode prog_4_method_15_code 197 = .ok (.iconst 5, 1) by decide +kernel) (by decide +kernel) ?_
      refine hg_icmp_ne (pc := 198) (tgt := 205) hC (show decode prog_4_method_15_code 198 = .ok (.if_icmp .ne 7, 3) by decide +kernel) (by decide +kernel) h ?_ ?_
      · intro h
        refine hg_iconst (pc := 201) (v := 1) hC (show decode prog_4_method_15_code 201 = .ok (.iconst 1, 1) by decide +kernel) (by decide +kernel) ?_
        refine hg_goto (pc := 202) (tgt := 206) hC (show decode prog_4_method_15_code 202 = .ok (.goto 4, 3) by decide +kernel) (by decide +kernel) ?_
        exact hg_sub [1] rfl (lab_206 S 1 v6 x1 e7 h)
      · intro h
        refine hg_iconst (pc := 205) (v := 0) hC (show decode prog_4_method_15_code 205 = .ok (.iconst 0, 1) by decide +kernel) (by decide +kernel) ?_
        exact hg_sub [1] rfl (lab_206 S 0 v6 x1 e7 h)
  have lab_162 : ∀ (S : hg_S) (x1 : Option Nat) (y0 : Int32) (y1 : Int32) (y2 : Option Nat) (y3 : Option Nat), dc_wp (hm_DR_spread_L162 G S o x1 y0 y1 y2 y3) F → hg_G X l (hg_rm 1 23 Z) D 4 S 162 [(0, va_rf (some o)), (1, va_rf x1)] [.int y0, .int y1, va_rf y2, va_rf y3] := by
    intro S x1 y0 y1 y2 y3 h
    delta hm_DR_spread_L162 at h
    refine hg_kSv (pc := 162) (As := [va_rf y3, va_rf y2, .int y1, .int y0]) (rest := []) (so := fun q => q) hC cw_SignalEngine_Draft_135 (fun q hq => hm_DR_hang_ok l D G S y3 y2 y1 y0 q hq) (Nat.le_of_ble_eq_true rfl) (Nat.le_of_ble_eq_true rfl) rfl (Nat.le_of_ble_eq_true rfl) (show decode prog_4_method_15_code 162 = .ok (.invokestatic 135, 3) by decide +kernel) h ?_
    intro q9 h
    exact lab_165 q9 x1 h
  have lab_130 : ∀ (S : hg_S) (x1 : Option Nat), dc_wp (hm_DR_spread_L130 G S o x1) F → hg_G X l (hg_rm 1 23 Z) D 4 S 130 [(0, va_rf (some o)), (1, va_rf x1)] [] := by
    intro S x1 h
    delta hm_DR_spread_L130 at h
    refine hg_aloadn (pc := 130) (j := 1) (i := 1) (r := x1) hC 1 rfl rfl (show decode prog_4_method_15_code 130 = .ok (.aload_n 1, 1) by decide +kernel) ?_
    refine hg_rgr (pc := 131) (r := x1) hC fl_SignalEngine_Draft_78 (show decode prog_4_method_15_code 131 = .ok (.getfield 78, 3) by decide +kernel) h ?_
    intro e10 h
    refine hg_ifnull (pc := 134) (tgt := 165) (r := e10) hC (show decode prog_4_method_15_code 134 = .ok (.ifnull 31, 3) by decide +kernel) (by decide +kernel) h ?_ ?_
    · intro h
      exact lab_165 S x1 h
    · intro h
      refine hg_aloadn (pc := 137) (j := 1) (i := 1) (r := x1) hC 1 rfl rfl (show decode prog_4_method_15_code 137 = .ok (.aload_n 1, 1) by decide +kernel) ?_
      refine hg_rgr (pc := 138) (r := x1) hC fl_SignalEngine_Draft_78 (show decode prog_4_method_15_code 138 = .ok (.getfield 78, 3) by decide +kernel) h ?_
      intro e11 h
      refine hg_aloadn (pc := 141) (j := 1) (i := 1) (r := x1) hC 1 rfl rfl (show decode prog_4_method_15_code 141 = .ok (.aload_n 1, 1) by decide +kernel) ?_
      refine hg_aloadn (pc := 142) (j := 1) (i := 1) (r := x1) hC 1 rfl rfl (show decode prog_4_method_15_code 142 = .ok (.aload_n 1, 1) by decide +kernel) ?_
      refine hg_rgi (pc := 143) (r := x1) hC fl_SignalEngine_Draft_132 (show decode prog_4_method_15_code 143 = .ok (.getfield 132, 3) by decide +kernel) h ?_
      intro e12 h
      refine hg_iconst (pc := 146) (v := 1) hC (show decode prog_4_method_15_code 146 = .ok (.iconst 1, 1) by decide +kernel) (by decide +kernel) ?_
      refine hg_iadd (pc := 147) hC (show decode prog_4_method_15_code 147 = .ok (.iadd, 1) by decide +kernel) ?_
      refine hg_aloadn (pc := 148) (j := 1) (i := 1) (r := x1) hC 1 rfl rfl (show decode prog_4_method_15_code 148 = .ok (.aload_n 1, 1) by decide +kernel) ?_
      refine hg_rgi (pc := 149) (r := x1) hC fl_SignalEngine_Draft_120 (show decode prog_4_method_15_code 149 = .ok (.getfield 120, 3) by decide +kernel) h ?_
      intro e13 h
      refine hg_bipush (pc := 152) (v := 6) hC (show decode prog_4_method_15_code 152 = .ok (.bipush 6, 2) by decide +kernel) (by decide +kernel) ?_
      refine hg_icmp_ne (pc := 154) (tgt := 161) hC (show decode prog_4_method_15_code 154 = .ok (.if_icmp .ne 7, 3) by decide +kernel) (by decide +kernel) h ?_ ?_
      · intro h
        refine hg_iconst (pc := 157) (v := 1) hC (show decode prog_4_method_15_code 157 = .ok (.iconst 1, 1) by decide +kernel) (by decide +kernel) ?_
        refine hg_goto (pc := 158) (tgt := 162) hC (show decode prog_4_method_15_code 158 = .ok (.goto 4, 3) by decide +kernel) (by decide +kernel) ?_
        exact lab_162 S x1 1 (e12 + 1) x1 e11 h
      · intro h
        refine hg_iconst (pc := 161) (v := 0) hC (show decode prog_4_method_15_code 161 = .ok (.iconst 0, 1) by decide +kernel) (by decide +kernel) ?_
        exact lab_162 S x1 0 (e12 + 1) x1 e11 h
  have lab_105 : ∀ (S : hg_S) (x1 : Option Nat) (x2 : Option Nat), dc_wp (hm_DR_spread_L105 G S o x1 x2) F → hg_G X l (hg_rm 1 23 Z) D 4 S 105 [(0, va_rf (some o)), (1, va_rf x1), (2, va_rf x2)] [] := by
    intro S x1 x2 h
    delta hm_DR_spread_L105 at h
    refine hg_aloadn (pc := 105) (j := 1) (i := 1) (r := x1) hC 1 rfl rfl (show decode prog_4_method_15_code 105 = .ok (.aload_n 1, 1) by decide +kernel) ?_
    refine hg_rgi (pc := 106) (r := x1) hC fl_SignalEngine_Draft_47 (show decode prog_4_method_15_code 106 = .ok (.getfield 47, 3) by decide +kernel) h ?_
    intro e14 h
    refine hg_iconst (pc := 109) (v := (-1)) hC (show decode prog_4_method_15_code 109 = .ok (.iconst (-1), 1) by decide +kernel) (by decide +kernel) ?_
    refine hg_icmp_eq (pc := 110) (tgt := 130) hC (show decode prog_4_method_15_code 110 = .ok (.if_icmp .eq 20, 3) by decide +kernel) (by decide +kernel) h ?_ ?_
    · intro h
      exact hg_sub [0, 1] rfl (lab_130 S x1 h)
    · intro h
      refine hg_aloadn (pc := 113) (j := 1) (i := 1) (r := x1) hC 1 rfl rfl (show decode prog_4_method_15_code 113 = .ok (.aload_n 1, 1) by decide +kernel) ?_
      refine hg_aloadn (pc := 114) (j := 1) (i := 1) (r := x1) hC 1 rfl rfl (show decode prog_4_method_15_code 114 = .ok (.aload_n 1, 1) by decide +kernel) ?_
      refine hg_rgi (pc := 115) (r := x1) hC fl_SignalEngine_Draft_111 (show decode prog_4_method_15_code 115 = .ok (.getfield 111, 3) by decide +kernel) h ?_
      intro e15 h
      refine hg_aloadn (pc := 118) (j := 2) (i := 2) (r := x2) hC 2 rfl rfl (show decode prog_4_method_15_code 118 = .ok (.aload_n 2, 1) by decide +kernel) ?_
      refine hg_aloadn (pc := 119) (j := 1) (i := 1) (r := x1) hC 1 rfl rfl (show decode prog_4_method_15_code 119 = .ok (.aload_n 1, 1) by decide +kernel) ?_
      refine hg_rgi (pc := 120) (r := x1) hC fl_SignalEngine_Draft_47 (show decode prog_4_method_15_code 120 = .ok (.getfield 47, 3) by decide +kernel) h ?_
      intro e16 h
      refine hg_riald (pc := 123) (r := x2) hC (show decode prog_4_method_15_code 123 = .ok (.iaload, 1) by decide +kernel) h ?_
      intro e17 h
      refine hg_isub (pc := 124) hC (show decode prog_4_method_15_code 124 = .ok (.isub, 1) by decide +kernel) ?_
      refine hg_iconst (pc := 125) (v := 1) hC (show decode prog_4_method_15_code 125 = .ok (.iconst 1, 1) by decide +kernel) (by decide +kernel) ?_
      refine hg_iadd (pc := 126) hC (show decode prog_4_method_15_code 126 = .ok (.iadd, 1) by decide +kernel) ?_
      refine hg_rput (pc := 127) (r := x1) (v := .int ((e15 - e17) + 1)) hC fp_SignalEngine_Draft_36 rfl rfl (show decode prog_4_method_15_code 127 = .ok (.putfield 36, 3) by decide +kernel) h ?_
      intro S18 h
      exact hg_sub [0, 1] rfl (lab_130 S18 x1 h)
  have lab_75 : ∀ (S : hg_S) (x1 : Option Nat) (x2 : Option Nat), dc_wp (hm_DR_spread_L75 G S o x1 x2) F → hg_G X l (hg_rm 1 23 Z) D 4 S 75 [(0, va_rf (some o)), (1, va_rf x1), (2, va_rf x2)] [] := by
    intro S x1 x2 h
    delta hm_DR_spread_L75 at h
    refine hg_aloadn (pc := 75) (j := 1) (i := 1) (r := x1) hC 1 rfl rfl (show decode prog_4_method_15_code 75 = .ok (.aload_n 1, 1) by decide +kernel) ?_
    refine hg_rgi (pc := 76) (r := x1) hC fl_SignalEngine_Draft_47 (show decode prog_4_method_15_code 76 = .ok (.getfield 47, 3) by decide +kernel) h ?_
    intro e19 h
    refine hg_iconst (pc := 79) (v := (-1)) hC (show decode prog_4_method_15_code 79 = .ok (.iconst (-1), 1) by decide +kernel) (by decide +kernel) ?_
    refine hg_icmp_eq (pc := 80) (tgt := 105) hC (show decode prog_4_method_15_code 80 = .ok (.if_icmp .eq 25, 3) by decide +kernel) (by decide +kernel) h ?_ ?_
    · intro h
      exact lab_105 S x1 x2 h
    · intro h
      refine hg_aloadn (pc := 83) (j := 1) (i := 1) (r := x1) hC 1 rfl rfl (show decode prog_4_method_15_code 83 = .ok (.aload_n 1, 1) by decide +kernel) ?_
      refine hg_rgi (pc := 84) (r := x1) hC fl_SignalEngine_Draft_120 (show decode prog_4_method_15_code 84 = .ok (.getfield 120, 3) by decide +kernel) h ?_
      intro e20 h
      refine hg_bipush (pc := 87) (v := 8) hC (show decode prog_4_method_15_code 87 = .ok (.bipush 8, 2) by decide +kernel) (by decide +kernel) ?_
      refine hg_icmp_ne (pc := 89) (tgt := 105) hC (show decode prog_4_method_15_code 89 = .ok (.if_icmp .ne 16, 3) by decide +kernel) (by decide +kernel) h ?_ ?_
      · intro h
        refine hg_aloadn (pc := 92) (j := 2) (i := 2) (r := x2) hC 2 rfl rfl (show decode prog_4_method_15_code 92 = .ok (.aload_n 2, 1) by decide +kernel) ?_
        refine hg_aloadn (pc := 93) (j := 1) (i := 1) (r := x1) hC 1 rfl rfl (show decode prog_4_method_15_code 93 = .ok (.aload_n 1, 1) by decide +kernel) ?_
        refine hg_rgi (pc := 94) (r := x1) hC fl_SignalEngine_Draft_47 (show decode prog_4_method_15_code 94 = .ok (.getfield 47, 3) by decide +kernel) h ?_
        intro e21 h
        refine hg_aloadn (pc := 97) (j := 1) (i := 1) (r := x1) hC 1 rfl rfl (show decode prog_4_method_15_code 97 = .ok (.aload_n 1, 1) by decide +kernel) ?_
        refine hg_rgi (pc := 98) (r := x1) hC fl_SignalEngine_Draft_111 (show decode prog_4_method_15_code 98 = .ok (.getfield 111, 3) by decide +kernel) h ?_
        intro e22 h
        refine hg_riast (pc := 101) (r := x2) hC (show decode prog_4_method_15_code 101 = .ok (.iastore, 1) by decide +kernel) h ?_
        intro S23 h
        refine hg_goto (pc := 102) (tgt := 130) hC (show decode prog_4_method_15_code 102 = .ok (.goto 28, 3) by decide +kernel) (by decide +kernel) ?_
        exact hg_sub [0, 1] rfl (lab_130 S23 x1 h)
      · intro h
        exact lab_105 S x1 x2 h
  have lab_46 : ∀ (S : hg_S) (x1 : Option Nat) (x2 : Option Nat), dc_wp (hm_DR_spread_L46 G S o x1 x2) F → hg_G X l (hg_rm 1 23 Z) D 4 S 46 [(0, va_rf (some o)), (1, va_rf x1), (2, va_rf x2)] [] := by
    intro S x1 x2 h
    delta hm_DR_spread_L46 at h
    refine hg_aloadn (pc := 46) (j := 1) (i := 1) (r := x1) hC 1 rfl rfl (show decode prog_4_method_15_code 46 = .ok (.aload_n 1, 1) by decide +kernel) ?_
    refine hg_rgi (pc := 47) (r := x1) hC fl_SignalEngine_Draft_44 (show decode prog_4_method_15_code 47 = .ok (.getfield 44, 3) by decide +kernel) h ?_
    intro e24 h
    refine hg_iconst (pc := 50) (v := (-1)) hC (show decode prog_4_method_15_code 50 = .ok (.iconst (-1), 1) by decide +kernel) (by decide +kernel) ?_
    refine hg_icmp_eq (pc := 51) (tgt := 75) hC (show decode prog_4_method_15_code 51 = .ok (.if_icmp .eq 24, 3) by decide +kernel) (by decide +kernel) h ?_ ?_
    · intro h
      exact lab_75 S x1 x2 h
    · intro h
      refine hg_aloadn (pc := 54) (j := 0) (i := 0) (r := (some o)) hC 0 rfl rfl (show decode prog_4_method_15_code 54 = .ok (.aload_n 0, 1) by decide +kernel) ?_
      refine hg_dup (pc := 55) hC (show decode prog_4_method_15_code 55 = .ok (.dup, 1) by decide +kernel) rfl ?_
      refine hg_rgi (pc := 56) (r := (some o)) hC fl_SignalEngine_Draft_126 (show decode prog_4_method_15_code 56 = .ok (.getfield 126, 3) by decide +kernel) h ?_
      intro e25 h
      refine hg_aloadn (pc := 59) (j := 0) (i := 0) (r := (some o)) hC 0 rfl rfl (show decode prog_4_method_15_code 59 = .ok (.aload_n 0, 1) by decide +kernel) ?_
      refine hg_rgr (pc := 60) (r := (some o)) hC fl_SignalEngine_Draft_23 (show decode prog_4_method_15_code 60 = .ok (.getfield 23, 3) by decide +kernel) h ?_
      intro e26 h
      refine hg_rgr (pc := 63) (r := e26) hC fl_SignalEngine_Draft_129 (show decode prog_4_method_15_code 63 = .ok (.getfield 129, 3) by decide +kernel) h ?_
      intro e27 h
      refine hg_aloadn (pc := 66) (j := 1) (i := 1) (r := x1) hC 1 rfl rfl (show decode prog_4_method_15_code 66 = .ok (.aload_n 1, 1) by decide +kernel) ?_
      refine hg_rgi (pc := 67) (r := x1) hC fl_SignalEngine_Draft_44 (show decode prog_4_method_15_code 67 = .ok (.getfield 44, 3) by decide +kernel) h ?_
      intro e28 h
      refine hg_riald (pc := 70) (r := e27) hC (show decode prog_4_method_15_code 70 = .ok (.iaload, 1) by decide +kernel) h ?_
      intro e29 h
      refine hg_iadd (pc := 71) hC (show decode prog_4_method_15_code 71 = .ok (.iadd, 1) by decide +kernel) ?_
      refine hg_rput (pc := 72) (r := (some o)) (v := .int (e25 + e29)) hC fp_SignalEngine_Draft_126 rfl rfl (show decode prog_4_method_15_code 72 = .ok (.putfield 126, 3) by decide +kernel) h ?_
      intro S30 h
      exact lab_75 S30 x1 x2 h
  show hg_G X l (hg_rm 1 23 Z) D 4 Z 0 [(0, va_rf (some o)), (1, va_rf p1), (2, va_rf p2)] []
  have h : dc_wp (hm_DR_spread G Z o p1 p2) F := h
  delta hm_DR_spread at h
  refine hg_aloadn (pc := 0) (j := 0) (i := 0) (r := (some o)) hC 0 rfl rfl (show decode prog_4_method_15_code 0 = .ok (.aload_n 0, 1) by decide +kernel) ?_
  refine hg_dup (pc := 1) hC (show decode prog_4_method_15_code 1 = .ok (.dup, 1) by decide +kernel) rfl ?_
  refine hg_rgi (pc := 2) (r := (some o)) hC fl_SignalEngine_Draft_102 (show decode prog_4_method_15_code 2 = .ok (.getfield 102, 3) by decide +kernel) h ?_
  intro e31 h
  refine hg_aloadn (pc := 5) (j := 1) (i := 1) (r := p1) hC 1 rfl rfl (show decode prog_4_method_15_code 5 = .ok (.aload_n 1, 1) by decide +kernel) ?_
  refine hg_rgi (pc := 6) (r := p1) hC fl_SignalEngine_Draft_105 (show decode prog_4_method_15_code 6 = .ok (.getfield 105, 3) by decide +kernel) h ?_
  intro e32 h
  refine hg_iadd (pc := 9) hC (show decode prog_4_method_15_code 9 = .ok (.iadd, 1) by decide +kernel) ?_
  refine hg_rput (pc := 10) (r := (some o)) (v := .int (e31 + e32)) hC fp_SignalEngine_Draft_102 rfl rfl (show decode prog_4_method_15_code 10 = .ok (.putfield 102, 3) by decide +kernel) h ?_
  intro S33 h
  refine hg_aloadn (pc := 13) (j := 0) (i := 0) (r := (some o)) hC 0 rfl rfl (show decode prog_4_method_15_code 13 = .ok (.aload_n 0, 1) by decide +kernel) ?_
  refine hg_aloadn (pc := 14) (j := 0) (i := 0) (r := (some o)) hC 0 rfl rfl (show decode prog_4_method_15_code 14 = .ok (.aload_n 0, 1) by decide +kernel) ?_
  refine hg_rgi (pc := 15) (r := (some o)) hC fl_SignalEngine_Draft_108 (show decode prog_4_method_15_code 15 = .ok (.getfield 108, 3) by decide +kernel) h ?_
  intro e34 h
  refine hg_aloadn (pc := 18) (j := 1) (i := 1) (r := p1) hC 1 rfl rfl (show decode prog_4_method_15_code 18 = .ok (.aload_n 1, 1) by decide +kernel) ?_
  refine hg_rgi (pc := 19) (r := p1) hC fl_SignalEngine_Draft_111 (show decode prog_4_method_15_code 19 = .ok (.getfield 111, 3) by decide +kernel) h ?_
  intro e35 h
  refine hg_mmax (pc := 22) hC w_835 w_633 w_4 w_634 (Nat.le_of_ble_eq_true rfl) (Nat.le_of_ble_eq_true rfl) (show decode prog_4_method_15_code 22 = .ok (.invokestatic 114, 3) by decide +kernel) ?_
  refine hg_rput (pc := 25) (r := (some o)) (v := .int (dc_max e34 e35)) hC fp_SignalEngine_Draft_108 rfl rfl (show decode prog_4_method_15_code 25 = .ok (.putfield 108, 3) by decide +kernel) h ?_
  intro S36 h
  refine hg_aloadn (pc := 28) (j := 1) (i := 1) (r := p1) hC 1 rfl rfl (show decode prog_4_method_15_code 28 = .ok (.aload_n 1, 1) by decide +kernel) ?_
  refine hg_rgi (pc := 29) (r := p1) hC fl_SignalEngine_Draft_120 (show decode prog_4_method_15_code 29 = .ok (.getfield 120, 3) by decide +kernel) h ?_
  intro e37 h
  refine hg_iconst (pc := 32) (v := 1) hC (show decode prog_4_method_15_code 32 = .ok (.iconst 1, 1) by decide +kernel) (by decide +kernel) ?_
  refine hg_icmp_ne (pc := 33) (tgt := 46) hC (show decode prog_4_method_15_code 33 = .ok (.if_icmp .ne 13, 3) by decide +kernel) (by decide +kernel) h ?_ ?_
  · intro h
    refine hg_aloadn (pc := 36) (j := 0) (i := 0) (r := (some o)) hC 0 rfl rfl (show decode prog_4_method_15_code 36 = .ok (.aload_n 0, 1) by decide +kernel) ?_
    refine hg_dup (pc := 37) hC (show decode prog_4_method_15_code 37 = .ok (.dup, 1) by decide +kernel) rfl ?_
    refine hg_rgi (pc := 38) (r := (some o)) hC fl_SignalEngine_Draft_123 (show decode prog_4_method_15_code 38 = .ok (.getfield 123, 3) by decide +kernel) h ?_
    intro e38 h
    refine hg_iconst (pc := 41) (v := 1) hC (show decode prog_4_method_15_code 41 = .ok (.iconst 1, 1) by decide +kernel) (by decide +kernel) ?_
    refine hg_iadd (pc := 42) hC (show decode prog_4_method_15_code 42 = .ok (.iadd, 1) by decide +kernel) ?_
    refine hg_rput (pc := 43) (r := (some o)) (v := .int (e38 + 1)) hC fp_SignalEngine_Draft_123 rfl rfl (show decode prog_4_method_15_code 43 = .ok (.putfield 123, 3) by decide +kernel) h ?_
    intro S39 h
    exact lab_46 S39 p1 p2 h
  · intro h
    exact lab_46 S36 p1 p2 h
noncomputable def hm_SE_greaterOfPairs (G : hg_E) (S : hg_S) (p0 : Int32) (p1 : Int32) : Option (Int32) :=
  (hm_JI_lowestOneBit G S p1).bind fun q1 => (hm_JI_lowestOneBit G S p0).bind fun q2 => some (((p0 &&& (-q1)) ||| (p1 &&& (-q2))))
set_option maxHeartbeats 4000000 in
set_option maxRecDepth 100000 in
/-- SignalEngine.greaterOfPairs(II)I -/
theorem hm_SE_greaterOfPairs_ok (l : Launch) (D : va_G) (G : hg_E) (Z : hg_S) (p0 : Int32) (p1 : Int32) (q : Int32) (hq : hm_SE_greaterOfPairs G Z p0 p1 = some q) : hg_C l ⟨"SignalEngine", "greaterOfPairs", "(II)I"⟩ prog_1_method_33_code 2 (some (.int)) 1 20 D G [.int p0, .int p1] Z (.inl (some (.int q), Z) : hg_O) := by
  refine hg_start (cv := fun q => (.inl (some (.int q), Z) : hg_O)) hq ?_
  intro F hF h
  refine hg_enter (lv := [(0, .int p0), (1, .int p1)]) (by decide +kernel) (by simp [lg_sl, va_rf_cat, hg_cti, hg_ctr]) (by simp [lv_args, va_rf_cat, va_rf_some, hg_cti, hg_ctr]) ?_
  intro X hC hR
  show hg_G X l (hg_rm 1 20 Z) D 2 Z 0 [(0, .int p0), (1, .int p1)] []
  have h : dc_wp (hm_SE_greaterOfPairs G Z p0 p1) F := h
  delta hm_SE_greaterOfPairs at h
  refine hg_iloadn (pc := 0) (j := 0) (i := 0) hC 0 rfl rfl (show decode prog_1_method_33_code 0 = .ok (.iload_n 0, 1) by decide +kernel) ?_
  refine hg_iloadn (pc := 1) (j := 1) (i := 1) hC 1 rfl rfl (show decode prog_1_method_33_code 1 = .ok (.iload_n 1, 1) by decide +kernel) ?_
  refine hg_kSi (pc := 2) (As := [.int p1]) (rest := [.int p0]) (vo := fun q => q) (so := fun q => Z) hC cw_SignalEngine_273 (fun q hq => hm_JI_lowestOneBit_ok l D G Z p1 q hq) (Nat.le_of_ble_eq_true rfl) (Nat.le_of_ble_eq_true rfl) rfl (Nat.le_of_ble_eq_true rfl) (show decode prog_1_method_33_code 2 = .ok (.invokestatic 273, 3) by decide +kernel) h ?_
  intro q1 h
  refine hg_ineg (pc := 5) hC (show decode prog_1_method_33_code 5 = .ok (.ineg, 1) by decide +kernel) ?_
  refine hg_iand (pc := 6) hC (show decode prog_1_method_33_code 6 = .ok (.iand, 1) by decide +kernel) ?_
  refine hg_iloadn (pc := 7) (j := 1) (i := 1) hC 1 rfl rfl (show decode prog_1_method_33_code 7 = .ok (.iload_n 1, 1) by decide +kernel) ?_
  refine hg_iloadn (pc := 8) (j := 0) (i := 0) hC 0 rfl rfl (show decode prog_1_method_33_code 8 = .ok (.iload_n 0, 1) by decide +kernel) ?_
  refine hg_kSi (pc := 9) (As := [.int p0]) (rest := [.int p1, .int (p0 &&& (-q1))]) (vo := fun q => q) (so := fun q => Z) hC cw_SignalEngine_273 (fun q hq => hm_JI_lowestOneBit_ok l D G Z p0 q hq) (Nat.le_of_ble_eq_true rfl) (Nat.le_of_ble_eq_true rfl) rfl (Nat.le_of_ble_eq_true rfl) (show decode prog_1_method_33_code 9 = .ok (.invokestatic 273, 3) by decide +kernel) h ?_
  intro q2 h
  refine hg_ineg (pc := 12) hC (show decode prog_1_method_33_code 12 = .ok (.ineg, 1) by decide +kernel) ?_
  refine hg_iand (pc := 13) hC (show decode prog_1_method_33_code 13 = .ok (.iand, 1) by decide +kernel) ?_
  refine hg_ior (pc := 14) hC (show decode prog_1_method_33_code 14 = .ok (.ior, 1) by decide +kernel) ?_
  exact hg_iret (pc := 15) hC hR (hF _ (dc_some h)) (show decode prog_1_method_33_code 15 = .ok (.ireturn, 1) by decide +kernel)
noncomputable def hm_SE_withoutTrap (G : hg_E) (S : hg_S) (p0 : Int32) : Option (Int32) :=
  some (((((p0 &&& 3) ||| (((((Int32.toUInt32 p0 >>> (Int32.toUInt32 2 &&& Int32.toUInt32 31)).toInt32)) &&& 1)))) ||| (((((Int32.toUInt32 p0 >>> (Int32.toUInt32 1 &&& Int32.toUInt32 31)).toInt32)) &&& (-4)))))
set_option maxHeartbeats 4000000 in
set_option maxRecDepth 100000 in
/-- SignalEngine.withoutTrap(I)I -/
theorem hm_SE_withoutTrap_ok (l : Launch) (D : va_G) (G : hg_E) (Z : hg_S) (p0 : Int32) (q : Int32) (hq : hm_SE_withoutTrap G Z p0 = some q) : hg_C l ⟨"SignalEngine", "withoutTrap", "(I)I"⟩ prog_1_method_34_code 1 (some (.int)) 0 0 D G [.int p0] Z (.inl (some (.int q), Z) : hg_O) := by
  refine hg_start (cv := fun q => (.inl (some (.int q), Z) : hg_O)) hq ?_
  intro F hF h
  refine hg_enter (lv := [(0, .int p0)]) (by decide +kernel) (by simp [lg_sl, va_rf_cat, hg_cti, hg_ctr]) (by simp [lv_args, va_rf_cat, va_rf_some, hg_cti, hg_ctr]) ?_
  intro X hC hR
  show hg_G X l (hg_rm 0 0 Z) D 1 Z 0 [(0, .int p0)] []
  have h : dc_wp (hm_SE_withoutTrap G Z p0) F := h
  delta hm_SE_withoutTrap at h
  refine hg_iloadn (pc := 0) (j := 0) (i := 0) hC 0 rfl rfl (show decode prog_1_method_34_code 0 = .ok (.iload_n 0, 1) by decide +kernel) ?_
  refine hg_iconst (pc := 1) (v := 3) hC (show decode prog_1_method_34_code 1 = .ok (.iconst 3, 1) by decide +kernel) (by decide +kernel) ?_
  refine hg_iand (pc := 2) hC (show decode prog_1_method_34_code 2 = .ok (.iand, 1) by decide +kernel) ?_
  refine hg_iloadn (pc := 3) (j := 0) (i := 0) hC 0 rfl rfl (show decode prog_1_method_34_code 3 = .ok (.iload_n 0, 1) by decide +kernel) ?_
  refine hg_iconst (pc := 4) (v := 2) hC (show decode prog_1_method_34_code 4 = .ok (.iconst 2, 1) by decide +kernel) (by decide +kernel) ?_
  refine hg_iushr (pc := 5) hC (show decode prog_1_method_34_code 5 = .ok (.iushr, 1) by decide +kernel) ?_
  refine hg_iconst (pc := 6) (v := 1) hC (show decode prog_1_method_34_code 6 = .ok (.iconst 1, 1) by decide +kernel) (by decide +kernel) ?_
  refine hg_iand (pc := 7) hC (show decode prog_1_method_34_code 7 = .ok (.iand, 1) by decide +kernel) ?_
  refine hg_ior (pc := 8) hC (show decode prog_1_method_34_code 8 = .ok (.ior, 1) by decide +kernel) ?_
  refine hg_iloadn (pc := 9) (j := 0) (i := 0) hC 0 rfl rfl (show decode prog_1_method_34_code 9 = .ok (.iload_n 0, 1) by decide +kernel) ?_
  refine hg_iconst (pc := 10) (v := 1) hC (show decode prog_1_method_34_code 10 = .ok (.iconst 1, 1) by decide +kernel) (by decide +kernel) ?_
  refine hg_iushr (pc := 11) hC (show decode prog_1_method_34_code 11 = .ok (.iushr, 1) by decide +kernel) ?_
  refine hg_bipush (pc := 12) (v := (-4)) hC (show decode prog_1_method_34_code 12 = .ok (.bipush (-4), 2) by decide +kernel) (by decide +kernel) ?_
  refine hg_iand (pc := 14) hC (show decode prog_1_method_34_code 14 = .ok (.iand, 1) by decide +kernel) ?_
  refine hg_ior (pc := 15) hC (show decode prog_1_method_34_code 15 = .ok (.ior, 1) by decide +kernel) ?_
  exact hg_iret (pc := 16) hC hR (hF _ (dc_some h)) (show decode prog_1_method_34_code 16 = .ok (.ireturn, 1) by decide +kernel)
noncomputable def hm_DR_codesOf_L123 (G : hg_E) (S : hg_S) (y0 : Int32) : Option (Int32) :=
  some y0
noncomputable def hm_DR_codesOf_L37 (G : hg_E) (S : hg_S) (x0 : Option Nat) (x1 : Int32) (y0 : Int32) : Option (Int32) :=
  (hg_gi S x0 8 0).bind fun e1 => dc_let (e1 : Int32) fun v2 => if v2 = 0 then (some 1) else if v2 = 1 then (some 2) else if v2 = 2 then (some 1) else if v2 = 3 then (some (x1 ||| y0)) else if v2 = 4 then (some (x1 ||| y0)) else if v2 = 5 then (if (x1 &&& 1) = 0 then (hm_DR_codesOf_L123 G S x1) else (hm_DR_codesOf_L123 G S (((x1 &&& (-2)) ||| y0)))) else if v2 = 6 then (some (x1 ||| y0)) else if v2 = 7 then ((hm_SE_greaterOfPairs G S x1 y0).bind fun q10 => some q10) else if v2 = 8 then ((hm_SE_withoutTrap G S x1).bind fun q12 => some q12) else if v2 = 9 then ((hg_gi S x0 8 4).bind fun e14 => some (((1 : Int32) <<< (e14 &&& (31 : Int32))))) else (some (x1 ||| y0))
noncomputable def hm_DR_codesOf_L18 (G : hg_E) (S : hg_S) (x0 : Option Nat) (y0 : Int32) : Option (Int32) :=
  (hg_gr S x0 8 3).bind fun e16 => if e16 = none then (hm_DR_codesOf_L37 G S x0 y0 0) else ((hg_gr S x0 8 3).bind fun e17 => (hg_gi S e17 8 12).bind fun e18 => hm_DR_codesOf_L37 G S x0 y0 e18)
noncomputable def hm_DR_codesOf (G : hg_E) (S : hg_S) (p0 : Option Nat) : Option (Int32) :=
  (hg_gr S p0 8 2).bind fun e19 => if e19 = none then (hm_DR_codesOf_L18 G S p0 0) else ((hg_gr S p0 8 2).bind fun e20 => (hg_gi S e20 8 12).bind fun e21 => hm_DR_codesOf_L18 G S p0 e21)
set_option maxHeartbeats 4000000 in
set_option maxRecDepth 100000 in
/-- SignalEngine$Draft.codesOf(LSignalEngine$Node;)I -/
theorem hm_DR_codesOf_ok (l : Launch) (D : va_G) (G : hg_E) (Z : hg_S) (p0 : Option Nat) (q : Int32) (hq : hm_DR_codesOf G Z p0 = some q) : hg_C l ⟨"SignalEngine$Draft", "codesOf", "(LSignalEngine$Node;)I"⟩ prog_4_method_17_code 3 (some (.int)) 2 41 D G [va_rf p0] Z (.inl (some (.int q), Z) : hg_O) := by
  refine hg_start (cv := fun q => (.inl (some (.int q), Z) : hg_O)) hq ?_
  intro F hF h
  refine hg_enter (lv := [(0, va_rf p0)]) (by decide +kernel) (by simp [lg_sl, va_rf_cat, hg_cti, hg_ctr]) (by simp [lv_args, va_rf_cat, va_rf_some, hg_cti, hg_ctr]) ?_
  intro X hC hR
  have lab_123 : ∀ (y0 : Int32), dc_wp (hm_DR_codesOf_L123 G Z y0) F → hg_G X l (hg_rm 2 41 Z) D 3 Z 123 [] [.int y0] := by
    intro y0 h
    delta hm_DR_codesOf_L123 at h
    exact hg_iret (pc := 123) hC hR (hF _ (dc_some h)) (show decode prog_4_method_17_code 123 = .ok (.ireturn, 1) by decide +kernel)
  have lab_37 : ∀ (x0 : Option Nat) (x1 : Int32) (y0 : Int32), dc_wp (hm_DR_codesOf_L37 G Z x0 x1 y0) F → hg_G X l (hg_rm 2 41 Z) D 3 Z 37 [(0, va_rf x0), (1, .int x1)] [.int y0] := by
    intro x0 x1 y0 h
    delta hm_DR_codesOf_L37 at h
    refine hg_istoren (pc := 37) (j := 2) (i := 2) (lv' := [(2, .int y0), (0, va_rf x0), (1, .int x1)]) hC rfl (Nat.le_of_ble_eq_true rfl) rfl (show decode prog_4_method_17_code 37 = .ok (.istore_n 2, 1) by decide +kernel) ?_
    refine hg_aloadn (pc := 38) (j := 0) (i := 0) (r := x0) hC 1 rfl rfl (show decode prog_4_method_17_code 38 = .ok (.aload_n 0, 1) by decide +kernel) ?_
    refine hg_rgi (pc := 39) (r := x0) hC fl_SignalEngine_Draft_120 (show decode prog_4_method_17_code 39 = .ok (.getfield 120, 3) by decide +kernel) h ?_
    intro e1 h
    refine hg_letI h ?_
    intro v2 h
    rcases dc_ite h with ⟨hk3, h2⟩ | ⟨hk3, h2⟩
    · subst hk3; clear h; have h := h2; clear h2
      refine hg_tabIn (pc := 42) (off := 54) (tgt := 96) hC dsw_prog_4_method_17_code_42 (by decide +kernel) (by decide +kernel) (by decide +kernel) (by decide +kernel) ?_
      refine hg_iconst (pc := 96) (v := 1) hC (show decode prog_4_method_17_code 96 = .ok (.iconst 1, 1) by decide +kernel) (by decide +kernel) ?_
      exact hg_iret (pc := 97) hC hR (hF _ (dc_some h)) (show decode prog_4_method_17_code 97 = .ok (.ireturn, 1) by decide +kernel)
    clear h; have h := h2; clear h2
    rcases dc_ite h with ⟨hk4, h2⟩ | ⟨hk4, h2⟩
    · subst hk4; clear h; have h := h2; clear h2
      refine hg_tabIn (pc := 42) (off := 56) (tgt := 98) hC dsw_prog_4_method_17_code_42 (by decide +kernel) (by decide +kernel) (by decide +kernel) (by decide +kernel) ?_
      refine hg_iconst (pc := 98) (v := 2) hC (show decode prog_4_method_17_code 98 = .ok (.iconst 2, 1) by decide +kernel) (by decide +kernel) ?_
      exact hg_iret (pc := 99) hC hR (hF _ (dc_some h)) (show decode prog_4_method_17_code 99 = .ok (.ireturn, 1) by decide +kernel)
    clear h; have h := h2; clear h2
    rcases dc_ite h with ⟨hk5, h2⟩ | ⟨hk5, h2⟩
    · subst hk5; clear h; have h := h2; clear h2
      refine hg_tabIn (pc := 42) (off := 54) (tgt := 96) hC dsw_prog_4_method_17_code_42 (by decide +kernel) (by decide +kernel) (by decide +kernel) (by decide +kernel) ?_
      refine hg_iconst (pc := 96) (v := 1) hC (show decode prog_4_method_17_code 96 = .ok (.iconst 1, 1) by decide +kernel) (by decide +kernel) ?_
      exact hg_iret (pc := 97) hC hR (hF _ (dc_some h)) (show decode prog_4_method_17_code 97 = .ok (.ireturn, 1) by decide +kernel)
    clear h; have h := h2; clear h2
    rcases dc_ite h with ⟨hk6, h2⟩ | ⟨hk6, h2⟩
    · subst hk6; clear h; have h := h2; clear h2
      refine hg_tabIn (pc := 42) (off := 93) (tgt := 135) hC dsw_prog_4_method_17_code_42 (by decide +kernel) (by decide +kernel) (by decide +kernel) (by decide +kernel) ?_
      refine hg_iloadn (pc := 135) (j := 1) (i := 1) hC 2 rfl rfl (show decode prog_4_method_17_code 135 = .ok (.iload_n 1, 1) by decide +kernel) ?_
      refine hg_iloadn (pc := 136) (j := 2) (i := 2) hC 0 rfl rfl (show decode prog_4_method_17_code 136 = .ok (.iload_n 2, 1) by decide +kernel) ?_
      refine hg_ior (pc := 137) hC (show decode prog_4_method_17_code 137 = .ok (.ior, 1) by decide +kernel) ?_
      exact hg_iret (pc := 138) hC hR (hF _ (dc_some h)) (show decode prog_4_method_17_code 138 = .ok (.ireturn, 1) by decide +kernel)
    clear h; have h := h2; clear h2
    rcases dc_ite h with ⟨hk7, h2⟩ | ⟨hk7, h2⟩
    · subst hk7; clear h; have h := h2; clear h2
      refine hg_tabIn (pc := 42) (off := 93) (tgt := 135) hC dsw_prog_4_method_17_code_42 (by decide +kernel) (by decide +kernel) (by decide +kernel) (by decide +kernel) ?_
      refine hg_iloadn (pc := 135) (j := 1) (i := 1) hC 2 rfl rfl (show decode prog_4_method_17_code 135 = .ok (.iload_n 1, 1) by decide +kernel) ?_
      refine hg_iloadn (pc := 136) (j := 2) (i := 2) hC 0 rfl rfl (show decode prog_4_method_17_code 136 = .ok (.iload_n 2, 1) by decide +kernel) ?_
      refine hg_ior (pc := 137) hC (show decode prog_4_method_17_code 137 = .ok (.ior, 1) by decide +kernel) ?_
      exact hg_iret (pc := 138) hC hR (hF _ (dc_some h)) (show decode prog_4_method_17_code 138 = .ok (.ireturn, 1) by decide +kernel)
    clear h; have h := h2; clear h2
    rcases dc_ite h with ⟨hk8, h2⟩ | ⟨hk8, h2⟩
    · subst hk8; clear h; have h := h2; clear h2
      refine hg_tabIn (pc := 42) (off := 65) (tgt := 107) hC dsw_prog_4_method_17_code_42 (by decide +kernel) (by decide +kernel) (by decide +kernel) (by decide +kernel) ?_
      refine hg_iloadn (pc := 107) (j := 1) (i := 1) hC 2 rfl rfl (show decode prog_4_method_17_code 107 = .ok (.iload_n 1, 1) by decide +kernel) ?_
      refine hg_iconst (pc := 108) (v := 1) hC (show decode prog_4_method_17_code 108 = .ok (.iconst 1, 1) by decide +kernel) (by decide +kernel) ?_
      refine hg_iand (pc := 109) hC (show decode prog_4_method_17_code 109 = .ok (.iand, 1) by decide +kernel) ?_
      refine hg_if_ne (pc := 110) (tgt := 117) hC (show decode prog_4_method_17_code 110 = .ok (.ifCond .ne 7, 3) by decide +kernel) (by decide +kernel) h ?_ ?_
      · intro h
        refine hg_iloadn (pc := 113) (j := 1) (i := 1) hC 2 rfl rfl (show decode prog_4_method_17_code 113 = .ok (.iload_n 1, 1) by decide +kernel) ?_
        refine hg_goto (pc := 114) (tgt := 123) hC (show decode prog_4_method_17_code 114 = .ok (.goto 9, 3) by decide +kernel) (by decide +kernel) ?_
        exact hg_sub [] rfl (lab_123 x1 h)
      · intro h
        refine hg_iloadn (pc := 117) (j := 1) (i := 1) hC 2 rfl rfl (show decode prog_4_method_17_code 117 = .ok (.iload_n 1, 1) by decide +kernel) ?_
        refine hg_bipush (pc := 118) (v := (-2)) hC (show decode prog_4_method_17_code 118 = .ok (.bipush (-2), 2) by decide +kernel) (by decide +kernel) ?_
        refine hg_iand (pc := 120) hC (show decode prog_4_method_17_code 120 = .ok (.iand, 1) by decide +kernel) ?_
        refine hg_iloadn (pc := 121) (j := 2) (i := 2) hC 0 rfl rfl (show decode prog_4_method_17_code 121 = .ok (.iload_n 2, 1) by decide +kernel) ?_
        refine hg_ior (pc := 122) hC (show decode prog_4_method_17_code 122 = .ok (.ior, 1) by decide +kernel) ?_
        exact hg_sub [] rfl (lab_123 (((x1 &&& (-2)) ||| y0)) h)
    clear h; have h := h2; clear h2
    rcases dc_ite h with ⟨hk9, h2⟩ | ⟨hk9, h2⟩
    · subst hk9; clear h; have h := h2; clear h2
      refine hg_tabIn (pc := 42) (off := 93) (tgt := 135) hC dsw_prog_4_method_17_code_42 (by decide +kernel) (by decide +kernel) (by decide +kernel) (by decide +kernel) ?_
      refine hg_iloadn (pc := 135) (j := 1) (i := 1) hC 2 rfl rfl (show decode prog_4_method_17_code 135 = .ok (.iload_n 1, 1) by decide +kernel) ?_
      refine hg_iloadn (pc := 136) (j := 2) (i := 2) hC 0 rfl rfl (show decode prog_4_method_17_code 136 = .ok (.iload_n 2, 1) by decide +kernel) ?_
      refine hg_ior (pc := 137) hC (show decode prog_4_method_17_code 137 = .ok (.ior, 1) by decide +kernel) ?_
      exact hg_iret (pc := 138) hC hR (hF _ (dc_some h)) (show decode prog_4_method_17_code 138 = .ok (.ireturn, 1) by decide +kernel)
    clear h; have h := h2; clear h2
    rcases dc_ite h with ⟨hk11, h2⟩ | ⟨hk11, h2⟩
    · subst hk11; clear h; have h := h2; clear h2
      refine hg_tabIn (pc := 42) (off := 82) (tgt := 124) hC dsw_prog_4_method_17_code_42 (by decide +kernel) (by decide +kernel) (by decide +kernel) (by decide +kernel) ?_
      refine hg_iloadn (pc := 124) (j := 1) (i := 1) hC 2 rfl rfl (show decode prog_4_method_17_code 124 = .ok (.iload_n 1, 1) by decide +kernel) ?_
      refine hg_iloadn (pc := 125) (j := 2) (i := 2) hC 0 rfl rfl (show decode prog_4_method_17_code 125 = .ok (.iload_n 2, 1) by decide +kernel) ?_
      refine hg_kNi (pc := 126) (As := [.int x1, .int y0]) (rest := []) (vo := fun q => q) (so := fun q => Z) hC cw_SignalEngine_Draft_142 (fun q hq => hm_SE_greaterOfPairs_ok l D G Z x1 y0 q hq) (Nat.le_of_ble_eq_true rfl) (Nat.le_of_ble_eq_true rfl) rfl (Nat.le_of_ble_eq_true rfl) (show decode prog_4_method_17_code 126 = .ok (.invokestatic 142, 3) by decide +kernel) h ?_
      intro q10 h
      exact hg_iret (pc := 129) hC hR (hF _ (dc_some h)) (show decode prog_4_method_17_code 129 = .ok (.ireturn, 1) by decide +kernel)
    clear h; have h := h2; clear h2
    rcases dc_ite h with ⟨hk13, h2⟩ | ⟨hk13, h2⟩
    · subst hk13; clear h; have h := h2; clear h2
      refine hg_tabIn (pc := 42) (off := 88) (tgt := 130) hC dsw_prog_4_method_17_code_42 (by decide +kernel) (by decide +kernel) (by decide +kernel) (by decide +kernel) ?_
      refine hg_iloadn (pc := 130) (j := 1) (i := 1) hC 2 rfl rfl (show decode prog_4_method_17_code 130 = .ok (.iload_n 1, 1) by decide +kernel) ?_
      refine hg_kNi (pc := 131) (As := [.int x1]) (rest := []) (vo := fun q => q) (so := fun q => Z) hC cw_SignalEngine_Draft_145 (fun q hq => hm_SE_withoutTrap_ok l D G Z x1 q hq) (Nat.le_of_ble_eq_true rfl) (Nat.le_of_ble_eq_true rfl) rfl (Nat.le_of_ble_eq_true rfl) (show decode prog_4_method_17_code 131 = .ok (.invokestatic 145, 3) by decide +kernel) h ?_
      intro q12 h
      exact hg_iret (pc := 134) hC hR (hF _ (dc_some h)) (show decode prog_4_method_17_code 134 = .ok (.ireturn, 1) by decide +kernel)
    clear h; have h := h2; clear h2
    rcases dc_ite h with ⟨hk15, h2⟩ | ⟨hk15, h2⟩
    · subst hk15; clear h; have h := h2; clear h2
      refine hg_tabIn (pc := 42) (off := 58) (tgt := 100) hC dsw_prog_4_method_17_code_42 (by decide +kernel) (by decide +kernel) (by decide +kernel) (by decide +kernel) ?_
      refine hg_iconst (pc := 100) (v := 1) hC (show decode prog_4_method_17_code 100 = .ok (.iconst 1, 1) by decide +kernel) (by decide +kernel) ?_
      refine hg_aloadn (pc := 101) (j := 0) (i := 0) (r := x0) hC 1 rfl rfl (show decode prog_4_method_17_code 101 = .ok (.aload_n 0, 1) by decide +kernel) ?_
      refine hg_rgi (pc := 102) (r := x0) hC fl_SignalEngine_Draft_36 (show decode prog_4_method_17_code 102 = .ok (.getfield 36, 3) by decide +kernel) h ?_
      intro e14 h
      refine hg_ishl (pc := 105) hC (show decode prog_4_method_17_code 105 = .ok (.ishl, 1) by decide +kernel) ?_
      exact hg_iret (pc := 106) hC hR (hF _ (dc_some h)) (show decode prog_4_method_17_code 106 = .ok (.ireturn, 1) by decide +kernel)
    clear h; have h := h2; clear h2
    refine hg_tabOut (pc := 42) (tgt := 135) hC dsw_prog_4_method_17_code_42 (by have := dc_swc hk3 (show (0 : Int32).toInt = 0 by decide +kernel); have := dc_swc hk4 (show (1 : Int32).toInt = 1 by decide +kernel); have := dc_swc hk5 (show (2 : Int32).toInt = 2 by decide +kernel); have := dc_swc hk6 (show (3 : Int32).toInt = 3 by decide +kernel); have := dc_swc hk7 (show (4 : Int32).toInt = 4 by decide +kernel); have := dc_swc hk8 (show (5 : Int32).toInt = 5 by decide +kernel); have := dc_swc hk9 (show (6 : Int32).toInt = 6 by decide +kernel); have := dc_swc hk11 (show (7 : Int32).toInt = 7 by decide +kernel); have := dc_swc hk13 (show (8 : Int32).toInt = 8 by decide +kernel); have := dc_swc hk15 (show (9 : Int32).toInt = 9 by decide +kernel); omega) (by decide +kernel) ?_
    refine hg_iloadn (pc := 135) (j := 1) (i := 1) hC 2 rfl rfl (show decode prog_4_method_17_code 135 = .ok (.iload_n 1, 1) by decide +kernel) ?_
    refine hg_iloadn (pc := 136) (j := 2) (i := 2) hC 0 rfl rfl (show decode prog_4_method_17_code 136 = .ok (.iload_n 2, 1) by decide +kernel) ?_
    refine hg_ior (pc := 137) hC (show decode prog_4_method_17_code 137 = .ok (.ior, 1) by decide +kernel) ?_
    exact hg_iret (pc := 138) hC hR (hF _ (dc_some h)) (show decode prog_4_method_17_code 138 = .ok (.ireturn, 1) by decide +kernel)
  have lab_18 : ∀ (x0 : Option Nat) (y0 : Int32), dc_wp (hm_DR_codesOf_L18 G Z x0 y0) F → hg_G X l (hg_rm 2 41 Z) D 3 Z 18 [(0, va_rf x0)] [.int y0] := by
    intro x0 y0 h
    delta hm_DR_codesOf_L18 at h
    refine hg_istoren (pc := 18) (j := 1) (i := 1) (lv' := [(1, .int y0), (0, va_rf x0)]) hC rfl (Nat.le_of_ble_eq_true rfl) (by simp [va_rf_cat, hg_cti]) (show decode prog_4_method_17_code 18 = .ok (.istore_n 1, 1) by decide +kernel) ?_
    refine hg_aloadn (pc := 19) (j := 0) (i := 0) (r := x0) hC 1 rfl rfl (show decode prog_4_method_17_code 19 = .ok (.aload_n 0, 1) by decide +kernel) ?_
    refine hg_rgr (pc := 20) (r := x0) hC fl_SignalEngine_Draft_86 (show decode prog_4_method_17_code 20 = .ok (.getfield 86, 3) by decide +kernel) h ?_
    intro e16 h
    refine hg_ifnonnull (pc := 23) (tgt := 30) (r := e16) hC (show decode prog_4_method_17_code 23 = .ok (.ifnonnull 7, 3) by decide +kernel) (by decide +kernel) h ?_ ?_
    · intro h
      refine hg_iconst (pc := 26) (v := 0) hC (show decode prog_4_method_17_code 26 = .ok (.iconst 0, 1) by decide +kernel) (by decide +kernel) ?_
      refine hg_goto (pc := 27) (tgt := 37) hC (show decode prog_4_method_17_code 27 = .ok (.goto 10, 3) by decide +kernel) (by decide +kernel) ?_
      exact hg_sub [1, 0] rfl (lab_37 x0 y0 0 h)
    · intro h
      refine hg_aloadn (pc := 30) (j := 0) (i := 0) (r := x0) hC 1 rfl rfl (show decode prog_4_method_17_code 30 = .ok (.aload_n 0, 1) by decide +kernel) ?_
      refine hg_rgr (pc := 31) (r := x0) hC fl_SignalEngine_Draft_86 (show decode prog_4_method_17_code 31 = .ok (.getfield 86, 3) by decide +kernel) h ?_
      intro e17 h
      refine hg_rgi (pc := 34) (r := e17) hC fl_SignalEngine_Draft_99 (show decode prog_4_method_17_code 34 = .ok (.getfield 99, 3) by decide +kernel) h ?_
      intro e18 h
      exact hg_sub [1, 0] rfl (lab_37 x0 y0 e18 h)
  show hg_G X l (hg_rm 2 41 Z) D 3 Z 0 [(0, va_rf p0)] []
  have h : dc_wp (hm_DR_codesOf G Z p0) F := h
  delta hm_DR_codesOf at h
  refine hg_aloadn (pc := 0) (j := 0) (i := 0) (r := p0) hC 0 rfl rfl (show decode prog_4_method_17_code 0 = .ok (.aload_n 0, 1) by decide +kernel) ?_
  refine hg_rgr (pc := 1) (r := p0) hC fl_SignalEngine_Draft_78 (show decode prog_4_method_17_code 1 = .ok (.getfield 78, 3) by decide +kernel) h ?_
  intro e19 h
  refine hg_ifnonnull (pc := 4) (tgt := 11) (r := e19) hC (show decode prog_4_method_17_code 4 = .ok (.ifnonnull 7, 3) by decide +kernel) (by decide +kernel) h ?_ ?_
  · intro h
    refine hg_iconst (pc := 7) (v := 0) hC (show decode prog_4_method_17_code 7 = .ok (.iconst 0, 1) by decide +kernel) (by decide +kernel) ?_
    refine hg_goto (pc := 8) (tgt := 18) hC (show decode prog_4_method_17_code 8 = .ok (.goto 10, 3) by decide +kernel) (by decide +kernel) ?_
    exact lab_18 p0 0 h
  · intro h
    refine hg_aloadn (pc := 11) (j := 0) (i := 0) (r := p0) hC 0 rfl rfl (show decode prog_4_method_17_code 11 = .ok (.aload_n 0, 1) by decide +kernel) ?_
    refine hg_rgr (pc := 12) (r := p0) hC fl_SignalEngine_Draft_78 (show decode prog_4_method_17_code 12 = .ok (.getfield 78, 3) by decide +kernel) h ?_
    intro e20 h
    refine hg_rgi (pc := 15) (r := e20) hC fl_SignalEngine_Draft_99 (show decode prog_4_method_17_code 15 = .ok (.getfield 99, 3) by decide +kernel) h ?_
    intro e21 h
    exact lab_18 p0 e21 h
noncomputable def hm_DR_isLarge_L44 (G : hg_E) (S : hg_S) (o : Nat) (y0 : Int32) : Option (Int32) :=
  (dc_zb y0).bind fun _ => some y0
noncomputable def hm_DR_isLarge_L39 (G : hg_E) (S : hg_S) (o : Nat) : Option (Int32) :=
  hm_DR_isLarge_L44 G S o 1
noncomputable def hm_DR_isLarge (G : hg_E) (S : hg_S) (o : Nat) : Option (Int32) :=
  (hg_gi S (some o) 6 3).bind fun e2 => if (200 : Int32) < e2 then (hm_DR_isLarge_L39 G S o) else ((hg_gi S (some o) 6 4).bind fun e3 => if (1000 : Int32) < e3 then (hm_DR_isLarge_L39 G S o) else ((hg_gi S (some o) 6 5).bind fun e4 => if (8 : Int32) < e4 then (hm_DR_isLarge_L39 G S o) else ((hg_gi S (some o) 6 2).bind fun e5 => if (1200 : Int32) < e5 then (hm_DR_isLarge_L39 G S o) else (hm_DR_isLarge_L44 G S o 0))))
set_option maxHeartbeats 4000000 in
set_option maxRecDepth 100000 in
/-- SignalEngine$Draft.isLarge()Z -/
theorem hm_DR_isLarge_ok (l : Launch) (D : va_G) (G : hg_E) (Z : hg_S) (o : Nat) (q : Int32) (hq : hm_DR_isLarge G Z o = some q) : hg_C l ⟨"SignalEngine$Draft", "isLarge", "()Z"⟩ prog_4_method_19_code 1 (some (.boolean)) 0 0 D G [.ref o] Z (.inl (some (.int q), Z) : hg_O) := by
  refine hg_start (cv := fun q => (.inl (some (.int q), Z) : hg_O)) hq ?_
  intro F hF h
  refine hg_enter (lv := [(0, va_rf (some o))]) (by decide +kernel) (by simp [lg_sl, va_rf_cat, hg_cti, hg_ctr]) (by simp [lv_args, va_rf_cat, va_rf_some, hg_cti, hg_ctr]) ?_
  intro X hC hR
  have lab_44 : ∀ (y0 : Int32), dc_wp (hm_DR_isLarge_L44 G Z o y0) F → hg_G X l (hg_rm 0 0 Z) D 1 Z 44 [(0, va_rf (some o))] [.int y0] := by
    intro y0 h
    delta hm_DR_isLarge_L44 at h
    obtain ⟨hz1, h⟩ := dc_zb_wp (dc_bind h)
    exact hg_zret (pc := 44) hC hR hz1 (hF _ (dc_some h)) (show decode prog_4_method_19_code 44 = .ok (.ireturn, 1) by decide +kernel)
  have lab_39 : dc_wp (hm_DR_isLarge_L39 G Z o) F → hg_G X l (hg_rm 0 0 Z) D 1 Z 39 [(0, va_rf (some o))] [] := by
    intro  h
    delta hm_DR_isLarge_L39 at h
    refine hg_iconst (pc := 39) (v := 1) hC (show decode prog_4_method_19_code 39 = .ok (.iconst 1, 1) by decide +kernel) (by decide +kernel) ?_
    refine hg_goto (pc := 40) (tgt := 44) hC (show decode prog_4_method_19_code 40 = .ok (.goto 4, 3) by decide +kernel) (by decide +kernel) ?_
    exact lab_44 1 h
  show hg_G X l (hg_rm 0 0 Z) D 1 Z 0 [(0, va_rf (some o))] []
  have h : dc_wp (hm_DR_isLarge G Z o) F := h
  delta hm_DR_isLarge at h
  refine hg_aloadn (pc := 0) (j := 0) (i := 0) (r := (some o)) hC 0 rfl rfl (show decode prog_4_method_19_code 0 = .ok (.aload_n 0, 1) by decide +kernel) ?_
  refine hg_rgi (pc := 1) (r := (some o)) hC fl_SignalEngine_Draft_123 (show decode prog_4_method_19_code 1 = .ok (.getfield 123, 3) by decide +kernel) h ?_
  intro e2 h
  refine hg_sipush (pc := 4) (v := 200) hC (show decode prog_4_method_19_code 4 = .ok (.sipush 200, 3) by decide +kernel) (by decide +kernel) ?_
  refine hg_icmp_gt (pc := 7) (tgt := 39) hC (show decode prog_4_method_19_code 7 = .ok (.if_icmp .gt 32, 3) by decide +kernel) (by decide +kernel) h ?_ ?_
  · intro h
    exact lab_39 h
  · intro h
    refine hg_aloadn (pc := 10) (j := 0) (i := 0) (r := (some o)) hC 0 rfl rfl (show decode prog_4_method_19_code 10 = .ok (.aload_n 0, 1) by decide +kernel) ?_
    refine hg_rgi (pc := 11) (r := (some o)) hC fl_SignalEngine_Draft_126 (show decode prog_4_method_19_code 11 = .ok (.getfield 126, 3) by decide +kernel) h ?_
    intro e3 h
    refine hg_sipush (pc := 14) (v := 1000) hC (show decode prog_4_method_19_code 14 = .ok (.sipush 1000, 3) by decide +kernel) (by decide +kernel) ?_
    refine hg_icmp_gt (pc := 17) (tgt := 39) hC (show decode prog_4_method_19_code 17 = .ok (.if_icmp .gt 22, 3) by decide +kernel) (by decide +kernel) h ?_ ?_
    · intro h
      exact lab_39 h
    · intro h
      refine hg_aloadn (pc := 20) (j := 0) (i := 0) (r := (some o)) hC 0 rfl rfl (show decode prog_4_method_19_code 20 = .ok (.aload_n 0, 1) by decide +kernel) ?_
      refine hg_rgi (pc := 21) (r := (some o)) hC fl_SignalEngine_Draft_108 (show decode prog_4_method_19_code 21 = .ok (.getfield 108, 3) by decide +kernel) h ?_
      intro e4 h
      refine hg_bipush (pc := 24) (v := 8) hC (show decode prog_4_method_19_code 24 = .ok (.bipush 8, 2) by decide +kernel) (by decide +kernel) ?_
      refine hg_icmp_gt (pc := 26) (tgt := 39) hC (show decode prog_4_method_19_code 26 = .ok (.if_icmp .gt 13, 3) by decide +kernel) (by decide +kernel) h ?_ ?_
      · intro h
        exact lab_39 h
      · intro h
        refine hg_aloadn (pc := 29) (j := 0) (i := 0) (r := (some o)) hC 0 rfl rfl (show decode prog_4_method_19_code 29 = .ok (.aload_n 0, 1) by decide +kernel) ?_
        refine hg_rgi (pc := 30) (r := (some o)) hC fl_SignalEngine_Draft_102 (show decode prog_4_method_19_code 30 = .ok (.getfield 102, 3) by decide +kernel) h ?_
        intro e5 h
        refine hg_sipush (pc := 33) (v := 1200) hC (show decode prog_4_method_19_code 33 = .ok (.sipush 1200, 3) by decide +kernel) (by decide +kernel) ?_
        refine hg_icmp_le (pc := 36) (tgt := 43) hC (show decode prog_4_method_19_code 36 = .ok (.if_icmp .le 7, 3) by decide +kernel) (by decide +kernel) h ?_ ?_
        · intro h
          exact lab_39 h
        · intro h
          refine hg_iconst (pc := 43) (v := 0) hC (show decode prog_4_method_19_code 43 = .ok (.iconst 0, 1) by decide +kernel) (by decide +kernel) ?_
          exact lab_44 0 h
noncomputable def hm_PG_copy_L62 (G : hg_E) (S : hg_S) (o : Nat) (x1 : Option Nat) (x2 : Int32) (y0 : Int32) (y1 : Int32) (y2 : Option Nat) : Option (hg_S) :=
  (hg_st S y2 (G.1 0) y1 y0).bind fun S1 => (hg_gr S1 (some o) 9 10).bind fun e2 => (hg_gi S1 x1 8 9).bind fun e3 => (hg_st S1 e2 (G.1 0) x2 e3).bind fun S4 => (hg_gr S4 (some o) 9 11).bind fun e5 => (hg_gi S4 x1 8 4).bind fun e6 => (hg_st S4 e5 (G.1 0) x2 e6).bind fun S7 => (hg_gr S7 (some o) 9 12).bind fun e8 => (hg_gi S7 x1 8 12).bind fun e9 => (hg_st S7 e8 (G.1 0) x2 e9).bind fun S10 => (hg_gr S10 (some o) 9 13).bind fun e11 => (hg_gi S10 x1 8 1).bind fun e12 => (hg_st S10 e11 (G.1 0) x2 e12).bind fun S13 => (hg_gr S13 (some o) 9 14).bind fun e14 => (hg_gi S13 x1 8 11).bind fun e15 => (hg_st S13 e14 (G.1 0) x2 e15).bind fun S16 => some S16
noncomputable def hm_PG_copy_L38 (G : hg_E) (S : hg_S) (o : Nat) (x1 : Option Nat) (x2 : Int32) (y0 : Int32) (y1 : Int32) (y2 : Option Nat) : Option (hg_S) :=
  (hg_st S y2 (G.1 0) y1 y0).bind fun S17 => (hg_gr S17 (some o) 9 9).bind fun e18 => (hg_gr S17 x1 8 3).bind fun e19 => if e19 = none then (hm_PG_copy_L62 G S17 o x1 x2 (-1) x2 e18) else ((hg_gr S17 x1 8 3).bind fun e20 => (hg_gi S17 e20 8 8).bind fun e21 => hm_PG_copy_L62 G S17 o x1 x2 e21 x2 e18)
noncomputable def hm_PG_copy (G : hg_E) (S : hg_S) (o : Nat) (p1 : Option Nat) : Option (hg_S) :=
  (hg_gi S p1 8 8).bind fun e22 => (hg_gr S (some o) 9 7).bind fun e23 => (hg_gi S p1 8 0).bind fun e24 => (hg_st S e23 (G.1 0) e22 e24).bind fun S25 => (hg_gr S25 (some o) 9 8).bind fun e26 => (hg_gr S25 p1 8 2).bind fun e27 => if e27 = none then (hm_PG_copy_L38 G S25 o p1 e22 (-1) e22 e26) else ((hg_gr S25 p1 8 2).bind fun e28 => (hg_gi S25 e28 8 8).bind fun e29 => hm_PG_copy_L38 G S25 o p1 e22 e29 e22 e26)
set_option maxHeartbeats 4000000 in
set_option maxRecDepth 100000 in
/-- SignalEngine$Program.copy(LSignalEngine$Node;)V -/
theorem hm_PG_copy_ok (l : Launch) (D : va_G) (G : hg_E) (Z : hg_S) (o : Nat) (p1 : Option Nat) (q : hg_S) (hq : hm_PG_copy G Z o p1 = some q) : hg_C l ⟨"SignalEngine$Program", "copy", "(LSignalEngine$Node;)V"⟩ prog_11_method_2_code 3 none 0 0 D G [.ref o, va_rf p1] Z (.inl (none, q) : hg_O) := by
  refine hg_start (cv := fun q => (.inl (none, q) : hg_O)) hq ?_
  intro F hF h
  refine hg_enter (lv := [(0, va_rf (some o)), (1, va_rf p1)]) (by decide +kernel) (by simp [lg_sl, va_rf_cat, hg_cti, hg_ctr]) (by simp [lv_args, va_rf_cat, va_rf_some, hg_cti, hg_ctr]) ?_
  intro X hC hR
  have lab_62 : ∀ (S : hg_S) (x1 : Option Nat) (x2 : Int32) (y0 : Int32) (y1 : Int32) (y2 : Option Nat), dc_wp (hm_PG_copy_L62 G S o x1 x2 y0 y1 y2) F → hg_G X l (hg_rm 0 0 Z) D 3 S 62 [(0, va_rf (some o)), (1, va_rf x1), (2, .int x2)] [.int y0, .int y1, va_rf y2] := by
    intro S x1 x2 y0 y1 y2 h
    delta hm_PG_copy_L62 at h
    refine hg_riast (pc := 62) (r := y2) hC (show decode prog_11_method_2_code 62 = .ok (.iastore, 1) by decide +kernel) h ?_
    intro S1 h
    refine hg_aloadn (pc := 63) (j := 0) (i := 0) (r := (some o)) hC 0 rfl rfl (show decode prog_11_method_2_code 63 = .ok (.aload_n 0, 1) by decide +kernel) ?_
    refine hg_rgr (pc := 64) (r := (some o)) hC fl_SignalEngine_Program_79 (show decode prog_11_method_2_code 64 = .ok (.getfield 79, 3) by decide +kernel) h ?_
    intro e2 h
    refine hg_iloadn (pc := 67) (j := 2) (i := 2) hC 2 rfl rfl (show decode prog_11_method_2_code 67 = .ok (.iload_n 2, 1) by decide +kernel) ?_
    refine hg_aloadn (pc := 68) (j := 1) (i := 1) (r := x1) hC 1 rfl rfl (show decode prog_11_method_2_code 68 = .ok (.aload_n 1, 1) by decide +kernel) ?_
    refine hg_rgi (pc := 69) (r := x1) hC fl_SignalEngine_Program_131 (show decode prog_11_method_2_code 69 = .ok (.getfield 131, 3) by decide +kernel) h ?_
    intro e3 h
    refine hg_riast (pc := 72) (r := e2) hC (show decode prog_11_method_2_code 72 = .ok (.iastore, 1) by decide +kernel) h ?_
    intro S4 h
    refine hg_aloadn (pc := 73) (j := 0) (i := 0) (r := (some o)) hC 0 rfl rfl (show decode prog_11_method_2_code 73 = .ok (.aload_n 0, 1) by decide +kernel) ?_
    refine hg_rgr (pc := 74) (r := (some o)) hC fl_SignalEngine_Program_82 (show decode prog_11_method_2_code 74 = .ok (.getfield 82, 3) by decide +kernel) h ?_
    intro e5 h
    refine hg_iloadn (pc := 77) (j := 2) (i := 2) hC 2 rfl rfl (show decode prog_11_method_2_code 77 = .ok (.iload_n 2, 1) by decide +kernel) ?_
    refine hg_aloadn (pc := 78) (j := 1) (i := 1) (r := x1) hC 1 rfl rfl (show decode prog_11_method_2_code 78 = .ok (.aload_n 1, 1) by decide +kernel) ?_
    refine hg_rgi (pc := 79) (r := x1) hC fl_SignalEngine_Program_133 (show decode prog_11_method_2_code 79 = .ok (.getfield 133, 3) by decide +kernel) h ?_
    intro e6 h
    refine hg_riast (pc := 82) (r := e5) hC (show decode prog_11_method_2_code 82 = .ok (.iastore, 1) by decide +kernel) h ?_
    intro S7 h
    refine hg_aloadn (pc := 83) (j := 0) (i := 0) (r := (some o)) hC 0 rfl rfl (show decode prog_11_method_2_code 83 = .ok (.aload_n 0, 1) by decide +kernel) ?_
    refine hg_rgr (pc := 84) (r := (some o)) hC fl_SignalEngine_Program_85 (show decode prog_11_method_2_code 84 = .ok (.getfield 85, 3) by decide +kernel) h ?_
    intro e8 h
    refine hg_iloadn (pc := 87) (j := 2) (i := 2) hC 2 rfl rfl (show decode prog_11_method_2_code 87 = .ok (.iload_n 2, 1) by decide +kernel) ?_
    refine hg_aloadn (pc := 88) (j := 1) (i := 1) (r := x1) hC 1 rfl rfl (show decode prog_11_method_2_code 88 = .ok (.aload_n 1, 1) by decide +kernel) ?_
    refine hg_rgi (pc := 89) (r := x1) hC fl_SignalEngine_Program_135 (show decode prog_11_method_2_code 89 = .ok (.getfield 135, 3) by decide +kernel) h ?_
    intro e9 h
    refine hg_riast (pc := 92) (r := e8) hC (show decode prog_11_method_2_code 92 = .ok (.iastore, 1) by decide +kernel) h ?_
    intro S10 h
    refine hg_aloadn (pc := 93) (j := 0) (i := 0) (r := (some o)) hC 0 rfl rfl (show decode prog_11_method_2_code 93 = .ok (.aload_n 0, 1) by decide +kernel) ?_
    refine hg_rgr (pc := 94) (r := (some o)) hC fl_SignalEngine_Program_88 (show decode prog_11_method_2_code 94 = .ok (.getfield 88, 3) by decide +kernel) h ?_
    intro e11 h
    refine hg_iloadn (pc := 97) (j := 2) (i := 2) hC 2 rfl rfl (show decode prog_11_method_2_code 97 = .ok (.iload_n 2, 1) by decide +kernel) ?_
    refine hg_aloadn (pc := 98) (j := 1) (i := 1) (r := x1) hC 1 rfl rfl (show decode prog_11_method_2_code 98 = .ok (.aload_n 1, 1) by decide +kernel) ?_
    refine hg_rgi (pc := 99) (r := x1) hC fl_SignalEngine_Program_137 (show decode prog_11_method_2_code 99 = .ok (.getfield 137, 3) by decide +kernel) h ?_
    intro e12 h
    refine hg_riast (pc := 102) (r := e11) hC (show decode prog_11_method_2_code 102 = .ok (.iastore, 1) by decide +kernel) h ?_
    intro S13 h
    refine hg_aloadn (pc := 103) (j := 0) (i := 0) (r := (some o)) hC 0 rfl rfl (show decode prog_11_method_2_code 103 = .ok (.aload_n 0, 1) by decide +kernel) ?_
    refine hg_rgr (pc := 104) (r := (some o)) hC fl_SignalEngine_Program_91 (show decode prog_11_method_2_code 104 = .ok (.getfield 91, 3) by decide +kernel) h ?_
    intro e14 h
    refine hg_iloadn (pc := 107) (j := 2) (i := 2) hC 2 rfl rfl (show decode prog_11_method_2_code 107 = .ok (.iload_n 2, 1) by decide +kernel) ?_
    refine hg_aloadn (pc := 108) (j := 1) (i := 1) (r := x1) hC 1 rfl rfl (show decode prog_11_method_2_code 108 = .ok (.aload_n 1, 1) by decide +kernel) ?_
    refine hg_rgi (pc := 109) (r := x1) hC fl_SignalEngine_Program_139 (show decode prog_11_method_2_code 109 = .ok (.getfield 139, 3) by decide +kernel) h ?_
    intro e15 h
    refine hg_riast (pc := 112) (r := e14) hC (show decode prog_11_method_2_code 112 = .ok (.iastore, 1) by decide +kernel) h ?_
    intro S16 h
    exact hg_vret (pc := 113) hC hR (hF _ (dc_some h)) (show decode prog_11_method_2_code 113 = .ok (.return_, 1) by decide +kernel)
  have lab_38 : ∀ (S : hg_S) (x1 : Option Nat) (x2 : Int32) (y0 : Int32) (y1 : Int32) (y2 : Option Nat), dc_wp (hm_PG_copy_L38 G S o x1 x2 y0 y1 y2) F → hg_G X l (hg_rm 0 0 Z) D 3 S 38 [(0, va_rf (some o)), (1, va_rf x1), (2, .int x2)] [.int y0, .int y1, va_rf y2] := by
    intro S x1 x2 y0 y1 y2 h
    delta hm_PG_copy_L38 at h
    refine hg_riast (pc := 38) (r := y2) hC (show decode prog_11_method_2_code 38 = .ok (.iastore, 1) by decide +kernel) h ?_
    intro S17 h
    refine hg_aloadn (pc := 39) (j := 0) (i := 0) (r := (some o)) hC 0 rfl rfl (show decode prog_11_method_2_code 39 = .ok (.aload_n 0, 1) by decide +kernel) ?_
    refine hg_rgr (pc := 40) (r := (some o)) hC fl_SignalEngine_Program_76 (show decode prog_11_method_2_code 40 = .ok (.getfield 76, 3) by decide +kernel) h ?_
    intro e18 h
    refine hg_iloadn (pc := 43) (j := 2) (i := 2) hC 2 rfl rfl (show decode prog_11_method_2_code 43 = .ok (.iload_n 2, 1) by decide +kernel) ?_
    refine hg_aloadn (pc := 44) (j := 1) (i := 1) (r := x1) hC 1 rfl rfl (show decode prog_11_method_2_code 44 = .ok (.aload_n 1, 1) by decide +kernel) ?_
    refine hg_rgr (pc := 45) (r := x1) hC fl_SignalEngine_Program_129 (show decode prog_11_method_2_code 45 = .ok (.getfield 129, 3) by decide +kernel) h ?_
    intro e19 h
    refine hg_ifnonnull (pc := 48) (tgt := 55) (r := e19) hC (show decode prog_11_method_2_code 48 = .ok (.ifnonnull 7, 3) by decide +kernel) (by decide +kernel) h ?_ ?_
    · intro h
      refine hg_iconst (pc := 51) (v := (-1)) hC (show decode prog_11_method_2_code 51 = .ok (.iconst (-1), 1) by decide +kernel) (by decide +kernel) ?_
      refine hg_goto (pc := 52) (tgt := 62) hC (show decode prog_11_method_2_code 52 = .ok (.goto 10, 3) by decide +kernel) (by decide +kernel) ?_
      exact lab_62 S17 x1 x2 (-1) x2 e18 h
    · intro h
      refine hg_aloadn (pc := 55) (j := 1) (i := 1) (r := x1) hC 1 rfl rfl (show decode prog_11_method_2_code 55 = .ok (.aload_n 1, 1) by decide +kernel) ?_
      refine hg_rgr (pc := 56) (r := x1) hC fl_SignalEngine_Program_129 (show decode prog_11_method_2_code 56 = .ok (.getfield 129, 3) by decide +kernel) h ?_
      intro e20 h
      refine hg_rgi (pc := 59) (r := e20) hC fl_SignalEngine_Program_110 (show decode prog_11_method_2_code 59 = .ok (.getfield 110, 3) by decide +kernel) h ?_
      intro e21 h
      exact lab_62 S17 x1 x2 e21 x2 e18 h
  show hg_G X l (hg_rm 0 0 Z) D 3 Z 0 [(0, va_rf (some o)), (1, va_rf p1)] []
  have h : dc_wp (hm_PG_copy G Z o p1) F := h
  delta hm_PG_copy at h
  refine hg_aloadn (pc := 0) (j := 1) (i := 1) (r := p1) hC 1 rfl rfl (show decode prog_11_method_2_code 0 = .ok (.aload_n 1, 1) by decide +kernel) ?_
  refine hg_rgi (pc := 1) (r := p1) hC fl_SignalEngine_Program_110 (show decode prog_11_method_2_code 1 = .ok (.getfield 110, 3) by decide +kernel) h ?_
  intro e22 h
  refine hg_istoren (pc := 4) (j := 2) (i := 2) (lv' := [(2, .int e22), (0, va_rf (some o)), (1, va_rf p1)]) hC rfl (Nat.le_of_ble_eq_true rfl) (by simp [va_rf_cat, hg_cti]) (show decode prog_11_method_2_code 4 = .ok (.istore_n 2, 1) by decide +kernel) ?_
  refine hg_aloadn (pc := 5) (j := 0) (i := 0) (r := (some o)) hC 1 rfl rfl (show decode prog_11_method_2_code 5 = .ok (.aload_n 0, 1) by decide +kernel) ?_
  refine hg_rgr (pc := 6) (r := (some o)) hC fl_SignalEngine_Program_69 (show decode prog_11_method_2_code 6 = .ok (.getfield 69, 3) by decide +kernel) h ?_
  intro e23 h
  refine hg_iloadn (pc := 9) (j := 2) (i := 2) hC 0 rfl rfl (show decode prog_11_method_2_code 9 = .ok (.iload_n 2, 1) by decide +kernel) ?_
  refine hg_aloadn (pc := 10) (j := 1) (i := 1) (r := p1) hC 2 rfl rfl (show decode prog_11_method_2_code 10 = .ok (.aload_n 1, 1) by decide +kernel) ?_
  refine hg_rgi (pc := 11) (r := p1) hC fl_SignalEngine_Program_124 (show decode prog_11_method_2_code 11 = .ok (.getfield 124, 3) by decide +kernel) h ?_
  intro e24 h
  refine hg_riast (pc := 14) (r := e23) hC (show decode prog_11_method_2_code 14 = .ok (.iastore, 1) by decide +kernel) h ?_
  intro S25 h
  refine hg_aloadn (pc := 15) (j := 0) (i := 0) (r := (some o)) hC 1 rfl rfl (show decode prog_11_method_2_code 15 = .ok (.aload_n 0, 1) by decide +kernel) ?_
  refine hg_rgr (pc := 16) (r := (some o)) hC fl_SignalEngine_Program_73 (show decode prog_11_method_2_code 16 = .ok (.getfield 73, 3) by decide +kernel) h ?_
  intro e26 h
  refine hg_iloadn (pc := 19) (j := 2) (i := 2) hC 0 rfl rfl (show decode prog_11_method_2_code 19 = .ok (.iload_n 2, 1) by decide +kernel) ?_
  refine hg_aloadn (pc := 20) (j := 1) (i := 1) (r := p1) hC 2 rfl rfl (show decode prog_11_method_2_code 20 = .ok (.aload_n 1, 1) by decide +kernel) ?_
  refine hg_rgr (pc := 21) (r := p1) hC fl_SignalEngine_Program_126 (show decode prog_11_method_2_code 21 = .ok (.getfield 126, 3) by decide +kernel) h ?_
  intro e27 h
  refine hg_ifnonnull (pc := 24) (tgt := 31) (r := e27) hC (show decode prog_11_method_2_code 24 = .ok (.ifnonnull 7, 3) by decide +kernel) (by decide +kernel) h ?_ ?_
  · intro h
    refine hg_iconst (pc := 27) (v := (-1)) hC (show decode prog_11_method_2_code 27 = .ok (.iconst (-1), 1) by decide +kernel) (by decide +kernel) ?_
    refine hg_goto (pc := 28) (tgt := 38) hC (show decode prog_11_method_2_code 28 = .ok (.goto 10, 3) by decide +kernel) (by decide +kernel) ?_
    exact hg_sub [1, 2, 0] rfl (lab_38 S25 p1 e22 (-1) e22 e26 h)
  · intro h
    refine hg_aloadn (pc := 31) (j := 1) (i := 1) (r := p1) hC 2 rfl rfl (show decode prog_11_method_2_code 31 = .ok (.aload_n 1, 1) by decide +kernel) ?_
    refine hg_rgr (pc := 32) (r := p1) hC fl_SignalEngine_Program_126 (show decode prog_11_method_2_code 32 = .ok (.getfield 126, 3) by decide +kernel) h ?_
    intro e28 h
    refine hg_rgi (pc := 35) (r := e28) hC fl_SignalEngine_Program_110 (show decode prog_11_method_2_code 35 = .ok (.getfield 110, 3) by decide +kernel) h ?_
    intro e29 h
    exact hg_sub [1, 2, 0] rfl (lab_38 S25 p1 e22 e29 e22 e26 h)
noncomputable def hm_PI_copyPiece_L126 (G : hg_E) (S : hg_S) (o : Nat) : Option (hg_S) :=
  some S
noncomputable def hm_PI_copyPiece_L90 (G : hg_E) (S : hg_S) (o : Nat) (x1 : Option Nat) (x3 : Int32) (x4 : Int32) (x5 : Int32) : Option (hg_S) :=
  if x5 = (-1) then (hm_PI_copyPiece_L126 G S o) else ((hg_gr S (some o) 5 2).bind fun e1 => (hg_gr S x1 5 3).bind fun e2 => (hg_ld S e2 (G.1 0) x4).bind fun e3 => (hg_st S e1 (G.1 0) x3 ((x3 + 1) + e3)).bind fun S4 => (hg_gr S4 x1 5 4).bind fun e5 => (hg_gr S4 (some o) 5 2).bind fun e6 => (hg_ld S4 e6 (G.1 0) x3).bind fun e7 => (hg_st S4 e5 (G.1 0) x5 e7).bind fun S8 => hm_PI_copyPiece_L126 G S8 o)
noncomputable def hm_PI_copyPiece (G : hg_E) (S : hg_S) (o : Nat) (p1 : Option Nat) (p2 : Int32) : Option (hg_S) :=
  (hg_gr S p1 5 4).bind fun e9 => (hg_ld S e9 (G.1 0) p2).bind fun e10 => (hg_gr S p1 5 1).bind fun e11 => (hg_ld S e11 (G.1 0) p2).bind fun e12 => (hg_gr S p1 5 2).bind fun e13 => (hg_ld S e13 (G.1 0) p2).bind fun e14 => (hg_gr S (some o) 5 0).bind fun e15 => (hg_gr S p1 5 0).bind fun e16 => (hg_ld S e16 (G.1 0) p2).bind fun e17 => (hg_st S e15 (G.1 0) e10 e17).bind fun S18 => (hg_gr S18 (some o) 5 3).bind fun e19 => (hg_gr S18 p1 5 3).bind fun e20 => (hg_ld S18 e20 (G.1 0) p2).bind fun e21 => (hg_st S18 e19 (G.1 0) e10 e21).bind fun S22 => (hg_gr S22 (some o) 5 1).bind fun e23 => (hg_st S22 e23 (G.1 0) e10 e12).bind fun S24 => (hg_gr S24 (some o) 5 2).bind fun e25 => (hg_st S24 e25 (G.1 0) e10 (-1)).bind fun S26 => (hg_gr S26 (some o) 5 0).bind fun e27 => (hg_ld S26 e27 (G.1 0) e10).bind fun e28 => if e28 = 0 then (hm_PI_copyPiece_L90 G S26 o p1 e10 e12 e14) else ((hg_gr S26 (some o) 5 1).bind fun e29 => (hg_st S26 e29 (G.1 0) e10 (e10 + 1)).bind fun S30 => (hg_gr S30 p1 5 4).bind fun e31 => (hg_st S30 e31 (G.1 0) e12 (e10 + 1)).bind fun S32 => hm_PI_copyPiece_L90 G S32 o p1 e10 e12 e14)
set_option maxHeartbeats 4000000 in
set_option maxRecDepth 100000 in
/-- SignalEngine$Pieces.copyPiece(LSignalEngine$Pieces;I)V -/
theorem hm_PI_copyPiece_ok (l : Launch) (D : va_G) (G : hg_E) (Z : hg_S) (o : Nat) (p1 : Option Nat) (p2 : Int32) (q : hg_S) (hq : hm_PI_copyPiece G Z o p1 p2 = some q) : hg_C l ⟨"SignalEngine$Pieces", "copyPiece", "(LSignalEngine$Pieces;I)V"⟩ prog_10_method_5_code 6 none 0 0 D G [.ref o, va_rf p1, .int p2] Z (.inl (none, q) : hg_O) := by
  refine hg_start (cv := fun q => (.inl (none, q) : hg_O)) hq ?_
  intro F hF h
  refine hg_enter (lv := [(0, va_rf (some o)), (1, va_rf p1), (2, .int p2)]) (by decide +kernel) (by simp [lg_sl, va_rf_cat, hg_cti, hg_ctr]) (by simp [lv_args, va_rf_cat, va_rf_some, hg_cti, hg_ctr]) ?_
  intro X hC hR
  have lab_126 : ∀ (S : hg_S), dc_wp (hm_PI_copyPiece_L126 G S o) F → hg_G X l (hg_rm 0 0 Z) D 6 S 126 [(0, va_rf (some o))] [] := by
    intro S  h
    delta hm_PI_copyPiece_L126 at h
    exact hg_vret (pc := 126) hC hR (hF _ (dc_some h)) (show decode prog_10_method_5_code 126 = .ok (.return_, 1) by decide +kernel)
  have lab_90 : ∀ (S : hg_S) (x1 : Option Nat) (x3 : Int32) (x4 : Int32) (x5 : Int32), dc_wp (hm_PI_copyPiece_L90 G S o x1 x3 x4 x5) F → hg_G X l (hg_rm 0 0 Z) D 6 S 90 [(0, va_rf (some o)), (1, va_rf x1), (3, .int x3), (4, .int x4), (5, .int x5)] [] := by
    intro S x1 x3 x4 x5 h
    delta hm_PI_copyPiece_L90 at h
    refine hg_iload (pc := 90) (i := 5) hC 4 rfl (show decode prog_10_method_5_code 90 = .ok (.iload 5, 2) by decide +kernel) ?_
    refine hg_iconst (pc := 92) (v := (-1)) hC (show decode prog_10_method_5_code 92 = .ok (.iconst (-1), 1) by decide +kernel) (by decide +kernel) ?_
    refine hg_icmp_eq (pc := 93) (tgt := 126) hC (show decode prog_10_method_5_code 93 = .ok (.if_icmp .eq 33, 3) by decide +kernel) (by decide +kernel) h ?_ ?_
    · intro h
      exact hg_sub [0] rfl (lab_126 S h)
    · intro h
      refine hg_aloadn (pc := 96) (j := 0) (i := 0) (r := (some o)) hC 0 rfl rfl (show decode prog_10_method_5_code 96 = .ok (.aload_n 0, 1) by decide +kernel) ?_
      refine hg_rgr (pc := 97) (r := (some o)) hC fl_SignalEngine_Pieces_18 (show decode prog_10_method_5_code 97 = .ok (.getfield 18, 3) by decide +kernel) h ?_
      intro e1 h
      refine hg_iloadn (pc := 100) (j := 3) (i := 3) hC 2 rfl rfl (show decode prog_10_method_5_code 100 = .ok (.iload_n 3, 1) by decide +kernel) ?_
      refine hg_iloadn (pc := 101) (j := 3) (i := 3) hC 2 rfl rfl (show decode prog_10_method_5_code 101 = .ok (.iload_n 3, 1) by decide +kernel) ?_
      refine hg_iconst (pc := 102) (v := 1) hC (show decode prog_10_method_5_code 102 = .ok (.iconst 1, 1) by decide +kernel) (by decide +kernel) ?_
      refine hg_iadd (pc := 103) hC (show decode prog_10_method_5_code 103 = .ok (.iadd, 1) by decide +kernel) ?_
      refine hg_aloadn (pc := 104) (j := 1) (i := 1) (r := x1) hC 1 rfl rfl (show decode prog_10_method_5_code 104 = .ok (.aload_n 1, 1) by decide +kernel) ?_
      refine hg_rgr (pc := 105) (r := x1) hC fl_SignalEngine_Pieces_21 (show decode prog_10_method_5_code 105 = .ok (.getfield 21, 3) by decide +kernel) h ?_
      intro e2 h
      refine hg_iload (pc := 108) (i := 4) hC 3 rfl (show decode prog_10_method_5_code 108 = .ok (.iload 4, 2) by decide +kernel) ?_
      refine hg_riald (pc := 110) (r := e2) hC (show decode prog_10_method_5_code 110 = .ok (.iaload, 1) by decide +kernel) h ?_
      intro e3 h
      refine hg_iadd (pc := 111) hC (show decode prog_10_method_5_code 111 = .ok (.iadd, 1) by decide +kernel) ?_
      refine hg_riast (pc := 112) (r := e1) hC (show decode prog_10_method_5_code 112 = .ok (.iastore, 1) by decide +kernel) h ?_
      intro S4 h
      refine hg_aloadn (pc := 113) (j := 1) (i := 1) (r := x1) hC 1 rfl rfl (show decode prog_10_method_5_code 113 = .ok (.aload_n 1, 1) by decide +kernel) ?_
      refine hg_rgr (pc := 114) (r := x1) hC fl_SignalEngine_Pieces_24 (show decode prog_10_method_5_code 114 = .ok (.getfield 24, 3) by decide +kernel) h ?_
      intro e5 h
      refine hg_iload (pc := 117) (i := 5) hC 4 rfl (show decode prog_10_method_5_code 117 = .ok (.iload 5, 2) by decide +kernel) ?_
      refine hg_aloadn (pc := 119) (j := 0) (i := 0) (r := (some o)) hC 0 rfl rfl (show decode prog_10_method_5_code 119 = .ok (.aload_n 0, 1) by decide +kernel) ?_
      refine hg_rgr (pc := 120) (r := (some o)) hC fl_SignalEngine_Pieces_18 (show decode prog_10_method_5_code 120 = .ok (.getfield 18, 3) by decide +kernel) h ?_
      intro e6 h
      refine hg_iloadn (pc := 123) (j := 3) (i := 3) hC 2 rfl rfl (show decode prog_10_method_5_code 123 = .ok (.iload_n 3, 1) by decide +kernel) ?_
      refine hg_riald (pc := 124) (r := e6) hC (show decode prog_10_method_5_code 124 = .ok (.iaload, 1) by decide +kernel) h ?_
      intro e7 h
      refine hg_riast (pc := 125) (r := e5) hC (show decode prog_10_method_5_code 125 = .ok (.iastore, 1) by decide +kernel) h ?_
      intro S8 h
      exact hg_sub [0] rfl (lab_126 S8 h)
  show hg_G X l (hg_rm 0 0 Z) D 6 Z 0 [(0, va_rf (some o)), (1, va_rf p1), (2, .int p2)] []
  have h : dc_wp (hm_PI_copyPiece G Z o p1 p2) F := h
  delta hm_PI_copyPiece at h
  refine hg_aloadn (pc := 0) (j := 1) (i := 1) (r := p1) hC 1 rfl rfl (show decode prog_10_method_5_code 0 = .ok (.aload_n 1, 1) by decide +kernel) ?_
  refine hg_rgr (pc := 1) (r := p1) hC fl_SignalEngine_Pieces_24 (show decode prog_10_method_5_code 1 = .ok (.getfield 24, 3) by decide +kernel) h ?_
  intro e9 h
  refine hg_iloadn (pc := 4) (j := 2) (i := 2) hC 2 rfl rfl (show decode prog_10_method_5_code 4 = .ok (.iload_n 2, 1) by decide +kernel) ?_
  refine hg_riald (pc := 5) (r := e9) hC (show decode prog_10_method_5_code 5 = .ok (.iaload, 1) by decide +kernel) h ?_
  intro e10 h
  refine hg_istoren (pc := 6) (j := 3) (i := 3) (lv' := [(3, .int e10), (0, va_rf (some o)), (1, va_rf p1), (2, .int p2)]) hC rfl (Nat.le_of_ble_eq_true rfl) rfl (show decode prog_10_method_5_code 6 = .ok (.istore_n 3, 1) by decide +kernel) ?_
  refine hg_aloadn (pc := 7) (j := 1) (i := 1) (r := p1) hC 2 rfl rfl (show decode prog_10_method_5_code 7 = .ok (.aload_n 1, 1) by decide +kernel) ?_
  refine hg_rgr (pc := 8) (r := p1) hC fl_SignalEngine_Pieces_15 (show decode prog_10_method_5_code 8 = .ok (.getfield 15, 3) by decide +kernel) h ?_
  intro e11 h
  refine hg_iloadn (pc := 11) (j := 2) (i := 2) hC 3 rfl rfl (show decode prog_10_method_5_code 11 = .ok (.iload_n 2, 1) by decide +kernel) ?_
  refine hg_riald (pc := 12) (r := e11) hC (show decode prog_10_method_5_code 12 = .ok (.iaload, 1) by decide +kernel) h ?_
  intro e12 h
  refine hg_istore (pc := 13) (i := 4) (lv' := [(4, .int e12), (3, .int e10), (0, va_rf (some o)), (1, va_rf p1), (2, .int p2)]) hC (Nat.le_of_ble_eq_true rfl) rfl (show decode prog_10_method_5_code 13 = .ok (.istore 4, 2) by decide +kernel) ?_
  refine hg_aloadn (pc := 15) (j := 1) (i := 1) (r := p1) hC 3 rfl rfl (show decode prog_10_method_5_code 15 = .ok (.aload_n 1, 1) by decide +kernel) ?_
  refine hg_rgr (pc := 16) (r := p1) hC fl_SignalEngine_Pieces_18 (show decode prog_10_method_5_code 16 = .ok (.getfield 18, 3) by decide +kernel) h ?_
  intro e13 h
  refine hg_iloadn (pc := 19) (j := 2) (i := 2) hC 4 rfl rfl (show decode prog_10_method_5_code 19 = .ok (.iload_n 2, 1) by decide +kernel) ?_
  refine hg_riald (pc := 20) (r := e13) hC (show decode prog_10_method_5_code 20 = .ok (.iaload, 1) by decide +kernel) h ?_
  intro e14 h
  refine hg_istore (pc := 21) (i := 5) (lv' := [(5, .int e14), (4, .int e12), (3, .int e10), (0, va_rf (some o)), (1, va_rf p1), (2, .int p2)]) hC (Nat.le_of_ble_eq_true rfl) rfl (show decode prog_10_method_5_code 21 = .ok (.istore 5, 2) by decide +kernel) ?_
  refine hg_aloadn (pc := 23) (j := 0) (i := 0) (r := (some o)) hC 3 rfl rfl (show decode prog_10_method_5_code 23 = .ok (.aload_n 0, 1) by decide +kernel) ?_
  refine hg_rgr (pc := 24) (r := (some o)) hC fl_SignalEngine_Pieces_9 (show decode prog_10_method_5_code 24 = .ok (.getfield 9, 3) by decide +kernel) h ?_
  intro e15 h
  refine hg_iloadn (pc := 27) (j := 3) (i := 3) hC 2 rfl rfl (show decode prog_10_method_5_code 27 = .ok (.iload_n 3, 1) by decide +kernel) ?_
  refine hg_aloadn (pc := 28) (j := 1) (i := 1) (r := p1) hC 4 rfl rfl (show decode prog_10_method_5_code 28 = .ok (.aload_n 1, 1) by decide +kernel) ?_
  refine hg_rgr (pc := 29) (r := p1) hC fl_SignalEngine_Pieces_9 (show decode prog_10_method_5_code 29 = .ok (.getfield 9, 3) by decide +kernel) h ?_
  intro e16 h
  refine hg_iloadn (pc := 32) (j := 2) (i := 2) hC 5 rfl rfl (show decode prog_10_method_5_code 32 = .ok (.iload_n 2, 1) by decide +kernel) ?_
  refine hg_riald (pc := 33) (r := e16) hC (show decode prog_10_method_5_code 33 = .ok (.iaload, 1) by decide +kernel) h ?_
  intro e17 h
  refine hg_riast (pc := 34) (r := e15) hC (show decode prog_10_method_5_code 34 = .ok (.iastore, 1) by decide +kernel) h ?_
  intro S18 h
  refine hg_aloadn (pc := 35) (j := 0) (i := 0) (r := (some o)) hC 3 rfl rfl (show decode prog_10_method_5_code 35 = .ok (.aload_n 0, 1) by decide +kernel) ?_
  refine hg_rgr (pc := 36) (r := (some o)) hC fl_SignalEngine_Pieces_21 (show decode prog_10_method_5_code 36 = .ok (.getfield 21, 3) by decide +kernel) h ?_
  intro e19 h
  refine hg_iloadn (pc := 39) (j := 3) (i := 3) hC 2 rfl rfl (show decode prog_10_method_5_code 39 = .ok (.iload_n 3, 1) by decide +kernel) ?_
  refine hg_aloadn (pc := 40) (j := 1) (i := 1) (r := p1) hC 4 rfl rfl (show decode prog_10_method_5_code 40 = .ok (.aload_n 1, 1) by decide +kernel) ?_
  refine hg_rgr (pc := 41) (r := p1) hC fl_SignalEngine_Pieces_21 (show decode prog_10_method_5_code 41 = .ok (.getfield 21, 3) by decide +kernel) h ?_
  intro e20 h
  refine hg_iloadn (pc := 44) (j := 2) (i := 2) hC 5 rfl rfl (show decode prog_10_method_5_code 44 = .ok (.iload_n 2, 1) by decide +kernel) ?_
  refine hg_riald (pc := 45) (r := e20) hC (show decode prog_10_method_5_code 45 = .ok (.iaload, 1) by decide +kernel) h ?_
  intro e21 h
  refine hg_riast (pc := 46) (r := e19) hC (show decode prog_10_method_5_code 46 = .ok (.iastore, 1) by decide +kernel) h ?_
  intro S22 h
  refine hg_aloadn (pc := 47) (j := 0) (i := 0) (r := (some o)) hC 3 rfl rfl (show decode prog_10_method_5_code 47 = .ok (.aload_n 0, 1) by decide +kernel) ?_
  refine hg_rgr (pc := 48) (r := (some o)) hC fl_SignalEngine_Pieces_15 (show decode prog_10_method_5_code 48 = .ok (.getfield 15, 3) by decide +kernel) h ?_
  intro e23 h
  refine hg_iloadn (pc := 51) (j := 3) (i := 3) hC 2 rfl rfl (show decode prog_10_method_5_code 51 = .ok (.iload_n 3, 1) by decide +kernel) ?_
  refine hg_iload (pc := 52) (i := 4) hC 1 rfl (show decode prog_10_method_5_code 52 = .ok (.iload 4, 2) by decide +kernel) ?_
  refine hg_riast (pc := 54) (r := e23) hC (show decode prog_10_method_5_code 54 = .ok (.iastore, 1) by decide +kernel) h ?_
  intro S24 h
  refine hg_aloadn (pc := 55) (j := 0) (i := 0) (r := (some o)) hC 3 rfl rfl (show decode prog_10_method_5_code 55 = .ok (.aload_n 0, 1) by decide +kernel) ?_
  refine hg_rgr (pc := 56) (r := (some o)) hC fl_SignalEngine_Pieces_18 (show decode prog_10_method_5_code 56 = .ok (.getfield 18, 3) by decide +kernel) h ?_
  intro e25 h
  refine hg_iloadn (pc := 59) (j := 3) (i := 3) hC 2 rfl rfl (show decode prog_10_method_5_code 59 = .ok (.iload_n 3, 1) by decide +kernel) ?_
  refine hg_iconst (pc := 60) (v := (-1)) hC (show decode prog_10_method_5_code 60 = .ok (.iconst (-1), 1) by decide +kernel) (by decide +kernel) ?_
  refine hg_riast (pc := 61) (r := e25) hC (show decode prog_10_method_5_code 61 = .ok (.iastore, 1) by decide +kernel) h ?_
  intro S26 h
  refine hg_aloadn (pc := 62) (j := 0) (i := 0) (r := (some o)) hC 3 rfl rfl (show decode prog_10_method_5_code 62 = .ok (.aload_n 0, 1) by decide +kernel) ?_
  refine hg_rgr (pc := 63) (r := (some o)) hC fl_SignalEngine_Pieces_9 (show decode prog_10_method_5_code 63 = .ok (.getfield 9, 3) by decide +kernel) h ?_
  intro e27 h
  refine hg_iloadn (pc := 66) (j := 3) (i := 3) hC 2 rfl rfl (show decode prog_10_method_5_code 66 = .ok (.iload_n 3, 1) by decide +kernel) ?_
  refine hg_riald (pc := 67) (r := e27) hC (show decode prog_10_method_5_code 67 = .ok (.iaload, 1) by decide +kernel) h ?_
  intro e28 h
  refine hg_if_eq (pc := 68) (tgt := 90) hC (show decode prog_10_method_5_code 68 = .ok (.ifCond .eq 22, 3) by decide +kernel) (by decide +kernel) h ?_ ?_
  · intro h
    exact hg_sub [3, 4, 2, 1, 0] rfl (lab_90 S26 p1 e10 e12 e14 h)
  · intro h
    refine hg_aloadn (pc := 71) (j := 0) (i := 0) (r := (some o)) hC 3 rfl rfl (show decode prog_10_method_5_code 71 = .ok (.aload_n 0, 1) by decide +kernel) ?_
    refine hg_rgr (pc := 72) (r := (some o)) hC fl_SignalEngine_Pieces_15 (show decode prog_10_method_5_code 72 = .ok (.getfield 15, 3) by decide +kernel) h ?_
    intro e29 h
    refine hg_iloadn (pc := 75) (j := 3) (i := 3) hC 2 rfl rfl (show decode prog_10_method_5_code 75 = .ok (.iload_n 3, 1) by decide +kernel) ?_
    refine hg_iloadn (pc := 76) (j := 3) (i := 3) hC 2 rfl rfl (show decode prog_10_method_5_code 76 = .ok (.iload_n 3, 1) by decide +kernel) ?_
    refine hg_iconst (pc := 77) (v := 1) hC (show decode prog_10_method_5_code 77 = .ok (.iconst 1, 1) by decide +kernel) (by decide +kernel) ?_
    refine hg_iadd (pc := 78) hC (show decode prog_10_method_5_code 78 = .ok (.iadd, 1) by decide +kernel) ?_
    refine hg_riast (pc := 79) (r := e29) hC (show decode prog_10_method_5_code 79 = .ok (.iastore, 1) by decide +kernel) h ?_
    intro S30 h
    refine hg_aloadn (pc := 80) (j := 1) (i := 1) (r := p1) hC 4 rfl rfl (show decode prog_10_method_5_code 80 = .ok (.aload_n 1, 1) by decide +kernel) ?_
    refine hg_rgr (pc := 81) (r := p1) hC fl_SignalEngine_Pieces_24 (show decode prog_10_method_5_code 81 = .ok (.getfield 24, 3) by decide +kernel) h ?_
    intro e31 h
    refine hg_iload (pc := 84) (i := 4) hC 1 rfl (show decode prog_10_method_5_code 84 = .ok (.iload 4, 2) by decide +kernel) ?_
    refine hg_iloadn (pc := 86) (j := 3) (i := 3) hC 2 rfl rfl (show decode prog_10_method_5_code 86 = .ok (.iload_n 3, 1) by decide +kernel) ?_
    refine hg_iconst (pc := 87) (v := 1) hC (show decode prog_10_method_5_code 87 = .ok (.iconst 1, 1) by decide +kernel) (by decide +kernel) ?_
    refine hg_iadd (pc := 88) hC (show decode prog_10_method_5_code 88 = .ok (.iadd, 1) by decide +kernel) ?_
    refine hg_riast (pc := 89) (r := e31) hC (show decode prog_10_method_5_code 89 = .ok (.iastore, 1) by decide +kernel) h ?_
    intro S32 h
    exact hg_sub [3, 4, 2, 1, 0] rfl (lab_90 S32 p1 e10 e12 e14 h)
noncomputable def hm_PI_copyOf_L41 (G : hg_E) (S : hg_S) (o : Nat) (x1 : Option Nat) (x2 : Int32) (x3 : Int32) : Option (hg_S × Int32) :=
  (hg_gi S (some o) 5 5).bind fun e1 => (hg_gr S x1 5 3).bind fun e2 => (hg_ld S e2 (G.1 0) x2).bind fun e3 => (hg_pf S (some o) 5 5 (.int (e1 + e3))).bind fun S4 => some (S4, x3)
noncomputable def hm_PI_copyOf_b15 (G : hg_E) (S : hg_S) (o : Nat) (x1 : Option Nat) (x2 : Int32) (x3 : Int32) (x4 : Int32) : Option ((hg_S × Int32) ⊕ ((hg_S))) :=
  (hg_gr S x1 5 3).bind fun e5 => (hg_ld S e5 (G.1 0) x2).bind fun e6 => if (x2 - e6) < x4 then ((hg_chk S (some o) 5).bind fun b7 => (hm_PI_copyPiece G S b7 x1 x4).bind fun q10 => some (.inl (q10, (x4 + (-1))))) else (some (.inr S))
noncomputable def hm_PI_copyOf_s15 (G : hg_E) (o : Nat) (x1 : Option Nat) (x2 : Int32) (x3 : Int32) (q : hg_S × Int32) : Option ((hg_S × Int32) ⊕ ((hg_S))) :=
  hm_PI_copyOf_b15 G q.1 o x1 x2 x3 q.2
noncomputable def hm_PI_copyOf_L15 (G : hg_E) (S : hg_S) (o : Nat) (x1 : Option Nat) (x2 : Int32) (x3 : Int32) (x4 : Int32) : Option (hg_S × Int32) :=
  (dc_it (hm_PI_copyOf_s15 G o x1 x2 x3) (S, x4)).bind (fun (z : hg_S) => hm_PI_copyOf_L41 G z o x1 x2 x3)
noncomputable def hm_PI_copyOf (G : hg_E) (S : hg_S) (o : Nat) (p1 : Option Nat) (p2 : Int32) : Option (hg_S × Int32) :=
  (hg_gi S (some o) 5 5).bind fun e11 => (hg_gr S p1 5 4).bind fun e12 => (hg_st S e12 (G.1 0) p2 e11).bind fun S13 => hm_PI_copyOf_L15 G S13 o p1 p2 e11 p2
set_option maxHeartbeats 4000000 in
set_option maxRecDepth 100000 in
/-- SignalEngine$Pieces.copyOf(LSignalEngine$Pieces;I)I -/
theorem hm_PI_copyOf_ok (l : Launch) (D : va_G) (G : hg_E) (Z : hg_S) (o : Nat) (p1 : Option Nat) (p2 : Int32) (q : hg_S × Int32) (hq : hm_PI_copyOf G Z o p1 p2 = some q) : hg_C l ⟨"SignalEngine$Pieces", "copyOf", "(LSignalEngine$Pieces;I)I"⟩ prog_10_method_4_code 5 (some (.int)) 1 25 D G [.ref o, va_rf p1, .int p2] Z (.inl (some (.int q.2), q.1) : hg_O) := by
  refine hg_start (cv := fun q => (.inl (some (.int q.2), q.1) : hg_O)) hq ?_
  intro F hF h
  refine hg_enter (lv := [(0, va_rf (some o)), (1, va_rf p1), (2, .int p2)]) (by decide +kernel) (by simp [lg_sl, va_rf_cat, hg_cti, hg_ctr]) (by simp [lv_args, va_rf_cat, va_rf_some, hg_cti, hg_ctr]) ?_
  intro X hC hR
  have lab_41 : ∀ (S : hg_S) (x1 : Option Nat) (x2 : Int32) (x3 : Int32), dc_wp (hm_PI_copyOf_L41 G S o x1 x2 x3) F → hg_G X l (hg_rm 1 25 Z) D 5 S 41 [(0, va_rf (some o)), (1, va_rf x1), (2, .int x2), (3, .int x3)] [] := by
    intro S x1 x2 x3 h
    delta hm_PI_copyOf_L41 at h
    refine hg_aloadn (pc := 41) (j := 0) (i := 0) (r := (some o)) hC 0 rfl rfl (show decode prog_10_method_4_code 41 = .ok (.aload_n 0, 1) by decide +kernel) ?_
    refine hg_dup (pc := 42) hC (show decode prog_10_method_4_code 42 = .ok (.dup, 1) by decide +kernel) rfl ?_
    refine hg_rgi (pc := 43) (r := (some o)) hC fl_SignalEngine_Pieces_27 (show decode prog_10_method_4_code 43 = .ok (.getfield 27, 3) by decide +kernel) h ?_
    intro e1 h
    refine hg_aloadn (pc := 46) (j := 1) (i := 1) (r := x1) hC 1 rfl rfl (show decode prog_10_method_4_code 46 = .ok (.aload_n 1, 1) by decide +kernel) ?_
    refine hg_rgr (pc := 47) (r := x1) hC fl_SignalEngine_Pieces_21 (show decode prog_10_method_4_code 47 = .ok (.getfield 21, 3) by decide +kernel) h ?_
    intro e2 h
    refine hg_iloadn (pc := 50) (j := 2) (i := 2) hC 2 rfl rfl (show decode prog_10_method_4_code 50 = .ok (.iload_n 2, 1) by decide +kernel) ?_
    refine hg_riald (pc := 51) (r := e2) hC (show decode prog_10_method_4_code 51 = .ok (.iaload, 1) by decide +kernel) h ?_
    intro e3 h
    refine hg_iadd (pc := 52) hC (show decode prog_10_method_4_code 52 = .ok (.iadd, 1) by decide +kernel) ?_
    refine hg_rput (pc := 53) (r := (some o)) (v := .int (e1 + e3)) hC fp_SignalEngine_Pieces_27 rfl rfl (show decode prog_10_method_4_code 53 = .ok (.putfield 27, 3) by decide +kernel) h ?_
    intro S4 h
    refine hg_iloadn (pc := 56) (j := 3) (i := 3) hC 3 rfl rfl (show decode prog_10_method_4_code 56 = .ok (.iload_n 3, 1) by decide +kernel) ?_
    exact hg_iret (pc := 57) hC hR (hF _ (dc_some h)) (show decode prog_10_method_4_code 57 = .ok (.ireturn, 1) by decide +kernel)
  have loop_15 : ∀ (x1 : Option Nat) (x2 : Int32) (x3 : Int32) (q : hg_S × Int32), dc_wp (dc_it (hm_PI_copyOf_s15 G o x1 x2 x3) q) (fun z => dc_wp ((fun (z : hg_S) => hm_PI_copyOf_L41 G z o x1 x2 x3) z) F) → hg_G X l (hg_rm 1 25 Z) D 5 q.1 15 [(0, va_rf (some o)), (1, va_rf x1), (2, .int x2), (3, .int x3), (4, .int q.2)] [] := by
    intro x1 x2 x3
    refine dc_loopF ?_
    intro F_15 hl_15 hr_15
    rintro ⟨S, x4⟩ h
    have h : dc_wp (hm_PI_copyOf_b15 G S o x1 x2 x3 x4) F_15 := h
    delta hm_PI_copyOf_b15 at h
    refine hg_iload (pc := 15) (i := 4) hC 4 rfl (show decode prog_10_method_4_code 15 = .ok (.iload 4, 2) by decide +kernel) ?_
    refine hg_iloadn (pc := 17) (j := 2) (i := 2) hC 2 rfl rfl (show decode prog_10_method_4_code 17 = .ok (.iload_n 2, 1) by decide +kernel) ?_
    refine hg_aloadn (pc := 18) (j := 1) (i := 1) (r := x1) hC 1 rfl rfl (show decode prog_10_method_4_code 18 = .ok (.aload_n 1, 1) by decide +kernel) ?_
    refine hg_rgr (pc := 19) (r := x1) hC fl_SignalEngine_Pieces_21 (show decode prog_10_method_4_code 19 = .ok (.getfield 21, 3) by decide +kernel) h ?_
    intro e5 h
    refine hg_iloadn (pc := 22) (j := 2) (i := 2) hC 2 rfl rfl (show decode prog_10_method_4_code 22 = .ok (.iload_n 2, 1) by decide +kernel) ?_
    refine hg_riald (pc := 23) (r := e5) hC (show decode prog_10_method_4_code 23 = .ok (.iaload, 1) by decide +kernel) h ?_
    intro e6 h
    refine hg_isub (pc := 24) hC (show decode prog_10_method_4_code 24 = .ok (.isub, 1) by decide +kernel) ?_
    refine hg_icmp_le (pc := 25) (tgt := 41) hC (show decode prog_10_method_4_code 25 = .ok (.if_icmp .le 16, 3) by decide +kernel) (by decide +kernel) h ?_ ?_
    · intro h
      refine hg_aloadn (pc := 28) (j := 0) (i := 0) (r := (some o)) hC 0 rfl rfl (show decode prog_10_method_4_code 28 = .ok (.aload_n 0, 1) by decide +kernel) ?_
      refine hg_aloadn (pc := 29) (j := 1) (i := 1) (r := x1) hC 1 rfl rfl (show decode prog_10_method_4_code 29 = .ok (.aload_n 1, 1) by decide +kernel) ?_
      refine hg_iload (pc := 30) (i := 4) hC 4 rfl (show decode prog_10_method_4_code 30 = .ok (.iload 4, 2) by decide +kernel) ?_
      obtain ⟨b7, hb8, h⟩ := dc_bind h
      obtain ⟨hb8, hv9⟩ := hg_chk_of (C := R_PI) rfl hb8
      refine hg_kVv (pc := 32) (b := b7) (r := (some o)) (As := [va_rf x1, .int x4]) (rest := []) (so := fun q => q) hC cw_SignalEngine_Pieces_41 (fun q hq => hm_PI_copyPiece_ok l D G S b7 x1 x4 q hq) (Nat.le_of_ble_eq_true rfl) (Nat.le_of_ble_eq_true rfl) hb8 hv9 rfl (Nat.le_of_ble_eq_true rfl) (show decode prog_10_method_4_code 32 = .ok (.invokevirtual 41, 3) by decide +kernel) h ?_
      intro q10 h
      refine hg_iinc (pc := 35) (i := 4) (v := (x4 + (-1))) (lv' := [(4, .int (x4 + (-1))), (0, va_rf (some o)), (1, va_rf x1), (2, .int x2), (3, .int x3)]) hC 4 rfl (congrArg (fun z => x4 + z) (show Int32.ofInt (-1) = (-1 : Int32) by decide +kernel)) (Nat.le_of_ble_eq_true rfl) rfl (show decode prog_10_method_4_code 35 = .ok (.iinc 4 (-1), 3) by decide +kernel) ?_
      refine hg_goto (pc := 38) (tgt := 15) hC (show decode prog_10_method_4_code 38 = .ok (.goto (-23), 3) by decide +kernel) (by decide +kernel) ?_
      exact hg_sub [1, 2, 3, 4, 0] rfl (hl_15 ((q10, (x4 + (-1)))) (dc_some h))
    · intro h
      have h : dc_wp (hm_PI_copyOf_L41 G S o x1 x2 x3) F := hr_15 S (dc_some h)
      exact hg_sub [0, 1, 2, 3] rfl (lab_41 S x1 x2 x3 h)
  have lab_15 : ∀ (S : hg_S) (x1 : Option Nat) (x2 : Int32) (x3 : Int32) (x4 : Int32), dc_wp (hm_PI_copyOf_L15 G S o x1 x2 x3 x4) F → hg_G X l (hg_rm 1 25 Z) D 5 S 15 [(0, va_rf (some o)), (1, va_rf x1), (2, .int x2), (3, .int x3), (4, .int x4)] [] := fun S x1 x2 x3 x4 h => loop_15 x1 x2 x3 (S, x4) (dc_bind h)
  show hg_G X l (hg_rm 1 25 Z) D 5 Z 0 [(0, va_rf (some o)), (1, va_rf p1), (2, .int p2)] []
  have h : dc_wp (hm_PI_copyOf G Z o p1 p2) F := h
  delta hm_PI_copyOf at h
  refine hg_aloadn (pc := 0) (j := 0) (i := 0) (r := (some o)) hC 0 rfl rfl (show decode prog_10_method_4_code 0 = .ok (.aload_n 0, 1) by decide +kernel) ?_
  refine hg_rgi (pc := 1) (r := (some o)) hC fl_SignalEngine_Pieces_27 (show decode prog_10_method_4_code 1 = .ok (.getfield 27, 3) by decide +kernel) h ?_
  intro e11 h
  refine hg_istoren (pc := 4) (j := 3) (i := 3) (lv' := [(3, .int e11), (0, va_rf (some o)), (1, va_rf p1), (2, .int p2)]) hC rfl (Nat.le_of_ble_eq_true rfl) rfl (show decode prog_10_method_4_code 4 = .ok (.istore_n 3, 1) by decide +kernel) ?_
  refine hg_aloadn (pc := 5) (j := 1) (i := 1) (r := p1) hC 2 rfl rfl (show decode prog_10_method_4_code 5 = .ok (.aload_n 1, 1) by decide +kernel) ?_
  refine hg_rgr (pc := 6) (r := p1) hC fl_SignalEngine_Pieces_24 (show decode prog_10_method_4_code 6 = .ok (.getfield 24, 3) by decide +kernel) h ?_
  intro e12 h
  refine hg_iloadn (pc := 9) (j := 2) (i := 2) hC 3 rfl rfl (show decode prog_10_method_4_code 9 = .ok (.iload_n 2, 1) by decide +kernel) ?_
  refine hg_iloadn (pc := 10) (j := 3) (i := 3) hC 0 rfl rfl (show decode prog_10_method_4_code 10 = .ok (.iload_n 3, 1) by decide +kernel) ?_
  refine hg_riast (pc := 11) (r := e12) hC (show decode prog_10_method_4_code 11 = .ok (.iastore, 1) by decide +kernel) h ?_
  intro S13 h
  refine hg_iloadn (pc := 12) (j := 2) (i := 2) hC 3 rfl rfl (show decode prog_10_method_4_code 12 = .ok (.iload_n 2, 1) by decide +kernel) ?_
  refine hg_istore (pc := 13) (i := 4) (lv' := [(4, .int p2), (3, .int e11), (0, va_rf (some o)), (1, va_rf p1), (2, .int p2)]) hC (Nat.le_of_ble_eq_true rfl) rfl (show decode prog_10_method_4_code 13 = .ok (.istore 4, 2) by decide +kernel) ?_
  exact hg_sub [2, 3, 4, 1, 0] rfl (lab_15 S13 p1 p2 e11 p2 h)
noncomputable def hm_PG_giveNumbers_L78 (G : hg_E) (S : hg_S) (o : Nat) : Option (hg_S) :=
  some S
noncomputable def hm_PG_giveNumbers_L72 (G : hg_E) (S : hg_S) (o : Nat) (x1 : Option Nat) (x2 : Option Nat) (x3 : Int32) (x4 : Int32) : Option ((hg_S × Int32 × Int32) ⊕ ((hg_S))) :=
  some (.inl (S, x3, (x4 + 1)))
noncomputable def hm_PG_giveNumbers_L45 (G : hg_E) (S : hg_S) (o : Nat) (x1 : Option Nat) (x2 : Option Nat) (x3 : Int32) (x4 : Int32) : Option ((hg_S × Int32 × Int32) ⊕ ((hg_S))) :=
  (hg_ld S x1 (G.1 0) x4).bind fun e1 => if e1 = (-1) then (hm_PG_giveNumbers_L72 G S o x1 x2 x3 x4) else ((hg_gr S (some o) 9 11).bind fun e2 => (hg_gr S (some o) 9 6).bind fun e3 => (hg_ld S x1 (G.1 0) x4).bind fun e4 => (hg_chk S e3 5).bind fun b5 => (hm_PI_copyOf G S b5 x2 e4).bind fun q8 => (hg_st q8.1 e2 (G.1 0) x4 q8.2).bind fun S9 => hm_PG_giveNumbers_L72 G S9 o x1 x2 x3 x4)
noncomputable def hm_PG_giveNumbers_b5 (G : hg_E) (S : hg_S) (o : Nat) (x1 : Option Nat) (x2 : Option Nat) (x3 : Int32) (x4 : Int32) : Option ((hg_S × Int32 × Int32) ⊕ ((hg_S))) :=
  (hg_gr S (some o) 9 7).bind fun e10 => (hg_ln S e10 (G.1 0)).bind fun e11 => if x4 < e11 then ((hg_gr S (some o) 9 15).bind fun e12 => (hg_st S e12 (G.1 0) x4 x3).bind fun S13 => (hg_gr S13 (some o) 9 7).bind fun e14 => (hg_ld S13 e14 (G.1 0) x4).bind fun e15 => if e15 = 1 then ((hg_gr S13 (some o) 9 11).bind fun e16 => (hg_st S13 e16 (G.1 0) x4 x3).bind fun S17 => hm_PG_giveNumbers_L45 G S17 o x1 x2 (x3 + 1) x4) else (hm_PG_giveNumbers_L45 G S13 o x1 x2 x3 x4)) else (some (.inr S))
noncomputable def hm_PG_giveNumbers_s5 (G : hg_E) (o : Nat) (x1 : Option Nat) (x2 : Option Nat) (q : hg_S × Int32 × Int32) : Option ((hg_S × Int32 × Int32) ⊕ ((hg_S))) :=
  hm_PG_giveNumbers_b5 G q.1 o x1 x2 q.2.1 q.2.2
noncomputable def hm_PG_giveNumbers_L5 (G : hg_E) (S : hg_S) (o : Nat) (x1 : Option Nat) (x2 : Option Nat) (x3 : Int32) (x4 : Int32) : Option (hg_S) :=
  (dc_it (hm_PG_giveNumbers_s5 G o x1 x2) (S, x3, x4)).bind (fun (z : hg_S) => hm_PG_giveNumbers_L78 G z o)
noncomputable def hm_PG_giveNumbers (G : hg_E) (S : hg_S) (o : Nat) (p1 : Option Nat) (p2 : Option Nat) : Option (hg_S) :=
  hm_PG_giveNumbers_L5 G S o p1 p2 0 0
set_option maxHeartbeats 4000000 in
set_option maxRecDepth 100000 in
/-- SignalEngine$Program.giveNumbers([ILSignalEngine$Pieces;)V -/
theorem hm_PG_giveNumbers_ok (l : Launch) (D : va_G) (G : hg_E) (Z : hg_S) (o : Nat) (p1 : Option Nat) (p2 : Option Nat) (q : hg_S) (hq : hm_PG_giveNumbers G Z o p1 p2 = some q) : hg_C l ⟨"SignalEngine$Program", "giveNumbers", "([ILSignalEngine$Pieces;)V"⟩ prog_11_method_3_code 5 none 2 49 D G [.ref o, va_rf p1, va_rf p2] Z (.inl (none, q) : hg_O) := by
  refine hg_start (cv := fun q => (.inl (none, q) : hg_O)) hq ?_
  intro F hF h
  refine hg_enter (lv := [(0, va_rf (some o)), (1, va_rf p1), (2, va_rf p2)]) (by decide +kernel) (by simp [lg_sl, va_rf_cat, hg_cti, hg_ctr]) (by simp [lv_args, va_rf_cat, va_rf_some, hg_cti, hg_ctr]) ?_
  intro X hC hR
  have lab_78 : ∀ (S : hg_S), dc_wp (hm_PG_giveNumbers_L78 G S o) F → hg_G X l (hg_rm 2 49 Z) D 5 S 78 [(0, va_rf (some o))] [] := by
    intro S  h
    delta hm_PG_giveNumbers_L78 at h
    exact hg_vret (pc := 78) hC hR (hF _ (dc_some h)) (show decode prog_11_method_3_code 78 = .ok (.return_, 1) by decide +kernel)
  have loop_5 : ∀ (x1 : Option Nat) (x2 : Option Nat) (q : hg_S × Int32 × Int32), dc_wp (dc_it (hm_PG_giveNumbers_s5 G o x1 x2) q) (fun z => dc_wp ((fun (z : hg_S) => hm_PG_giveNumbers_L78 G z o) z) F) → hg_G X l (hg_rm 2 49 Z) D 5 q.1 5 [(0, va_rf (some o)), (1, va_rf x1), (2, va_rf x2), (3, .int q.2.1), (4, .int q.2.2)] [] := by
    intro x1 x2
    refine dc_loopF ?_
    intro F_5 hl_5 hr_5
    have lab_72 : ∀ (S : hg_S) (x3 : Int32) (x4 : Int32), dc_wp (hm_PG_giveNumbers_L72 G S o x1 x2 x3 x4) F_5 → hg_G X l (hg_rm 2 49 Z) D 5 S 72 [(0, va_rf (some o)), (1, va_rf x1), (2, va_rf x2), (3, .int x3), (4, .int x4)] [] := by
      intro S x3 x4 h
      delta hm_PG_giveNumbers_L72 at h
      refine hg_iinc (pc := 72) (i := 4) (v := (x4 + 1)) (lv' := [(4, .int (x4 + 1)), (0, va_rf (some o)), (1, va_rf x1), (2, va_rf x2), (3, .int x3)]) hC 4 rfl rfl (Nat.le_of_ble_eq_true rfl) rfl (show decode prog_11_method_3_code 72 = .ok (.iinc 4 1, 3) by decide +kernel) ?_
      refine hg_goto (pc := 75) (tgt := 5) hC (show decode prog_11_method_3_code 75 = .ok (.goto (-70), 3) by decide +kernel) (by decide +kernel) ?_
      exact hg_sub [1, 2, 3, 4, 0] rfl (hl_5 (S, x3, (x4 + 1)) (dc_some h))
    have lab_45 : ∀ (S : hg_S) (x3 : Int32) (x4 : Int32), dc_wp (hm_PG_giveNumbers_L45 G S o x1 x2 x3 x4) F_5 → hg_G X l (hg_rm 2 49 Z) D 5 S 45 [(0, va_rf (some o)), (1, va_rf x1), (2, va_rf x2), (3, .int x3), (4, .int x4)] [] := by
      intro S x3 x4 h
      delta hm_PG_giveNumbers_L45 at h
      refine hg_aloadn (pc := 45) (j := 1) (i := 1) (r := x1) hC 1 rfl rfl (show decode prog_11_method_3_code 45 = .ok (.aload_n 1, 1) by decide +kernel) ?_
      refine hg_iload (pc := 46) (i := 4) hC 4 rfl (show decode prog_11_method_3_code 46 = .ok (.iload 4, 2) by decide +kernel) ?_
      refine hg_riald (pc := 48) (r := x1) hC (show decode prog_11_method_3_code 48 = .ok (.iaload, 1) by decide +kernel) h ?_
      intro e1 h
      refine hg_iconst (pc := 49) (v := (-1)) hC (show decode prog_11_method_3_code 49 = .ok (.iconst (-1), 1) by decide +kernel) (by decide +kernel) ?_
      refine hg_icmp_eq (pc := 50) (tgt := 72) hC (show decode prog_11_method_3_code 50 = .ok (.if_icmp .eq 22, 3) by decide +kernel) (by decide +kernel) h ?_ ?_
      · intro h
        exact lab_72 S x3 x4 h
      · intro h
        refine hg_aloadn (pc := 53) (j := 0) (i := 0) (r := (some o)) hC 0 rfl rfl (show decode prog_11_method_3_code 53 = .ok (.aload_n 0, 1) by decide +kernel) ?_
        refine hg_rgr (pc := 54) (r := (some o)) hC fl_SignalEngine_Program_82 (show decode prog_11_method_3_code 54 = .ok (.getfield 82, 3) by decide +kernel) h ?_
        intro e2 h
        refine hg_iload (pc := 57) (i := 4) hC 4 rfl (show decode prog_11_method_3_code 57 = .ok (.iload 4, 2) by decide +kernel) ?_
        refine hg_aloadn (pc := 59) (j := 0) (i := 0) (r := (some o)) hC 0 rfl rfl (show decode prog_11_method_3_code 59 = .ok (.aload_n 0, 1) by decide +kernel) ?_
        refine hg_rgr (pc := 60) (r := (some o)) hC fl_SignalEngine_Program_65 (show decode prog_11_method_3_code 60 = .ok (.getfield 65, 3) by decide +kernel) h ?_
        intro e3 h
        refine hg_aloadn (pc := 63) (j := 2) (i := 2) (r := x2) hC 2 rfl rfl (show decode prog_11_method_3_code 63 = .ok (.aload_n 2, 1) by decide +kernel) ?_
        refine hg_aloadn (pc := 64) (j := 1) (i := 1) (r := x1) hC 1 rfl rfl (show decode prog_11_method_3_code 64 = .ok (.aload_n 1, 1) by decide +kernel) ?_
        refine hg_iload (pc := 65) (i := 4) hC 4 rfl (show decode prog_11_method_3_code 65 = .ok (.iload 4, 2) by decide +kernel) ?_
        refine hg_riald (pc := 67) (r := x1) hC (show decode prog_11_method_3_code 67 = .ok (.iaload, 1) by decide +kernel) h ?_
        intro e4 h
        obtain ⟨b5, hb6, h⟩ := dc_bind h
        obtain ⟨hb6, hv7⟩ := hg_chk_of (C := R_PI) rfl hb6
        refine hg_kVi (pc := 68) (b := b5) (r := e3) (As := [va_rf x2, .int e4]) (rest := [.int x4, va_rf e2]) (vo := fun q => q.2) (so := fun q => q.1) hC cw_SignalEngine_Program_141 (fun q hq => hm_PI_copyOf_ok l D G S b5 x2 e4 q hq) (Nat.le_of_ble_eq_true rfl) (Nat.le_of_ble_eq_true rfl) hb6 hv7 rfl (by simp only [List.map, va_rf_cat]; exact Nat.le_of_ble_eq_true rfl) (show decode prog_11_method_3_code 68 = .ok (.invokevirtual 141, 3) by decide +kernel) h ?_
        intro q8 h
        refine hg_riast (pc := 71) (r := e2) hC (show decode prog_11_method_3_code 71 = .ok (.iastore, 1) by decide +kernel) h ?_
        intro S9 h
        exact lab_72 S9 x3 x4 h
    rintro ⟨S, x3, x4⟩ h
    have h : dc_wp (hm_PG_giveNumbers_b5 G S o x1 x2 x3 x4) F_5 := h
    delta hm_PG_giveNumbers_b5 at h
    refine hg_iload (pc := 5) (i := 4) hC 4 rfl (show decode prog_11_method_3_code 5 = .ok (.iload 4, 2) by decide +kernel) ?_
    refine hg_aloadn (pc := 7) (j := 0) (i := 0) (r := (some o)) hC 0 rfl rfl (show decode prog_11_method_3_code 7 = .ok (.aload_n 0, 1) by decide +kernel) ?_
    refine hg_rgr (pc := 8) (r := (some o)) hC fl_SignalEngine_Program_69 (show decode prog_11_method_3_code 8 = .ok (.getfield 69, 3) by decide +kernel) h ?_
    intro e10 h
    refine hg_rlen (pc := 11) (r := e10) (t := 0) hC rfl (show decode prog_11_method_3_code 11 = .ok (.arraylength, 1) by decide +kernel) h ?_
    intro e11 h
    refine hg_icmp_ge (pc := 12) (tgt := 78) hC (show decode prog_11_method_3_code 12 = .ok (.if_icmp .ge 66, 3) by decide +kernel) (by decide +kernel) h ?_ ?_
    · intro h
      refine hg_aloadn (pc := 15) (j := 0) (i := 0) (r := (some o)) hC 0 rfl rfl (show decode prog_11_method_3_code 15 = .ok (.aload_n 0, 1) by decide +kernel) ?_
      refine hg_rgr (pc := 16) (r := (some o)) hC fl_SignalEngine_Program_94 (show decode prog_11_method_3_code 16 = .ok (.getfield 94, 3) by decide +kernel) h ?_
      intro e12 h
      refine hg_iload (pc := 19) (i := 4) hC 4 rfl (show decode prog_11_method_3_code 19 = .ok (.iload 4, 2) by decide +kernel) ?_
      refine hg_iloadn (pc := 21) (j := 3) (i := 3) hC 3 rfl rfl (show decode prog_11_method_3_code 21 = .ok (.iload_n 3, 1) by decide +kernel) ?_
      refine hg_riast (pc := 22) (r := e12) hC (show decode prog_11_method_3_code 22 = .ok (.iastore, 1) by decide +kernel) h ?_
      intro S13 h
      refine hg_aloadn (pc := 23) (j := 0) (i := 0) (r := (some o)) hC 0 rfl rfl (show decode prog_11_method_3_code 23 = .ok (.aload_n 0, 1) by decide +kernel) ?_
      refine hg_rgr (pc := 24) (r := (some o)) hC fl_SignalEngine_Program_69 (show decode prog_11_method_3_code 24 = .ok (.getfield 69, 3) by decide +kernel) h ?_
      intro e14 h
      refine hg_iload (pc := 27) (i := 4) hC 4 rfl (show decode prog_11_method_3_code 27 = .ok (.iload 4, 2) by decide +kernel) ?_
      refine hg_riald (pc := 29) (r := e14) hC (show decode prog_11_method_3_code 29 = .ok (.iaload, 1) by decide +kernel) h ?_
      intro e15 h
      refine hg_iconst (pc := 30) (v := 1) hC (show decode prog_11_method_3_code 30 = .ok (.iconst 1, 1) by decide +kernel) (by decide +kernel) ?_
      refine hg_icmp_ne (pc := 31) (tgt := 45) hC (show decode prog_11_method_3_code 31 = .ok (.if_icmp .ne 14, 3) by decide +kernel) (by decide +kernel) h ?_ ?_
      · intro h
        refine hg_aloadn (pc := 34) (j := 0) (i := 0) (r := (some o)) hC 0 rfl rfl (show decode prog_11_method_3_code 34 = .ok (.aload_n 0, 1) by decide +kernel) ?_
        refine hg_rgr (pc := 35) (r := (some o)) hC fl_SignalEngine_Program_82 (show decode prog_11_method_3_code 35 = .ok (.getfield 82, 3) by decide +kernel) h ?_
        intro e16 h
        refine hg_iload (pc := 38) (i := 4) hC 4 rfl (show decode prog_11_method_3_code 38 = .ok (.iload 4, 2) by decide +kernel) ?_
        refine hg_iloadn (pc := 40) (j := 3) (i := 3) hC 3 rfl rfl (show decode prog_11_method_3_code 40 = .ok (.iload_n 3, 1) by decide +kernel) ?_
        refine hg_riast (pc := 41) (r := e16) hC (show decode prog_11_method_3_code 41 = .ok (.iastore, 1) by decide +kernel) h ?_
        intro S17 h
        refine hg_iinc (pc := 42) (i := 3) (v := (x3 + 1)) (lv' := [(3, .int (x3 + 1)), (0, va_rf (some o)), (1, va_rf x1), (2, va_rf x2), (4, .int x4)]) hC 3 rfl rfl (Nat.le_of_ble_eq_true rfl) (by simp [va_rf_cat, hg_cti]) (show decode prog_11_method_3_code 42 = .ok (.iinc 3 1, 3) by decide +kernel) ?_
        exact hg_sub [1, 2, 3, 0, 4] rfl (lab_45 S17 (x3 + 1) x4 h)
      · intro h
        exact lab_45 S13 x3 x4 h
    · intro h
      have h : dc_wp (hm_PG_giveNumbers_L78 G S o) F := hr_5 S (dc_some h)
      exact hg_sub [0] rfl (lab_78 S h)
  have lab_5 : ∀ (S : hg_S) (x1 : Option Nat) (x2 : Option Nat) (x3 : Int32) (x4 : Int32), dc_wp (hm_PG_giveNumbers_L5 G S o x1 x2 x3 x4) F → hg_G X l (hg_rm 2 49 Z) D 5 S 5 [(0, va_rf (some o)), (1, va_rf x1), (2, va_rf x2), (3, .int x3), (4, .int x4)] [] := fun S x1 x2 x3 x4 h => loop_5 x1 x2 (S, x3, x4) (dc_bind h)
  show hg_G X l (hg_rm 2 49 Z) D 5 Z 0 [(0, va_rf (some o)), (1, va_rf p1), (2, va_rf p2)] []
  have h : dc_wp (hm_PG_giveNumbers G Z o p1 p2) F := h
  delta hm_PG_giveNumbers at h
  refine hg_iconst (pc := 0) (v := 0) hC (show decode prog_11_method_3_code 0 = .ok (.iconst 0, 1) by decide +kernel) (by decide +kernel) ?_
  refine hg_istoren (pc := 1) (j := 3) (i := 3) (lv' := [(3, .int 0), (0, va_rf (some o)), (1, va_rf p1), (2, va_rf p2)]) hC rfl (Nat.le_of_ble_eq_true rfl) (by simp [va_rf_cat, hg_cti]) (show decode prog_11_method_3_code 1 = .ok (.istore_n 3, 1) by decide +kernel) ?_
  refine hg_iconst (pc := 2) (v := 0) hC (show decode prog_11_method_3_code 2 = .ok (.iconst 0, 1) by decide +kernel) (by decide +kernel) ?_
  refine hg_istore (pc := 3) (i := 4) (lv' := [(4, .int 0), (3, .int 0), (0, va_rf (some o)), (1, va_rf p1), (2, va_rf p2)]) hC (Nat.le_of_ble_eq_true rfl) rfl (show decode prog_11_method_3_code 3 = .ok (.istore 4, 2) by decide +kernel) ?_
  exact hg_sub [2, 3, 4, 1, 0] rfl (lab_5 Z p1 p2 0 0 h)
noncomputable def hm_PG_boundPauses_L100 (G : hg_E) (S : hg_S) (o : Nat) : Option (hg_S) :=
  some S
noncomputable def hm_PG_boundPauses_L94 (G : hg_E) (S : hg_S) (o : Nat) (x1 : Int32) : Option ((hg_S × Int32) ⊕ ((hg_S))) :=
  some (.inl (S, (x1 + (-1))))
noncomputable def hm_PG_boundPauses_L67 (G : hg_E) (S : hg_S) (o : Nat) (x1 : Int32) : Option ((hg_S × Int32) ⊕ ((hg_S))) :=
  (hg_gr S (some o) 9 9).bind fun e1 => (hg_ld S e1 (G.1 0) x1).bind fun e2 => if e2 = (-1) then (hm_PG_boundPauses_L94 G S o x1) else ((hg_gr S (some o) 9 16).bind fun e3 => (hg_gr S (some o) 9 16).bind fun e4 => (hg_gr S (some o) 9 9).bind fun e5 => (hg_ld S e5 (G.1 0) x1).bind fun e6 => (hg_ld S e4 (G.1 0) e6).bind fun e7 => (hg_st S e3 (G.1 0) x1 e7).bind fun S8 => hm_PG_boundPauses_L94 G S8 o x1)
noncomputable def hm_PG_boundPauses_L38 (G : hg_E) (S : hg_S) (o : Nat) (x1 : Int32) (y0 : Int32) (y1 : Int32) (y2 : Int32) (y3 : Option Nat) : Option ((hg_S × Int32) ⊕ ((hg_S))) :=
  (hg_st S y3 (G.1 0) y2 (y1 + y0)).bind fun S9 => (hg_gr S9 (some o) 9 8).bind fun e10 => (hg_ld S9 e10 (G.1 0) x1).bind fun e11 => if e11 = (-1) then (hm_PG_boundPauses_L67 G S9 o x1) else ((hg_gr S9 (some o) 9 16).bind fun e12 => (hg_gr S9 (some o) 9 16).bind fun e13 => (hg_gr S9 (some o) 9 8).bind fun e14 => (hg_ld S9 e14 (G.1 0) x1).bind fun e15 => (hg_ld S9 e13 (G.1 0) e15).bind fun e16 => (hg_st S9 e12 (G.1 0) x1 e16).bind fun S17 => hm_PG_boundPauses_L67 G S17 o x1)
noncomputable def hm_PG_boundPauses_b8 (G : hg_E) (S : hg_S) (o : Nat) (x1 : Int32) : Option ((hg_S × Int32) ⊕ ((hg_S))) :=
  if x1 < 0 then (some (.inr S)) else ((hg_gr S (some o) 9 16).bind fun e18 => (hg_gr S (some o) 9 15).bind fun e19 => (hg_ld S e19 (G.1 0) x1).bind fun e20 => (hg_gr S (some o) 9 7).bind fun e21 => (hg_ld S e21 (G.1 0) x1).bind fun e22 => if e22 = 1 then (hm_PG_boundPauses_L38 G S o x1 1 e20 x1 e18) else (hm_PG_boundPauses_L38 G S o x1 0 e20 x1 e18))
noncomputable def hm_PG_boundPauses_s8 (G : hg_E) (o : Nat) (q : hg_S × Int32) : Option ((hg_S × Int32) ⊕ ((hg_S))) :=
  hm_PG_boundPauses_b8 G q.1 o q.2
noncomputable def hm_PG_boundPauses_L8 (G : hg_E) (S : hg_S) (o : Nat) (x1 : Int32) : Option (hg_S) :=
  (dc_it (hm_PG_boundPauses_s8 G o) (S, x1)).bind (fun (z : hg_S) => hm_PG_boundPauses_L100 G z o)
noncomputable def hm_PG_boundPauses (G : hg_E) (S : hg_S) (o : Nat) : Option (hg_S) :=
  (hg_gr S (some o) 9 7).bind fun e23 => (hg_ln S e23 (G.1 0)).bind fun e24 => dc_let ((e24 - 1) : Int32) fun v25 => hm_PG_boundPauses_L8 G S o v25
set_option maxHeartbeats 4000000 in
set_option maxRecDepth 100000 in
/-- SignalEngine$Program.boundPauses()V -/
theorem hm_PG_boundPauses_ok (l : Launch) (D : va_G) (G : hg_E) (Z : hg_S) (o : Nat) (q : hg_S) (hq : hm_PG_boundPauses G Z o = some q) : hg_C l ⟨"SignalEngine$Program", "boundPauses", "()V"⟩ prog_11_method_4_code 2 none 0 0 D G [.ref o] Z (.inl (none, q) : hg_O) := by
  refine hg_start (cv := fun q => (.inl (none, q) : hg_O)) hq ?_
  intro F hF h
  refine hg_enter (lv := [(0, va_rf (some o))]) (by decide +kernel) (by simp [lg_sl, va_rf_cat, hg_cti, hg_ctr]) (by simp [lv_args, va_rf_cat, va_rf_some, hg_cti, hg_ctr]) ?_
  intro X hC hR
  have lab_100 : ∀ (S : hg_S), dc_wp (hm_PG_boundPauses_L100 G S o) F → hg_G X l (hg_rm 0 0 Z) D 2 S 100 [(0, va_rf (some o))] [] := by
    intro S  h
    delta hm_PG_boundPauses_L100 at h
    exact hg_vret (pc := 100) hC hR (hF _ (dc_some h)) (show decode prog_11_method_4_code 100 = .ok (.return_, 1) by decide +kernel)
  have loop_8 : ∀ (q : hg_S × Int32), dc_wp (dc_it (hm_PG_boundPauses_s8 G o) q) (fun z => dc_wp ((fun (z : hg_S) => hm_PG_boundPauses_L100 G z o) z) F) → hg_G X l (hg_rm 0 0 Z) D 2 q.1 8 [(0, va_rf (some o)), (1, .int q.2)] [] := by
    refine dc_loopF ?_
    intro F_8 hl_8 hr_8
    have lab_94 : ∀ (S : hg_S) (x1 : Int32), dc_wp (hm_PG_boundPauses_L94 G S o x1) F_8 → hg_G X l (hg_rm 0 0 Z) D 2 S 94 [(0, va_rf (some o)), (1, .int x1)] [] := by
      intro S x1 h
      delta hm_PG_boundPauses_L94 at h
      refine hg_iinc (pc := 94) (i := 1) (v := (x1 + (-1))) (lv' := [(1, .int (x1 + (-1))), (0, va_rf (some o))]) hC 1 rfl (congrArg (fun z => x1 + z) (show Int32.ofInt (-1) = (-1 : Int32) by decide +kernel)) (Nat.le_of_ble_eq_true rfl) rfl (show decode prog_11_method_4_code 94 = .ok (.iinc 1 (-1), 3) by decide +kernel) ?_
      refine hg_goto (pc := 97) (tgt := 8) hC (show decode prog_11_method_4_code 97 = .ok (.goto (-89), 3) by decide +kernel) (by decide +kernel) ?_
      exact hg_sub [1, 0] rfl (hl_8 ((S, (x1 + (-1)))) (dc_some h))
    have lab_67 : ∀ (S : hg_S) (x1 : Int32), dc_wp (hm_PG_boundPauses_L67 G S o x1) F_8 → hg_G X l (hg_rm 0 0 Z) D 2 S 67 [(0, va_rf (some o)), (1, .int x1)] [] := by
      intro S x1 h
      delta hm_PG_boundPauses_L67 at h
      refine hg_aloadn (pc := 67) (j := 0) (i := 0) (r := (some o)) hC 0 rfl rfl (show decode prog_11_method_4_code 67 = .ok (.aload_n 0, 1) by decide +kernel) ?_
      refine hg_rgr (pc := 68) (r := (some o)) hC fl_SignalEngine_Program_76 (show decode prog_11_method_4_code 68 = .ok (.getfield 76, 3) by decide +kernel) h ?_
      intro e1 h
      refine hg_iloadn (pc := 71) (j := 1) (i := 1) hC 1 rfl rfl (show decode prog_11_method_4_code 71 = .ok (.iload_n 1, 1) by decide +kernel) ?_
      refine hg_riald (pc := 72) (r := e1) hC (show decode prog_11_method_4_code 72 = .ok (.iaload, 1) by decide +kernel) h ?_
      intro e2 h
      refine hg_iconst (pc := 73) (v := (-1)) hC (show decode prog_11_method_4_code 73 = .ok (.iconst (-1), 1) by decide +kernel) (by decide +kernel) ?_
      refine hg_icmp_eq (pc := 74) (tgt := 94) hC (show decode prog_11_method_4_code 74 = .ok (.if_icmp .eq 20, 3) by decide +kernel) (by decide +kernel) h ?_ ?_
      · intro h
        exact lab_94 S x1 h
      · intro h
        refine hg_aloadn (pc := 77) (j := 0) (i := 0) (r := (some o)) hC 0 rfl rfl (show decode prog_11_method_4_code 77 = .ok (.aload_n 0, 1) by decide +kernel) ?_
        refine hg_rgr (pc := 78) (r := (some o)) hC fl_SignalEngine_Program_97 (show decode prog_11_method_4_code 78 = .ok (.getfield 97, 3) by decide +kernel) h ?_
        intro e3 h
        refine hg_iloadn (pc := 81) (j := 1) (i := 1) hC 1 rfl rfl (show decode prog_11_method_4_code 81 = .ok (.iload_n 1, 1) by decide +kernel) ?_
        refine hg_aloadn (pc := 82) (j := 0) (i := 0) (r := (some o)) hC 0 rfl rfl (show decode prog_11_method_4_code 82 = .ok (.aload_n 0, 1) by decide +kernel) ?_
        refine hg_rgr (pc := 83) (r := (some o)) hC fl_SignalEngine_Program_97 (show decode prog_11_method_4_code 83 = .ok (.getfield 97, 3) by decide +kernel) h ?_
        intro e4 h
        refine hg_aloadn (pc := 86) (j := 0) (i := 0) (r := (some o)) hC 0 rfl rfl (show decode prog_11_method_4_code 86 = .ok (.aload_n 0, 1) by decide +kernel) ?_
        refine hg_rgr (pc := 87) (r := (some o)) hC fl_SignalEngine_Program_76 (show decode prog_11_method_4_code 87 = .ok (.getfield 76, 3) by decide +kernel) h ?_
        intro e5 h
        refine hg_iloadn (pc := 90) (j := 1) (i := 1) hC 1 rfl rfl (show decode prog_11_method_4_code 90 = .ok (.iload_n 1, 1) by decide +kernel) ?_
        refine hg_riald (pc := 91) (r := e5) hC (show decode prog_11_method_4_code 91 = .ok (.iaload, 1) by decide +kernel) h ?_
        intro e6 h
        refine hg_riald (pc := 92) (r := e4) hC (show decode prog_11_method_4_code 92 = .ok (.iaload, 1) by decide +kernel) h ?_
        intro e7 h
        refine hg_riast (pc := 93) (r := e3) hC (show decode prog_11_method_4_code 93 = .ok (.iastore, 1) by decide +kernel) h ?_
        intro S8 h
        exact lab_94 S8 x1 h
    have lab_38 : ∀ (S : hg_S) (x1 : Int32) (y0 : Int32) (y1 : Int32) (y2 : Int32) (y3 : Option Nat), dc_wp (hm_PG_boundPauses_L38 G S o x1 y0 y1 y2 y3) F_8 → hg_G X l (hg_rm 0 0 Z) D 2 S 38 [(0, va_rf (some o)), (1, .int x1)] [.int y0, .int y1, .int y2, va_rf y3] := by
      intro S x1 y0 y1 y2 y3 h
      delta hm_PG_boundPauses_L38 at h
      refine hg_iadd (pc := 38) hC (show decode prog_11_method_4_code 38 = .ok (.iadd, 1) by decide +kernel) ?_
      refine hg_riast (pc := 39) (r := y3) hC (show decode prog_11_method_4_code 39 = .ok (.iastore, 1) by decide +kernel) h ?_
      intro S9 h
      refine hg_aloadn (pc := 40) (j := 0) (i := 0) (r := (some o)) hC 0 rfl rfl (show decode prog_11_method_4_code 40 = .ok (.aload_n 0, 1) by decide +kernel) ?_
      refine hg_rgr (pc := 41) (r := (some o)) hC fl_SignalEngine_Program_73 (show decode prog_11_method_4_code 41 = .ok (.getfield 73, 3) by decide +kernel) h ?_
      intro e10 h
      refine hg_iloadn (pc := 44) (j := 1) (i := 1) hC 1 rfl rfl (show decode prog_11_method_4_code 44 = .ok (.iload_n 1, 1) by decide +kernel) ?_
      refine hg_riald (pc := 45) (r := e10) hC (show decode prog_11_method_4_code 45 = .ok (.iaload, 1) by decide +kernel) h ?_
      intro e11 h
      refine hg_iconst (pc := 46) (v := (-1)) hC (show decode prog_11_method_4_code 46 = .ok (.iconst (-1), 1) by decide +kernel) (by decide +kernel) ?_
      refine hg_icmp_eq (pc := 47) (tgt := 67) hC (show decode prog_11_method_4_code 47 = .ok (.if_icmp .eq 20, 3) by decide +kernel) (by decide +kernel) h ?_ ?_
      · intro h
        exact lab_67 S9 x1 h
      · intro h
        refine hg_aloadn (pc := 50) (j := 0) (i := 0) (r := (some o)) hC 0 rfl rfl (show decode prog_11_method_4_code 50 = .ok (.aload_n 0, 1) by decide +kernel) ?_
        refine hg_rgr (pc := 51) (r := (some o)) hC fl_SignalEngine_Program_97 (show decode prog_11_method_4_code 51 = .ok (.getfield 97, 3) by decide +kernel) h ?_
        intro e12 h
        refine hg_iloadn (pc := 54) (j := 1) (i := 1) hC 1 rfl rfl (show decode prog_11_method_4_code 54 = .ok (.iload_n 1, 1) by decide +kernel) ?_
        refine hg_aloadn (pc := 55) (j := 0) (i := 0) (r := (some o)) hC 0 rfl rfl (show decode prog_11_method_4_code 55 = .ok (.aload_n 0, 1) by decide +kernel) ?_
        refine hg_rgr (pc := 56) (r := (some o)) hC fl_SignalEngine_Program_97 (show decode prog_11_method_4_code 56 = .ok (.getfield 97, 3) by decide +kernel) h ?_
        intro e13 h
        refine hg_aloadn (pc := 59) (j := 0) (i := 0) (r := (some o)) hC 0 rfl rfl (show decode prog_11_method_4_code 59 = .ok (.aload_n 0, 1) by decide +kernel) ?_
        refine hg_rgr (pc := 60) (r := (some o)) hC fl_SignalEngine_Program_73 (show decode prog_11_method_4_code 60 = .ok (.getfield 73, 3) by decide +kernel) h ?_
        intro e14 h
        refine hg_iloadn (pc := 63) (j := 1) (i := 1) hC 1 rfl rfl (show decode prog_11_method_4_code 63 = .ok (.iload_n 1, 1) by decide +kernel) ?_
        refine hg_riald (pc := 64) (r := e14) hC (show decode prog_11_method_4_code 64 = .ok (.iaload, 1) by decide +kernel) h ?_
        intro e15 h
        refine hg_riald (pc := 65) (r := e13) hC (show decode prog_11_method_4_code 65 = .ok (.iaload, 1) by decide +kernel) h ?_
        intro e16 h
        refine hg_riast (pc := 66) (r := e12) hC (show decode prog_11_method_4_code 66 = .ok (.iastore, 1) by decide +kernel) h ?_
        intro S17 h
        exact lab_67 S17 x1 h
    rintro ⟨S, x1⟩ h
    have h : dc_wp (hm_PG_boundPauses_b8 G S o x1) F_8 := h
    delta hm_PG_boundPauses_b8 at h
    refine hg_iloadn (pc := 8) (j := 1) (i := 1) hC 1 rfl rfl (show decode prog_11_method_4_code 8 = .ok (.iload_n 1, 1) by decide +kernel) ?_
    refine hg_if_lt (pc := 9) (tgt := 100) hC (show decode prog_11_method_4_code 9 = .ok (.ifCond .lt 91, 3) by decide +kernel) (by decide +kernel) h ?_ ?_
    · intro h
      have h : dc_wp (hm_PG_boundPauses_L100 G S o) F := hr_8 S (dc_some h)
      exact hg_sub [0] rfl (lab_100 S h)
    · intro h
      refine hg_aloadn (pc := 12) (j := 0) (i := 0) (r := (some o)) hC 0 rfl rfl (show decode prog_11_method_4_code 12 = .ok (.aload_n 0, 1) by decide +kernel) ?_
      refine hg_rgr (pc := 13) (r := (some o)) hC fl_SignalEngine_Program_97 (show decode prog_11_method_4_code 13 = .ok (.getfield 97, 3) by decide +kernel) h ?_
      intro e18 h
      refine hg_iloadn (pc := 16) (j := 1) (i := 1) hC 1 rfl rfl (show decode prog_11_method_4_code 16 = .ok (.iload_n 1, 1) by decide +kernel) ?_
      refine hg_aloadn (pc := 17) (j := 0) (i := 0) (r := (some o)) hC 0 rfl rfl (show decode prog_11_method_4_code 17 = .ok (.aload_n 0, 1) by decide +kernel) ?_
      refine hg_rgr (pc := 18) (r := (some o)) hC fl_SignalEngine_Program_94 (show decode prog_11_method_4_code 18 = .ok (.getfield 94, 3) by decide +kernel) h ?_
      intro e19 h
      refine hg_iloadn (pc := 21) (j := 1) (i := 1) hC 1 rfl rfl (show decode prog_11_method_4_code 21 = .ok (.iload_n 1, 1) by decide +kernel) ?_
      refine hg_riald (pc := 22) (r := e19) hC (show decode prog_11_method_4_code 22 = .ok (.iaload, 1) by decide +kernel) h ?_
      intro e20 h
      refine hg_aloadn (pc := 23) (j := 0) (i := 0) (r := (some o)) hC 0 rfl rfl (show decode prog_11_method_4_code 23 = .ok (.aload_n 0, 1) by decide +kernel) ?_
      refine hg_rgr (pc := 24) (r := (some o)) hC fl_SignalEngine_Program_69 (show decode prog_11_method_4_code 24 = .ok (.getfield 69, 3) by decide +kernel) h ?_
      intro e21 h
      refine hg_iloadn (pc := 27) (j := 1) (i := 1) hC 1 rfl rfl (show decode prog_11_method_4_code 27 = .ok (.iload_n 1, 1) by decide +kernel) ?_
      refine hg_riald (pc := 28) (r := e21) hC (show decode prog_11_method_4_code 28 = .ok (.iaload, 1) by decide +kernel) h ?_
      intro e22 h
      refine hg_iconst (pc := 29) (v := 1) hC (show decode prog_11_method_4_code 29 = .ok (.iconst 1, 1) by decide +kernel) (by decide +kernel) ?_
      refine hg_icmp_ne (pc := 30) (tgt := 37) hC (show decode prog_11_method_4_code 30 = .ok (.if_icmp .ne 7, 3) by decide +kernel) (by decide +kernel) h ?_ ?_
      · intro h
        refine hg_iconst (pc := 33) (v := 1) hC (show decode prog_11_method_4_code 33 = .ok (.iconst 1, 1) by decide +kernel) (by decide +kernel) ?_
        refine hg_goto (pc := 34) (tgt := 38) hC (show decode prog_11_method_4_code 34 = .ok (.goto 4, 3) by decide +kernel) (by decide +kernel) ?_
        exact lab_38 S x1 1 e20 x1 e18 h
      · intro h
        refine hg_iconst (pc := 37) (v := 0) hC (show decode prog_11_method_4_code 37 = .ok (.iconst 0, 1) by decide +kernel) (by decide +kernel) ?_
        exact lab_38 S x1 0 e20 x1 e18 h
  have lab_8 : ∀ (S : hg_S) (x1 : Int32), dc_wp (hm_PG_boundPauses_L8 G S o x1) F → hg_G X l (hg_rm 0 0 Z) D 2 S 8 [(0, va_rf (some o)), (1, .int x1)] [] := fun S x1 h => loop_8  (S, x1) (dc_bind h)
  show hg_G X l (hg_rm 0 0 Z) D 2 Z 0 [(0, va_rf (some o))] []
  have h : dc_wp (hm_PG_boundPauses G Z o) F := h
  delta hm_PG_boundPauses at h
  refine hg_aloadn (pc := 0) (j := 0) (i := 0) (r := (some o)) hC 0 rfl rfl (show decode prog_11_method_4_code 0 = .ok (.aload_n 0, 1) by decide +kernel) ?_
  refine hg_rgr (pc := 1) (r := (some o)) hC fl_SignalEngine_Program_69 (show decode prog_11_method_4_code 1 = .ok (.getfield 69, 3) by decide +kernel) h ?_
  intro e23 h
  refine hg_rlen (pc := 4) (r := e23) (t := 0) hC rfl (show decode prog_11_method_4_code 4 = .ok (.arraylength, 1) by decide +kernel) h ?_
  intro e24 h
  refine hg_iconst (pc := 5) (v := 1) hC (show decode prog_11_method_4_code 5 = .ok (.iconst 1, 1) by decide +kernel) (by decide +kernel) ?_
  refine hg_isub (pc := 6) hC (show decode prog_11_method_4_code 6 = .ok (.isub, 1) by decide +kernel) ?_
  refine hg_letI h ?_
  intro v25 h
  refine hg_istoren (pc := 7) (j := 1) (i := 1) (lv' := [(1, .int v25), (0, va_rf (some o))]) hC rfl (Nat.le_of_ble_eq_true rfl) rfl (show decode prog_11_method_4_code 7 = .ok (.istore_n 1, 1) by decide +kernel) ?_
  exact hg_sub [1, 0] rfl (lab_8 Z v25 h)
noncomputable def hm_RE_givePlaces_L119 (G : hg_E) (S : hg_S) (o : Nat) (x1 : Int32) : Option (hg_S × Int32) :=
  some (S, x1)
noncomputable def hm_RE_givePlaces_L113 (G : hg_E) (S : hg_S) (o : Nat) (x1 : Int32) (x2 : Int32) : Option ((hg_S × Int32 × Int32) ⊕ ((hg_S × Int32))) :=
  some (.inl (S, x1, (x2 + 1)))
noncomputable def hm_RE_givePlaces_b45 (G : hg_E) (S : hg_S) (o : Nat) (x1 : Int32) (x2 : Int32) : Option ((hg_S × Int32 × Int32) ⊕ ((hg_S × Int32))) :=
  (hg_gr S (some o) 10 0).bind fun e1 => (hg_gr S e1 9 7).bind fun e2 => (hg_ln S e2 (G.1 0)).bind fun e3 => if x2 < e3 then ((hg_gr S (some o) 10 0).bind fun e4 => (hg_gr S e4 9 7).bind fun e5 => (hg_ld S e5 (G.1 0) x2).bind fun e6 => if e6 = 10 then ((hg_gr S (some o) 10 3).bind fun e7 => (hg_gr S (some o) 10 0).bind fun e8 => (hg_gr S e8 9 11).bind fun e9 => (hg_ld S e9 (G.1 0) x2).bind fun e10 => (hg_st S e7 (G.1 0) e10 x1).bind fun S11 => (hg_gr S11 (some o) 10 4).bind fun e12 => (hg_gr S11 (some o) 10 0).bind fun e13 => (hg_gr S11 e13 9 11).bind fun e14 => (hg_ld S11 e14 (G.1 0) x2).bind fun e15 => (hg_st S11 e12 (G.1 0) e15 x1).bind fun S16 => (hg_gr S16 (some o) 10 0).bind fun e17 => (hg_gr S16 e17 9 14).bind fun e18 => (hg_ld S16 e18 (G.1 0) x2).bind fun e19 => dc_let ((x1 + e19) : Int32) fun v20 => hm_RE_givePlaces_L113 G S16 o v20 x2) else (hm_RE_givePlaces_L113 G S o x1 x2)) else (some (.inr (S, x1)))
noncomputable def hm_RE_givePlaces_s45 (G : hg_E) (o : Nat) (q : hg_S × Int32 × Int32) : Option ((hg_S × Int32 × Int32) ⊕ ((hg_S × Int32))) :=
  hm_RE_givePlaces_b45 G q.1 o q.2.1 q.2.2
noncomputable def hm_RE_givePlaces_L45 (G : hg_E) (S : hg_S) (o : Nat) (x1 : Int32) (x2 : Int32) : Option (hg_S × Int32) :=
  (dc_it (hm_RE_givePlaces_s45 G o) (S, x1, x2)).bind (fun (z : hg_S × Int32) => hm_RE_givePlaces_L119 G z.1 o z.2)
noncomputable def hm_RE_givePlaces_L43 (G : hg_E) (S : hg_S) (o : Nat) (x1 : Int32) : Option (hg_S × Int32) :=
  hm_RE_givePlaces_L45 G S o x1 0
noncomputable def hm_RE_givePlaces_b18 (G : hg_E) (S : hg_S) (o : Nat) (x1 : Int32) (x2 : Int32) : Option ((hg_S × Int32) ⊕ ((hg_S))) :=
  if x2 < x1 then ((hg_gr S (some o) 10 3).bind fun e21 => (hg_st S e21 (G.1 0) x2 x2).bind fun S22 => (hg_gr S22 (some o) 10 4).bind fun e23 => (hg_st S22 e23 (G.1 0) x2 x2).bind fun S24 => some (.inl (S24, (x2 + 1)))) else (some (.inr S))
noncomputable def hm_RE_givePlaces_s18 (G : hg_E) (o : Nat) (x1 : Int32) (q : hg_S × Int32) : Option ((hg_S × Int32) ⊕ ((hg_S))) :=
  hm_RE_givePlaces_b18 G q.1 o x1 q.2
noncomputable def hm_RE_givePlaces_L18 (G : hg_E) (S : hg_S) (o : Nat) (x1 : Int32) (x2 : Int32) : Option (hg_S × Int32) :=
  (dc_it (hm_RE_givePlaces_s18 G o x1) (S, x2)).bind (fun (z : hg_S) => hm_RE_givePlaces_L43 G z o x1)
noncomputable def hm_RE_givePlaces (G : hg_E) (S : hg_S) (o : Nat) : Option (hg_S × Int32) :=
  (hg_gr S (some o) 10 0).bind fun e25 => (hg_gi S e25 9 1).bind fun e26 => (hg_gr S (some o) 10 0).bind fun e27 => (hg_gi S e27 9 2).bind fun e28 => dc_let ((e26 + e28) : Int32) fun v29 => hm_RE_givePlaces_L18 G S o v29 0
set_option maxHeartbeats 4000000 in
set_option maxRecDepth 100000 in
/-- SignalEngine$Reactor.givePlaces()I -/
theorem hm_RE_givePlaces_ok (l : Launch) (D : va_G) (G : hg_E) (Z : hg_S) (o : Nat) (q : hg_S × Int32) (hq : hm_RE_givePlaces G Z o = some q) : hg_C l ⟨"SignalEngine$Reactor", "givePlaces", "()I"⟩ prog_12_method_2_code 3 (some (.int)) 0 0 D G [.ref o] Z (.inl (some (.int q.2), q.1) : hg_O) := by
  refine hg_start (cv := fun q => (.inl (some (.int q.2), q.1) : hg_O)) hq ?_
  intro F hF h
  refine hg_enter (lv := [(0, va_rf (some o))]) (by decide +kernel) (by simp [lg_sl, va_rf_cat, hg_cti, hg_ctr]) (by simp [lv_args, va_rf_cat, va_rf_some, hg_cti, hg_ctr]) ?_
  intro X hC hR
  have lab_119 : ∀ (S : hg_S) (x1 : Int32), dc_wp (hm_RE_givePlaces_L119 G S o x1) F → hg_G X l (hg_rm 0 0 Z) D 3 S 119 [(0, va_rf (some o)), (1, .int x1)] [] := by
    intro S x1 h
    delta hm_RE_givePlaces_L119 at h
    refine hg_iloadn (pc := 119) (j := 1) (i := 1) hC 1 rfl rfl (show decode prog_12_method_2_code 119 = .ok (.iload_n 1, 1) by decide +kernel) ?_
    exact hg_iret (pc := 120) hC hR (hF _ (dc_some h)) (show decode prog_12_method_2_code 120 = .ok (.ireturn, 1) by decide +kernel)
  have loop_45 : ∀ (q : hg_S × Int32 × Int32), dc_wp (dc_it (hm_RE_givePlaces_s45 G o) q) (fun z => dc_wp ((fun (z : hg_S × Int32) => hm_RE_givePlaces_L119 G z.1 o z.2) z) F) → hg_G X l (hg_rm 0 0 Z) D 3 q.1 45 [(0, va_rf (some o)), (1, .int q.2.1), (2, .int q.2.2)] [] := by
    refine dc_loopF ?_
    intro F_45 hl_45 hr_45
    have lab_113 : ∀ (S : hg_S) (x1 : Int32) (x2 : Int32), dc_wp (hm_RE_givePlaces_L113 G S o x1 x2) F_45 → hg_G X l (hg_rm 0 0 Z) D 3 S 113 [(0, va_rf (some o)), (1, .int x1), (2, .int x2)] [] := by
      intro S x1 x2 h
      delta hm_RE_givePlaces_L113 at h
      refine hg_iinc (pc := 113) (i := 2) (v := (x2 + 1)) (lv' := [(2, .int (x2 + 1)), (0, va_rf (some o)), (1, .int x1)]) hC 2 rfl rfl (Nat.le_of_ble_eq_true rfl) rfl (show decode prog_12_method_2_code 113 = .ok (.iinc 2 1, 3) by decide +kernel) ?_
      refine hg_goto (pc := 116) (tgt := 45) hC (show decode prog_12_method_2_code 116 = .ok (.goto (-71), 3) by decide +kernel) (by decide +kernel) ?_
      exact hg_sub [1, 2, 0] rfl (hl_45 (S, x1, (x2 + 1)) (dc_some h))
    rintro ⟨S, x1, x2⟩ h
    have h : dc_wp (hm_RE_givePlaces_b45 G S o x1 x2) F_45 := h
    delta hm_RE_givePlaces_b45 at h
    refine hg_iloadn (pc := 45) (j := 2) (i := 2) hC 2 rfl rfl (show decode prog_12_method_2_code 45 = .ok (.iload_n 2, 1) by decide +kernel) ?_
    refine hg_aloadn (pc := 46) (j := 0) (i := 0) (r := (some o)) hC 0 rfl rfl (show decode prog_12_method_2_code 46 = .ok (.aload_n 0, 1) by decide +kernel) ?_
    refine hg_rgr (pc := 47) (r := (some o)) hC fl_SignalEngine_Reactor_9 (show decode prog_12_method_2_code 47 = .ok (.getfield 9, 3) by decide +kernel) h ?_
    intro e1 h
    refine hg_rgr (pc := 50) (r := e1) hC fl_SignalEngine_Reactor_15 (show decode prog_12_method_2_code 50 = .ok (.getfield 15, 3) by decide +kernel) h ?_
    intro e2 h
    refine hg_rlen (pc := 53) (r := e2) (t := 0) hC rfl (show decode prog_12_method_2_code 53 = .ok (.arraylength, 1) by decide +kernel) h ?_
    intro e3 h
    refine hg_icmp_ge (pc := 54) (tgt := 119) hC (show decode prog_12_method_2_code 54 = .ok (.if_icmp .ge 65, 3) by decide +kernel) (by decide +kernel) h ?_ ?_
    · intro h
      refine hg_aloadn (pc := 57) (j := 0) (i := 0) (r := (some o)) hC 0 rfl rfl (show decode prog_12_method_2_code 57 = .ok (.aload_n 0, 1) by decide +kernel) ?_
      refine hg_rgr (pc := 58) (r := (some o)) hC fl_SignalEngine_Reactor_9 (show decode prog_12_method_2_code 58 = .ok (.getfield 9, 3) by decide +kernel) h ?_
      intro e4 h
      refine hg_rgr (pc := 61) (r := e4) hC fl_SignalEngine_Reactor_15 (show decode prog_12_method_2_code 61 = .ok (.getfield 15, 3) by decide +kernel) h ?_
      intro e5 h
      refine hg_iloadn (pc := 64) (j := 2) (i := 2) hC 2 rfl rfl (show decode prog_12_method_2_code 64 = .ok (.iload_n 2, 1) by decide +kernel) ?_
      refine hg_riald (pc := 65) (r := e5) hC (show decode prog_12_method_2_code 65 = .ok (.iaload, 1) by decide +kernel) h ?_
      intro e6 h
      refine hg_bipush (pc := 66) (v := 10) hC (show decode prog_12_method_2_code 66 = .ok (.bipush 10, 2) by decide +kernel) (by decide +kernel) ?_
      refine hg_icmp_ne (pc := 68) (tgt := 113) hC (show decode prog_12_method_2_code 68 = .ok (.if_icmp .ne 45, 3) by decide +kernel) (by decide +kernel) h ?_ ?_
      · intro h
        refine hg_aloadn (pc := 71) (j := 0) (i := 0) (r := (some o)) hC 0 rfl rfl (show decode prog_12_method_2_code 71 = .ok (.aload_n 0, 1) by decide +kernel) ?_
        refine hg_rgr (pc := 72) (r := (some o)) hC fl_SignalEngine_Reactor_31 (show decode prog_12_method_2_code 72 = .ok (.getfield 31, 3) by decide +kernel) h ?_
        intro e7 h
        refine hg_aloadn (pc := 75) (j := 0) (i := 0) (r := (some o)) hC 0 rfl rfl (show decode prog_12_method_2_code 75 = .ok (.aload_n 0, 1) by decide +kernel) ?_
        refine hg_rgr (pc := 76) (r := (some o)) hC fl_SignalEngine_Reactor_9 (show decode prog_12_method_2_code 76 = .ok (.getfield 9, 3) by decide +kernel) h ?_
        intro e8 h
        refine hg_rgr (pc := 79) (r := e8) hC fl_SignalEngine_Reactor_85 (show decode prog_12_method_2_code 79 = .ok (.getfield 85, 3) by decide +kernel) h ?_
        intro e9 h
        refine hg_iloadn (pc := 82) (j := 2) (i := 2) hC 2 rfl rfl (show decode prog_12_method_2_code 82 = .ok (.iload_n 2, 1) by decide +kernel) ?_
        refine hg_riald (pc := 83) (r := e9) hC (show decode prog_12_method_2_code 83 = .ok (.iaload, 1) by decide +kernel) h ?_
        intro e10 h
        refine hg_iloadn (pc := 84) (j := 1) (i := 1) hC 1 rfl rfl (show decode prog_12_method_2_code 84 = .ok (.iload_n 1, 1) by decide +kernel) ?_
        refine hg_riast (pc := 85) (r := e7) hC (show decode prog_12_method_2_code 85 = .ok (.iastore, 1) by decide +kernel) h ?_
        intro S11 h
        refine hg_aloadn (pc := 86) (j := 0) (i := 0) (r := (some o)) hC 0 rfl rfl (show decode prog_12_method_2_code 86 = .ok (.aload_n 0, 1) by decide +kernel) ?_
        refine hg_rgr (pc := 87) (r := (some o)) hC fl_SignalEngine_Reactor_34 (show decode prog_12_method_2_code 87 = .ok (.getfield 34, 3) by decide +kernel) h ?_
        intro e12 h
        refine hg_aloadn (pc := 90) (j := 0) (i := 0) (r := (some o)) hC 0 rfl rfl (show decode prog_12_method_2_code 90 = .ok (.aload_n 0, 1) by decide +kernel) ?_
        refine hg_rgr (pc := 91) (r := (some o)) hC fl_SignalEngine_Reactor_9 (show decode prog_12_method_2_code 91 = .ok (.getfield 9, 3) by decide +kernel) h ?_
        intro e13 h
        refine hg_rgr (pc := 94) (r := e13) hC fl_SignalEngine_Reactor_85 (show decode prog_12_method_2_code 94 = .ok (.getfield 85, 3) by decide +kernel) h ?_
        intro e14 h
        refine hg_iloadn (pc := 97) (j := 2) (i := 2) hC 2 rfl rfl (show decode prog_12_method_2_code 97 = .ok (.iload_n 2, 1) by decide +kernel) ?_
        refine hg_riald (pc := 98) (r := e14) hC (show decode prog_12_method_2_code 98 = .ok (.iaload, 1) by decide +kernel) h ?_
        intro e15 h
        refine hg_iloadn (pc := 99) (j := 1) (i := 1) hC 1 rfl rfl (show decode prog_12_method_2_code 99 = .ok (.iload_n 1, 1) by decide +kernel) ?_
        refine hg_riast (pc := 100) (r := e12) hC (show decode prog_12_method_2_code 100 = .ok (.iastore, 1) by decide +kernel) h ?_
        intro S16 h
        refine hg_iloadn (pc := 101) (j := 1) (i := 1) hC 1 rfl rfl (show decode prog_12_method_2_code 101 = .ok (.iload_n 1, 1) by decide +kernel) ?_
        refine hg_aloadn (pc := 102) (j := 0) (i := 0) (r := (some o)) hC 0 rfl rfl (show decode prog_12_method_2_code 102 = .ok (.aload_n 0, 1) by decide +kernel) ?_
        refine hg_rgr (pc := 103) (r := (some o)) hC fl_SignalEngine_Reactor_9 (show decode prog_12_method_2_code 103 = .ok (.getfield 9, 3) by decide +kernel) h ?_
        intro e17 h
        refine hg_rgr (pc := 106) (r := e17) hC fl_SignalEngine_Reactor_88 (show decode prog_12_method_2_code 106 = .ok (.getfield 88, 3) by decide +kernel) h ?_
        intro e18 h
        refine hg_iloadn (pc := 109) (j := 2) (i := 2) hC 2 rfl rfl (show decode prog_12_method_2_code 109 = .ok (.iload_n 2, 1) by decide +kernel) ?_
        refine hg_riald (pc := 110) (r := e18) hC (show decode prog_12_method_2_code 110 = .ok (.iaload, 1) by decide +kernel) h ?_
        intro e19 h
        refine hg_iadd (pc := 111) hC (show decode prog_12_method_2_code 111 = .ok (.iadd, 1) by decide +kernel) ?_
        refine hg_letI h ?_
        intro v20 h
        refine hg_istoren (pc := 112) (j := 1) (i := 1) (lv' := [(1, .int v20), (0, va_rf (some o)), (2, .int x2)]) hC rfl (Nat.le_of_ble_eq_true rfl) rfl (show decode prog_12_method_2_code 112 = .ok (.istore_n 1, 1) by decide +kernel) ?_
        exact hg_sub [1, 0, 2] rfl (lab_113 S16 v20 x2 h)
      · intro h
        exact lab_113 S x1 x2 h
    · intro h
      have h : dc_wp (hm_RE_givePlaces_L119 G S o x1) F := hr_45 (S, x1) (dc_some h)
      exact hg_sub [0, 1] rfl (lab_119 S x1 h)
  have lab_45 : ∀ (S : hg_S) (x1 : Int32) (x2 : Int32), dc_wp (hm_RE_givePlaces_L45 G S o x1 x2) F → hg_G X l (hg_rm 0 0 Z) D 3 S 45 [(0, va_rf (some o)), (1, .int x1), (2, .int x2)] [] := fun S x1 x2 h => loop_45  (S, x1, x2) (dc_bind h)
  have lab_43 : ∀ (S : hg_S) (x1 : Int32), dc_wp (hm_RE_givePlaces_L43 G S o x1) F → hg_G X l (hg_rm 0 0 Z) D 3 S 43 [(0, va_rf (some o)), (1, .int x1)] [] := by
    intro S x1 h
    delta hm_RE_givePlaces_L43 at h
    refine hg_iconst (pc := 43) (v := 0) hC (show decode prog_12_method_2_code 43 = .ok (.iconst 0, 1) by decide +kernel) (by decide +kernel) ?_
    refine hg_istoren (pc := 44) (j := 2) (i := 2) (lv' := [(2, .int 0), (0, va_rf (some o)), (1, .int x1)]) hC rfl (Nat.le_of_ble_eq_true rfl) rfl (show decode prog_12_method_2_code 44 = .ok (.istore_n 2, 1) by decide +kernel) ?_
    exact hg_sub [1, 2, 0] rfl (lab_45 S x1 0 h)
  have loop_18 : ∀ (x1 : Int32) (q : hg_S × Int32), dc_wp (dc_it (hm_RE_givePlaces_s18 G o x1) q) (fun z => dc_wp ((fun (z : hg_S) => hm_RE_givePlaces_L43 G z o x1) z) F) → hg_G X l (hg_rm 0 0 Z) D 3 q.1 18 [(0, va_rf (some o)), (1, .int x1), (2, .int q.2)] [] := by
    intro x1
    refine dc_loopF ?_
    intro F_18 hl_18 hr_18
    rintro ⟨S, x2⟩ h
    have h : dc_wp (hm_RE_givePlaces_b18 G S o x1 x2) F_18 := h
    delta hm_RE_givePlaces_b18 at h
    refine hg_iloadn (pc := 18) (j := 2) (i := 2) hC 2 rfl rfl (show decode prog_12_method_2_code 18 = .ok (.iload_n 2, 1) by decide +kernel) ?_
    refine hg_iloadn (pc := 19) (j := 1) (i := 1) hC 1 rfl rfl (show decode prog_12_method_2_code 19 = .ok (.iload_n 1, 1) by decide +kernel) ?_
    refine hg_icmp_ge (pc := 20) (tgt := 43) hC (show decode prog_12_method_2_code 20 = .ok (.if_icmp .ge 23, 3) by decide +kernel) (by decide +kernel) h ?_ ?_
    · intro h
      refine hg_aloadn (pc := 23) (j := 0) (i := 0) (r := (some o)) hC 0 rfl rfl (show decode prog_12_method_2_code 23 = .ok (.aload_n 0, 1) by decide +kernel) ?_
      refine hg_rgr (pc := 24) (r := (some o)) hC fl_SignalEngine_Reactor_31 (show decode prog_12_method_2_code 24 = .ok (.getfield 31, 3) by decide +kernel) h ?_
      intro e21 h
      refine hg_iloadn (pc := 27) (j := 2) (i := 2) hC 2 rfl rfl (show decode prog_12_method_2_code 27 = .ok (.iload_n 2, 1) by decide +kernel) ?_
      refine hg_iloadn (pc := 28) (j := 2) (i := 2) hC 2 rfl rfl (show decode prog_12_method_2_code 28 = .ok (.iload_n 2, 1) by decide +kernel) ?_
      refine hg_riast (pc := 29) (r := e21) hC (show decode prog_12_method_2_code 29 = .ok (.iastore, 1) by decide +kernel) h ?_
      intro S22 h
      refine hg_aloadn (pc := 30) (j := 0) (i := 0) (r := (some o)) hC 0 rfl rfl (show decode prog_12_method_2_code 30 = .ok (.aload_n 0, 1) by decide +kernel) ?_
      refine hg_rgr (pc := 31) (r := (some o)) hC fl_SignalEngine_Reactor_34 (show decode prog_12_method_2_code 31 = .ok (.getfield 34, 3) by decide +kernel) h ?_
      intro e23 h
      refine hg_iloadn (pc := 34) (j := 2) (i := 2) hC 2 rfl rfl (show decode prog_12_method_2_code 34 = .ok (.iload_n 2, 1) by decide +kernel) ?_
      refine hg_iloadn (pc := 35) (j := 2) (i := 2) hC 2 rfl rfl (show decode prog_12_method_2_code 35 = .ok (.iload_n 2, 1) by decide +kernel) ?_
      refine hg_riast (pc := 36) (r := e23) hC (show decode prog_12_method_2_code 36 = .ok (.iastore, 1) by decide +kernel) h ?_
      intro S24 h
      refine hg_iinc (pc := 37) (i := 2) (v := (x2 + 1)) (lv' := [(2, .int (x2 + 1)), (0, va_rf (some o)), (1, .int x1)]) hC 2 rfl rfl (Nat.le_of_ble_eq_true rfl) rfl (show decode prog_12_method_2_code 37 = .ok (.iinc 2 1, 3) by decide +kernel) ?_
      refine hg_goto (pc := 40) (tgt := 18) hC (show decode prog_12_method_2_code 40 = .ok (.goto (-22), 3) by decide +kernel) (by decide +kernel) ?_
      exact hg_sub [1, 2, 0] rfl (hl_18 (S24, (x2 + 1)) (dc_some h))
    · intro h
      have h : dc_wp (hm_RE_givePlaces_L43 G S o x1) F := hr_18 S (dc_some h)
      exact hg_sub [0, 1] rfl (lab_43 S x1 h)
  have lab_18 : ∀ (S : hg_S) (x1 : Int32) (x2 : Int32), dc_wp (hm_RE_givePlaces_L18 G S o x1 x2) F → hg_G X l (hg_rm 0 0 Z) D 3 S 18 [(0, va_rf (some o)), (1, .int x1), (2, .int x2)] [] := fun S x1 x2 h => loop_18 x1 (S, x2) (dc_bind h)
  show hg_G X l (hg_rm 0 0 Z) D 3 Z 0 [(0, va_rf (some o))] []
  have h : dc_wp (hm_RE_givePlaces G Z o) F := h
  delta hm_RE_givePlaces at h
  refine hg_aloadn (pc := 0) (j := 0) (i := 0) (r := (some o)) hC 0 rfl rfl (show decode prog_12_method_2_code 0 = .ok (.aload_n 0, 1) by decide +kernel) ?_
  refine hg_rgr (pc := 1) (r := (some o)) hC fl_SignalEngine_Reactor_9 (show decode prog_12_method_2_code 1 = .ok (.getfield 9, 3) by decide +kernel) h ?_
  intro e25 h
  refine hg_rgi (pc := 4) (r := e25) hC fl_SignalEngine_Reactor_79 (show decode prog_12_method_2_code 4 = .ok (.getfield 79, 3) by decide +kernel) h ?_
  intro e26 h
  refine hg_aloadn (pc := 7) (j := 0) (i := 0) (r := (some o)) hC 0 rfl rfl (show decode prog_12_method_2_code 7 = .ok (.aload_n 0, 1) by decide +kernel) ?_
  refine hg_rgr (pc := 8) (r := (some o)) hC fl_SignalEngine_Reactor_9 (show decode prog_12_method_2_code 8 = .ok (.getfield 9, 3) by decide +kernel) h ?_
  intro e27 h
  refine hg_rgi (pc := 11) (r := e27) hC fl_SignalEngine_Reactor_82 (show decode prog_12_method_2_code 11 = .ok (.getfield 82, 3) by decide +kernel) h ?_
  intro e28 h
  refine hg_iadd (pc := 14) hC (show decode prog_12_method_2_code 14 = .ok (.iadd, 1) by decide +kernel) ?_
  refine hg_letI h ?_
  intro v29 h
  refine hg_istoren (pc := 15) (j := 1) (i := 1) (lv' := [(1, .int v29), (0, va_rf (some o))]) hC rfl (Nat.le_of_ble_eq_true rfl) rfl (show decode prog_12_method_2_code 15 = .ok (.istore_n 1, 1) by decide +kernel) ?_
  refine hg_iconst (pc := 16) (v := 0) hC (show decode prog_12_method_2_code 16 = .ok (.iconst 0, 1) by decide +kernel) (by decide +kernel) ?_
  refine hg_istoren (pc := 17) (j := 2) (i := 2) (lv' := [(2, .int 0), (1, .int v29), (0, va_rf (some o))]) hC rfl (Nat.le_of_ble_eq_true rfl) rfl (show decode prog_12_method_2_code 17 = .ok (.istore_n 2, 1) by decide +kernel) ?_
  exact hg_sub [2, 1, 0] rfl (lab_18 Z v29 0 h)
