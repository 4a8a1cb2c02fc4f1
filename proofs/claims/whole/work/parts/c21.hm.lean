noncomputable def hm_PA_skip_L28 (G : hg_E) (S : hg_S) (o : Nat) (x2 : Int32) : Option ((hg_S × Int32) ⊕ hg_X) :=
  (dc_zb x2).bind fun _ => some (.inl (S, x2))
noncomputable def hm_PA_skip_L16 (G : hg_E) (S : hg_S) (o : Nat) (y0 : Int32) : Option ((hg_S × Int32) ⊕ hg_X) :=
  if y0 = 0 then (hm_PA_skip_L28 G S o y0) else ((hg_gr S (some o) 4 0).bind fun e2 => (hg_chk S e2 2).bind fun b3 => (hm_LX_advance G S b3).bind (Sum.elim (fun q6 => hm_PA_skip_L28 G q6 o y0) (fun z => some (Sum.inr z))))
noncomputable def hm_PA_skip (G : hg_E) (S : hg_S) (o : Nat) (p1 : Option Nat) : Option ((hg_S × Int32) ⊕ hg_X) :=
  (hg_gr S (some o) 4 0).bind fun e7 => (hg_gr S e7 2 1).bind fun e8 => if e8 = p1 then (hm_PA_skip_L16 G S o 1) else (hm_PA_skip_L16 G S o 0)
set_option maxHeartbeats 4000000 in
set_option maxRecDepth 100000 in
/-- SignalEngine$Parser.skip(LSignalEngine$Token;)Z -/
theorem hm_PA_skip_ok (l : Launch) (hlt : l.stackTraces = false) (D : va_G) (G : hg_E) (Z : hg_S) (o : Nat) (p1 : Option Nat) (q : (hg_S × Int32) ⊕ hg_X) (hq : hm_PA_skip G Z o p1 = some q) : hg_C l ⟨"SignalEngine$Parser", "skip", "(LSignalEngine$Token;)Z"⟩ prog_9_method_6_code 3 (some (.boolean)) 8 142 D G [.ref o, va_rf p1] Z (Sum.elim (fun q => (.inl (some (.int q.2), q.1) : hg_O)) hg_ox q) := by
  refine hg_start (cv := fun q => (Sum.elim (fun q => (.inl (some (.int q.2), q.1) : hg_O)) hg_ox q)) hq ?_
  intro F hF h
  refine hg_enter (lv := [(0, va_rf (some o)), (1, va_rf p1)]) (by decide +kernel) (by simp [lg_sl, va_rf_cat, hg_cti, hg_ctr]) (by simp [lv_args, va_rf_cat, va_rf_some, hg_cti, hg_ctr]) ?_
  intro X hC hR
  have lab_28 : ∀ (S : hg_S) (x2 : Int32), dc_wp (hm_PA_skip_L28 G S o x2) F → hg_G X l (hg_rm 8 142 Z) D 3 S 28 [(0, va_rf (some o)), (2, .int x2)] [] := by
    intro S x2 h
    delta hm_PA_skip_L28 at h
    refine hg_iloadn (pc := 28) (j := 2) (i := 2) hC 1 rfl rfl (show decode prog_9_method_6_code 28 = .ok (.iload_n 2, 1) by decide +kernel) ?_
    obtain ⟨hz1, h⟩ := dc_zb_wp (dc_bind h)
    exact hg_zret (pc := 29) hC hR hz1 (hF _ (dc_some h)) (show decode prog_9_method_6_code 29 = .ok (.ireturn, 1) by decide +kernel)
  have lab_16 : ∀ (S : hg_S) (y0 : Int32), dc_wp (hm_PA_skip_L16 G S o y0) F → hg_G X l (hg_rm 8 142 Z) D 3 S 16 [(0, va_rf (some o))] [.int y0] := by
    intro S y0 h
    delta hm_PA_skip_L16 at h
    refine hg_istoren (pc := 16) (j := 2) (i := 2) (lv' := [(2, .int y0), (0, va_rf (some o))]) hC rfl (Nat.le_of_ble_eq_true rfl) rfl (show decode prog_9_method_6_code 16 = .ok (.istore_n 2, 1) by decide +kernel) ?_
    refine hg_iloadn (pc := 17) (j := 2) (i := 2) hC 0 rfl rfl (show decode prog_9_method_6_code 17 = .ok (.iload_n 2, 1) by decide +kernel) ?_
    refine hg_if_eq (pc := 18) (tgt := 28) hC (show decode prog_9_method_6_code 18 = .ok (.ifCond .eq 10, 3) by decide +kernel) (by decide +kernel) h ?_ ?_
    · intro h
      exact hg_sub [1, 0] rfl (lab_28 S y0 h)
    · intro h
      refine hg_aloadn (pc := 21) (j := 0) (i := 0) (r := (some o)) hC 1 rfl rfl (show decode prog_9_method_6_code 21 = .ok (.aload_n 0, 1) by decide +kernel) ?_
      refine hg_rgr (pc := 22) (r := (some o)) hC fl_SignalEngine_Parser_23 (show decode prog_9_method_6_code 22 = .ok (.getfield 23, 3) by decide +kernel) h ?_
      intro e2 h
      obtain ⟨b3, hb4, h⟩ := dc_bind h
      obtain ⟨hb4, hv5⟩ := hg_chk_of (C := R_LX) rfl hb4
      refine hg_kVTv (pc := 25) (b := b3) (r := e2) (As := []) (rest := []) (so := fun q => q) hC hR cw_SignalEngine_Parser_79 (fun q hq => hm_LX_advance_ok l hlt D G S b3 q hq) (Nat.le_of_ble_eq_true rfl) (Nat.le_of_ble_eq_true rfl) hb4 hv5 rfl (Nat.le_of_ble_eq_true rfl) (show decode prog_9_method_6_code 25 = .ok (.invokevirtual 79, 3) by decide +kernel) h (fun z h => hF (.inr z) (dc_some h)) ?_
      intro q6 h
      exact hg_sub [1, 0] rfl (lab_28 q6 y0 h)
  show hg_G X l (hg_rm 8 142 Z) D 3 Z 0 [(0, va_rf (some o)), (1, va_rf p1)] []
  have h : dc_wp (hm_PA_skip G Z o p1) F := h
  delta hm_PA_skip at h
  refine hg_aloadn (pc := 0) (j := 0) (i := 0) (r := (some o)) hC 0 rfl rfl (show decode prog_9_method_6_code 0 = .ok (.aload_n 0, 1) by decide +kernel) ?_
  refine hg_rgr (pc := 1) (r := (some o)) hC fl_SignalEngine_Parser_23 (show decode prog_9_method_6_code 1 = .ok (.getfield 23, 3) by decide +kernel) h ?_
  intro e7 h
  refine hg_rgr (pc := 4) (r := e7) hC fl_SignalEngine_Parser_70 (show decode prog_9_method_6_code 4 = .ok (.getfield 70, 3) by decide +kernel) h ?_
  intro e8 h
  refine hg_aloadn (pc := 7) (j := 1) (i := 1) (r := p1) hC 1 rfl rfl (show decode prog_9_method_6_code 7 = .ok (.aload_n 1, 1) by decide +kernel) ?_
  refine hg_acmp_ne (pc := 8) (tgt := 15) (x := e8) (y := p1) hC (show decode prog_9_method_6_code 8 = .ok (.if_acmp .ne 7, 3) by decide +kernel) (by decide +kernel) h ?_ ?_
  · intro h
    refine hg_iconst (pc := 11) (v := 1) hC (show decode prog_9_method_6_code 11 = .ok (.iconst 1, 1) by decide +kernel) (by decide +kernel) ?_
    refine hg_goto (pc := 12) (tgt := 16) hC (show decode prog_9_method_6_code 12 = .ok (.goto 4, 3) by decide +kernel) (by decide +kernel) ?_
    exact hg_sub [0] rfl (lab_16 Z 1 h)
  · intro h
    refine hg_iconst (pc := 15) (v := 0) hC (show decode prog_9_method_6_code 15 = .ok (.iconst 0, 1) by decide +kernel) (by decide +kernel) ?_
    exact hg_sub [0] rfl (lab_16 Z 0 h)
noncomputable def hm_PA_takeNames_L101 (G : hg_E) (S : hg_S) (o : Nat) : Option ((hg_S) ⊕ hg_X) :=
  some (.inl S)
noncomputable def hm_PA_takeNames_L68 (G : hg_E) (S : hg_S) (o : Nat) (x1 : Int32) (x3 : Int32) : Option ((hg_S × Int32 × Int32) ⊕ ((hg_S) ⊕ (hg_X))) :=
  (hg_gr S (some o) 4 1).bind fun e1 => (hg_gr S (some o) 4 0).bind fun e2 => (hg_chk S e1 3).bind fun b3 => (hm_NM_bring G S b3 e2).bind fun q6 => (hg_gr q6.1 (some o) 4 0).bind fun e7 => (hg_chk q6.1 e7 2).bind fun b8 => (hm_LX_advance G q6.1 b8).bind (Sum.elim (fun q11 => (hg_chk q11 (some o) 4).bind fun b12 => (hm_PA_skip G q11 b12 (some (G.2.1 27))).bind (Sum.elim (fun q15 => some (.inl (q15.1, q15.2, (x3 + 1)))) (fun z => some (Sum.inr (.inr z))))) (fun z => some (Sum.inr (.inr z))))
noncomputable def hm_PA_takeNames_L42 (G : hg_E) (S : hg_S) (o : Nat) (x1 : Int32) (x3 : Int32) (y0 : Int32) (y1 : Option Nat) : Option ((hg_S × Int32 × Int32) ⊕ ((hg_S) ⊕ (hg_X))) :=
  (hg_chk S y1 2).bind fun b16 => (hm_LX_require G S b16 y0).bind (Sum.elim (fun q19 => (hg_gr q19 (some o) 4 1).bind fun e20 => (hg_gr q19 (some o) 4 0).bind fun e21 => (hg_chk q19 e20 3).bind fun b22 => (hm_NM_hasSince G q19 b22 x1 e21).bind fun q25 => if q25 = 0 then (hm_PA_takeNames_L68 G q19 o x1 x3) else ((hg_gr q19 (some o) 4 0).bind fun e26 => (hg_chk q19 e26 2).bind fun b27 => (hm_LX_refuse G q19 b27 (3 : Int32)).bind (Sum.elim (fun q30 => hm_PA_takeNames_L68 G q30 o x1 x3) (fun z => some (Sum.inr (.inr z)))))) (fun z => some (Sum.inr (.inr z))))
noncomputable def hm_PA_takeNames_b4 (G : hg_E) (S : hg_S) (o : Nat) (x1 : Int32) (x2 : Int32) (x3 : Int32) : Option ((hg_S × Int32 × Int32) ⊕ ((hg_S) ⊕ (hg_X))) :=
  if x2 = 0 then (some (.inr (.inl S))) else ((hg_gr S (some o) 4 0).bind fun e31 => (hg_gr S e31 2 0).bind fun e32 => (hg_ln S e32 (G.1 1)).bind fun e33 => if e33 < x3 then (some (.inr (.inl S))) else ((hg_gr S (some o) 4 0).bind fun e34 => (hg_gr S (some o) 4 0).bind fun e35 => (hg_gr S e35 2 1).bind fun e36 => if e36 = (some (G.2.1 31)) then (hm_PA_takeNames_L42 G S o x1 x3 1 e34) else (hm_PA_takeNames_L42 G S o x1 x3 0 e34)))
noncomputable def hm_PA_takeNames_s4 (G : hg_E) (o : Nat) (x1 : Int32) (q : hg_S × Int32 × Int32) : Option ((hg_S × Int32 × Int32) ⊕ ((hg_S) ⊕ (hg_X))) :=
  hm_PA_takeNames_b4 G q.1 o x1 q.2.1 q.2.2
noncomputable def hm_PA_takeNames_L4 (G : hg_E) (S : hg_S) (o : Nat) (x1 : Int32) (x2 : Int32) (x3 : Int32) : Option ((hg_S) ⊕ hg_X) :=
  (dc_it (hm_PA_takeNames_s4 G o x1) (S, x2, x3)).bind (Sum.elim (fun (z : hg_S) => hm_PA_takeNames_L101 G z o) (fun (z : hg_X) => some (Sum.inr z)))
noncomputable def hm_PA_takeNames (G : hg_E) (S : hg_S) (o : Nat) (p1 : Int32) : Option ((hg_S) ⊕ hg_X) :=
  hm_PA_takeNames_L4 G S o p1 1 0
set_option maxHeartbeats 4000000 in
set_option maxRecDepth 100000 in
/-- SignalEngine$Parser.takeNames(I)V -/
theorem hm_PA_takeNames_ok (l : Launch) (hlt : l.stackTraces = false) (D : va_G) (G : hg_E) (Z : hg_S) (o : Nat) (p1 : Int32) (q : (hg_S) ⊕ hg_X) (hq : hm_PA_takeNames G Z o p1 = some q) : hg_C l ⟨"SignalEngine$Parser", "takeNames", "(I)V"⟩ prog_9_method_7_code 4 none 9 164 D G [.ref o, .int p1] Z (Sum.elim (fun q => (.inl (none, q) : hg_O)) hg_ox q) := by
  refine hg_start (cv := fun q => (Sum.elim (fun q => (.inl (none, q) : hg_O)) hg_ox q)) hq ?_
  intro F hF h
  refine hg_enter (lv := [(0, va_rf (some o)), (1, .int p1)]) (by decide +kernel) (by simp [lg_sl, va_rf_cat, hg_cti, hg_ctr]) (by simp [lv_args, va_rf_cat, va_rf_some, hg_cti, hg_ctr]) ?_
  intro X hC hR
  have lab_101 : ∀ (S : hg_S), dc_wp (hm_PA_takeNames_L101 G S o) F → hg_G X l (hg_rm 9 164 Z) D 4 S 101 [(0, va_rf (some o))] [] := by
    intro S  h
    delta hm_PA_takeNames_L101 at h
    exact hg_vret (pc := 101) hC hR (hF _ (dc_some h)) (show decode prog_9_method_7_code 101 = .ok (.return_, 1) by decide +kernel)
  have loop_4 : ∀ (x1 : Int32) (q : hg_S × Int32 × Int32), dc_wp (dc_it (hm_PA_takeNames_s4 G o x1) q) (fun z => dc_wp ((Sum.elim (fun (z : hg_S) => hm_PA_takeNames_L101 G z o) (fun (z : hg_X) => some (Sum.inr z))) z) F) → hg_G X l (hg_rm 9 164 Z) D 4 q.1 4 [(0, va_rf (some o)), (1, .int x1), (2, .int q.2.1), (3, .int q.2.2)] [] := by
    intro x1
    refine dc_loopF ?_
    intro F_4 hl_4 hr_4
    have lab_68 : ∀ (S : hg_S) (x3 : Int32), dc_wp (hm_PA_takeNames_L68 G S o x1 x3) F_4 → hg_G X l (hg_rm 9 164 Z) D 4 S 68 [(0, va_rf (some o)), (1, .int x1), (3, .int x3)] [] := by
      intro S x3 h
      delta hm_PA_takeNames_L68 at h
      refine hg_aloadn (pc := 68) (j := 0) (i := 0) (r := (some o)) hC 0 rfl rfl (show decode prog_9_method_7_code 68 = .ok (.aload_n 0, 1) by decide +kernel) ?_
      refine hg_rgr (pc := 69) (r := (some o)) hC fl_SignalEngine_Parser_30 (show decode prog_9_method_7_code 69 = .ok (.getfield 30, 3) by decide +kernel) h ?_
      intro e1 h
      refine hg_aloadn (pc := 72) (j := 0) (i := 0) (r := (some o)) hC 0 rfl rfl (show decode prog_9_method_7_code 72 = .ok (.aload_n 0, 1) by decide +kernel) ?_
      refine hg_rgr (pc := 73) (r := (some o)) hC fl_SignalEngine_Parser_23 (show decode prog_9_method_7_code 73 = .ok (.getfield 23, 3) by decide +kernel) h ?_
      intro e2 h
      obtain ⟨b3, hb4, h⟩ := dc_bind h
      obtain ⟨hb4, hv5⟩ := hg_chk_of (C := R_NM) rfl hb4
      refine hg_kVi (pc := 76) (b := b3) (r := e1) (As := [va_rf e2]) (rest := []) (vo := fun q => q.2) (so := fun q => q.1) hC cw_SignalEngine_Parser_120 (fun q hq => hm_NM_bring_ok l D G S b3 e2 q hq) (Nat.le_of_ble_eq_true rfl) (Nat.le_of_ble_eq_true rfl) hb4 hv5 rfl (Nat.le_of_ble_eq_true rfl) (show decode prog_9_method_7_code 76 = .ok (.invokevirtual 120, 3) by decide +kernel) h ?_
      intro q6 h
      refine hg_pop (pc := 79) hC (show decode prog_9_method_7_code 79 = .ok (.pop, 1) by decide +kernel) rfl ?_
      refine hg_aloadn (pc := 80) (j := 0) (i := 0) (r := (some o)) hC 0 rfl rfl (show decode prog_9_method_7_code 80 = .ok (.aload_n 0, 1) by decide +kernel) ?_
      refine hg_rgr (pc := 81) (r := (some o)) hC fl_SignalEngine_Parser_23 (show decode prog_9_method_7_code 81 = .ok (.getfield 23, 3) by decide +kernel) h ?_
      intro e7 h
      obtain ⟨b8, hb9, h⟩ := dc_bind h
      obtain ⟨hb9, hv10⟩ := hg_chk_of (C := R_LX) rfl hb9
      refine hg_kVTv (pc := 84) (b := b8) (r := e7) (As := []) (rest := []) (so := fun q => q) hC hR cw_SignalEngine_Parser_79 (fun q hq => hm_LX_advance_ok l hlt D G q6.1 b8 q hq) (Nat.le_of_ble_eq_true rfl) (Nat.le_of_ble_eq_true rfl) hb9 hv10 rfl (Nat.le_of_ble_eq_true rfl) (show decode prog_9_method_7_code 84 = .ok (.invokevirtual 79, 3) by decide +kernel) h (fun z h => (fun (h : dc_wp (some (Sum.inr z)) F) => hF (.inr z) (dc_some h)) (hr_4 (.inr z) (dc_some h))) ?_
      intro q11 h
      refine hg_aloadn (pc := 87) (j := 0) (i := 0) (r := (some o)) hC 0 rfl rfl (show decode prog_9_method_7_code 87 = .ok (.aload_n 0, 1) by decide +kernel) ?_
      refine hg_tok (pc := 88) (j := 27) hC (by decide) rfl w_500 (show decode prog_9_method_7_code 88 = .ok (.getstatic 124, 3) by decide +kernel) ?_
      obtain ⟨b12, hb13, h⟩ := dc_bind h
      obtain ⟨hb13, hv14⟩ := hg_chk_of (C := R_PA) rfl hb13
      refine hg_kVTi (pc := 91) (b := b12) (r := (some o)) (As := [va_rf (some (G.2.1 27))]) (rest := []) (vo := fun q => q.2) (so := fun q => q.1) hC hR cw_SignalEngine_Parser_127 (fun q hq => hm_PA_skip_ok l hlt D G q11 b12 (some (G.2.1 27)) q hq) (Nat.le_of_ble_eq_true rfl) (Nat.le_of_ble_eq_true rfl) hb13 hv14 rfl (Nat.le_of_ble_eq_true rfl) (show decode prog_9_method_7_code 91 = .ok (.invokevirtual 127, 3) by decide +kernel) h (fun z h => (fun (h : dc_wp (some (Sum.inr z)) F) => hF (.inr z) (dc_some h)) (hr_4 (.inr z) (dc_some h))) ?_
      intro q15 h
      refine hg_istoren (pc := 94) (j := 2) (i := 2) (lv' := [(2, .int q15.2), (0, va_rf (some o)), (1, .int x1), (3, .int x3)]) hC rfl (Nat.le_of_ble_eq_true rfl) rfl (show decode prog_9_method_7_code 94 = .ok (.istore_n 2, 1) by decide +kernel) ?_
      refine hg_iinc (pc := 95) (i := 3) (v := (x3 + 1)) (lv' := [(3, .int (x3 + 1)), (2, .int q15.2), (0, va_rf (some o)), (1, .int x1)]) hC 3 rfl rfl (Nat.le_of_ble_eq_true rfl) rfl (show decode prog_9_method_7_code 95 = .ok (.iinc 3 1, 3) by decide +kernel) ?_
      refine hg_goto (pc := 98) (tgt := 4) hC (show decode prog_9_method_7_code 98 = .ok (.goto (-94), 3) by decide +kernel) (by decide +kernel) ?_
      exact hg_sub [2, 3, 1, 0] rfl (hl_4 (q15.1, q15.2, (x3 + 1)) (dc_some h))
    have lab_42 : ∀ (S : hg_S) (x3 : Int32) (y0 : Int32) (y1 : Option Nat), dc_wp (hm_PA_takeNames_L42 G S o x1 x3 y0 y1) F_4 → hg_G X l (hg_rm 9 164 Z) D 4 S 42 [(0, va_rf (some o)), (1, .int x1), (3, .int x3)] [.int y0, va_rf y1] := by
      intro S x3 y0 y1 h
      delta hm_PA_takeNames_L42 at h
      obtain ⟨b16, hb17, h⟩ := dc_bind h
      obtain ⟨hb17, hv18⟩ := hg_chk_of (C := R_LX) rfl hb17
      refine hg_kVTv (pc := 42) (b := b16) (r := y1) (As := [.int y0]) (rest := []) (so := fun q => q) hC hR cw_SignalEngine_Parser_102 (fun q hq => hm_LX_require_ok l hlt D G S b16 y0 q hq) (Nat.le_of_ble_eq_true rfl) (Nat.le_of_ble_eq_true rfl) hb17 hv18 rfl (Nat.le_of_ble_eq_true rfl) (show decode prog_9_method_7_code 42 = .ok (.invokevirtual 102, 3) by decide +kernel) h (fun z h => (fun (h : dc_wp (some (Sum.inr z)) F) => hF (.inr z) (dc_some h)) (hr_4 (.inr z) (dc_some h))) ?_
      intro q19 h
      refine hg_aloadn (pc := 45) (j := 0) (i := 0) (r := (some o)) hC 0 rfl rfl (show decode prog_9_method_7_code 45 = .ok (.aload_n 0, 1) by decide +kernel) ?_
      refine hg_rgr (pc := 46) (r := (some o)) hC fl_SignalEngine_Parser_30 (show decode prog_9_method_7_code 46 = .ok (.getfield 30, 3) by decide +kernel) h ?_
      intro e20 h
      refine hg_iloadn (pc := 49) (j := 1) (i := 1) hC 1 rfl rfl (show decode prog_9_method_7_code 49 = .ok (.iload_n 1, 1) by decide +kernel) ?_
      refine hg_aloadn (pc := 50) (j := 0) (i := 0) (r := (some o)) hC 0 rfl rfl (show decode prog_9_method_7_code 50 = .ok (.aload_n 0, 1) by decide +kernel) ?_
      refine hg_rgr (pc := 51) (r := (some o)) hC fl_SignalEngine_Parser_23 (show decode prog_9_method_7_code 51 = .ok (.getfield 23, 3) by decide +kernel) h ?_
      intro e21 h
      obtain ⟨b22, hb23, h⟩ := dc_bind h
      obtain ⟨hb23, hv24⟩ := hg_chk_of (C := R_NM) rfl hb23
      refine hg_kVi (pc := 54) (b := b22) (r := e20) (As := [.int x1, va_rf e21]) (rest := []) (vo := fun q => q) (so := fun q => q19) hC cw_SignalEngine_Parser_113 (fun q hq => hm_NM_hasSince_ok l D G q19 b22 x1 e21 q hq) (Nat.le_of_ble_eq_true rfl) (Nat.le_of_ble_eq_true rfl) hb23 hv24 rfl (Nat.le_of_ble_eq_true rfl) (show decode prog_9_method_7_code 54 = .ok (.invokevirtual 113, 3) by decide +kernel) h ?_
      intro q25 h
      refine hg_if_eq (pc := 57) (tgt := 68) hC (show decode prog_9_method_7_code 57 = .ok (.ifCond .eq 11, 3) by decide +kernel) (by decide +kernel) h ?_ ?_
      · intro h
        exact lab_68 q19 x3 h
      · intro h
        refine hg_aloadn (pc := 60) (j := 0) (i := 0) (r := (some o)) hC 0 rfl rfl (show decode prog_9_method_7_code 60 = .ok (.aload_n 0, 1) by decide +kernel) ?_
        refine hg_rgr (pc := 61) (r := (some o)) hC fl_SignalEngine_Parser_23 (show decode prog_9_method_7_code 61 = .ok (.getfield 23, 3) by decide +kernel) h ?_
        intro e26 h
        refine hg_iconst (pc := 64) (v := 3) hC (show decode prog_9_method_7_code 64 = .ok (.iconst 3, 1) by decide +kernel) (by decide +kernel) ?_
        obtain ⟨b27, hb28, h⟩ := dc_bind h
        obtain ⟨hb28, hv29⟩ := hg_chk_of (C := R_LX) rfl hb28
        refine hg_kVTv (pc := 65) (b := b27) (r := e26) (As := [.int 3]) (rest := []) (so := fun q => q) hC hR cw_SignalEngine_Parser_117 (fun q hq => hm_LX_refuse_ok l hlt D G q19 b27 (3 : Int32) q hq) (Nat.le_of_ble_eq_true rfl) (Nat.le_of_ble_eq_true rfl) hb28 hv29 rfl (Nat.le_of_ble_eq_true rfl) (show decode prog_9_method_7_code 65 = .ok (.invokevirtual 117, 3) by decide +kernel) h (fun z h => (fun (h : dc_wp (some (Sum.inr z)) F) => hF (.inr z) (dc_some h)) (hr_4 (.inr z) (dc_some h))) ?_
        intro q30 h
        exact lab_68 q30 x3 h
    rintro ⟨S, x2, x3⟩ h
    have h : dc_wp (hm_PA_takeNames_b4 G S o x1 x2 x3) F_4 := h
    delta hm_PA_takeNames_b4 at h
    refine hg_iloadn (pc := 4) (j := 2) (i := 2) hC 2 rfl rfl (show decode prog_9_method_7_code 4 = .ok (.iload_n 2, 1) by decide +kernel) ?_
    refine hg_if_eq (pc := 5) (tgt := 101) hC (show decode prog_9_method_7_code 5 = .ok (.ifCond .eq 96, 3) by decide +kernel) (by decide +kernel) h ?_ ?_
    · intro h
      have h : dc_wp (hm_PA_takeNames_L101 G S o) F := hr_4 (.inl S) (dc_some h)
      exact hg_sub [0] rfl (lab_101 S h)
    · intro h
      refine hg_iloadn (pc := 8) (j := 3) (i := 3) hC 3 rfl rfl (show decode prog_9_method_7_code 8 = .ok (.iload_n 3, 1) by decide +kernel) ?_
      refine hg_aloadn (pc := 9) (j := 0) (i := 0) (r := (some o)) hC 0 rfl rfl (show decode prog_9_method_7_code 9 = .ok (.aload_n 0, 1) by decide +kernel) ?_
      refine hg_rgr (pc := 10) (r := (some o)) hC fl_SignalEngine_Parser_23 (show decode prog_9_method_7_code 10 = .ok (.getfield 23, 3) by decide +kernel) h ?_
      intro e31 h
      refine hg_rgr (pc := 13) (r := e31) hC fl_SignalEngine_Parser_106 (show decode prog_9_method_7_code 13 = .ok (.getfield 106, 3) by decide +kernel) h ?_
      intro e32 h
      refine hg_rlen (pc := 16) (r := e32) (t := 1) hC rfl (show decode prog_9_method_7_code 16 = .ok (.arraylength, 1) by decide +kernel) h ?_
      intro e33 h
      refine hg_icmp_gt (pc := 17) (tgt := 101) hC (show decode prog_9_method_7_code 17 = .ok (.if_icmp .gt 84, 3) by decide +kernel) (by decide +kernel) h ?_ ?_
      · intro h
        have h : dc_wp (hm_PA_takeNames_L101 G S o) F := hr_4 (.inl S) (dc_some h)
        exact hg_sub [0] rfl (lab_101 S h)
      · intro h
        refine hg_aloadn (pc := 20) (j := 0) (i := 0) (r := (some o)) hC 0 rfl rfl (show decode prog_9_method_7_code 20 = .ok (.aload_n 0, 1) by decide +kernel) ?_
        refine hg_rgr (pc := 21) (r := (some o)) hC fl_SignalEngine_Parser_23 (show decode prog_9_method_7_code 21 = .ok (.getfield 23, 3) by decide +kernel) h ?_
        intro e34 h
        refine hg_aloadn (pc := 24) (j := 0) (i := 0) (r := (some o)) hC 0 rfl rfl (show decode prog_9_method_7_code 24 = .ok (.aload_n 0, 1) by decide +kernel) ?_
        refine hg_rgr (pc := 25) (r := (some o)) hC fl_SignalEngine_Parser_23 (show decode prog_9_method_7_code 25 = .ok (.getfield 23, 3) by decide +kernel) h ?_
        intro e35 h
        refine hg_rgr (pc := 28) (r := e35) hC fl_SignalEngine_Parser_70 (show decode prog_9_method_7_code 28 = .ok (.getfield 70, 3) by decide +kernel) h ?_
        intro e36 h
        refine hg_tok (pc := 31) (j := 31) hC (by decide) rfl w_477 (show decode prog_9_method_7_code 31 = .ok (.getstatic 110, 3) by decide +kernel) ?_
        refine hg_acmp_ne (pc := 34) (tgt := 41) (x := e36) (y := (some (G.2.1 31))) hC (show decode prog_9_method_7_code 34 = .ok (.if_acmp .ne 7, 3) by decide +kernel) (by decide +kernel) h ?_ ?_
        · intro h
          refine hg_iconst (pc := 37) (v := 1) hC (show decode prog_9_method_7_code 37 = .ok (.iconst 1, 1) by decide +kernel) (by decide +kernel) ?_
          refine hg_goto (pc := 38) (tgt := 42) hC (show decode prog_9_method_7_code 38 = .ok (.goto 4, 3) by decide +kernel) (by decide +kernel) ?_
          exact hg_sub [0, 1, 3] rfl (lab_42 S x3 1 e34 h)
        · intro h
          refine hg_iconst (pc := 41) (v := 0) hC (show decode prog_9_method_7_code 41 = .ok (.iconst 0, 1) by decide +kernel) (by decide +kernel) ?_
          exact hg_sub [0, 1, 3] rfl (lab_42 S x3 0 e34 h)
  have lab_4 : ∀ (S : hg_S) (x1 : Int32) (x2 : Int32) (x3 : Int32), dc_wp (hm_PA_takeNames_L4 G S o x1 x2 x3) F → hg_G X l (hg_rm 9 164 Z) D 4 S 4 [(0, va_rf (some o)), (1, .int x1), (2, .int x2), (3, .int x3)] [] := fun S x1 x2 x3 h => loop_4 x1 (S, x2, x3) (dc_bind h)
  show hg_G X l (hg_rm 9 164 Z) D 4 Z 0 [(0, va_rf (some o)), (1, .int p1)] []
  have h : dc_wp (hm_PA_takeNames G Z o p1) F := h
  delta hm_PA_takeNames at h
  refine hg_iconst (pc := 0) (v := 1) hC (show decode prog_9_method_7_code 0 = .ok (.iconst 1, 1) by decide +kernel) (by decide +kernel) ?_
  refine hg_istoren (pc := 1) (j := 2) (i := 2) (lv' := [(2, .int 1), (0, va_rf (some o)), (1, .int p1)]) hC rfl (Nat.le_of_ble_eq_true rfl) rfl (show decode prog_9_method_7_code 1 = .ok (.istore_n 2, 1) by decide +kernel) ?_
  refine hg_iconst (pc := 2) (v := 0) hC (show decode prog_9_method_7_code 2 = .ok (.iconst 0, 1) by decide +kernel) (by decide +kernel) ?_
  refine hg_istoren (pc := 3) (j := 3) (i := 3) (lv' := [(3, .int 0), (2, .int 1), (0, va_rf (some o)), (1, .int p1)]) hC rfl (Nat.le_of_ble_eq_true rfl) rfl (show decode prog_9_method_7_code 3 = .ok (.istore_n 3, 1) by decide +kernel) ?_
  exact hg_sub [2, 3, 1, 0] rfl (lab_4 Z p1 1 0 h)
noncomputable def hm_PA_take_L20 (G : hg_E) (S : hg_S) (o : Nat) (y0 : Int32) (y1 : Option Nat) : Option ((hg_S) ⊕ hg_X) :=
  (hg_chk S y1 2).bind fun b1 => (hm_LX_require G S b1 y0).bind (Sum.elim (fun q4 => (hg_gr q4 (some o) 4 0).bind fun e5 => (hg_chk q4 e5 2).bind fun b6 => (hm_LX_advance G q4 b6).bind (Sum.elim (fun q9 => some (.inl q9)) (fun z => some (Sum.inr z)))) (fun z => some (Sum.inr z)))
noncomputable def hm_PA_take (G : hg_E) (S : hg_S) (o : Nat) (p1 : Option Nat) : Option ((hg_S) ⊕ hg_X) :=
  (hg_gr S (some o) 4 0).bind fun e10 => (hg_gr S (some o) 4 0).bind fun e11 => (hg_gr S e11 2 1).bind fun e12 => if e12 = p1 then (hm_PA_take_L20 G S o 1 e10) else (hm_PA_take_L20 G S o 0 e10)
set_option maxHeartbeats 4000000 in
set_option maxRecDepth 100000 in
/-- SignalEngine$Parser.take(LSignalEngine$Token;)V -/
theorem hm_PA_take_ok (l : Launch) (hlt : l.stackTraces = false) (D : va_G) (G : hg_E) (Z : hg_S) (o : Nat) (p1 : Option Nat) (q : (hg_S) ⊕ hg_X) (hq : hm_PA_take G Z o p1 = some q) : hg_C l ⟨"SignalEngine$Parser", "take", "(LSignalEngine$Token;)V"⟩ prog_9_method_5_code 2 none 8 142 D G [.ref o, va_rf p1] Z (Sum.elim (fun q => (.inl (none, q) : hg_O)) hg_ox q) := by
  refine hg_start (cv := fun q => (Sum.elim (fun q => (.inl (none, q) : hg_O)) hg_ox q)) hq ?_
  intro F hF h
  refine hg_enter (lv := [(0, va_rf (some o)), (1, va_rf p1)]) (by decide +kernel) (by simp [lg_sl, va_rf_cat, hg_cti, hg_ctr]) (by simp [lv_args, va_rf_cat, va_rf_some, hg_cti, hg_ctr]) ?_
  intro X hC hR
  have lab_20 : ∀ (S : hg_S) (y0 : Int32) (y1 : Option Nat), dc_wp (hm_PA_take_L20 G S o y0 y1) F → hg_G X l (hg_rm 8 142 Z) D 2 S 20 [(0, va_rf (some o))] [.int y0, va_rf y1] := by
    intro S y0 y1 h
    delta hm_PA_take_L20 at h
    obtain ⟨b1, hb2, h⟩ := dc_bind h
    obtain ⟨hb2, hv3⟩ := hg_chk_of (C := R_LX) rfl hb2
    refine hg_kVTv (pc := 20) (b := b1) (r := y1) (As := [.int y0]) (rest := []) (so := fun q => q) hC hR cw_SignalEngine_Parser_102 (fun q hq => hm_LX_require_ok l hlt D G S b1 y0 q hq) (Nat.le_of_ble_eq_true rfl) (Nat.le_of_ble_eq_true rfl) hb2 hv3 rfl (Nat.le_of_ble_eq_true rfl) (show decode prog_9_method_5_code 20 = .ok (.invokevirtual 102, 3) by decide +kernel) h (fun z h => hF (.inr z) (dc_some h)) ?_
    intro q4 h
    refine hg_aloadn (pc := 23) (j := 0) (i := 0) (r := (some o)) hC 0 rfl rfl (show decode prog_9_method_5_code 23 = .ok (.aload_n 0, 1) by decide +kernel) ?_
    refine hg_rgr (pc := 24) (r := (some o)) hC fl_SignalEngine_Parser_23 (show decode prog_9_method_5_code 24 = .ok (.getfield 23, 3) by decide +kernel) h ?_
    intro e5 h
    obtain ⟨b6, hb7, h⟩ := dc_bind h
    obtain ⟨hb7, hv8⟩ := hg_chk_of (C := R_LX) rfl hb7
    refine hg_kVTv (pc := 27) (b := b6) (r := e5) (As := []) (rest := []) (so := fun q => q) hC hR cw_SignalEngine_Parser_79 (fun q hq => hm_LX_advance_ok l hlt D G q4 b6 q hq) (Nat.le_of_ble_eq_true rfl) (Nat.le_of_ble_eq_true rfl) hb7 hv8 rfl (Nat.le_of_ble_eq_true rfl) (show decode prog_9_method_5_code 27 = .ok (.invokevirtual 79, 3) by decide +kernel) h (fun z h => hF (.inr z) (dc_some h)) ?_
    intro q9 h
    exact hg_vret (pc := 30) hC hR (hF _ (dc_some h)) (show decode prog_9_method_5_code 30 = .ok (.return_, 1) by decide +kernel)
  show hg_G X l (hg_rm 8 142 Z) D 2 Z 0 [(0, va_rf (some o)), (1, va_rf p1)] []
  have h : dc_wp (hm_PA_take G Z o p1) F := h
  delta hm_PA_take at h
  refine hg_aloadn (pc := 0) (j := 0) (i := 0) (r := (some o)) hC 0 rfl rfl (show decode prog_9_method_5_code 0 = .ok (.aload_n 0, 1) by decide +kernel) ?_
  refine hg_rgr (pc := 1) (r := (some o)) hC fl_SignalEngine_Parser_23 (show decode prog_9_method_5_code 1 = .ok (.getfield 23, 3) by decide +kernel) h ?_
  intro e10 h
  refine hg_aloadn (pc := 4) (j := 0) (i := 0) (r := (some o)) hC 0 rfl rfl (show decode prog_9_method_5_code 4 = .ok (.aload_n 0, 1) by decide +kernel) ?_
  refine hg_rgr (pc := 5) (r := (some o)) hC fl_SignalEngine_Parser_23 (show decode prog_9_method_5_code 5 = .ok (.getfield 23, 3) by decide +kernel) h ?_
  intro e11 h
  refine hg_rgr (pc := 8) (r := e11) hC fl_SignalEngine_Parser_70 (show decode prog_9_method_5_code 8 = .ok (.getfield 70, 3) by decide +kernel) h ?_
  intro e12 h
  refine hg_aloadn (pc := 11) (j := 1) (i := 1) (r := p1) hC 1 rfl rfl (show decode prog_9_method_5_code 11 = .ok (.aload_n 1, 1) by decide +kernel) ?_
  refine hg_acmp_ne (pc := 12) (tgt := 19) (x := e12) (y := p1) hC (show decode prog_9_method_5_code 12 = .ok (.if_acmp .ne 7, 3) by decide +kernel) (by decide +kernel) h ?_ ?_
  · intro h
    refine hg_iconst (pc := 15) (v := 1) hC (show decode prog_9_method_5_code 15 = .ok (.iconst 1, 1) by decide +kernel) (by decide +kernel) ?_
    refine hg_goto (pc := 16) (tgt := 20) hC (show decode prog_9_method_5_code 16 = .ok (.goto 4, 3) by decide +kernel) (by decide +kernel) ?_
    exact hg_sub [0] rfl (lab_20 Z 1 e10 h)
  · intro h
    refine hg_iconst (pc := 19) (v := 0) hC (show decode prog_9_method_5_code 19 = .ok (.iconst 0, 1) by decide +kernel) (by decide +kernel) ?_
    exact hg_sub [0] rfl (lab_20 Z 0 e10 h)
noncomputable def hm_DR_leaf (G : hg_E) (S : hg_S) (o : Nat) (p1 : Int32) (p2 : Int32) (p3 : Int32) : Option (hg_S × (Option Nat)) :=
  (hg_new S 8 13 [.int 0, .int 0, .null, .null, .int 0, .int 0, .int 0, .int 0, .int 0, .int 0, .int 0, .int 0, .int 0]).bind fun S1 => (hm_ND_init G S1 S.2.1 p1 p3 (none : Option Nat) (none : Option Nat)).bind fun q2 => dc_let ((some S.2.1) : Option Nat) fun v3 => (hg_pf q2 v3 8 4 (.int p2)).bind fun S4 => (hg_gr S4 (some o) 6 0).bind fun e5 => (hg_chk S4 e5 7).bind fun b6 => (hm_AL_add_L G S4 b6 v3).bind fun q9 => some (q9.1, v3)
set_option maxHeartbeats 4000000 in
set_option maxRecDepth 100000 in
/-- SignalEngine$Draft.leaf(III)LSignalEngine$Node; -/
theorem hm_DR_leaf_ok (l : Launch) (D : va_G) (G : hg_E) (Z : hg_S) (o : Nat) (p1 : Int32) (p2 : Int32) (p3 : Int32) (q : hg_S × (Option Nat)) (hq : hm_DR_leaf G Z o p1 p2 p3 = some q) : hg_C l ⟨"SignalEngine$Draft", "leaf", "(III)LSignalEngine$Node;"⟩ prog_4_method_3_code 5 (some (.object "SignalEngine$Node")) 7 152 D G [.ref o, .int p1, .int p2, .int p3] Z (.inl (some (va_rf q.2), q.1) : hg_O) := by
  refine hg_start (cv := fun q => (.inl (some (va_rf q.2), q.1) : hg_O)) hq ?_
  intro F hF h
  refine hg_enter (lv := [(0, va_rf (some o)), (1, .int p1), (2, .int p2), (3, .int p3)]) (by decide +kernel) (by simp [lg_sl, va_rf_cat, hg_cti, hg_ctr]) (by simp [lv_args, va_rf_cat, va_rf_some, hg_cti, hg_ctr]) ?_
  intro X hC hR
  show hg_G X l (hg_rm 7 152 Z) D 5 Z 0 [(0, va_rf (some o)), (1, .int p1), (2, .int p2), (3, .int p3)] []
  have h : dc_wp (hm_DR_leaf G Z o p1 p2 p3) F := h
  delta hm_DR_leaf at h
  refine hg_rnew (pc := 0) hC nw_SignalEngine_Draft_27 (show decode prog_4_method_3_code 0 = .ok (.new 27, 3) by decide +kernel) h ?_
  intro S1 h
  refine hg_dup (pc := 3) hC (show decode prog_4_method_3_code 3 = .ok (.dup, 1) by decide +kernel) (va_rf_cat _) ?_
  refine hg_iloadn (pc := 4) (j := 1) (i := 1) hC 1 rfl rfl (show decode prog_4_method_3_code 4 = .ok (.iload_n 1, 1) by decide +kernel) ?_
  refine hg_iloadn (pc := 5) (j := 3) (i := 3) hC 3 rfl rfl (show decode prog_4_method_3_code 5 = .ok (.iload_n 3, 1) by decide +kernel) ?_
  refine hg_null (pc := 6) hC (show decode prog_4_method_3_code 6 = .ok (.aconst_null, 1) by decide +kernel) ?_
  refine hg_null (pc := 7) hC (show decode prog_4_method_3_code 7 = .ok (.aconst_null, 1) by decide +kernel) ?_
  refine hg_kIv (pc := 8) (b := Z.2.1) (r := (some Z.2.1)) (As := [.int p1, .int p3, va_rf none, va_rf none]) (rest := [va_rf (some Z.2.1)]) (so := fun q => q) hC cw_SignalEngine_Draft_29 (fun q hq => hm_ND_init_ok l D G S1 Z.2.1 p1 p3 (none : Option Nat) (none : Option Nat) q hq) (Nat.le_of_ble_eq_true rfl) (Nat.le_of_ble_eq_true rfl) rfl rfl (by simp only [List.map, va_rf_cat]; exact Nat.le_of_ble_eq_true rfl) (show decode prog_4_method_3_code 8 = .ok (.invokespecial 29, 3) by decide +kernel) h ?_
  intro q2 h
  refine hg_letR h ?_
  intro v3 h
  refine hg_astore (pc := 11) (i := 4) (r := v3) (lv' := [(4, va_rf v3), (0, va_rf (some o)), (1, .int p1), (2, .int p2), (3, .int p3)]) hC (Nat.le_of_ble_eq_true rfl) rfl (show decode prog_4_method_3_code 11 = .ok (.astore 4, 2) by decide +kernel) ?_
  refine hg_aload (pc := 13) (i := 4) (r := v3) hC 0 rfl (show decode prog_4_method_3_code 13 = .ok (.aload 4, 2) by decide +kernel) ?_
  refine hg_iloadn (pc := 15) (j := 2) (i := 2) hC 3 rfl rfl (show decode prog_4_method_3_code 15 = .ok (.iload_n 2, 1) by decide +kernel) ?_
  refine hg_rput (pc := 16) (r := v3) (v := .int p2) hC fp_SignalEngine_Draft_36 rfl rfl (show decode prog_4_method_3_code 16 = .ok (.putfield 36, 3) by decide +kernel) h ?_
  intro S4 h
  refine hg_aloadn (pc := 19) (j := 0) (i := 0) (r := (some o)) hC 1 rfl rfl (show decode prog_4_method_3_code 19 = .ok (.aload_n 0, 1) by decide +kernel) ?_
  refine hg_rgr (pc := 20) (r := (some o)) hC fl_SignalEngine_Draft_12 (show decode prog_4_method_3_code 20 = .ok (.getfield 12, 3) by decide +kernel) h ?_
  intro e5 h
  refine hg_aload (pc := 23) (i := 4) (r := v3) hC 0 rfl (show decode prog_4_method_3_code 23 = .ok (.aload 4, 2) by decide +kernel) ?_
  obtain ⟨b6, hb7, h⟩ := dc_bind h
  obtain ⟨hb7, hv8⟩ := hg_chk_of (C := R_AL) rfl hb7
  refine hg_kVi (pc := 25) (b := b6) (r := e5) (As := [va_rf v3]) (rest := []) (vo := fun q => q.2) (so := fun q => q.1) hC cw_SignalEngine_Draft_32 (fun q hq => hm_AL_add_L_ok l D G S4 b6 v3 q hq) (Nat.le_of_ble_eq_true rfl) (Nat.le_of_ble_eq_true rfl) hb7 hv8 rfl (Nat.le_of_ble_eq_true rfl) (show decode prog_4_method_3_code 25 = .ok (.invokevirtual 32, 3) by decide +kernel) h ?_
  intro q9 h
  refine hg_pop (pc := 28) hC (show decode prog_4_method_3_code 28 = .ok (.pop, 1) by decide +kernel) rfl ?_
  refine hg_aload (pc := 29) (i := 4) (r := v3) hC 0 rfl (show decode prog_4_method_3_code 29 = .ok (.aload 4, 2) by decide +kernel) ?_
  exact hg_aret (pc := 31) (r := v3) hC hR (by first | exact Or.inl ⟨_, rfl⟩ | exact Or.inr ⟨_, rfl⟩) (hF _ (dc_some h)) (show decode prog_4_method_3_code 31 = .ok (.areturn, 1) by decide +kernel)
noncomputable def hm_DR_join (G : hg_E) (S : hg_S) (o : Nat) (p1 : Int32) (p2 : Option Nat) (p3 : Option Nat) (p4 : Int32) : Option (hg_S × (Option Nat)) :=
  (hg_new S 8 13 [.int 0, .int 0, .null, .null, .int 0, .int 0, .int 0, .int 0, .int 0, .int 0, .int 0, .int 0, .int 0]).bind fun S1 => (hm_ND_init G S1 S.2.1 p1 p4 p2 p3).bind fun q2 => dc_let ((some S.2.1) : Option Nat) fun v3 => (hg_gr q2 (some o) 6 0).bind fun e4 => (hg_chk q2 e4 7).bind fun b5 => (hm_AL_add_L G q2 b5 v3).bind fun q8 => some (q8.1, v3)
set_option maxHeartbeats 4000000 in
set_option maxRecDepth 100000 in
/-- SignalEngine$Draft.join(ILSignalEngine$Node;LSignalEngine$Node;I)LSignalEngine$Node; -/
theorem hm_DR_join_ok (l : Launch) (D : va_G) (G : hg_E) (Z : hg_S) (o : Nat) (p1 : Int32) (p2 : Option Nat) (p3 : Option Nat) (p4 : Int32) (q : hg_S × (Option Nat)) (hq : hm_DR_join G Z o p1 p2 p3 p4 = some q) : hg_C l ⟨"SignalEngine$Draft", "join", "(ILSignalEngine$Node;LSignalEngine$Node;I)LSignalEngine$Node;"⟩ prog_4_method_2_code 6 (some (.object "SignalEngine$Node")) 7 152 D G [.ref o, .int p1, va_rf p2, va_rf p3, .int p4] Z (.inl (some (va_rf q.2), q.1) : hg_O) := by
  refine hg_start (cv := fun q => (.inl (some (va_rf q.2), q.1) : hg_O)) hq ?_
  intro F hF h
  refine hg_enter (lv := [(0, va_rf (some o)), (1, .int p1), (2, va_rf p2), (3, va_rf p3), (4, .int p4)]) (by decide +kernel) (by simp [lg_sl, va_rf_cat, hg_cti, hg_ctr]) (by simp [lv_args, va_rf_cat, va_rf_some, hg_cti, hg_ctr]) ?_
  intro X hC hR
  show hg_G X l (hg_rm 7 152 Z) D 6 Z 0 [(0, va_rf (some o)), (1, .int p1), (2, va_rf p2), (3, va_rf p3), (4, .int p4)] []
  have h : dc_wp (hm_DR_join G Z o p1 p2 p3 p4) F := h
  delta hm_DR_join at h
  refine hg_rnew (pc := 0) hC nw_SignalEngine_Draft_27 (show decode prog_4_method_2_code 0 = .ok (.new 27, 3) by decide +kernel) h ?_
  intro S1 h
  refine hg_dup (pc := 3) hC (show decode prog_4_method_2_code 3 = .ok (.dup, 1) by decide +kernel) (va_rf_cat _) ?_
  refine hg_iloadn (pc := 4) (j := 1) (i := 1) hC 1 rfl rfl (show decode prog_4_method_2_code 4 = .ok (.iload_n 1, 1) by decide +kernel) ?_
  refine hg_iload (pc := 5) (i := 4) hC 4 rfl (show decode prog_4_method_2_code 5 = .ok (.iload 4, 2) by decide +kernel) ?_
  refine hg_aloadn (pc := 7) (j := 2) (i := 2) (r := p2) hC 2 rfl rfl (show decode prog_4_method_2_code 7 = .ok (.aload_n 2, 1) by decide +kernel) ?_
  refine hg_aloadn (pc := 8) (j := 3) (i := 3) (r := p3) hC 3 rfl rfl (show decode prog_4_method_2_code 8 = .ok (.aload_n 3, 1) by decide +kernel) ?_
  refine hg_kIv (pc := 9) (b := Z.2.1) (r := (some Z.2.1)) (As := [.int p1, .int p4, va_rf p2, va_rf p3]) (rest := [va_rf (some Z.2.1)]) (so := fun q => q) hC cw_SignalEngine_Draft_29 (fun q hq => hm_ND_init_ok l D G S1 Z.2.1 p1 p4 p2 p3 q hq) (Nat.le_of_ble_eq_true rfl) (Nat.le_of_ble_eq_true rfl) rfl rfl (by simp only [List.map, va_rf_cat]; exact Nat.le_of_ble_eq_true rfl) (show decode prog_4_method_2_code 9 = .ok (.invokespecial 29, 3) by decide +kernel) h ?_
  intro q2 h
  refine hg_letR h ?_
  intro v3 h
  refine hg_astore (pc := 12) (i := 5) (r := v3) (lv' := [(5, va_rf v3), (0, va_rf (some o)), (1, .int p1), (2, va_rf p2), (3, va_rf p3), (4, .int p4)]) hC (Nat.le_of_ble_eq_true rfl) rfl (show decode prog_4_method_2_code 12 = .ok (.astore 5, 2) by decide +kernel) ?_
  refine hg_aloadn (pc := 14) (j := 0) (i := 0) (r := (some o)) hC 1 rfl rfl (show decode prog_4_method_2_code 14 = .ok (.aload_n 0, 1) by decide +kernel) ?_
  refine hg_rgr (pc := 15) (r := (some o)) hC fl_SignalEngine_Draft_12 (show decode prog_4_method_2_code 15 = .ok (.getfield 12, 3) by decide +kernel) h ?_
  intro e4 h
  refine hg_aload (pc := 18) (i := 5) (r := v3) hC 0 rfl (show decode prog_4_method_2_code 18 = .ok (.aload 5, 2) by decide +kernel) ?_
  obtain ⟨b5, hb6, h⟩ := dc_bind h
  obtain ⟨hb6, hv7⟩ := hg_chk_of (C := R_AL) rfl hb6
  refine hg_kVi (pc := 20) (b := b5) (r := e4) (As := [va_rf v3]) (rest := []) (vo := fun q => q.2) (so := fun q => q.1) hC cw_SignalEngine_Draft_32 (fun q hq => hm_AL_add_L_ok l D G q2 b5 v3 q hq) (Nat.le_of_ble_eq_true rfl) (Nat.le_of_ble_eq_true rfl) hb6 hv7 rfl (Nat.le_of_ble_eq_true rfl) (show decode prog_4_method_2_code 20 = .ok (.invokevirtual 32, 3) by decide +kernel) h ?_
  intro q8 h
  refine hg_pop (pc := 23) hC (show decode prog_4_method_2_code 23 = .ok (.pop, 1) by decide +kernel) rfl ?_
  refine hg_aload (pc := 24) (i := 5) (r := v3) hC 0 rfl (show decode prog_4_method_2_code 24 = .ok (.aload 5, 2) by decide +kernel) ?_
  exact hg_aret (pc := 26) (r := v3) hC hR (by first | exact Or.inl ⟨_, rfl⟩ | exact Or.inr ⟨_, rfl⟩) (hF _ (dc_some h)) (show decode prog_4_method_2_code 26 = .ok (.areturn, 1) by decide +kernel)
noncomputable def hm_DR_halt (G : hg_E) (S : hg_S) (o : Nat) (p1 : Int32) : Option (hg_S × (Option Nat)) :=
  (hg_chk S (some o) 6).bind fun b1 => (hm_DR_leaf G S b1 (1 : Int32) ((-1) : Int32) p1).bind fun q4 => (hg_chk q4.1 (some o) 6).bind fun b5 => (hm_DR_join G q4.1 b5 (6 : Int32) q4.2 (none : Option Nat) p1).bind fun q8 => some (q8.1, q8.2)
set_option maxHeartbeats 4000000 in
set_option maxRecDepth 100000 in
/-- SignalEngine$Draft.halt(I)LSignalEngine$Node; -/
theorem hm_DR_halt_ok (l : Launch) (D : va_G) (G : hg_E) (Z : hg_S) (o : Nat) (p1 : Int32) (q : hg_S × (Option Nat)) (hq : hm_DR_halt G Z o p1 = some q) : hg_C l ⟨"SignalEngine$Draft", "halt", "(I)LSignalEngine$Node;"⟩ prog_4_method_7_code 2 (some (.object "SignalEngine$Node")) 8 177 D G [.ref o, .int p1] Z (.inl (some (va_rf q.2), q.1) : hg_O) := by
  refine hg_start (cv := fun q => (.inl (some (va_rf q.2), q.1) : hg_O)) hq ?_
  intro F hF h
  refine hg_enter (lv := [(0, va_rf (some o)), (1, .int p1)]) (by decide +kernel) (by simp [lg_sl, va_rf_cat, hg_cti, hg_ctr]) (by simp [lv_args, va_rf_cat, va_rf_some, hg_cti, hg_ctr]) ?_
  intro X hC hR
  show hg_G X l (hg_rm 8 177 Z) D 2 Z 0 [(0, va_rf (some o)), (1, .int p1)] []
  have h : dc_wp (hm_DR_halt G Z o p1) F := h
  delta hm_DR_halt at h
  refine hg_aloadn (pc := 0) (j := 0) (i := 0) (r := (some o)) hC 0 rfl rfl (show decode prog_4_method_7_code 0 = .ok (.aload_n 0, 1) by decide +kernel) ?_
  refine hg_bipush (pc := 1) (v := 6) hC (show decode prog_4_method_7_code 1 = .ok (.bipush 6, 2) by decide +kernel) (by decide +kernel) ?_
  refine hg_aloadn (pc := 3) (j := 0) (i := 0) (r := (some o)) hC 0 rfl rfl (show decode prog_4_method_7_code 3 = .ok (.aload_n 0, 1) by decide +kernel) ?_
  refine hg_iconst (pc := 4) (v := 1) hC (show decode prog_4_method_7_code 4 = .ok (.iconst 1, 1) by decide +kernel) (by decide +kernel) ?_
  refine hg_iconst (pc := 5) (v := (-1)) hC (show decode prog_4_method_7_code 5 = .ok (.iconst (-1), 1) by decide +kernel) (by decide +kernel) ?_
  refine hg_iloadn (pc := 6) (j := 1) (i := 1) hC 1 rfl rfl (show decode prog_4_method_7_code 6 = .ok (.iload_n 1, 1) by decide +kernel) ?_
  obtain ⟨b1, hb2, h⟩ := dc_bind h
  obtain ⟨hb2, hv3⟩ := hg_chk_of (C := R_DR) rfl hb2
  refine hg_kVr (pc := 7) (b := b1) (r := (some o)) (As := [.int 1, .int (-1), .int p1]) (rest := [.int 6, va_rf (some o)]) (vo := fun q => q.2) (so := fun q => q.1) hC cw_SignalEngine_Draft_50 (fun q hq => hm_DR_leaf_ok l D G Z b1 (1 : Int32) ((-1) : Int32) p1 q hq) (Nat.le_of_ble_eq_true rfl) (Nat.le_of_ble_eq_true rfl) hb2 hv3 rfl (Nat.le_of_ble_eq_true rfl) (show decode prog_4_method_7_code 7 = .ok (.invokevirtual 50, 3) by decide +kernel) h ?_
  intro q4 h
  refine hg_null (pc := 10) hC (show decode prog_4_method_7_code 10 = .ok (.aconst_null, 1) by decide +kernel) ?_
  refine hg_iloadn (pc := 11) (j := 1) (i := 1) hC 1 rfl rfl (show decode prog_4_method_7_code 11 = .ok (.iload_n 1, 1) by decide +kernel) ?_
  obtain ⟨b5, hb6, h⟩ := dc_bind h
  obtain ⟨hb6, hv7⟩ := hg_chk_of (C := R_DR) rfl hb6
  refine hg_kVr (pc := 12) (b := b5) (r := (some o)) (As := [.int 6, va_rf q4.2, va_rf none, .int p1]) (rest := []) (vo := fun q => q.2) (so := fun q => q.1) hC cw_SignalEngine_Draft_40 (fun q hq => hm_DR_join_ok l D G q4.1 b5 (6 : Int32) q4.2 (none : Option Nat) p1 q hq) (Nat.le_of_ble_eq_true rfl) (Nat.le_of_ble_eq_true rfl) hb6 hv7 rfl (Nat.le_of_ble_eq_true rfl) (show decode prog_4_method_7_code 12 = .ok (.invokevirtual 40, 3) by decide +kernel) h ?_
  intro q8 h
  exact hg_aret (pc := 15) (r := q8.2) hC hR (by first | exact Or.inl ⟨_, rfl⟩ | exact Or.inr ⟨_, rfl⟩) (hF _ (dc_some h)) (show decode prog_4_method_7_code 15 = .ok (.areturn, 1) by decide +kernel)
noncomputable def hm_PA_takeUse_L47 (G : hg_E) (S : hg_S) (o : Nat) (x3 : Int32) : Option ((hg_S × Int32) ⊕ hg_X) :=
  (hg_gr S (some o) 4 0).bind fun e1 => (hg_chk S e1 2).bind fun b2 => (hm_LX_advance G S b2).bind (Sum.elim (fun q5 => some (.inl (q5, x3))) (fun z => some (Sum.inr z)))
noncomputable def hm_PA_takeUse_L22 (G : hg_E) (S : hg_S) (o : Nat) (x1 : Option Nat) (x2 : Int32) (y0 : Int32) (y1 : Option Nat) : Option ((hg_S × Int32) ⊕ hg_X) :=
  (hg_chk S y1 2).bind fun b6 => (hm_LX_require G S b6 y0).bind (Sum.elim (fun q9 => (hg_gr q9 (some o) 4 0).bind fun e10 => (hg_chk q9 x1 3).bind fun b11 => (hm_NM_find G q9 b11 e10).bind fun q14 => if q14 < x2 then ((hg_gr q9 (some o) 4 0).bind fun e15 => (hg_chk q9 e15 2).bind fun b16 => (hm_LX_refuse G q9 b16 (2 : Int32)).bind (Sum.elim (fun q19 => hm_PA_takeUse_L47 G q19 o q14) (fun z => some (Sum.inr z)))) else (hm_PA_takeUse_L47 G q9 o q14)) (fun z => some (Sum.inr z)))
noncomputable def hm_PA_takeUse (G : hg_E) (S : hg_S) (o : Nat) (p1 : Option Nat) (p2 : Int32) : Option ((hg_S × Int32) ⊕ hg_X) :=
  (hg_gr S (some o) 4 0).bind fun e20 => (hg_gr S (some o) 4 0).bind fun e21 => (hg_gr S e21 2 1).bind fun e22 => if e22 = (some (G.2.1 31)) then (hm_PA_takeUse_L22 G S o p1 p2 1 e20) else (hm_PA_takeUse_L22 G S o p1 p2 0 e20)
set_option maxHeartbeats 4000000 in
set_option maxRecDepth 100000 in
/-- SignalEngine$Parser.takeUse(LSignalEngine$Names;I)I -/
theorem hm_PA_takeUse_ok (l : Launch) (hlt : l.stackTraces = false) (D : va_G) (G : hg_E) (Z : hg_S) (o : Nat) (p1 : Option Nat) (p2 : Int32) (q : (hg_S × Int32) ⊕ hg_X) (hq : hm_PA_takeUse G Z o p1 p2 = some q) : hg_C l ⟨"SignalEngine$Parser", "takeUse", "(LSignalEngine$Names;I)I"⟩ prog_9_method_8_code 4 (some (.int)) 8 142 D G [.ref o, va_rf p1, .int p2] Z (Sum.elim (fun q => (.inl (some (.int q.2), q.1) : hg_O)) hg_ox q) := by
  refine hg_start (cv := fun q => (Sum.elim (fun q => (.inl (some (.int q.2), q.1) : hg_O)) hg_ox q)) hq ?_
  intro F hF h
  refine hg_enter (lv := [(0, va_rf (some o)), (1, va_rf p1), (2, .int p2)]) (by decide +kernel) (by simp [lg_sl, va_rf_cat, hg_cti, hg_ctr]) (by simp [lv_args, va_rf_cat, va_rf_some, hg_cti, hg_ctr]) ?_
  intro X hC hR
  have lab_47 : ∀ (S : hg_S) (x3 : Int32), dc_wp (hm_PA_takeUse_L47 G S o x3) F → hg_G X l (hg_rm 8 142 Z) D 4 S 47 [(0, va_rf (some o)), (3, .int x3)] [] := by
    intro S x3 h
    delta hm_PA_takeUse_L47 at h
    refine hg_aloadn (pc := 47) (j := 0) (i := 0) (r := (some o)) hC 0 rfl rfl (show decode prog_9_method_8_code 47 = .ok (.aload_n 0, 1) by decide +kernel) ?_
    refine hg_rgr (pc := 48) (r := (some o)) hC fl_SignalEngine_Parser_23 (show decode prog_9_method_8_code 48 = .ok (.getfield 23, 3) by decide +kernel) h ?_
    intro e1 h
    obtain ⟨b2, hb3, h⟩ := dc_bind h
    obtain ⟨hb3, hv4⟩ := hg_chk_of (C := R_LX) rfl hb3
    refine hg_kVTv (pc := 51) (b := b2) (r := e1) (As := []) (rest := []) (so := fun q => q) hC hR cw_SignalEngine_Parser_79 (fun q hq => hm_LX_advance_ok l hlt D G S b2 q hq) (Nat.le_of_ble_eq_true rfl) (Nat.le_of_ble_eq_true rfl) hb3 hv4 rfl (Nat.le_of_ble_eq_true rfl) (show decode prog_9_method_8_code 51 = .ok (.invokevirtual 79, 3) by decide +kernel) h (fun z h => hF (.inr z) (dc_some h)) ?_
    intro q5 h
    refine hg_iloadn (pc := 54) (j := 3) (i := 3) hC 1 rfl rfl (show decode prog_9_method_8_code 54 = .ok (.iload_n 3, 1) by decide +kernel) ?_
    exact hg_iret (pc := 55) hC hR (hF _ (dc_some h)) (show decode prog_9_method_8_code 55 = .ok (.ireturn, 1) by decide +kernel)
  have lab_22 : ∀ (S : hg_S) (x1 : Option Nat) (x2 : Int32) (y0 : Int32) (y1 : Option Nat), dc_wp (hm_PA_takeUse_L22 G S o x1 x2 y0 y1) F → hg_G X l (hg_rm 8 142 Z) D 4 S 22 [(0, va_rf (some o)), (1, va_rf x1), (2, .int x2)] [.int y0, va_rf y1] := by
    intro S x1 x2 y0 y1 h
    delta hm_PA_takeUse_L22 at h
    obtain ⟨b6, hb7, h⟩ := dc_bind h
    obtain ⟨hb7, hv8⟩ := hg_chk_of (C := R_LX) rfl hb7
    refine hg_kVTv (pc := 22) (b := b6) (r := y1) (As := [.int y0]) (rest := []) (so := fun q => q) hC hR cw_SignalEngine_Parser_102 (fun q hq => hm_LX_require_ok l hlt D G S b6 y0 q hq) (Nat.le_of_ble_eq_true rfl) (Nat.le_of_ble_eq_true rfl) hb7 hv8 rfl (Nat.le_of_ble_eq_true rfl) (show decode prog_9_method_8_code 22 = .ok (.invokevirtual 102, 3) by decide +kernel) h (fun z h => hF (.inr z) (dc_some h)) ?_
    intro q9 h
    refine hg_aloadn (pc := 25) (j := 1) (i := 1) (r := x1) hC 1 rfl rfl (show decode prog_9_method_8_code 25 = .ok (.aload_n 1, 1) by decide +kernel) ?_
    refine hg_aloadn (pc := 26) (j := 0) (i := 0) (r := (some o)) hC 0 rfl rfl (show decode prog_9_method_8_code 26 = .ok (.aload_n 0, 1) by decide +kernel) ?_
    refine hg_rgr (pc := 27) (r := (some o)) hC fl_SignalEngine_Parser_23 (show decode prog_9_method_8_code 27 = .ok (.getfield 23, 3) by decide +kernel) h ?_
    intro e10 h
    obtain ⟨b11, hb12, h⟩ := dc_bind h
    obtain ⟨hb12, hv13⟩ := hg_chk_of (C := R_NM) rfl hb12
    refine hg_kVi (pc := 30) (b := b11) (r := x1) (As := [va_rf e10]) (rest := []) (vo := fun q => q) (so := fun q => q9) hC cw_SignalEngine_Parser_131 (fun q hq => hm_NM_find_ok l D G q9 b11 e10 q hq) (Nat.le_of_ble_eq_true rfl) (Nat.le_of_ble_eq_true rfl) hb12 hv13 rfl (Nat.le_of_ble_eq_true rfl) (show decode prog_9_method_8_code 30 = .ok (.invokevirtual 131, 3) by decide +kernel) h ?_
    intro q14 h
    refine hg_istoren (pc := 33) (j := 3) (i := 3) (lv' := [(3, .int q14), (0, va_rf (some o)), (1, va_rf x1), (2, .int x2)]) hC rfl (Nat.le_of_ble_eq_true rfl) rfl (show decode prog_9_method_8_code 33 = .ok (.istore_n 3, 1) by decide +kernel) ?_
    refine hg_iloadn (pc := 34) (j := 3) (i := 3) hC 0 rfl rfl (show decode prog_9_method_8_code 34 = .ok (.iload_n 3, 1) by decide +kernel) ?_
    refine hg_iloadn (pc := 35) (j := 2) (i := 2) hC 3 rfl rfl (show decode prog_9_method_8_code 35 = .ok (.iload_n 2, 1) by decide +kernel) ?_
    refine hg_icmp_ge (pc := 36) (tgt := 47) hC (show decode prog_9_method_8_code 36 = .ok (.if_icmp .ge 11, 3) by decide +kernel) (by decide +kernel) h ?_ ?_
    · intro h
      refine hg_aloadn (pc := 39) (j := 0) (i := 0) (r := (some o)) hC 1 rfl rfl (show decode prog_9_method_8_code 39 = .ok (.aload_n 0, 1) by decide +kernel) ?_
      refine hg_rgr (pc := 40) (r := (some o)) hC fl_SignalEngine_Parser_23 (show decode prog_9_method_8_code 40 = .ok (.getfield 23, 3) by decide +kernel) h ?_
      intro e15 h
      refine hg_iconst (pc := 43) (v := 2) hC (show decode prog_9_method_8_code 43 = .ok (.iconst 2, 1) by decide +kernel) (by decide +kernel) ?_
      obtain ⟨b16, hb17, h⟩ := dc_bind h
      obtain ⟨hb17, hv18⟩ := hg_chk_of (C := R_LX) rfl hb17
      refine hg_kVTv (pc := 44) (b := b16) (r := e15) (As := [.int 2]) (rest := []) (so := fun q => q) hC hR cw_SignalEngine_Parser_117 (fun q hq => hm_LX_refuse_ok l hlt D G q9 b16 (2 : Int32) q hq) (Nat.le_of_ble_eq_true rfl) (Nat.le_of_ble_eq_true rfl) hb17 hv18 rfl (Nat.le_of_ble_eq_true rfl) (show decode prog_9_method_8_code 44 = .ok (.invokevirtual 117, 3) by decide +kernel) h (fun z h => hF (.inr z) (dc_some h)) ?_
      intro q19 h
      exact hg_sub [1, 0] rfl (lab_47 q19 q14 h)
    · intro h
      exact hg_sub [1, 0] rfl (lab_47 q9 q14 h)
  show hg_G X l (hg_rm 8 142 Z) D 4 Z 0 [(0, va_rf (some o)), (1, va_rf p1), (2, .int p2)] []
  have h : dc_wp (hm_PA_takeUse G Z o p1 p2) F := h
  delta hm_PA_takeUse at h
  refine hg_aloadn (pc := 0) (j := 0) (i := 0) (r := (some o)) hC 0 rfl rfl (show decode prog_9_method_8_code 0 = .ok (.aload_n 0, 1) by decide +kernel) ?_
  refine hg_rgr (pc := 1) (r := (some o)) hC fl_SignalEngine_Parser_23 (show decode prog_9_method_8_code 1 = .ok (.getfield 23, 3) by decide +kernel) h ?_
  intro e20 h
  refine hg_aloadn (pc := 4) (j := 0) (i := 0) (r := (some o)) hC 0 rfl rfl (show decode prog_9_method_8_code 4 = .ok (.aload_n 0, 1) by decide +kernel) ?_
  refine hg_rgr (pc := 5) (r := (some o)) hC fl_SignalEngine_Parser_23 (show decode prog_9_method_8_code 5 = .ok (.getfield 23, 3) by decide +kernel) h ?_
  intro e21 h
  refine hg_rgr (pc := 8) (r := e21) hC fl_SignalEngine_Parser_70 (show decode prog_9_method_8_code 8 = .ok (.getfield 70, 3) by decide +kernel) h ?_
  intro e22 h
  refine hg_tok (pc := 11) (j := 31) hC (by decide) rfl w_477 (show decode prog_9_method_8_code 11 = .ok (.getstatic 110, 3) by decide +kernel) ?_
  refine hg_acmp_ne (pc := 14) (tgt := 21) (x := e22) (y := (some (G.2.1 31))) hC (show decode prog_9_method_8_code 14 = .ok (.if_acmp .ne 7, 3) by decide +kernel) (by decide +kernel) h ?_ ?_
  · intro h
    refine hg_iconst (pc := 17) (v := 1) hC (show decode prog_9_method_8_code 17 = .ok (.iconst 1, 1) by decide +kernel) (by decide +kernel) ?_
    refine hg_goto (pc := 18) (tgt := 22) hC (show decode prog_9_method_8_code 18 = .ok (.goto 4, 3) by decide +kernel) (by decide +kernel) ?_
    exact lab_22 Z p1 p2 1 e20 h
  · intro h
    refine hg_iconst (pc := 21) (v := 0) hC (show decode prog_9_method_8_code 21 = .ok (.iconst 0, 1) by decide +kernel) (by decide +kernel) ?_
    exact lab_22 Z p1 p2 0 e20 h
noncomputable def hm_DR_sustain (G : hg_E) (S : hg_S) (o : Nat) (p1 : Int32) (p2 : Int32) : Option (hg_S × (Option Nat)) :=
  (hg_chk S (some o) 6).bind fun b1 => (hm_DR_leaf G S b1 (2 : Int32) p1 p2).bind fun q4 => (hg_chk q4.1 (some o) 6).bind fun b5 => (hm_DR_leaf G q4.1 b5 (1 : Int32) ((-1) : Int32) p2).bind fun q8 => (hg_chk q8.1 (some o) 6).bind fun b9 => (hm_DR_join G q8.1 b9 (5 : Int32) q4.2 q8.2 p2).bind fun q12 => (hg_chk q12.1 (some o) 6).bind fun b13 => (hm_DR_join G q12.1 b13 (6 : Int32) q12.2 (none : Option Nat) p2).bind fun q16 => some (q16.1, q16.2)
set_option maxHeartbeats 4000000 in
set_option maxRecDepth 100000 in
/-- SignalEngine$Draft.sustain(II)LSignalEngine$Node; -/
theorem hm_DR_sustain_ok (l : Launch) (D : va_G) (G : hg_E) (Z : hg_S) (o : Nat) (p1 : Int32) (p2 : Int32) (q : hg_S × (Option Nat)) (hq : hm_DR_sustain G Z o p1 p2 = some q) : hg_C l ⟨"SignalEngine$Draft", "sustain", "(II)LSignalEngine$Node;"⟩ prog_4_method_8_code 4 (some (.object "SignalEngine$Node")) 8 177 D G [.ref o, .int p1, .int p2] Z (.inl (some (va_rf q.2), q.1) : hg_O) := by
  refine hg_start (cv := fun q => (.inl (some (va_rf q.2), q.1) : hg_O)) hq ?_
  intro F hF h
  refine hg_enter (lv := [(0, va_rf (some o)), (1, .int p1), (2, .int p2)]) (by decide +kernel) (by simp [lg_sl, va_rf_cat, hg_cti, hg_ctr]) (by simp [lv_args, va_rf_cat, va_rf_some, hg_cti, hg_ctr]) ?_
  intro X hC hR
  show hg_G X l (hg_rm 8 177 Z) D 4 Z 0 [(0, va_rf (some o)), (1, .int p1), (2, .int p2)] []
  have h : dc_wp (hm_DR_sustain G Z o p1 p2) F := h
  delta hm_DR_sustain at h
  refine hg_aloadn (pc := 0) (j := 0) (i := 0) (r := (some o)) hC 0 rfl rfl (show decode prog_4_method_8_code 0 = .ok (.aload_n 0, 1) by decide +kernel) ?_
  refine hg_iconst (pc := 1) (v := 2) hC (show decode prog_4_method_8_code 1 = .ok (.iconst 2, 1) by decide +kernel) (by decide +kernel) ?_
  refine hg_iloadn (pc := 2) (j := 1) (i := 1) hC 1 rfl rfl (show decode prog_4_method_8_code 2 = .ok (.iload_n 1, 1) by decide +kernel) ?_
  refine hg_iloadn (pc := 3) (j := 2) (i := 2) hC 2 rfl rfl (show decode prog_4_method_8_code 3 = .ok (.iload_n 2, 1) by decide +kernel) ?_
  obtain ⟨b1, hb2, h⟩ := dc_bind h
  obtain ⟨hb2, hv3⟩ := hg_chk_of (C := R_DR) rfl hb2
  refine hg_kVr (pc := 4) (b := b1) (r := (some o)) (As := [.int 2, .int p1, .int p2]) (rest := []) (vo := fun q => q.2) (so := fun q => q.1) hC cw_SignalEngine_Draft_50 (fun q hq => hm_DR_leaf_ok l D G Z b1 (2 : Int32) p1 p2 q hq) (Nat.le_of_ble_eq_true rfl) (Nat.le_of_ble_eq_true rfl) hb2 hv3 rfl (Nat.le_of_ble_eq_true rfl) (show decode prog_4_method_8_code 4 = .ok (.invokevirtual 50, 3) by decide +kernel) h ?_
  intro q4 h
  refine hg_astoren (pc := 7) (j := 3) (i := 3) (r := q4.2) (lv' := [(3, va_rf q4.2), (0, va_rf (some o)), (1, .int p1), (2, .int p2)]) hC rfl (Nat.le_of_ble_eq_true rfl) rfl (show decode prog_4_method_8_code 7 = .ok (.astore_n 3, 1) by decide +kernel) ?_
  refine hg_aloadn (pc := 8) (j := 0) (i := 0) (r := (some o)) hC 1 rfl rfl (show decode prog_4_method_8_code 8 = .ok (.aload_n 0, 1) by decide +kernel) ?_
  refine hg_bipush (pc := 9) (v := 6) hC (show decode prog_4_method_8_code 9 = .ok (.bipush 6, 2) by decide +kernel) (by decide +kernel) ?_
  refine hg_aloadn (pc := 11) (j := 0) (i := 0) (r := (some o)) hC 1 rfl rfl (show decode prog_4_method_8_code 11 = .ok (.aload_n 0, 1) by decide +kernel) ?_
  refine hg_iconst (pc := 12) (v := 5) hC (show decode prog_4_method_8_code 12 = .ok (.iconst 5, 1) by decide +kernel) (by decide +kernel) ?_
  refine hg_aloadn (pc := 13) (j := 3) (i := 3) (r := q4.2) hC 0 rfl rfl (show decode prog_4_method_8_code 13 = .ok (.aload_n 3, 1) by decide +kernel) ?_
  refine hg_aloadn (pc := 14) (j := 0) (i := 0) (r := (some o)) hC 1 rfl rfl (show decode prog_4_method_8_code 14 = .ok (.aload_n 0, 1) by decide +kernel) ?_
  refine hg_iconst (pc := 15) (v := 1) hC (show decode prog_4_method_8_code 15 = .ok (.iconst 1, 1) by decide +kernel) (by decide +kernel) ?_
  refine hg_iconst (pc := 16) (v := (-1)) hC (show decode prog_4_method_8_code 16 = .ok (.iconst (-1), 1) by decide +kernel) (by decide +kernel) ?_
  refine hg_iloadn (pc := 17) (j := 2) (i := 2) hC 3 rfl rfl (show decode prog_4_method_8_code 17 = .ok (.iload_n 2, 1) by decide +kernel) ?_
  obtain ⟨b5, hb6, h⟩ := dc_bind h
  obtain ⟨hb6, hv7⟩ := hg_chk_of (C := R_DR) rfl hb6
  refine hg_kVr (pc := 18) (b := b5) (r := (some o)) (As := [.int 1, .int (-1), .int p2]) (rest := [va_rf q4.2, .int 5, va_rf (some o), .int 6, va_rf (some o)]) (vo := fun q => q.2) (so := fun q => q.1) hC cw_SignalEngine_Draft_50 (fun q hq => hm_DR_leaf_ok l D G q4.1 b5 (1 : Int32) ((-1) : Int32) p2 q hq) (Nat.le_of_ble_eq_true rfl) (Nat.le_of_ble_eq_true rfl) hb6 hv7 rfl (by simp only [List.map, va_rf_cat]; exact Nat.le_of_ble_eq_true rfl) (show decode prog_4_method_8_code 18 = .ok (.invokevirtual 50, 3) by decide +kernel) h ?_
  intro q8 h
  refine hg_iloadn (pc := 21) (j := 2) (i := 2) hC 3 rfl rfl (show decode prog_4_method_8_code 21 = .ok (.iload_n 2, 1) by decide +kernel) ?_
  obtain ⟨b9, hb10, h⟩ := dc_bind h
  obtain ⟨hb10, hv11⟩ := hg_chk_of (C := R_DR) rfl hb10
  refine hg_kVr (pc := 22) (b := b9) (r := (some o)) (As := [.int 5, va_rf q4.2, va_rf q8.2, .int p2]) (rest := [.int 6, va_rf (some o)]) (vo := fun q => q.2) (so := fun q => q.1) hC cw_SignalEngine_Draft_40 (fun q hq => hm_DR_join_ok l D G q8.1 b9 (5 : Int32) q4.2 q8.2 p2 q hq) (Nat.le_of_ble_eq_true rfl) (Nat.le_of_ble_eq_true rfl) hb10 hv11 rfl (Nat.le_of_ble_eq_true rfl) (show decode prog_4_method_8_code 22 = .ok (.invokevirtual 40, 3) by decide +kernel) h ?_
  intro q12 h
  refine hg_null (pc := 25) hC (show decode prog_4_method_8_code 25 = .ok (.aconst_null, 1) by decide +kernel) ?_
  refine hg_iloadn (pc := 26) (j := 2) (i := 2) hC 3 rfl rfl (show decode prog_4_method_8_code 26 = .ok (.iload_n 2, 1) by decide +kernel) ?_
  obtain ⟨b13, hb14, h⟩ := dc_bind h
  obtain ⟨hb14, hv15⟩ := hg_chk_of (C := R_DR) rfl hb14
  refine hg_kVr (pc := 27) (b := b13) (r := (some o)) (As := [.int 6, va_rf q12.2, va_rf none, .int p2]) (rest := []) (vo := fun q => q.2) (so := fun q => q.1) hC cw_SignalEngine_Draft_40 (fun q hq => hm_DR_join_ok l D G q12.1 b13 (6 : Int32) q12.2 (none : Option Nat) p2 q hq) (Nat.le_of_ble_eq_true rfl) (Nat.le_of_ble_eq_true rfl) hb14 hv15 rfl (Nat.le_of_ble_eq_true rfl) (show decode prog_4_method_8_code 27 = .ok (.invokevirtual 40, 3) by decide +kernel) h ?_
  intro q16 h
  exact hg_aret (pc := 30) (r := q16.2) hC hR (by first | exact Or.inl ⟨_, rfl⟩ | exact Or.inr ⟨_, rfl⟩) (hF _ (dc_some h)) (show decode prog_4_method_8_code 30 = .ok (.areturn, 1) by decide +kernel)
noncomputable def hm_DR_exit (G : hg_E) (S : hg_S) (o : Nat) (p1 : Int32) (p2 : Int32) : Option (hg_S × (Option Nat)) :=
  (hg_chk S (some o) 6).bind fun b1 => (hm_DR_join G S b1 (9 : Int32) (none : Option Nat) (none : Option Nat) p2).bind fun q4 => (hg_pf q4.1 q4.2 8 5 (.int p1)).bind fun S5 => some (S5, q4.2)
set_option maxHeartbeats 4000000 in
set_option maxRecDepth 100000 in
/-- SignalEngine$Draft.exit(II)LSignalEngine$Node; -/
theorem hm_DR_exit_ok (l : Launch) (D : va_G) (G : hg_E) (Z : hg_S) (o : Nat) (p1 : Int32) (p2 : Int32) (q : hg_S × (Option Nat)) (hq : hm_DR_exit G Z o p1 p2 = some q) : hg_C l ⟨"SignalEngine$Draft", "exit", "(II)LSignalEngine$Node;"⟩ prog_4_method_6_code 4 (some (.object "SignalEngine$Node")) 8 177 D G [.ref o, .int p1, .int p2] Z (.inl (some (va_rf q.2), q.1) : hg_O) := by
  refine hg_start (cv := fun q => (.inl (some (va_rf q.2), q.1) : hg_O)) hq ?_
  intro F hF h
  refine hg_enter (lv := [(0, va_rf (some o)), (1, .int p1), (2, .int p2)]) (by decide +kernel) (by simp [lg_sl, va_rf_cat, hg_cti, hg_ctr]) (by simp [lv_args, va_rf_cat, va_rf_some, hg_cti, hg_ctr]) ?_
  intro X hC hR
  show hg_G X l (hg_rm 8 177 Z) D 4 Z 0 [(0, va_rf (some o)), (1, .int p1), (2, .int p2)] []
  have h : dc_wp (hm_DR_exit G Z o p1 p2) F := h
  delta hm_DR_exit at h
  refine hg_aloadn (pc := 0) (j := 0) (i := 0) (r := (some o)) hC 0 rfl rfl (show decode prog_4_method_6_code 0 = .ok (.aload_n 0, 1) by decide +kernel) ?_
  refine hg_bipush (pc := 1) (v := 9) hC (show decode prog_4_method_6_code 1 = .ok (.bipush 9, 2) by decide +kernel) (by decide +kernel) ?_
  refine hg_null (pc := 3) hC (show decode prog_4_method_6_code 3 = .ok (.aconst_null, 1) by decide +kernel) ?_
  refine hg_null (pc := 4) hC (show decode prog_4_method_6_code 4 = .ok (.aconst_null, 1) by decide +kernel) ?_
  refine hg_iloadn (pc := 5) (j := 2) (i := 2) hC 2 rfl rfl (show decode prog_4_method_6_code 5 = .ok (.iload_n 2, 1) by decide +kernel) ?_
  obtain ⟨b1, hb2, h⟩ := dc_bind h
  obtain ⟨hb2, hv3⟩ := hg_chk_of (C := R_DR) rfl hb2
  refine hg_kVr (pc := 6) (b := b1) (r := (some o)) (As := [.int 9, va_rf none, va_rf none, .int p2]) (rest := []) (vo := fun q => q.2) (so := fun q => q.1) hC cw_SignalEngine_Draft_40 (fun q hq => hm_DR_join_ok l D G Z b1 (9 : Int32) (none : Option Nat) (none : Option Nat) p2 q hq) (Nat.le_of_ble_eq_true rfl) (Nat.le_of_ble_eq_true rfl) hb2 hv3 rfl (Nat.le_of_ble_eq_true rfl) (show decode prog_4_method_6_code 6 = .ok (.invokevirtual 40, 3) by decide +kernel) h ?_
  intro q4 h
  refine hg_astoren (pc := 9) (j := 3) (i := 3) (r := q4.2) (lv' := [(3, va_rf q4.2), (0, va_rf (some o)), (1, .int p1), (2, .int p2)]) hC rfl (Nat.le_of_ble_eq_true rfl) rfl (show decode prog_4_method_6_code 9 = .ok (.astore_n 3, 1) by decide +kernel) ?_
  refine hg_aloadn (pc := 10) (j := 3) (i := 3) (r := q4.2) hC 0 rfl rfl (show decode prog_4_method_6_code 10 = .ok (.aload_n 3, 1) by decide +kernel) ?_
  refine hg_iloadn (pc := 11) (j := 1) (i := 1) hC 2 rfl rfl (show decode prog_4_method_6_code 11 = .ok (.iload_n 1, 1) by decide +kernel) ?_
  refine hg_rput (pc := 12) (r := q4.2) (v := .int p1) hC fp_SignalEngine_Draft_47 rfl rfl (show decode prog_4_method_6_code 12 = .ok (.putfield 47, 3) by decide +kernel) h ?_
  intro S5 h
  refine hg_aloadn (pc := 15) (j := 3) (i := 3) (r := q4.2) hC 0 rfl rfl (show decode prog_4_method_6_code 15 = .ok (.aload_n 3, 1) by decide +kernel) ?_
  exact hg_aret (pc := 16) (r := q4.2) hC hR (by first | exact Or.inl ⟨_, rfl⟩ | exact Or.inr ⟨_, rfl⟩) (hF _ (dc_some h)) (show decode prog_4_method_6_code 16 = .ok (.areturn, 1) by decide +kernel)
abbrev hm_T1 : Type := (hg_E → hg_S → Nat → Option ((hg_S × Int32) ⊕ hg_X)) × (hg_E → hg_S → Nat → Option ((hg_S × Int32) ⊕ hg_X)) × (hg_E → hg_S → Nat → Option ((hg_S × Int32) ⊕ hg_X))
def hm_OK1 (l : Launch) (D : va_G) (G : hg_E) (T : hm_T1) (d : Nat) : Prop :=
  (∀ (Z : hg_S) (o : Nat) (q : (hg_S × Int32) ⊕ hg_X), T.1 G Z o = some q → hg_C l ⟨"SignalEngine$Parser", "takeEither", "()I"⟩ prog_9_method_21_code 3 (some (.int)) (d + 9) (22 * d + 165) D G [.ref o] Z (Sum.elim (fun q => (.inl (some (.int q.2), q.1) : hg_O)) hg_ox q)) ∧
  (∀ (Z : hg_S) (o : Nat) (q : (hg_S × Int32) ⊕ hg_X), T.2.1 G Z o = some q → hg_C l ⟨"SignalEngine$Parser", "takeClause", "()I"⟩ prog_9_method_22_code 3 (some (.int)) (d + 9) (22 * d + 165) D G [.ref o] Z (Sum.elim (fun q => (.inl (some (.int q.2), q.1) : hg_O)) hg_ox q)) ∧
  (∀ (Z : hg_S) (o : Nat) (q : (hg_S × Int32) ⊕ hg_X), T.2.2 G Z o = some q → hg_C l ⟨"SignalEngine$Parser", "takePart", "()I"⟩ prog_9_method_23_code 2 (some (.int)) (d + 9) (22 * d + 165) D G [.ref o] Z (Sum.elim (fun q => (.inl (some (.int q.2), q.1) : hg_O)) hg_ox q))
noncomputable def hm_PA_takeEither_L52 (T : hm_T1) (G : hg_E) (S : hg_S) (o : Nat) (x1 : Int32) : Option ((hg_S × Int32) ⊕ hg_X) :=
  some (.inl (S, x1))
noncomputable def hm_PA_takeEither_b7 (T : hm_T1) (G : hg_E) (S : hg_S) (o : Nat) (x1 : Int32) (x2 : Int32) : Option ((hg_S × Int32 × Int32) ⊕ ((hg_S × Int32) ⊕ (hg_X))) :=
  (hg_gr S (some o) 4 0).bind fun e1 => (hg_gr S e1 2 0).bind fun e2 => (hg_ln S e2 (G.1 1)).bind fun e3 => if x2 < e3 then ((hg_chk S (some o) 4).bind fun b4 => (hm_PA_skip G S b4 (some (G.2.1 20))).bind (Sum.elim (fun q7 => if q7.2 = 0 then (some (.inr (.inl (q7.1, x1)))) else ((hg_gr q7.1 (some o) 4 3).bind fun e8 => (hg_gr q7.1 e8 6 1).bind fun e9 => (hg_chk q7.1 (some o) 4).bind fun b10 => (T.2.1 G q7.1 b10).bind (Sum.elim (fun q13 => (hg_chk q13.1 e9 5).bind fun b14 => (hm_PI_add G q13.1 b14 (3 : Int32) x1 q13.2).bind fun q17 => some (.inl (q17.1, q17.2, (x2 + 1)))) (fun z => some (Sum.inr (.inr z)))))) (fun z => some (Sum.inr (.inr z))))) else (some (.inr (.inl (S, x1))))
noncomputable def hm_PA_takeEither_s7 (T : hm_T1) (G : hg_E) (o : Nat) (q : hg_S × Int32 × Int32) : Option ((hg_S × Int32 × Int32) ⊕ ((hg_S × Int32) ⊕ (hg_X))) :=
  hm_PA_takeEither_b7 T G q.1 o q.2.1 q.2.2
noncomputable def hm_PA_takeEither_L7 (T : hm_T1) (G : hg_E) (S : hg_S) (o : Nat) (x1 : Int32) (x2 : Int32) : Option ((hg_S × Int32) ⊕ hg_X) :=
  (dc_it (hm_PA_takeEither_s7 T G o) (S, x1, x2)).bind (Sum.elim (fun (z : hg_S × Int32) => hm_PA_takeEither_L52 T G z.1 o z.2) (fun (z : hg_X) => some (Sum.inr z)))
noncomputable def hm_PA_takeEither (T : hm_T1) (G : hg_E) (S : hg_S) (o : Nat) : Option ((hg_S × Int32) ⊕ hg_X) :=
  (hg_chk S (some o) 4).bind fun b18 => (T.2.1 G S b18).bind (Sum.elim (fun q21 => hm_PA_takeEither_L7 T G q21.1 o q21.2 0) (fun z => some (Sum.inr z)))
set_option maxHeartbeats 4000000 in
set_option maxRecDepth 100000 in
/-- SignalEngine$Parser.takeEither()I -/
theorem hm_PA_takeEither_ok (l : Launch) (hlt : l.stackTraces = false) (D : va_G) (G : hg_E) (T : hm_T1) (d : Nat) (hT : hm_OK1 l D G T d) (Z : hg_S) (o : Nat) (q : (hg_S × Int32) ⊕ hg_X) (hq : hm_PA_takeEither T G Z o = some q) : hg_C l ⟨"SignalEngine$Parser", "takeEither", "()I"⟩ prog_9_method_21_code 3 (some (.int)) (d + 1 + 9) (22 * (d + 1) + 165) D G [.ref o] Z (Sum.elim (fun q => (.inl (some (.int q.2), q.1) : hg_O)) hg_ox q) := by
  refine hg_start (cv := fun q => (Sum.elim (fun q => (.inl (some (.int q.2), q.1) : hg_O)) hg_ox q)) hq ?_
  intro F hF h
  refine hg_enter (lv := [(0, va_rf (some o))]) (by decide +kernel) (by simp [lg_sl, va_rf_cat, hg_cti, hg_ctr]) (by simp [lv_args, va_rf_cat, va_rf_some, hg_cti, hg_ctr]) ?_
  intro X hC hR
  have lab_52 : ∀ (S : hg_S) (x1 : Int32), dc_wp (hm_PA_takeEither_L52 T G S o x1) F → hg_G X l (hg_rm (d + 1 + 9) (22 * (d + 1) + 165) Z) D 3 S 52 [(0, va_rf (some o)), (1, .int x1)] [] := by
    intro S x1 h
    delta hm_PA_takeEither_L52 at h
    refine hg_iloadn (pc := 52) (j := 1) (i := 1) hC 1 rfl rfl (show decode prog_9_method_21_code 52 = .ok (.iload_n 1, 1) by decide +kernel) ?_
    exact hg_iret (pc := 53) hC hR (hF _ (dc_some h)) (show decode prog_9_method_21_code 53 = .ok (.ireturn, 1) by decide +kernel)
  have loop_7 : ∀ (q : hg_S × Int32 × Int32), dc_wp (dc_it (hm_PA_takeEither_s7 T G o) q) (fun z => dc_wp ((Sum.elim (fun (z : hg_S × Int32) => hm_PA_takeEither_L52 T G z.1 o z.2) (fun (z : hg_X) => some (Sum.inr z))) z) F) → hg_G X l (hg_rm (d + 1 + 9) (22 * (d + 1) + 165) Z) D 3 q.1 7 [(0, va_rf (some o)), (1, .int q.2.1), (2, .int q.2.2)] [] := by
    refine dc_loopF ?_
    intro F_7 hl_7 hr_7
    rintro ⟨S, x1, x2⟩ h
    have h : dc_wp (hm_PA_takeEither_b7 T G S o x1 x2) F_7 := h
    delta hm_PA_takeEither_b7 at h
    refine hg_iloadn (pc := 7) (j := 2) (i := 2) hC 2 rfl rfl (show decode prog_9_method_21_code 7 = .ok (.iload_n 2, 1) by decide +kernel) ?_
    refine hg_aloadn (pc := 8) (j := 0) (i := 0) (r := (some o)) hC 0 rfl rfl (show decode prog_9_method_21_code 8 = .ok (.aload_n 0, 1) by decide +kernel) ?_
    refine hg_rgr (pc := 9) (r := (some o)) hC fl_SignalEngine_Parser_23 (show decode prog_9_method_21_code 9 = .ok (.getfield 23, 3) by decide +kernel) h ?_
    intro e1 h
    refine hg_rgr (pc := 12) (r := e1) hC fl_SignalEngine_Parser_106 (show decode prog_9_method_21_code 12 = .ok (.getfield 106, 3) by decide +kernel) h ?_
    intro e2 h
    refine hg_rlen (pc := 15) (r := e2) (t := 1) hC rfl (show decode prog_9_method_21_code 15 = .ok (.arraylength, 1) by decide +kernel) h ?_
    intro e3 h
    refine hg_icmp_ge (pc := 16) (tgt := 52) hC (show decode prog_9_method_21_code 16 = .ok (.if_icmp .ge 36, 3) by decide +kernel) (by decide +kernel) h ?_ ?_
    · intro h
      refine hg_aloadn (pc := 19) (j := 0) (i := 0) (r := (some o)) hC 0 rfl rfl (show decode prog_9_method_21_code 19 = .ok (.aload_n 0, 1) by decide +kernel) ?_
      refine hg_tok (pc := 20) (j := 20) hC (by decide) rfl w_724 (show decode prog_9_method_21_code 20 = .ok (.getstatic 280, 3) by decide +kernel) ?_
      obtain ⟨b4, hb5, h⟩ := dc_bind h
      obtain ⟨hb5, hv6⟩ := hg_chk_of (C := R_PA) rfl hb5
      refine hg_kVTi (pc := 23) (b := b4) (r := (some o)) (As := [va_rf (some (G.2.1 20))]) (rest := []) (vo := fun q => q.2) (so := fun q => q.1) hC hR cw_SignalEngine_Parser_127 (fun q hq => hm_PA_skip_ok l hlt D G S b4 (some (G.2.1 20)) q hq) (by show _ + 1 ≤ d + 1 + 9; omega) (by show _ ≤ 22 * (d + 1) + 165; omega) hb5 hv6 rfl (Nat.le_of_ble_eq_true rfl) (show decode prog_9_method_21_code 23 = .ok (.invokevirtual 127, 3) by decide +kernel) h (fun z h => (fun (h : dc_wp (some (Sum.inr z)) F) => hF (.inr z) (dc_some h)) (hr_7 (.inr z) (dc_some h))) ?_
      intro q7 h
      refine hg_if_eq (pc := 26) (tgt := 52) hC (show decode prog_9_method_21_code 26 = .ok (.ifCond .eq 26, 3) by decide +kernel) (by decide +kernel) h ?_ ?_
      · intro h
        have h : dc_wp (hm_PA_takeEither_L52 T G q7.1 o x1) F := hr_7 (.inl (q7.1, x1)) (dc_some h)
        exact hg_sub [0, 1] rfl (lab_52 q7.1 x1 h)
      · intro h
        refine hg_aloadn (pc := 29) (j := 0) (i := 0) (r := (some o)) hC 0 rfl rfl (show decode prog_9_method_21_code 29 = .ok (.aload_n 0, 1) by decide +kernel) ?_
        refine hg_rgr (pc := 30) (r := (some o)) hC fl_SignalEngine_Parser_12 (show decode prog_9_method_21_code 30 = .ok (.getfield 12, 3) by decide +kernel) h ?_
        intro e8 h
        refine hg_rgr (pc := 33) (r := e8) hC fl_SignalEngine_Parser_283 (show decode prog_9_method_21_code 33 = .ok (.getfield 283, 3) by decide +kernel) h ?_
        intro e9 h
        refine hg_iconst (pc := 36) (v := 3) hC (show decode prog_9_method_21_code 36 = .ok (.iconst 3, 1) by decide +kernel) (by decide +kernel) ?_
        refine hg_iloadn (pc := 37) (j := 1) (i := 1) hC 1 rfl rfl (show decode prog_9_method_21_code 37 = .ok (.iload_n 1, 1) by decide +kernel) ?_
        refine hg_aloadn (pc := 38) (j := 0) (i := 0) (r := (some o)) hC 0 rfl rfl (show decode prog_9_method_21_code 38 = .ok (.aload_n 0, 1) by decide +kernel) ?_
        obtain ⟨b10, hb11, h⟩ := dc_bind h
        obtain ⟨hb11, hv12⟩ := hg_chk_of (C := R_PA) rfl hb11
        refine hg_kVTi (pc := 39) (b := b10) (r := (some o)) (As := []) (rest := [.int x1, .int 3, va_rf e9]) (vo := fun q => q.2) (so := fun q => q.1) hC hR cw_SignalEngine_Parser_277 (fun q hq => hT.2.1 q7.1 b10 q hq) (by show _ + 1 ≤ d + 1 + 9; omega) (by show _ ≤ 22 * (d + 1) + 165; omega) hb11 hv12 rfl (by simp only [List.map, va_rf_cat]; exact Nat.le_of_ble_eq_true rfl) (show decode prog_9_method_21_code 39 = .ok (.invokevirtual 277, 3) by decide +kernel) h (fun z h => (fun (h : dc_wp (some (Sum.inr z)) F) => hF (.inr z) (dc_some h)) (hr_7 (.inr z) (dc_some h))) ?_
        intro q13 h
        obtain ⟨b14, hb15, h⟩ := dc_bind h
        obtain ⟨hb15, hv16⟩ := hg_chk_of (C := R_PI) rfl hb15
        refine hg_kVi (pc := 42) (b := b14) (r := e9) (As := [.int 3, .int x1, .int q13.2]) (rest := []) (vo := fun q => q.2) (so := fun q => q.1) hC cw_SignalEngine_Parser_287 (fun q hq => hm_PI_add_ok l D G q13.1 b14 (3 : Int32) x1 q13.2 q hq) (by show _ + 1 ≤ d + 1 + 9; omega) (by show _ ≤ 22 * (d + 1) + 165; omega) hb15 hv16 rfl (Nat.le_of_ble_eq_true rfl) (show decode prog_9_method_21_code 42 = .ok (.invokevirtual 287, 3) by decide +kernel) h ?_
        intro q17 h
        refine hg_istoren (pc := 45) (j := 1) (i := 1) (lv' := [(1, .int q17.2), (0, va_rf (some o)), (2, .int x2)]) hC rfl (Nat.le_of_ble_eq_true rfl) rfl (show decode prog_9_method_21_code 45 = .ok (.istore_n 1, 1) by decide +kernel) ?_
        refine hg_iinc (pc := 46) (i := 2) (v := (x2 + 1)) (lv' := [(2, .int (x2 + 1)), (1, .int q17.2), (0, va_rf (some o))]) hC 2 rfl rfl (Nat.le_of_ble_eq_true rfl) rfl (show decode prog_9_method_21_code 46 = .ok (.iinc 2 1, 3) by decide +kernel) ?_
        refine hg_goto (pc := 49) (tgt := 7) hC (show decode prog_9_method_21_code 49 = .ok (.goto (-42), 3) by decide +kernel) (by decide +kernel) ?_
        exact hg_sub [2, 1, 0] rfl (hl_7 (q17.1, q17.2, (x2 + 1)) (dc_some h))
    · intro h
      have h : dc_wp (hm_PA_takeEither_L52 T G S o x1) F := hr_7 (.inl (S, x1)) (dc_some h)
      exact hg_sub [0, 1] rfl (lab_52 S x1 h)
  have lab_7 : ∀ (S : hg_S) (x1 : Int32) (x2 : Int32), dc_wp (hm_PA_takeEither_L7 T G S o x1 x2) F → hg_G X l (hg_rm (d + 1 + 9) (22 * (d + 1) + 165) Z) D 3 S 7 [(0, va_rf (some o)), (1, .int x1), (2, .int x2)] [] := fun S x1 x2 h => loop_7  (S, x1, x2) (dc_bind h)
  show hg_G X l (hg_rm (d + 1 + 9) (22 * (d + 1) + 165) Z) D 3 Z 0 [(0, va_rf (some o))] []
  have h : dc_wp (hm_PA_takeEither T G Z o) F := h
  delta hm_PA_takeEither at h
  refine hg_aloadn (pc := 0) (j := 0) (i := 0) (r := (some o)) hC 0 rfl rfl (show decode prog_9_method_21_code 0 = .ok (.aload_n 0, 1) by decide +kernel) ?_
  obtain ⟨b18, hb19, h⟩ := dc_bind h
  obtain ⟨hb19, hv20⟩ := hg_chk_of (C := R_PA) rfl hb19
  refine hg_kVTi (pc := 1) (b := b18) (r := (some o)) (As := []) (rest := []) (vo := fun q => q.2) (so := fun q => q.1) hC hR cw_SignalEngine_Parser_277 (fun q hq => hT.2.1 Z b18 q hq) (by show _ + 1 ≤ d + 1 + 9; omega) (by show _ ≤ 22 * (d + 1) + 165; omega) hb19 hv20 rfl (Nat.le_of_ble_eq_true rfl) (show decode prog_9_method_21_code 1 = .ok (.invokevirtual 277, 3) by decide +kernel) h (fun z h => hF (.inr z) (dc_some h)) ?_
  intro q21 h
  refine hg_istoren (pc := 4) (j := 1) (i := 1) (lv' := [(1, .int q21.2), (0, va_rf (some o))]) hC rfl (Nat.le_of_ble_eq_true rfl) rfl (show decode prog_9_method_21_code 4 = .ok (.istore_n 1, 1) by decide +kernel) ?_
  refine hg_iconst (pc := 5) (v := 0) hC (show decode prog_9_method_21_code 5 = .ok (.iconst 0, 1) by decide +kernel) (by decide +kernel) ?_
  refine hg_istoren (pc := 6) (j := 2) (i := 2) (lv' := [(2, .int 0), (1, .int q21.2), (0, va_rf (some o))]) hC rfl (Nat.le_of_ble_eq_true rfl) rfl (show decode prog_9_method_21_code 6 = .ok (.istore_n 2, 1) by decide +kernel) ?_
  exact hg_sub [2, 1, 0] rfl (lab_7 q21.1 q21.2 0 h)
noncomputable def hm_PA_takeClause_L52 (T : hm_T1) (G : hg_E) (S : hg_S) (o : Nat) (x1 : Int32) : Option ((hg_S × Int32) ⊕ hg_X) :=
  some (.inl (S, x1))
noncomputable def hm_PA_takeClause_b7 (T : hm_T1) (G : hg_E) (S : hg_S) (o : Nat) (x1 : Int32) (x2 : Int32) : Option ((hg_S × Int32 × Int32) ⊕ ((hg_S × Int32) ⊕ (hg_X))) :=
  (hg_gr S (some o) 4 0).bind fun e1 => (hg_gr S e1 2 0).bind fun e2 => (hg_ln S e2 (G.1 1)).bind fun e3 => if x2 < e3 then ((hg_chk S (some o) 4).bind fun b4 => (hm_PA_skip G S b4 (some (G.2.1 19))).bind (Sum.elim (fun q7 => if q7.2 = 0 then (some (.inr (.inl (q7.1, x1)))) else ((hg_gr q7.1 (some o) 4 3).bind fun e8 => (hg_gr q7.1 e8 6 1).bind fun e9 => (hg_chk q7.1 (some o) 4).bind fun b10 => (T.2.2 G q7.1 b10).bind (Sum.elim (fun q13 => (hg_chk q13.1 e9 5).bind fun b14 => (hm_PI_add G q13.1 b14 (2 : Int32) x1 q13.2).bind fun q17 => some (.inl (q17.1, q17.2, (x2 + 1)))) (fun z => some (Sum.inr (.inr z)))))) (fun z => some (Sum.inr (.inr z))))) else (some (.inr (.inl (S, x1))))
noncomputable def hm_PA_takeClause_s7 (T : hm_T1) (G : hg_E) (o : Nat) (q : hg_S × Int32 × Int32) : Option ((hg_S × Int32 × Int32) ⊕ ((hg_S × Int32) ⊕ (hg_X))) :=
  hm_PA_takeClause_b7 T G q.1 o q.2.1 q.2.2
noncomputable def hm_PA_takeClause_L7 (T : hm_T1) (G : hg_E) (S : hg_S) (o : Nat) (x1 : Int32) (x2 : Int32) : Option ((hg_S × Int32) ⊕ hg_X) :=
  (dc_it (hm_PA_takeClause_s7 T G o) (S, x1, x2)).bind (Sum.elim (fun (z : hg_S × Int32) => hm_PA_takeClause_L52 T G z.1 o z.2) (fun (z : hg_X) => some (Sum.inr z)))
noncomputable def hm_PA_takeClause (T : hm_T1) (G : hg_E) (S : hg_S) (o : Nat) : Option ((hg_S × Int32) ⊕ hg_X) :=
  (hg_chk S (some o) 4).bind fun b18 => (T.2.2 G S b18).bind (Sum.elim (fun q21 => hm_PA_takeClause_L7 T G q21.1 o q21.2 0) (fun z => some (Sum.inr z)))
set_option maxHeartbeats 4000000 in
set_option maxRecDepth 100000 in
/-- SignalEngine$Parser.takeClause()I -/
theorem hm_PA_takeClause_ok (l : Launch) (hlt : l.stackTraces = false) (D : va_G) (G : hg_E) (T : hm_T1) (d : Nat) (hT : hm_OK1 l D G T d) (Z : hg_S) (o : Nat) (q : (hg_S × Int32) ⊕ hg_X) (hq : hm_PA_takeClause T G Z o = some q) : hg_C l ⟨"SignalEngine$Parser", "takeClause", "()I"⟩ prog_9_method_22_code 3 (some (.int)) (d + 1 + 9) (22 * (d + 1) + 165) D G [.ref o] Z (Sum.elim (fun q => (.inl (some (.int q.2), q.1) : hg_O)) hg_ox q) := by
  refine hg_start (cv := fun q => (Sum.elim (fun q => (.inl (some (.int q.2), q.1) : hg_O)) hg_ox q)) hq ?_
  intro F hF h
  refine hg_enter (lv := [(0, va_rf (some o))]) (by decide +kernel) (by simp [lg_sl, va_rf_cat, hg_cti, hg_ctr]) (by simp [lv_args, va_rf_cat, va_rf_some, hg_cti, hg_ctr]) ?_
  intro X hC hR
  have lab_52 : ∀ (S : hg_S) (x1 : Int32), dc_wp (hm_PA_takeClause_L52 T G S o x1) F → hg_G X l (hg_rm (d + 1 + 9) (22 * (d + 1) + 165) Z) D 3 S 52 [(0, va_rf (some o)), (1, .int x1)] [] := by
    intro S x1 h
    delta hm_PA_takeClause_L52 at h
    refine hg_iloadn (pc := 52) (j := 1) (i := 1) hC 1 rfl rfl (show decode prog_9_method_22_code 52 = .ok (.iload_n 1, 1) by decide +kernel) ?_
    exact hg_iret (pc := 53) hC hR (hF _ (dc_some h)) (show decode prog_9_method_22_code 53 = .ok (.ireturn, 1) by decide +kernel)
  have loop_7 : ∀ (q : hg_S × Int32 × Int32), dc_wp (dc_it (hm_PA_takeClause_s7 T G o) q) (fun z => dc_wp ((Sum.elim (fun (z : hg_S × Int32) => hm_PA_takeClause_L52 T G z.1 o z.2) (fun (z : hg_X) => some (Sum.inr z))) z) F) → hg_G X l (hg_rm (d + 1 + 9) (22 * (d + 1) + 165) Z) D 3 q.1 7 [(0, va_rf (some o)), (1, .int q.2.1), (2, .int q.2.2)] [] := by
    refine dc_loopF ?_
    intro F_7 hl_7 hr_7
    rintro ⟨S, x1, x2⟩ h
    have h : dc_wp (hm_PA_takeClause_b7 T G S o x1 x2) F_7 := h
    delta hm_PA_takeClause_b7 at h
    refine hg_iloadn (pc := 7) (j := 2) (i := 2) hC 2 rfl rfl (show decode prog_9_method_22_code 7 = .ok (.iload_n 2, 1) by decide +kernel) ?_
    refine hg_aloadn (pc := 8) (j := 0) (i := 0) (r := (some o)) hC 0 rfl rfl (show decode prog_9_method_22_code 8 = .ok (.aload_n 0, 1) by decide +kernel) ?_
    refine hg_rgr (pc := 9) (r := (some o)) hC fl_SignalEngine_Parser_23 (show decode prog_9_method_22_code 9 = .ok (.getfield 23, 3) by decide +kernel) h ?_
    intro e1 h
    refine hg_rgr (pc := 12) (r := e1) hC fl_SignalEngine_Parser_106 (show decode prog_9_method_22_code 12 = .ok (.getfield 106, 3) by decide +kernel) h ?_
    intro e2 h
    refine hg_rlen (pc := 15) (r := e2) (t := 1) hC rfl (show decode prog_9_method_22_code 15 = .ok (.arraylength, 1) by decide +kernel) h ?_
    intro e3 h
    refine hg_icmp_ge (pc := 16) (tgt := 52) hC (show decode prog_9_method_22_code 16 = .ok (.if_icmp .ge 36, 3) by decide +kernel) (by decide +kernel) h ?_ ?_
    · intro h
      refine hg_aloadn (pc := 19) (j := 0) (i := 0) (r := (some o)) hC 0 rfl rfl (show decode prog_9_method_22_code 19 = .ok (.aload_n 0, 1) by decide +kernel) ?_
      refine hg_tok (pc := 20) (j := 19) hC (by decide) rfl w_722 (show decode prog_9_method_22_code 20 = .ok (.getstatic 296, 3) by decide +kernel) ?_
      obtain ⟨b4, hb5, h⟩ := dc_bind h
      obtain ⟨hb5, hv6⟩ := hg_chk_of (C := R_PA) rfl hb5
      refine hg_kVTi (pc := 23) (b := b4) (r := (some o)) (As := [va_rf (some (G.2.1 19))]) (rest := []) (vo := fun q => q.2) (so := fun q => q.1) hC hR cw_SignalEngine_Parser_127 (fun q hq => hm_PA_skip_ok l hlt D G S b4 (some (G.2.1 19)) q hq) (by show _ + 1 ≤ d + 1 + 9; omega) (by show _ ≤ 22 * (d + 1) + 165; omega) hb5 hv6 rfl (Nat.le_of_ble_eq_true rfl) (show decode prog_9_method_22_code 23 = .ok (.invokevirtual 127, 3) by decide +kernel) h (fun z h => (fun (h : dc_wp (some (Sum.inr z)) F) => hF (.inr z) (dc_some h)) (hr_7 (.inr z) (dc_some h))) ?_
      intro q7 h
      refine hg_if_eq (pc := 26) (tgt := 52) hC (show decode prog_9_method_22_code 26 = .ok (.ifCond .eq 26, 3) by decide +kernel) (by decide +kernel) h ?_ ?_
      · intro h
        have h : dc_wp (hm_PA_takeClause_L52 T G q7.1 o x1) F := hr_7 (.inl (q7.1, x1)) (dc_some h)
        exact hg_sub [0, 1] rfl (lab_52 q7.1 x1 h)
      · intro h
        refine hg_aloadn (pc := 29) (j := 0) (i := 0) (r := (some o)) hC 0 rfl rfl (show decode prog_9_method_22_code 29 = .ok (.aload_n 0, 1) by decide +kernel) ?_
        refine hg_rgr (pc := 30) (r := (some o)) hC fl_SignalEngine_Parser_12 (show decode prog_9_method_22_code 30 = .ok (.getfield 12, 3) by decide +kernel) h ?_
        intro e8 h
        refine hg_rgr (pc := 33) (r := e8) hC fl_SignalEngine_Parser_283 (show decode prog_9_method_22_code 33 = .ok (.getfield 283, 3) by decide +kernel) h ?_
        intro e9 h
        refine hg_iconst (pc := 36) (v := 2) hC (show decode prog_9_method_22_code 36 = .ok (.iconst 2, 1) by decide +kernel) (by decide +kernel) ?_
        refine hg_iloadn (pc := 37) (j := 1) (i := 1) hC 1 rfl rfl (show decode prog_9_method_22_code 37 = .ok (.iload_n 1, 1) by decide +kernel) ?_
        refine hg_aloadn (pc := 38) (j := 0) (i := 0) (r := (some o)) hC 0 rfl rfl (show decode prog_9_method_22_code 38 = .ok (.aload_n 0, 1) by decide +kernel) ?_
        obtain ⟨b10, hb11, h⟩ := dc_bind h
        obtain ⟨hb11, hv12⟩ := hg_chk_of (C := R_PA) rfl hb11
        refine hg_kVTi (pc := 39) (b := b10) (r := (some o)) (As := []) (rest := [.int x1, .int 2, va_rf e9]) (vo := fun q => q.2) (so := fun q => q.1) hC hR cw_SignalEngine_Parser_293 (fun q hq => hT.2.2 q7.1 b10 q hq) (by show _ + 1 ≤ d + 1 + 9; omega) (by show _ ≤ 22 * (d + 1) + 165; omega) hb11 hv12 rfl (by simp only [List.map, va_rf_cat]; exact Nat.le_of_ble_eq_true rfl) (show decode prog_9_method_22_code 39 = .ok (.invokevirtual 293, 3) by decide +kernel) h (fun z h => (fun (h : dc_wp (some (Sum.inr z)) F) => hF (.inr z) (dc_some h)) (hr_7 (.inr z) (dc_some h))) ?_
        intro q13 h
        obtain ⟨b14, hb15, h⟩ := dc_bind h
        obtain ⟨hb15, hv16⟩ := hg_chk_of (C := R_PI) rfl hb15
        refine hg_kVi (pc := 42) (b := b14) (r := e9) (As := [.int 2, .int x1, .int q13.2]) (rest := []) (vo := fun q => q.2) (so := fun q => q.1) hC cw_SignalEngine_Parser_287 (fun q hq => hm_PI_add_ok l D G q13.1 b14 (2 : Int32) x1 q13.2 q hq) (by show _ + 1 ≤ d + 1 + 9; omega) (by show _ ≤ 22 * (d + 1) + 165; omega) hb15 hv16 rfl (Nat.le_of_ble_eq_true rfl) (show decode prog_9_method_22_code 42 = .ok (.invokevirtual 287, 3) by decide +kernel) h ?_
        intro q17 h
        refine hg_istoren (pc := 45) (j := 1) (i := 1) (lv' := [(1, .int q17.2), (0, va_rf (some o)), (2, .int x2)]) hC rfl (Nat.le_of_ble_eq_true rfl) rfl (show decode prog_9_method_22_code 45 = .ok (.istore_n 1, 1) by decide +kernel) ?_
        refine hg_iinc (pc := 46) (i := 2) (v := (x2 + 1)) (lv' := [(2, .int (x2 + 1)), (1, .int q17.2), (0, va_rf (some o))]) hC 2 rfl rfl (Nat.le_of_ble_eq_true rfl) rfl (show decode prog_9_method_22_code 46 = .ok (.iinc 2 1, 3) by decide +kernel) ?_
        refine hg_goto (pc := 49) (tgt := 7) hC (show decode prog_9_method_22_code 49 = .ok (.goto (-42), 3) by decide +kernel) (by decide +kernel) ?_
        exact hg_sub [2, 1, 0] rfl (hl_7 (q17.1, q17.2, (x2 + 1)) (dc_some h))
    · intro h
      have h : dc_wp (hm_PA_takeClause_L52 T G S o x1) F := hr_7 (.inl (S, x1)) (dc_some h)
      exact hg_sub [0, 1] rfl (lab_52 S x1 h)
  have lab_7 : ∀ (S : hg_S) (x1 : Int32) (x2 : Int32), dc_wp (hm_PA_takeClause_L7 T G S o x1 x2) F → hg_G X l (hg_rm (d + 1 + 9) (22 * (d + 1) + 165) Z) D 3 S 7 [(0, va_rf (some o)), (1, .int x1), (2, .int x2)] [] := fun S x1 x2 h => loop_7  (S, x1, x2) (dc_bind h)
  show hg_G X l (hg_rm (d + 1 + 9) (22 * (d + 1) + 165) Z) D 3 Z 0 [(0, va_rf (some o))] []
  have h : dc_wp (hm_PA_takeClause T G Z o) F := h
  delta hm_PA_takeClause at h
  refine hg_aloadn (pc := 0) (j := 0) (i := 0) (r := (some o)) hC 0 rfl rfl (show decode prog_9_method_22_code 0 = .ok (.aload_n 0, 1) by decide +kernel) ?_
  obtain ⟨b18, hb19, h⟩ := dc_bind h
  obtain ⟨hb19, hv20⟩ := hg_chk_of (C := R_PA) rfl hb19
  refine hg_kVTi (pc := 1) (b := b18) (r := (some o)) (As := []) (rest := []) (vo := fun q => q.2) (so := fun q => q.1) hC hR cw_SignalEngine_Parser_293 (fun q hq => hT.2.2 Z b18 q hq) (by show _ + 1 ≤ d + 1 + 9; omega) (by show _ ≤ 22 * (d + 1) + 165; omega) hb19 hv20 rfl (Nat.le_of_ble_eq_true rfl) (show decode prog_9_method_22_code 1 = .ok (.invokevirtual 293, 3) by decide +kernel) h (fun z h => hF (.inr z) (dc_some h)) ?_
  intro q21 h
  refine hg_istoren (pc := 4) (j := 1) (i := 1) (lv' := [(1, .int q21.2), (0, va_rf (some o))]) hC rfl (Nat.le_of_ble_eq_true rfl) rfl (show decode prog_9_method_22_code 4 = .ok (.istore_n 1, 1) by decide +kernel) ?_
  refine hg_iconst (pc := 5) (v := 0) hC (show decode prog_9_method_22_code 5 = .ok (.iconst 0, 1) by decide +kernel) (by decide +kernel) ?_
  refine hg_istoren (pc := 6) (j := 2) (i := 2) (lv' := [(2, .int 0), (1, .int q21.2), (0, va_rf (some o))]) hC rfl (Nat.le_of_ble_eq_true rfl) rfl (show decode prog_9_method_22_code 6 = .ok (.istore_n 2, 1) by decide +kernel) ?_
  exact hg_sub [2, 1, 0] rfl (lab_7 q21.1 q21.2 0 h)
noncomputable def hm_PA_takePart_L101 (T : hm_T1) (G : hg_E) (S : hg_S) (o : Nat) (x1 : Int32) : Option ((hg_S × Int32) ⊕ hg_X) :=
  (hg_gi S (some o) 4 6).bind fun e1 => (hg_pf S (some o) 4 6 (.int (e1 - 1))).bind fun S2 => some (.inl (S2, x1))
noncomputable def hm_PA_takePart_L48 (T : hm_T1) (G : hg_E) (S : hg_S) (o : Nat) : Option ((hg_S × Int32) ⊕ hg_X) :=
  (hg_chk S (some o) 4).bind fun b3 => (hm_PA_enter G S b3).bind (Sum.elim (fun q6 => (hg_chk q6 (some o) 4).bind fun b7 => (hm_PA_skip G q6 b7 (some (G.2.1 18))).bind (Sum.elim (fun q10 => if q10.2 = 0 then ((hg_gr q10.1 (some o) 4 0).bind fun e11 => (hg_chk q10.1 e11 2).bind fun b12 => (hm_LX_advance G q10.1 b12).bind (Sum.elim (fun q15 => (hg_chk q15 (some o) 4).bind fun b16 => (T.1 G q15 b16).bind (Sum.elim (fun q19 => (hg_chk q19.1 (some o) 4).bind fun b20 => (hm_PA_take G q19.1 b20 (some (G.2.1 29))).bind (Sum.elim (fun q23 => hm_PA_takePart_L101 T G q23 o q19.2) (fun z => some (Sum.inr z)))) (fun z => some (Sum.inr z)))) (fun z => some (Sum.inr z)))) else ((hg_gr q10.1 (some o) 4 3).bind fun e24 => (hg_gr q10.1 e24 6 1).bind fun e25 => (hg_chk q10.1 (some o) 4).bind fun b26 => (T.2.2 G q10.1 b26).bind (Sum.elim (fun q29 => (hg_chk q29.1 e25 5).bind fun b30 => (hm_PI_add G q29.1 b30 (1 : Int32) q29.2 ((-1) : Int32)).bind fun q33 => hm_PA_takePart_L101 T G q33.1 o q33.2) (fun z => some (Sum.inr z))))) (fun z => some (Sum.inr z)))) (fun z => some (Sum.inr z)))
noncomputable def hm_PA_takePart (T : hm_T1) (G : hg_E) (S : hg_S) (o : Nat) : Option ((hg_S × Int32) ⊕ hg_X) :=
  (hg_gr S (some o) 4 0).bind fun e34 => (hg_gr S e34 2 1).bind fun e35 => if e35 = (some (G.2.1 18)) then (hm_PA_takePart_L48 T G S o) else ((hg_gr S (some o) 4 0).bind fun e36 => (hg_gr S e36 2 1).bind fun e37 => if e37 = (some (G.2.1 28)) then (hm_PA_takePart_L48 T G S o) else ((hg_gr S (some o) 4 3).bind fun e38 => (hg_gr S e38 6 1).bind fun e39 => (hg_gr S (some o) 4 1).bind fun e40 => (hg_chk S (some o) 4).bind fun b41 => (hm_PA_takeUse G S b41 e40 (0 : Int32)).bind (Sum.elim (fun q44 => (hg_chk q44.1 e39 5).bind fun b45 => (hm_PI_add G q44.1 b45 (0 : Int32) q44.2 ((-1) : Int32)).bind fun q48 => some (.inl (q48.1, q48.2))) (fun z => some (Sum.inr z)))))
set_option maxHeartbeats 4000000 in
set_option maxRecDepth 100000 in
/-- SignalEngine$Parser.takePart()I -/
theorem hm_PA_takePart_ok (l : Launch) (hlt : l.stackTraces = false) (D : va_G) (G : hg_E) (T : hm_T1) (d : Nat) (hT : hm_OK1 l D G T d) (Z : hg_S) (o : Nat) (q : (hg_S × Int32) ⊕ hg_X) (hq : hm_PA_takePart T G Z o = some q) : hg_C l ⟨"SignalEngine$Parser", "takePart", "()I"⟩ prog_9_method_23_code 2 (some (.int)) (d + 1 + 9) (22 * (d + 1) + 165) D G [.ref o] Z (Sum.elim (fun q => (.inl (some (.int q.2), q.1) : hg_O)) hg_ox q) := by
  refine hg_start (cv := fun q => (Sum.elim (fun q => (.inl (some (.int q.2), q.1) : hg_O)) hg_ox q)) hq ?_
  intro F hF h
  refine hg_enter (lv := [(0, va_rf (some o))]) (by decide +kernel) (by simp [lg_sl, va_rf_cat, hg_cti, hg_ctr]) (by simp [lv_args, va_rf_cat, va_rf_some, hg_cti, hg_ctr]) ?_
  intro X hC hR
  have lab_101 : ∀ (S : hg_S) (x1 : Int32), dc_wp (hm_PA_takePart_L101 T G S o x1) F → hg_G X l (hg_rm (d + 1 + 9) (22 * (d + 1) + 165) Z) D 2 S 101 [(0, va_rf (some o)), (1, .int x1)] [] := by
    intro S x1 h
    delta hm_PA_takePart_L101 at h
    refine hg_aloadn (pc := 101) (j := 0) (i := 0) (r := (some o)) hC 0 rfl rfl (show decode prog_9_method_23_code 101 = .ok (.aload_n 0, 1) by decide +kernel) ?_
    refine hg_dup (pc := 102) hC (show decode prog_9_method_23_code 102 = .ok (.dup, 1) by decide +kernel) rfl ?_
    refine hg_rgi (pc := 103) (r := (some o)) hC fl_SignalEngine_Parser_134 (show decode prog_9_method_23_code 103 = .ok (.getfield 134, 3) by decide +kernel) h ?_
    intro e1 h
    refine hg_iconst (pc := 106) (v := 1) hC (show decode prog_9_method_23_code 106 = .ok (.iconst 1, 1) by decide +kernel) (by decide +kernel) ?_
    refine hg_isub (pc := 107) hC (show decode prog_9_method_23_code 107 = .ok (.isub, 1) by decide +kernel) ?_
    refine hg_rput (pc := 108) (r := (some o)) (v := .int (e1 - 1)) hC fp_SignalEngine_Parser_134 rfl rfl (show decode prog_9_method_23_code 108 = .ok (.putfield 134, 3) by decide +kernel) h ?_
    intro S2 h
    refine hg_iloadn (pc := 111) (j := 1) (i := 1) hC 1 rfl rfl (show decode prog_9_method_23_code 111 = .ok (.iload_n 1, 1) by decide +kernel) ?_
    exact hg_iret (pc := 112) hC hR (hF _ (dc_some h)) (show decode prog_9_method_23_code 112 = .ok (.ireturn, 1) by decide +kernel)
  have lab_48 : ∀ (S : hg_S), dc_wp (hm_PA_takePart_L48 T G S o) F → hg_G X l (hg_rm (d + 1 + 9) (22 * (d + 1) + 165) Z) D 2 S 48 [(0, va_rf (some o))] [] := by
    intro S  h
    delta hm_PA_takePart_L48 at h
    refine hg_aloadn (pc := 48) (j := 0) (i := 0) (r := (some o)) hC 0 rfl rfl (show decode prog_9_method_23_code 48 = .ok (.aload_n 0, 1) by decide +kernel) ?_
    obtain ⟨b3, hb4, h⟩ := dc_bind h
    obtain ⟨hb4, hv5⟩ := hg_chk_of (C := R_PA) rfl hb4
    refine hg_kVTv (pc := 49) (b := b3) (r := (some o)) (As := []) (rest := []) (so := fun q => q) hC hR cw_SignalEngine_Parser_159 (fun q hq => hm_PA_enter_ok l hlt D G S b3 q hq) (by show _ + 1 ≤ d + 1 + 9; omega) (by show _ ≤ 22 * (d + 1) + 165; omega) hb4 hv5 rfl (Nat.le_of_ble_eq_true rfl) (show decode prog_9_method_23_code 49 = .ok (.invokevirtual 159, 3) by decide +kernel) h (fun z h => hF (.inr z) (dc_some h)) ?_
    intro q6 h
    refine hg_aloadn (pc := 52) (j := 0) (i := 0) (r := (some o)) hC 0 rfl rfl (show decode prog_9_method_23_code 52 = .ok (.aload_n 0, 1) by decide +kernel) ?_
    refine hg_tok (pc := 53) (j := 18) hC (by decide) rfl w_707 (show decode prog_9_method_23_code 53 = .ok (.getstatic 299, 3) by decide +kernel) ?_
    obtain ⟨b7, hb8, h⟩ := dc_bind h
    obtain ⟨hb8, hv9⟩ := hg_chk_of (C := R_PA) rfl hb8
    refine hg_kVTi (pc := 56) (b := b7) (r := (some o)) (As := [va_rf (some (G.2.1 18))]) (rest := []) (vo := fun q => q.2) (so := fun q => q.1) hC hR cw_SignalEngine_Parser_127 (fun q hq => hm_PA_skip_ok l hlt D G q6 b7 (some (G.2.1 18)) q hq) (by show _ + 1 ≤ d + 1 + 9; omega) (by show _ ≤ 22 * (d + 1) + 165; omega) hb8 hv9 rfl (Nat.le_of_ble_eq_true rfl) (show decode prog_9_method_23_code 56 = .ok (.invokevirtual 127, 3) by decide +kernel) h (fun z h => hF (.inr z) (dc_some h)) ?_
    intro q10 h
    refine hg_if_eq (pc := 59) (tgt := 82) hC (show decode prog_9_method_23_code 59 = .ok (.ifCond .eq 23, 3) by decide +kernel) (by decide +kernel) h ?_ ?_
    · intro h
      refine hg_aloadn (pc := 82) (j := 0) (i := 0) (r := (some o)) hC 0 rfl rfl (show decode prog_9_method_23_code 82 = .ok (.aload_n 0, 1) by decide +kernel) ?_
      refine hg_rgr (pc := 83) (r := (some o)) hC fl_SignalEngine_Parser_23 (show decode prog_9_method_23_code 83 = .ok (.getfield 23, 3) by decide +kernel) h ?_
      intro e11 h
      obtain ⟨b12, hb13, h⟩ := dc_bind h
      obtain ⟨hb13, hv14⟩ := hg_chk_of (C := R_LX) rfl hb13
      refine hg_kVTv (pc := 86) (b := b12) (r := e11) (As := []) (rest := []) (so := fun q => q) hC hR cw_SignalEngine_Parser_79 (fun q hq => hm_LX_advance_ok l hlt D G q10.1 b12 q hq) (by show _ + 1 ≤ d + 1 + 9; omega) (by show _ ≤ 22 * (d + 1) + 165; omega) hb13 hv14 rfl (Nat.le_of_ble_eq_true rfl) (show decode prog_9_method_23_code 86 = .ok (.invokevirtual 79, 3) by decide +kernel) h (fun z h => hF (.inr z) (dc_some h)) ?_
      intro q15 h
      refine hg_aloadn (pc := 89) (j := 0) (i := 0) (r := (some o)) hC 0 rfl rfl (show decode prog_9_method_23_code 89 = .ok (.aload_n 0, 1) by decide +kernel) ?_
      obtain ⟨b16, hb17, h⟩ := dc_bind h
      obtain ⟨hb17, hv18⟩ := hg_chk_of (C := R_PA) rfl hb17
      refine hg_kVTi (pc := 90) (b := b16) (r := (some o)) (As := []) (rest := []) (vo := fun q => q.2) (so := fun q => q.1) hC hR cw_SignalEngine_Parser_194 (fun q hq => hT.1 q15 b16 q hq) (by show _ + 1 ≤ d + 1 + 9; omega) (by show _ ≤ 22 * (d + 1) + 165; omega) hb17 hv18 rfl (Nat.le_of_ble_eq_true rfl) (show decode prog_9_method_23_code 90 = .ok (.invokevirtual 194, 3) by decide +kernel) h (fun z h => hF (.inr z) (dc_some h)) ?_
      intro q19 h
      refine hg_istoren (pc := 93) (j := 1) (i := 1) (lv' := [(1, .int q19.2), (0, va_rf (some o))]) hC rfl (Nat.le_of_ble_eq_true rfl) rfl (show decode prog_9_method_23_code 93 = .ok (.istore_n 1, 1) by decide +kernel) ?_
      refine hg_aloadn (pc := 94) (j := 0) (i := 0) (r := (some o)) hC 1 rfl rfl (show decode prog_9_method_23_code 94 = .ok (.aload_n 0, 1) by decide +kernel) ?_
      refine hg_tok (pc := 95) (j := 29) hC (by decide) rfl w_720 (show decode prog_9_method_23_code 95 = .ok (.getstatic 225, 3) by decide +kernel) ?_
      obtain ⟨b20, hb21, h⟩ := dc_bind h
      obtain ⟨hb21, hv22⟩ := hg_chk_of (C := R_PA) rfl hb21
      refine hg_kVTv (pc := 98) (b := b20) (r := (some o)) (As := [va_rf (some (G.2.1 29))]) (rest := []) (so := fun q => q) hC hR cw_SignalEngine_Parser_88 (fun q hq => hm_PA_take_ok l hlt D G q19.1 b20 (some (G.2.1 29)) q hq) (by show _ + 1 ≤ d + 1 + 9; omega) (by show _ ≤ 22 * (d + 1) + 165; omega) hb21 hv22 rfl (Nat.le_of_ble_eq_true rfl) (show decode prog_9_method_23_code 98 = .ok (.invokevirtual 88, 3) by decide +kernel) h (fun z h => hF (.inr z) (dc_some h)) ?_
      intro q23 h
      exact hg_sub [1, 0] rfl (lab_101 q23 q19.2 h)
    · intro h
      refine hg_aloadn (pc := 62) (j := 0) (i := 0) (r := (some o)) hC 0 rfl rfl (show decode prog_9_method_23_code 62 = .ok (.aload_n 0, 1) by decide +kernel) ?_
      refine hg_rgr (pc := 63) (r := (some o)) hC fl_SignalEngine_Parser_12 (show decode prog_9_method_23_code 63 = .ok (.getfield 12, 3) by decide +kernel) h ?_
      intro e24 h
      refine hg_rgr (pc := 66) (r := e24) hC fl_SignalEngine_Parser_283 (show decode prog_9_method_23_code 66 = .ok (.getfield 283, 3) by decide +kernel) h ?_
      intro e25 h
      refine hg_iconst (pc := 69) (v := 1) hC (show decode prog_9_method_23_code 69 = .ok (.iconst 1, 1) by decide +kernel) (by decide +kernel) ?_
      refine hg_aloadn (pc := 70) (j := 0) (i := 0) (r := (some o)) hC 0 rfl rfl (show decode prog_9_method_23_code 70 = .ok (.aload_n 0, 1) by decide +kernel) ?_
      obtain ⟨b26, hb27, h⟩ := dc_bind h
      obtain ⟨hb27, hv28⟩ := hg_chk_of (C := R_PA) rfl hb27
      refine hg_kVTi (pc := 71) (b := b26) (r := (some o)) (As := []) (rest := [.int 1, va_rf e25]) (vo := fun q => q.2) (so := fun q => q.1) hC hR cw_SignalEngine_Parser_293 (fun q hq => hT.2.2 q10.1 b26 q hq) (by show _ + 1 ≤ d + 1 + 9; omega) (by show _ ≤ 22 * (d + 1) + 165; omega) hb27 hv28 rfl (by simp only [List.map, va_rf_cat]; exact Nat.le_of_ble_eq_true rfl) (show decode prog_9_method_23_code 71 = .ok (.invokevirtual 293, 3) by decide +kernel) h (fun z h => hF (.inr z) (dc_some h)) ?_
      intro q29 h
      refine hg_iconst (pc := 74) (v := (-1)) hC (show decode prog_9_method_23_code 74 = .ok (.iconst (-1), 1) by decide +kernel) (by decide +kernel) ?_
      obtain ⟨b30, hb31, h⟩ := dc_bind h
      obtain ⟨hb31, hv32⟩ := hg_chk_of (C := R_PI) rfl hb31
      refine hg_kVi (pc := 75) (b := b30) (r := e25) (As := [.int 1, .int q29.2, .int (-1)]) (rest := []) (vo := fun q => q.2) (so := fun q => q.1) hC cw_SignalEngine_Parser_287 (fun q hq => hm_PI_add_ok l D G q29.1 b30 (1 : Int32) q29.2 ((-1) : Int32) q hq) (by show _ + 1 ≤ d + 1 + 9; omega) (by show _ ≤ 22 * (d + 1) + 165; omega) hb31 hv32 rfl (Nat.le_of_ble_eq_true rfl) (show decode prog_9_method_23_code 75 = .ok (.invokevirtual 287, 3) by decide +kernel) h ?_
      intro q33 h
      refine hg_istoren (pc := 78) (j := 1) (i := 1) (lv' := [(1, .int q33.2), (0, va_rf (some o))]) hC rfl (Nat.le_of_ble_eq_true rfl) rfl (show decode prog_9_method_23_code 78 = .ok (.istore_n 1, 1) by decide +kernel) ?_
      refine hg_goto (pc := 79) (tgt := 101) hC (show decode prog_9_method_23_code 79 = .ok (.goto 22, 3) by decide +kernel) (by decide +kernel) ?_
      exact hg_sub [1, 0] rfl (lab_101 q33.1 q33.2 h)
  show hg_G X l (hg_rm (d + 1 + 9) (22 * (d + 1) + 165) Z) D 2 Z 0 [(0, va_rf (some o))] []
  have h : dc_wp (hm_PA_takePart T G Z o) F := h
  delta hm_PA_takePart at h
  refine hg_aloadn (pc := 0) (j := 0) (i := 0) (r := (some o)) hC 0 rfl rfl (show decode prog_9_method_23_code 0 = .ok (.aload_n 0, 1) by decide +kernel) ?_
  refine hg_rgr (pc := 1) (r := (some o)) hC fl_SignalEngine_Parser_23 (show decode prog_9_method_23_code 1 = .ok (.getfield 23, 3) by decide +kernel) h ?_
  intro e34 h
  refine hg_rgr (pc := 4) (r := e34) hC fl_SignalEngine_Parser_70 (show decode prog_9_method_23_code 4 = .ok (.getfield 70, 3) by decide +kernel) h ?_
  intro e35 h
  refine hg_tok (pc := 7) (j := 18) hC (by decide) rfl w_707 (show decode prog_9_method_23_code 7 = .ok (.getstatic 299, 3) by decide +kernel) ?_
  refine hg_acmp_eq (pc := 10) (tgt := 48) (x := e35) (y := (some (G.2.1 18))) hC (show decode prog_9_method_23_code 10 = .ok (.if_acmp .eq 38, 3) by decide +kernel) (by decide +kernel) h ?_ ?_
  · intro h
    exact lab_48 Z h
  · intro h
    refine hg_aloadn (pc := 13) (j := 0) (i := 0) (r := (some o)) hC 0 rfl rfl (show decode prog_9_method_23_code 13 = .ok (.aload_n 0, 1) by decide +kernel) ?_
    refine hg_rgr (pc := 14) (r := (some o)) hC fl_SignalEngine_Parser_23 (show decode prog_9_method_23_code 14 = .ok (.getfield 23, 3) by decide +kernel) h ?_
    intro e36 h
    refine hg_rgr (pc := 17) (r := e36) hC fl_SignalEngine_Parser_70 (show decode prog_9_method_23_code 17 = .ok (.getfield 70, 3) by decide +kernel) h ?_
    intro e37 h
    refine hg_tok (pc := 20) (j := 28) hC (by decide) rfl w_709 (show decode prog_9_method_23_code 20 = .ok (.getstatic 302, 3) by decide +kernel) ?_
    refine hg_acmp_eq (pc := 23) (tgt := 48) (x := e37) (y := (some (G.2.1 28))) hC (show decode prog_9_method_23_code 23 = .ok (.if_acmp .eq 25, 3) by decide +kernel) (by decide +kernel) h ?_ ?_
    · intro h
      exact lab_48 Z h
    · intro h
      refine hg_aloadn (pc := 26) (j := 0) (i := 0) (r := (some o)) hC 0 rfl rfl (show decode prog_9_method_23_code 26 = .ok (.aload_n 0, 1) by decide +kernel) ?_
      refine hg_rgr (pc := 27) (r := (some o)) hC fl_SignalEngine_Parser_12 (show decode prog_9_method_23_code 27 = .ok (.getfield 12, 3) by decide +kernel) h ?_
      intro e38 h
      refine hg_rgr (pc := 30) (r := e38) hC fl_SignalEngine_Parser_283 (show decode prog_9_method_23_code 30 = .ok (.getfield 283, 3) by decide +kernel) h ?_
      intro e39 h
      refine hg_iconst (pc := 33) (v := 0) hC (show decode prog_9_method_23_code 33 = .ok (.iconst 0, 1) by decide +kernel) (by decide +kernel) ?_
      refine hg_aloadn (pc := 34) (j := 0) (i := 0) (r := (some o)) hC 0 rfl rfl (show decode prog_9_method_23_code 34 = .ok (.aload_n 0, 1) by decide +kernel) ?_
      refine hg_aloadn (pc := 35) (j := 0) (i := 0) (r := (some o)) hC 0 rfl rfl (show decode prog_9_method_23_code 35 = .ok (.aload_n 0, 1) by decide +kernel) ?_
      refine hg_rgr (pc := 36) (r := (some o)) hC fl_SignalEngine_Parser_30 (show decode prog_9_method_23_code 36 = .ok (.getfield 30, 3) by decide +kernel) h ?_
      intro e40 h
      refine hg_iconst (pc := 39) (v := 0) hC (show decode prog_9_method_23_code 39 = .ok (.iconst 0, 1) by decide +kernel) (by decide +kernel) ?_
      obtain ⟨b41, hb42, h⟩ := dc_bind h
      obtain ⟨hb42, hv43⟩ := hg_chk_of (C := R_PA) rfl hb42
      refine hg_kVTi (pc := 40) (b := b41) (r := (some o)) (As := [va_rf e40, .int 0]) (rest := [.int 0, va_rf e39]) (vo := fun q => q.2) (so := fun q => q.1) hC hR cw_SignalEngine_Parser_183 (fun q hq => hm_PA_takeUse_ok l hlt D G Z b41 e40 (0 : Int32) q hq) (by show _ + 1 ≤ d + 1 + 9; omega) (by show _ ≤ 22 * (d + 1) + 165; omega) hb42 hv43 rfl (by simp only [List.map, va_rf_cat]; exact Nat.le_of_ble_eq_true rfl) (show decode prog_9_method_23_code 40 = .ok (.invokevirtual 183, 3) by decide +kernel) h (fun z h => hF (.inr z) (dc_some h)) ?_
      intro q44 h
      refine hg_iconst (pc := 43) (v := (-1)) hC (show decode prog_9_method_23_code 43 = .ok (.iconst (-1), 1) by decide +kernel) (by decide +kernel) ?_
      obtain ⟨b45, hb46, h⟩ := dc_bind h
      obtain ⟨hb46, hv47⟩ := hg_chk_of (C := R_PI) rfl hb46
      refine hg_kVi (pc := 44) (b := b45) (r := e39) (As := [.int 0, .int q44.2, .int (-1)]) (rest := []) (vo := fun q => q.2) (so := fun q => q.1) hC cw_SignalEngine_Parser_287 (fun q hq => hm_PI_add_ok l D G q44.1 b45 (0 : Int32) q44.2 ((-1) : Int32) q hq) (by show _ + 1 ≤ d + 1 + 9; omega) (by show _ ≤ 22 * (d + 1) + 165; omega) hb46 hv47 rfl (Nat.le_of_ble_eq_true rfl) (show decode prog_9_method_23_code 44 = .ok (.invokevirtual 287, 3) by decide +kernel) h ?_
      intro q48 h
      exact hg_iret (pc := 47) hC hR (hF _ (dc_some h)) (show decode prog_9_method_23_code 47 = .ok (.ireturn, 1) by decide +kernel)
noncomputable def hm_P1 : Nat → hm_T1
  | 0 => (fun _ _ _ => none, fun _ _ _ => none, fun _ _ _ => none)
  | d + 1 => (hm_PA_takeEither (hm_P1 d), hm_PA_takeClause (hm_P1 d), hm_PA_takePart (hm_P1 d))
theorem hm_P1_ok (l : Launch) (hlt : l.stackTraces = false) (D : va_G) (G : hg_E) : ∀ d : Nat, hm_OK1 l D G (hm_P1 d) d
  | 0 => ⟨fun _ _ _ h => (by cases h), fun _ _ _ h => (by cases h), fun _ _ _ h => (by cases h)⟩
  | d + 1 => ⟨hm_PA_takeEither_ok l hlt D G (hm_P1 d) d (hm_P1_ok l hlt D G d), hm_PA_takeClause_ok l hlt D G (hm_P1 d) d (hm_P1_ok l hlt D G d), hm_PA_takePart_ok l hlt D G (hm_P1 d) d (hm_P1_ok l hlt D G d)⟩
def hm_d1 : Nat := 400
noncomputable def hm_PA_takeEither_r (G : hg_E) (S : hg_S) (o : Nat) : Option ((hg_S × Int32) ⊕ hg_X) := (hm_P1 hm_d1).1 G S o
theorem hm_PA_takeEither_r_ok (l : Launch) (hlt : l.stackTraces = false) (D : va_G) (G : hg_E) (Z : hg_S) (o : Nat) (q : (hg_S × Int32) ⊕ hg_X) (hq : hm_PA_takeEither_r G Z o = some q) : hg_C l ⟨"SignalEngine$Parser", "takeEither", "()I"⟩ prog_9_method_21_code 3 (some (.int)) 409 8965 D G [.ref o] Z (Sum.elim (fun q => (.inl (some (.int q.2), q.1) : hg_O)) hg_ox q) :=
  (hm_P1_ok l hlt D G hm_d1).1 Z o q hq
noncomputable def hm_PA_takeClause_r (G : hg_E) (S : hg_S) (o : Nat) : Option ((hg_S × Int32) ⊕ hg_X) := (hm_P1 hm_d1).2.1 G S o
theorem hm_PA_takeClause_r_ok (l : Launch) (hlt : l.stackTraces = false) (D : va_G) (G : hg_E) (Z : hg_S) (o : Nat) (q : (hg_S × Int32) ⊕ hg_X) (hq : hm_PA_takeClause_r G Z o = some q) : hg_C l ⟨"SignalEngine$Parser", "takeClause", "()I"⟩ prog_9_method_22_code 3 (some (.int)) 409 8965 D G [.ref o] Z (Sum.elim (fun q => (.inl (some (.int q.2), q.1) : hg_O)) hg_ox q) :=
  (hm_P1_ok l hlt D G hm_d1).2.1 Z o q hq
noncomputable def hm_PA_takePart_r (G : hg_E) (S : hg_S) (o : Nat) : Option ((hg_S × Int32) ⊕ hg_X) := (hm_P1 hm_d1).2.2 G S o
theorem hm_PA_takePart_r_ok (l : Launch) (hlt : l.stackTraces = false) (D : va_G) (G : hg_E) (Z : hg_S) (o : Nat) (q : (hg_S × Int32) ⊕ hg_X) (hq : hm_PA_takePart_r G Z o = some q) : hg_C l ⟨"SignalEngine$Parser", "takePart", "()I"⟩ prog_9_method_23_code 2 (some (.int)) 409 8965 D G [.ref o] Z (Sum.elim (fun q => (.inl (some (.int q.2), q.1) : hg_O)) hg_ox q) :=
  (hm_P1_ok l hlt D G hm_d1).2.2 Z o q hq
noncomputable def hm_DR_watch (G : hg_E) (S : hg_S) (o : Nat) (p1 : Int32) (p2 : Int32) : Option (hg_S × (Option Nat)) :=
  (hg_chk S (some o) 6).bind fun b1 => (hm_DR_leaf G S b1 (1 : Int32) ((-1) : Int32) p2).bind fun q4 => (hg_chk q4.1 (some o) 6).bind fun b5 => (hm_DR_leaf G q4.1 b5 (9 : Int32) (2 : Int32) p2).bind fun q8 => (hg_chk q8.1 (some o) 6).bind fun b9 => (hm_DR_leaf G q8.1 b9 (0 : Int32) ((-1) : Int32) p2).bind fun q12 => (hg_chk q12.1 (some o) 6).bind fun b13 => (hm_DR_join G q12.1 b13 (3 : Int32) q8.2 q12.2 p2).bind fun q16 => (hg_pf q16.1 q16.2 8 6 (.int p1)).bind fun S17 => (hg_chk S17 (some o) 6).bind fun b18 => (hm_DR_join G S17 b18 (5 : Int32) q4.2 q16.2 p2).bind fun q21 => (hg_chk q21.1 (some o) 6).bind fun b22 => (hm_DR_join G q21.1 b22 (6 : Int32) q21.2 (none : Option Nat) p2).bind fun q25 => some (q25.1, q25.2)
set_option maxHeartbeats 4000000 in
set_option maxRecDepth 100000 in
/-- SignalEngine$Draft.watch(II)LSignalEngine$Node; -/
theorem hm_DR_watch_ok (l : Launch) (D : va_G) (G : hg_E) (Z : hg_S) (o : Nat) (p1 : Int32) (p2 : Int32) (q : hg_S × (Option Nat)) (hq : hm_DR_watch G Z o p1 p2 = some q) : hg_C l ⟨"SignalEngine$Draft", "watch", "(II)LSignalEngine$Node;"⟩ prog_4_method_9_code 6 (some (.object "SignalEngine$Node")) 8 177 D G [.ref o, .int p1, .int p2] Z (.inl (some (va_rf q.2), q.1) : hg_O) := by
  refine hg_start (cv := fun q => (.inl (some (va_rf q.2), q.1) : hg_O)) hq ?_
  intro F hF h
  refine hg_enter (lv := [(0, va_rf (some o)), (1, .int p1), (2, .int p2)]) (by decide +kernel) (by simp [lg_sl, va_rf_cat, hg_cti, hg_ctr]) (by simp [lv_args, va_rf_cat, va_rf_some, hg_cti, hg_ctr]) ?_
  intro X hC hR
  show hg_G X l (hg_rm 8 177 Z) D 6 Z 0 [(0, va_rf (some o)), (1, .int p1), (2, .int p2)] []
  have h : dc_wp (hm_DR_watch G Z o p1 p2) F := h
  delta hm_DR_watch at h
  refine hg_aloadn (pc := 0) (j := 0) (i := 0) (r := (some o)) hC 0 rfl rfl (show decode prog_4_method_9_code 0 = .ok (.aload_n 0, 1) by decide +kernel) ?_
  refine hg_iconst (pc := 1) (v := 1) hC (show decode prog_4_method_9_code 1 = .ok (.iconst 1, 1) by decide +kernel) (by decide +kernel) ?_
  refine hg_iconst (pc := 2) (v := (-1)) hC (show decode prog_4_method_9_code 2 = .ok (.iconst (-1), 1) by decide +kernel) (by decide +kernel) ?_
  refine hg_iloadn (pc := 3) (j := 2) (i := 2) hC 2 rfl rfl (show decode prog_4_method_9_code 3 = .ok (.iload_n 2, 1) by decide +kernel) ?_
  obtain ⟨b1, hb2, h⟩ := dc_bind h
  obtain ⟨hb2, hv3⟩ := hg_chk_of (C := R_DR) rfl hb2
  refine hg_kVr (pc := 4) (b := b1) (r := (some o)) (As := [.int 1, .int (-1), .int p2]) (rest := []) (vo := fun q => q.2) (so := fun q => q.1) hC cw_SignalEngine_Draft_50 (fun q hq => hm_DR_leaf_ok l D G Z b1 (1 : Int32) ((-1) : Int32) p2 q hq) (Nat.le_of_ble_eq_true rfl) (Nat.le_of_ble_eq_true rfl) hb2 hv3 rfl (Nat.le_of_ble_eq_true rfl) (show decode prog_4_method_9_code 4 = .ok (.invokevirtual 50, 3) by decide +kernel) h ?_
  intro q4 h
  refine hg_astoren (pc := 7) (j := 3) (i := 3) (r := q4.2) (lv' := [(3, va_rf q4.2), (0, va_rf (some o)), (1, .int p1), (2, .int p2)]) hC rfl (Nat.le_of_ble_eq_true rfl) rfl (show decode prog_4_method_9_code 7 = .ok (.astore_n 3, 1) by decide +kernel) ?_
  refine hg_aloadn (pc := 8) (j := 0) (i := 0) (r := (some o)) hC 1 rfl rfl (show decode prog_4_method_9_code 8 = .ok (.aload_n 0, 1) by decide +kernel) ?_
  refine hg_bipush (pc := 9) (v := 9) hC (show decode prog_4_method_9_code 9 = .ok (.bipush 9, 2) by decide +kernel) (by decide +kernel) ?_
  refine hg_iconst (pc := 11) (v := 2) hC (show decode prog_4_method_9_code 11 = .ok (.iconst 2, 1) by decide +kernel) (by decide +kernel) ?_
  refine hg_iloadn (pc := 12) (j := 2) (i := 2) hC 3 rfl rfl (show decode prog_4_method_9_code 12 = .ok (.iload_n 2, 1) by decide +kernel) ?_
  obtain ⟨b5, hb6, h⟩ := dc_bind h
  obtain ⟨hb6, hv7⟩ := hg_chk_of (C := R_DR) rfl hb6
  refine hg_kVr (pc := 13) (b := b5) (r := (some o)) (As := [.int 9, .int 2, .int p2]) (rest := []) (vo := fun q => q.2) (so := fun q => q.1) hC cw_SignalEngine_Draft_50 (fun q hq => hm_DR_leaf_ok l D G q4.1 b5 (9 : Int32) (2 : Int32) p2 q hq) (Nat.le_of_ble_eq_true rfl) (Nat.le_of_ble_eq_true rfl) hb6 hv7 rfl (Nat.le_of_ble_eq_true rfl) (show decode prog_4_method_9_code 13 = .ok (.invokevirtual 50, 3) by decide +kernel) h ?_
  intro q8 h
  refine hg_astore (pc := 16) (i := 4) (r := q8.2) (lv' := [(4, va_rf q8.2), (3, va_rf q4.2), (0, va_rf (some o)), (1, .int p1), (2, .int p2)]) hC (Nat.le_of_ble_eq_true rfl) (by simp [va_rf_cat, hg_cti]) (show decode prog_4_method_9_code 16 = .ok (.astore 4, 2) by decide +kernel) ?_
  refine hg_aloadn (pc := 18) (j := 0) (i := 0) (r := (some o)) hC 2 rfl rfl (show decode prog_4_method_9_code 18 = .ok (.aload_n 0, 1) by decide +kernel) ?_
  refine hg_iconst (pc := 19) (v := 3) hC (show decode prog_4_method_9_code 19 = .ok (.iconst 3, 1) by decide +kernel) (by decide +kernel) ?_
  refine hg_aload (pc := 20) (i := 4) (r := q8.2) hC 0 rfl (show decode prog_4_method_9_code 20 = .ok (.aload 4, 2) by decide +kernel) ?_
  refine hg_aloadn (pc := 22) (j := 0) (i := 0) (r := (some o)) hC 2 rfl rfl (show decode prog_4_method_9_code 22 = .ok (.aload_n 0, 1) by decide +kernel) ?_
  refine hg_iconst (pc := 23) (v := 0) hC (show decode prog_4_method_9_code 23 = .ok (.iconst 0, 1) by decide +kernel) (by decide +kernel) ?_
  refine hg_iconst (pc := 24) (v := (-1)) hC (show decode prog_4_method_9_code 24 = .ok (.iconst (-1), 1) by decide +kernel) (by decide +kernel) ?_
  refine hg_iloadn (pc := 25) (j := 2) (i := 2) hC 4 rfl rfl (show decode prog_4_method_9_code 25 = .ok (.iload_n 2, 1) by decide +kernel) ?_
  obtain ⟨b9, hb10, h⟩ := dc_bind h
  obtain ⟨hb10, hv11⟩ := hg_chk_of (C := R_DR) rfl hb10
  refine hg_kVr (pc := 26) (b := b9) (r := (some o)) (As := [.int 0, .int (-1), .int p2]) (rest := [va_rf q8.2, .int 3, va_rf (some o)]) (vo := fun q => q.2) (so := fun q => q.1) hC cw_SignalEngine_Draft_50 (fun q hq => hm_DR_leaf_ok l D G q8.1 b9 (0 : Int32) ((-1) : Int32) p2 q hq) (Nat.le_of_ble_eq_true rfl) (Nat.le_of_ble_eq_true rfl) hb10 hv11 rfl (by simp only [List.map, va_rf_cat]; exact Nat.le_of_ble_eq_true rfl) (show decode prog_4_method_9_code 26 = .ok (.invokevirtual 50, 3) by decide +kernel) h ?_
  intro q12 h
  refine hg_iloadn (pc := 29) (j := 2) (i := 2) hC 4 rfl rfl (show decode prog_4_method_9_code 29 = .ok (.iload_n 2, 1) by decide +kernel) ?_
  obtain ⟨b13, hb14, h⟩ := dc_bind h
  obtain ⟨hb14, hv15⟩ := hg_chk_of (C := R_DR) rfl hb14
  refine hg_kVr (pc := 30) (b := b13) (r := (some o)) (As := [.int 3, va_rf q8.2, va_rf q12.2, .int p2]) (rest := []) (vo := fun q => q.2) (so := fun q => q.1) hC cw_SignalEngine_Draft_40 (fun q hq => hm_DR_join_ok l D G q12.1 b13 (3 : Int32) q8.2 q12.2 p2 q hq) (Nat.le_of_ble_eq_true rfl) (Nat.le_of_ble_eq_true rfl) hb14 hv15 rfl (Nat.le_of_ble_eq_true rfl) (show decode prog_4_method_9_code 30 = .ok (.invokevirtual 40, 3) by decide +kernel) h ?_
  intro q16 h
  refine hg_astore (pc := 33) (i := 5) (r := q16.2) (lv' := [(5, va_rf q16.2), (4, va_rf q8.2), (3, va_rf q4.2), (0, va_rf (some o)), (1, .int p1), (2, .int p2)]) hC (Nat.le_of_ble_eq_true rfl) (by simp [va_rf_cat, hg_cti]) (show decode prog_4_method_9_code 33 = .ok (.astore 5, 2) by decide +kernel) ?_
  refine hg_aload (pc := 35) (i := 5) (r := q16.2) hC 0 rfl (show decode prog_4_method_9_code 35 = .ok (.aload 5, 2) by decide +kernel) ?_
  refine hg_iloadn (pc := 37) (j := 1) (i := 1) hC 4 rfl rfl (show decode prog_4_method_9_code 37 = .ok (.iload_n 1, 1) by decide +kernel) ?_
  refine hg_rput (pc := 38) (r := q16.2) (v := .int p1) hC fp_SignalEngine_Draft_44 rfl rfl (show decode prog_4_method_9_code 38 = .ok (.putfield 44, 3) by decide +kernel) h ?_
  intro S17 h
  refine hg_aloadn (pc := 41) (j := 0) (i := 0) (r := (some o)) hC 3 rfl rfl (show decode prog_4_method_9_code 41 = .ok (.aload_n 0, 1) by decide +kernel) ?_
  refine hg_bipush (pc := 42) (v := 6) hC (show decode prog_4_method_9_code 42 = .ok (.bipush 6, 2) by decide +kernel) (by decide +kernel) ?_
  refine hg_aloadn (pc := 44) (j := 0) (i := 0) (r := (some o)) hC 3 rfl rfl (show decode prog_4_method_9_code 44 = .ok (.aload_n 0, 1) by decide +kernel) ?_
  refine hg_iconst (pc := 45) (v := 5) hC (show decode prog_4_method_9_code 45 = .ok (.iconst 5, 1) by decide +kernel) (by decide +kernel) ?_
  refine hg_aloadn (pc := 46) (j := 3) (i := 3) (r := q4.2) hC 2 rfl rfl (show decode prog_4_method_9_code 46 = .ok (.aload_n 3, 1) by decide +kernel) ?_
  refine hg_aload (pc := 47) (i := 5) (r := q16.2) hC 0 rfl (show decode prog_4_method_9_code 47 = .ok (.aload 5, 2) by decide +kernel) ?_
  refine hg_iloadn (pc := 49) (j := 2) (i := 2) hC 5 rfl rfl (show decode prog_4_method_9_code 49 = .ok (.iload_n 2, 1) by decide +kernel) ?_
  obtain ⟨b18, hb19, h⟩ := dc_bind h
  obtain ⟨hb19, hv20⟩ := hg_chk_of (C := R_DR) rfl hb19
  refine hg_kVr (pc := 50) (b := b18) (r := (some o)) (As := [.int 5, va_rf q4.2, va_rf q16.2, .int p2]) (rest := [.int 6, va_rf (some o)]) (vo := fun q => q.2) (so := fun q => q.1) hC cw_SignalEngine_Draft_40 (fun q hq => hm_DR_join_ok l D G S17 b18 (5 : Int32) q4.2 q16.2 p2 q hq) (Nat.le_of_ble_eq_true rfl) (Nat.le_of_ble_eq_true rfl) hb19 hv20 rfl (Nat.le_of_ble_eq_true rfl) (show decode prog_4_method_9_code 50 = .ok (.invokevirtual 40, 3) by decide +kernel) h ?_
  intro q21 h
  refine hg_null (pc := 53) hC (show decode prog_4_method_9_code 53 = .ok (.aconst_null, 1) by decide +kernel) ?_
  refine hg_iloadn (pc := 54) (j := 2) (i := 2) hC 5 rfl rfl (show decode prog_4_method_9_code 54 = .ok (.iload_n 2, 1) by decide +kernel) ?_
  obtain ⟨b22, hb23, h⟩ := dc_bind h
  obtain ⟨hb23, hv24⟩ := hg_chk_of (C := R_DR) rfl hb23
  refine hg_kVr (pc := 55) (b := b22) (r := (some o)) (As := [.int 6, va_rf q21.2, va_rf none, .int p2]) (rest := []) (vo := fun q => q.2) (so := fun q => q.1) hC cw_SignalEngine_Draft_40 (fun q hq => hm_DR_join_ok l D G q21.1 b22 (6 : Int32) q21.2 (none : Option Nat) p2 q hq) (Nat.le_of_ble_eq_true rfl) (Nat.le_of_ble_eq_true rfl) hb23 hv24 rfl (Nat.le_of_ble_eq_true rfl) (show decode prog_4_method_9_code 55 = .ok (.invokevirtual 40, 3) by decide +kernel) h ?_
  intro q25 h
  exact hg_aret (pc := 58) (r := q25.2) hC hR (by first | exact Or.inl ⟨_, rfl⟩ | exact Or.inr ⟨_, rfl⟩) (hF _ (dc_some h)) (show decode prog_4_method_9_code 58 = .ok (.areturn, 1) by decide +kernel)
noncomputable def hm_DR_await (G : hg_E) (S : hg_S) (o : Nat) (p1 : Int32) (p2 : Int32) : Option (hg_S × (Option Nat)) :=
  (hg_chk S (some o) 6).bind fun b1 => (hm_DR_watch G S b1 p1 p2).bind fun q4 => (hg_chk q4.1 (some o) 6).bind fun b5 => (hm_DR_join G q4.1 b5 (8 : Int32) q4.2 (none : Option Nat) p2).bind fun q8 => some (q8.1, q8.2)
set_option maxHeartbeats 4000000 in
set_option maxRecDepth 100000 in
/-- SignalEngine$Draft.await(II)LSignalEngine$Node; -/
theorem hm_DR_await_ok (l : Launch) (D : va_G) (G : hg_E) (Z : hg_S) (o : Nat) (p1 : Int32) (p2 : Int32) (q : hg_S × (Option Nat)) (hq : hm_DR_await G Z o p1 p2 = some q) : hg_C l ⟨"SignalEngine$Draft", "await", "(II)LSignalEngine$Node;"⟩ prog_4_method_10_code 3 (some (.object "SignalEngine$Node")) 9 202 D G [.ref o, .int p1, .int p2] Z (.inl (some (va_rf q.2), q.1) : hg_O) := by
  refine hg_start (cv := fun q => (.inl (some (va_rf q.2), q.1) : hg_O)) hq ?_
  intro F hF h
  refine hg_enter (lv := [(0, va_rf (some o)), (1, .int p1), (2, .int p2)]) (by decide +kernel) (by simp [lg_sl, va_rf_cat, hg_cti, hg_ctr]) (by simp [lv_args, va_rf_cat, va_rf_some, hg_cti, hg_ctr]) ?_
  intro X hC hR
  show hg_G X l (hg_rm 9 202 Z) D 3 Z 0 [(0, va_rf (some o)), (1, .int p1), (2, .int p2)] []
  have h : dc_wp (hm_DR_await G Z o p1 p2) F := h
  delta hm_DR_await at h
  refine hg_aloadn (pc := 0) (j := 0) (i := 0) (r := (some o)) hC 0 rfl rfl (show decode prog_4_method_10_code 0 = .ok (.aload_n 0, 1) by decide +kernel) ?_
  refine hg_bipush (pc := 1) (v := 8) hC (show decode prog_4_method_10_code 1 = .ok (.bipush 8, 2) by decide +kernel) (by decide +kernel) ?_
  refine hg_aloadn (pc := 3) (j := 0) (i := 0) (r := (some o)) hC 0 rfl rfl (show decode prog_4_method_10_code 3 = .ok (.aload_n 0, 1) by decide +kernel) ?_
  refine hg_iloadn (pc := 4) (j := 1) (i := 1) hC 1 rfl rfl (show decode prog_4_method_10_code 4 = .ok (.iload_n 1, 1) by decide +kernel) ?_
  refine hg_iloadn (pc := 5) (j := 2) (i := 2) hC 2 rfl rfl (show decode prog_4_method_10_code 5 = .ok (.iload_n 2, 1) by decide +kernel) ?_
  obtain ⟨b1, hb2, h⟩ := dc_bind h
  obtain ⟨hb2, hv3⟩ := hg_chk_of (C := R_DR) rfl hb2
  refine hg_kVr (pc := 6) (b := b1) (r := (some o)) (As := [.int p1, .int p2]) (rest := [.int 8, va_rf (some o)]) (vo := fun q => q.2) (so := fun q => q.1) hC cw_SignalEngine_Draft_54 (fun q hq => hm_DR_watch_ok l D G Z b1 p1 p2 q hq) (Nat.le_of_ble_eq_true rfl) (Nat.le_of_ble_eq_true rfl) hb2 hv3 rfl (Nat.le_of_ble_eq_true rfl) (show decode prog_4_method_10_code 6 = .ok (.invokevirtual 54, 3) by decide +kernel) h ?_
  intro q4 h
  refine hg_null (pc := 9) hC (show decode prog_4_method_10_code 9 = .ok (.aconst_null, 1) by decide +kernel) ?_
  refine hg_iloadn (pc := 10) (j := 2) (i := 2) hC 2 rfl rfl (show decode prog_4_method_10_code 10 = .ok (.iload_n 2, 1) by decide +kernel) ?_
  obtain ⟨b5, hb6, h⟩ := dc_bind h
  obtain ⟨hb6, hv7⟩ := hg_chk_of (C := R_DR) rfl hb6
  refine hg_kVr (pc := 11) (b := b5) (r := (some o)) (As := [.int 8, va_rf q4.2, va_rf none, .int p2]) (rest := []) (vo := fun q => q.2) (so := fun q => q.1) hC cw_SignalEngine_Draft_40 (fun q hq => hm_DR_join_ok l D G q4.1 b5 (8 : Int32) q4.2 (none : Option Nat) p2 q hq) (Nat.le_of_ble_eq_true rfl) (Nat.le_of_ble_eq_true rfl) hb6 hv7 rfl (Nat.le_of_ble_eq_true rfl) (show decode prog_4_method_10_code 11 = .ok (.invokevirtual 40, 3) by decide +kernel) h ?_
  intro q8 h
  exact hg_aret (pc := 14) (r := q8.2) hC hR (by first | exact Or.inl ⟨_, rfl⟩ | exact Or.inr ⟨_, rfl⟩) (hF _ (dc_some h)) (show decode prog_4_method_10_code 14 = .ok (.areturn, 1) by decide +kernel)
noncomputable def hm_DR_tested (G : hg_E) (S : hg_S) (o : Nat) (p1 : Int32) (p2 : Int32) (p3 : Option Nat) (p4 : Option Nat) (p5 : Int32) : Option (hg_S × (Option Nat)) :=
  (hg_chk S (some o) 6).bind fun b1 => (hm_DR_join G S b1 p1 p3 p4 p5).bind fun q4 => (hg_pf q4.1 q4.2 8 6 (.int p2)).bind fun S5 => some (S5, q4.2)
set_option maxHeartbeats 4000000 in
set_option maxRecDepth 100000 in
/-- SignalEngine$Draft.tested(IILSignalEngine$Node;LSignalEngine$Node;I)LSignalEngine$Node; -/
theorem hm_DR_tested_ok (l : Launch) (D : va_G) (G : hg_E) (Z : hg_S) (o : Nat) (p1 : Int32) (p2 : Int32) (p3 : Option Nat) (p4 : Option Nat) (p5 : Int32) (q : hg_S × (Option Nat)) (hq : hm_DR_tested G Z o p1 p2 p3 p4 p5 = some q) : hg_C l ⟨"SignalEngine$Draft", "tested", "(IILSignalEngine$Node;LSignalEngine$Node;I)LSignalEngine$Node;"⟩ prog_4_method_4_code 7 (some (.object "SignalEngine$Node")) 8 177 D G [.ref o, .int p1, .int p2, va_rf p3, va_rf p4, .int p5] Z (.inl (some (va_rf q.2), q.1) : hg_O) := by
  refine hg_start (cv := fun q => (.inl (some (va_rf q.2), q.1) : hg_O)) hq ?_
  intro F hF h
  refine hg_enter (lv := [(0, va_rf (some o)), (1, .int p1), (2, .int p2), (3, va_rf p3), (4, va_rf p4), (5, .int p5)]) (by decide +kernel) (by simp [lg_sl, va_rf_cat, hg_cti, hg_ctr]) (by simp [lv_args, va_rf_cat, va_rf_some, hg_cti, hg_ctr]) ?_
  intro X hC hR
  show hg_G X l (hg_rm 8 177 Z) D 7 Z 0 [(0, va_rf (some o)), (1, .int p1), (2, .int p2), (3, va_rf p3), (4, va_rf p4), (5, .int p5)] []
  have h : dc_wp (hm_DR_tested G Z o p1 p2 p3 p4 p5) F := h
  delta hm_DR_tested at h
  refine hg_aloadn (pc := 0) (j := 0) (i := 0) (r := (some o)) hC 0 rfl rfl (show decode prog_4_method_4_code 0 = .ok (.aload_n 0, 1) by decide +kernel) ?_
  refine hg_iloadn (pc := 1) (j := 1) (i := 1) hC 1 rfl rfl (show decode prog_4_method_4_code 1 = .ok (.iload_n 1, 1) by decide +kernel) ?_
  refine hg_aloadn (pc := 2) (j := 3) (i := 3) (r := p3) hC 3 rfl rfl (show decode prog_4_method_4_code 2 = .ok (.aload_n 3, 1) by decide +kernel) ?_
  refine hg_aload (pc := 3) (i := 4) (r := p4) hC 4 rfl (show decode prog_4_method_4_code 3 = .ok (.aload 4, 2) by decide +kernel) ?_
  refine hg_iload (pc := 5) (i := 5) hC 5 rfl (show decode prog_4_method_4_code 5 = .ok (.iload 5, 2) by decide +kernel) ?_
  obtain ⟨b1, hb2, h⟩ := dc_bind h
  obtain ⟨hb2, hv3⟩ := hg_chk_of (C := R_DR) rfl hb2
  refine hg_kVr (pc := 7) (b := b1) (r := (some o)) (As := [.int p1, va_rf p3, va_rf p4, .int p5]) (rest := []) (vo := fun q => q.2) (so := fun q => q.1) hC cw_SignalEngine_Draft_40 (fun q hq => hm_DR_join_ok l D G Z b1 p1 p3 p4 p5 q hq) (Nat.le_of_ble_eq_true rfl) (Nat.le_of_ble_eq_true rfl) hb2 hv3 rfl (Nat.le_of_ble_eq_true rfl) (show decode prog_4_method_4_code 7 = .ok (.invokevirtual 40, 3) by decide +kernel) h ?_
  intro q4 h
  refine hg_astore (pc := 10) (i := 6) (r := q4.2) (lv' := [(6, va_rf q4.2), (0, va_rf (some o)), (1, .int p1), (2, .int p2), (3, va_rf p3), (4, va_rf p4), (5, .int p5)]) hC (Nat.le_of_ble_eq_true rfl) rfl (show decode prog_4_method_4_code 10 = .ok (.astore 6, 2) by decide +kernel) ?_
  refine hg_aload (pc := 12) (i := 6) (r := q4.2) hC 0 rfl (show decode prog_4_method_4_code 12 = .ok (.aload 6, 2) by decide +kernel) ?_
  refine hg_iloadn (pc := 14) (j := 2) (i := 2) hC 3 rfl rfl (show decode prog_4_method_4_code 14 = .ok (.iload_n 2, 1) by decide +kernel) ?_
  refine hg_rput (pc := 15) (r := q4.2) (v := .int p2) hC fp_SignalEngine_Draft_44 rfl rfl (show decode prog_4_method_4_code 15 = .ok (.putfield 44, 3) by decide +kernel) h ?_
  intro S5 h
  refine hg_aload (pc := 18) (i := 6) (r := q4.2) hC 0 rfl (show decode prog_4_method_4_code 18 = .ok (.aload 6, 2) by decide +kernel) ?_
  exact hg_aret (pc := 20) (r := q4.2) hC hR (by first | exact Or.inl ⟨_, rfl⟩ | exact Or.inr ⟨_, rfl⟩) (hF _ (dc_some h)) (show decode prog_4_method_4_code 20 = .ok (.areturn, 1) by decide +kernel)
noncomputable def hm_PA_closedBy (G : hg_E) (S : hg_S) (o : Nat) (p1 : Option Nat) (p2 : Option Nat) : Option ((hg_S × (Option Nat)) ⊕ hg_X) :=
  (hg_chk S (some o) 4).bind fun b1 => (hm_PA_take G S b1 p1).bind (Sum.elim (fun q4 => some (.inl (q4, p2))) (fun z => some (Sum.inr z)))
set_option maxHeartbeats 4000000 in
set_option maxRecDepth 100000 in
/-- SignalEngine$Parser.closedBy(LSignalEngine$Token;LSignalEngine$Node;)LSignalEngine$Node; -/
theorem hm_PA_closedBy_ok (l : Launch) (hlt : l.stackTraces = false) (D : va_G) (G : hg_E) (Z : hg_S) (o : Nat) (p1 : Option Nat) (p2 : Option Nat) (q : (hg_S × (Option Nat)) ⊕ hg_X) (hq : hm_PA_closedBy G Z o p1 p2 = some q) : hg_C l ⟨"SignalEngine$Parser", "closedBy", "(LSignalEngine$Token;LSignalEngine$Node;)LSignalEngine$Node;"⟩ prog_9_method_14_code 3 (some (.object "SignalEngine$Node")) 9 163 D G [.ref o, va_rf p1, va_rf p2] Z (Sum.elim (fun q => (.inl (some (va_rf q.2), q.1) : hg_O)) hg_ox q) := by
  refine hg_start (cv := fun q => (Sum.elim (fun q => (.inl (some (va_rf q.2), q.1) : hg_O)) hg_ox q)) hq ?_
  intro F hF h
  refine hg_enter (lv := [(0, va_rf (some o)), (1, va_rf p1), (2, va_rf p2)]) (by decide +kernel) (by simp [lg_sl, va_rf_cat, hg_cti, hg_ctr]) (by simp [lv_args, va_rf_cat, va_rf_some, hg_cti, hg_ctr]) ?_
  intro X hC hR
  show hg_G X l (hg_rm 9 163 Z) D 3 Z 0 [(0, va_rf (some o)), (1, va_rf p1), (2, va_rf p2)] []
  have h : dc_wp (hm_PA_closedBy G Z o p1 p2) F := h
  delta hm_PA_closedBy at h
  refine hg_aloadn (pc := 0) (j := 0) (i := 0) (r := (some o)) hC 0 rfl rfl (show decode prog_9_method_14_code 0 = .ok (.aload_n 0, 1) by decide +kernel) ?_
  refine hg_aloadn (pc := 1) (j := 1) (i := 1) (r := p1) hC 1 rfl rfl (show decode prog_9_method_14_code 1 = .ok (.aload_n 1, 1) by decide +kernel) ?_
  obtain ⟨b1, hb2, h⟩ := dc_bind h
  obtain ⟨hb2, hv3⟩ := hg_chk_of (C := R_PA) rfl hb2
  refine hg_kVTv (pc := 2) (b := b1) (r := (some o)) (As := [va_rf p1]) (rest := []) (so := fun q => q) hC hR cw_SignalEngine_Parser_88 (fun q hq => hm_PA_take_ok l hlt D G Z b1 p1 q hq) (Nat.le_of_ble_eq_true rfl) (Nat.le_of_ble_eq_true rfl) hb2 hv3 rfl (Nat.le_of_ble_eq_true rfl) (show decode prog_9_method_14_code 2 = .ok (.invokevirtual 88, 3) by decide +kernel) h (fun z h => hF (.inr z) (dc_some h)) ?_
  intro q4 h
  refine hg_aloadn (pc := 5) (j := 2) (i := 2) (r := p2) hC 2 rfl rfl (show decode prog_9_method_14_code 5 = .ok (.aload_n 2, 1) by decide +kernel) ?_
  exact hg_aret (pc := 6) (r := p2) hC hR (by first | exact Or.inl ⟨_, rfl⟩ | exact Or.inr ⟨_, rfl⟩) (hF _ (dc_some h)) (show decode prog_9_method_14_code 6 = .ok (.areturn, 1) by decide +kernel)
noncomputable def hm_DR_abort (G : hg_E) (S : hg_S) (o : Nat) (p1 : Option Nat) (p2 : Option Nat) (p3 : Int32) : Option (hg_S × (Option Nat)) :=
  (hg_chk S (some o) 6).bind fun b1 => (hm_DR_leaf G S b1 (9 : Int32) (2 : Int32) p3).bind fun q4 => (hg_chk q4.1 (some o) 6).bind fun b5 => (hm_DR_join G q4.1 b5 (5 : Int32) p1 q4.2 p3).bind fun q8 => (hg_chk q8.1 (some o) 6).bind fun b9 => (hm_DR_join G q8.1 b9 (7 : Int32) q8.2 p2 p3).bind fun q12 => (hg_chk q12.1 (some o) 6).bind fun b13 => (hm_DR_join G q12.1 b13 (8 : Int32) q12.2 (none : Option Nat) p3).bind fun q16 => some (q16.1, q16.2)
set_option maxHeartbeats 4000000 in
set_option maxRecDepth 100000 in
/-- SignalEngine$Draft.abort(LSignalEngine$Node;LSignalEngine$Node;I)LSignalEngine$Node; -/
theorem hm_DR_abort_ok (l : Launch) (D : va_G) (G : hg_E) (Z : hg_S) (o : Nat) (p1 : Option Nat) (p2 : Option Nat) (p3 : Int32) (q : hg_S × (Option Nat)) (hq : hm_DR_abort G Z o p1 p2 p3 = some q) : hg_C l ⟨"SignalEngine$Draft", "abort", "(LSignalEngine$Node;LSignalEngine$Node;I)LSignalEngine$Node;"⟩ prog_4_method_11_code 5 (some (.object "SignalEngine$Node")) 8 177 D G [.ref o, va_rf p1, va_rf p2, .int p3] Z (.inl (some (va_rf q.2), q.1) : hg_O) := by
  refine hg_start (cv := fun q => (.inl (some (va_rf q.2), q.1) : hg_O)) hq ?_
  intro F hF h
  refine hg_enter (lv := [(0, va_rf (some o)), (1, va_rf p1), (2, va_rf p2), (3, .int p3)]) (by decide +kernel) (by simp [lg_sl, va_rf_cat, hg_cti, hg_ctr]) (by simp [lv_args, va_rf_cat, va_rf_some, hg_cti, hg_ctr]) ?_
  intro X hC hR
  show hg_G X l (hg_rm 8 177 Z) D 5 Z 0 [(0, va_rf (some o)), (1, va_rf p1), (2, va_rf p2), (3, .int p3)] []
  have h : dc_wp (hm_DR_abort G Z o p1 p2 p3) F := h
  delta hm_DR_abort at h
  refine hg_aloadn (pc := 0) (j := 0) (i := 0) (r := (some o)) hC 0 rfl rfl (show decode prog_4_method_11_code 0 = .ok (.aload_n 0, 1) by decide +kernel) ?_
  refine hg_iconst (pc := 1) (v := 5) hC (show decode prog_4_method_11_code 1 = .ok (.iconst 5, 1) by decide +kernel) (by decide +kernel) ?_
  refine hg_aloadn (pc := 2) (j := 1) (i := 1) (r := p1) hC 1 rfl rfl (show decode prog_4_method_11_code 2 = .ok (.aload_n 1, 1) by decide +kernel) ?_
  refine hg_aloadn (pc := 3) (j := 0) (i := 0) (r := (some o)) hC 0 rfl rfl (show decode prog_4_method_11_code 3 = .ok (.aload_n 0, 1) by decide +kernel) ?_
  refine hg_bipush (pc := 4) (v := 9) hC (show decode prog_4_method_11_code 4 = .ok (.bipush 9, 2) by decide +kernel) (by decide +kernel) ?_
  refine hg_iconst (pc := 6) (v := 2) hC (show decode prog_4_method_11_code 6 = .ok (.iconst 2, 1) by decide +kernel) (by decide +kernel) ?_
  refine hg_iloadn (pc := 7) (j := 3) (i := 3) hC 3 rfl rfl (show decode prog_4_method_11_code 7 = .ok (.iload_n 3, 1) by decide +kernel) ?_
  obtain ⟨b1, hb2, h⟩ := dc_bind h
  obtain ⟨hb2, hv3⟩ := hg_chk_of (C := R_DR) rfl hb2
  refine hg_kVr (pc := 8) (b := b1) (r := (some o)) (As := [.int 9, .int 2, .int p3]) (rest := [va_rf p1, .int 5, va_rf (some o)]) (vo := fun q => q.2) (so := fun q => q.1) hC cw_SignalEngine_Draft_50 (fun q hq => hm_DR_leaf_ok l D G Z b1 (9 : Int32) (2 : Int32) p3 q hq) (Nat.le_of_ble_eq_true rfl) (Nat.le_of_ble_eq_true rfl) hb2 hv3 rfl (by simp only [List.map, va_rf_cat]; exact Nat.le_of_ble_eq_true rfl) (show decode prog_4_method_11_code 8 = .ok (.invokevirtual 50, 3) by decide +kernel) h ?_
  intro q4 h
  refine hg_iloadn (pc := 11) (j := 3) (i := 3) hC 3 rfl rfl (show decode prog_4_method_11_code 11 = .ok (.iload_n 3, 1) by decide +kernel) ?_
  obtain ⟨b5, hb6, h⟩ := dc_bind h
  obtain ⟨hb6, hv7⟩ := hg_chk_of (C := R_DR) rfl hb6
  refine hg_kVr (pc := 12) (b := b5) (r := (some o)) (As := [.int 5, va_rf p1, va_rf q4.2, .int p3]) (rest := []) (vo := fun q => q.2) (so := fun q => q.1) hC cw_SignalEngine_Draft_40 (fun q hq => hm_DR_join_ok l D G q4.1 b5 (5 : Int32) p1 q4.2 p3 q hq) (Nat.le_of_ble_eq_true rfl) (Nat.le_of_ble_eq_true rfl) hb6 hv7 rfl (Nat.le_of_ble_eq_true rfl) (show decode prog_4_method_11_code 12 = .ok (.invokevirtual 40, 3) by decide +kernel) h ?_
  intro q8 h
  refine hg_astore (pc := 15) (i := 4) (r := q8.2) (lv' := [(4, va_rf q8.2), (0, va_rf (some o)), (1, va_rf p1), (2, va_rf p2), (3, .int p3)]) hC (Nat.le_of_ble_eq_true rfl) rfl (show decode prog_4_method_11_code 15 = .ok (.astore 4, 2) by decide +kernel) ?_
  refine hg_aloadn (pc := 17) (j := 0) (i := 0) (r := (some o)) hC 1 rfl rfl (show decode prog_4_method_11_code 17 = .ok (.aload_n 0, 1) by decide +kernel) ?_
  refine hg_bipush (pc := 18) (v := 8) hC (show decode prog_4_method_11_code 18 = .ok (.bipush 8, 2) by decide +kernel) (by decide +kernel) ?_
  refine hg_aloadn (pc := 20) (j := 0) (i := 0) (r := (some o)) hC 1 rfl rfl (show decode prog_4_method_11_code 20 = .ok (.aload_n 0, 1) by decide +kernel) ?_
  refine hg_bipush (pc := 21) (v := 7) hC (show decode prog_4_method_11_code 21 = .ok (.bipush 7, 2) by decide +kernel) (by decide +kernel) ?_
  refine hg_aload (pc := 23) (i := 4) (r := q8.2) hC 0 rfl (show decode prog_4_method_11_code 23 = .ok (.aload 4, 2) by decide +kernel) ?_
  refine hg_aloadn (pc := 25) (j := 2) (i := 2) (r := p2) hC 3 rfl rfl (show decode prog_4_method_11_code 25 = .ok (.aload_n 2, 1) by decide +kernel) ?_
  refine hg_iloadn (pc := 26) (j := 3) (i := 3) hC 4 rfl rfl (show decode prog_4_method_11_code 26 = .ok (.iload_n 3, 1) by decide +kernel) ?_
  obtain ⟨b9, hb10, h⟩ := dc_bind h
  obtain ⟨hb10, hv11⟩ := hg_chk_of (C := R_DR) rfl hb10
  refine hg_kVr (pc := 27) (b := b9) (r := (some o)) (As := [.int 7, va_rf q8.2, va_rf p2, .int p3]) (rest := [.int 8, va_rf (some o)]) (vo := fun q => q.2) (so := fun q => q.1) hC cw_SignalEngine_Draft_40 (fun q hq => hm_DR_join_ok l D G q8.1 b9 (7 : Int32) q8.2 p2 p3 q hq) (Nat.le_of_ble_eq_true rfl) (Nat.le_of_ble_eq_true rfl) hb10 hv11 rfl (Nat.le_of_ble_eq_true rfl) (show decode prog_4_method_11_code 27 = .ok (.invokevirtual 40, 3) by decide +kernel) h ?_
  intro q12 h
  refine hg_null (pc := 30) hC (show decode prog_4_method_11_code 30 = .ok (.aconst_null, 1) by decide +kernel) ?_
  refine hg_iloadn (pc := 31) (j := 3) (i := 3) hC 4 rfl rfl (show decode prog_4_method_11_code 31 = .ok (.iload_n 3, 1) by decide +kernel) ?_
  obtain ⟨b13, hb14, h⟩ := dc_bind h
  obtain ⟨hb14, hv15⟩ := hg_chk_of (C := R_DR) rfl hb14
  refine hg_kVr (pc := 32) (b := b13) (r := (some o)) (As := [.int 8, va_rf q12.2, va_rf none, .int p3]) (rest := []) (vo := fun q => q.2) (so := fun q => q.1) hC cw_SignalEngine_Draft_40 (fun q hq => hm_DR_join_ok l D G q12.1 b13 (8 : Int32) q12.2 (none : Option Nat) p3 q hq) (Nat.le_of_ble_eq_true rfl) (Nat.le_of_ble_eq_true rfl) hb14 hv15 rfl (Nat.le_of_ble_eq_true rfl) (show decode prog_4_method_11_code 32 = .ok (.invokevirtual 40, 3) by decide +kernel) h ?_
  intro q16 h
  exact hg_aret (pc := 35) (r := q16.2) hC hR (by first | exact Or.inl ⟨_, rfl⟩ | exact Or.inr ⟨_, rfl⟩) (hF _ (dc_some h)) (show decode prog_4_method_11_code 35 = .ok (.areturn, 1) by decide +kernel)
noncomputable def hm_DR_loopEach (G : hg_E) (S : hg_S) (o : Nat) (p1 : Option Nat) (p2 : Int32) (p3 : Int32) : Option (hg_S × (Option Nat)) :=
  (hg_chk S (some o) 6).bind fun b1 => (hm_DR_halt G S b1 p3).bind fun q4 => (hg_chk q4.1 (some o) 6).bind fun b5 => (hm_DR_join G q4.1 b5 (5 : Int32) p1 q4.2 p3).bind fun q8 => (hg_chk q8.1 (some o) 6).bind fun b9 => (hm_DR_tested G q8.1 b9 (4 : Int32) p2 q8.2 (none : Option Nat) p3).bind fun q12 => (hg_chk q12.1 (some o) 6).bind fun b13 => (hm_DR_watch G q12.1 b13 p2 p3).bind fun q16 => (hg_chk q16.1 (some o) 6).bind fun b17 => (hm_DR_abort G q16.1 b17 q12.2 q16.2 p3).bind fun q20 => (hg_chk q20.1 (some o) 6).bind fun b21 => (hm_DR_join G q20.1 b21 (6 : Int32) q20.2 (none : Option Nat) p3).bind fun q24 => some (q24.1, q24.2)
set_option maxHeartbeats 4000000 in
set_option maxRecDepth 100000 in
/-- SignalEngine$Draft.loopEach(LSignalEngine$Node;II)LSignalEngine$Node; -/
theorem hm_DR_loopEach_ok (l : Launch) (D : va_G) (G : hg_E) (Z : hg_S) (o : Nat) (p1 : Option Nat) (p2 : Int32) (p3 : Int32) (q : hg_S × (Option Nat)) (hq : hm_DR_loopEach G Z o p1 p2 p3 = some q) : hg_C l ⟨"SignalEngine$Draft", "loopEach", "(LSignalEngine$Node;II)LSignalEngine$Node;"⟩ prog_4_method_12_code 6 (some (.object "SignalEngine$Node")) 9 203 D G [.ref o, va_rf p1, .int p2, .int p3] Z (.inl (some (va_rf q.2), q.1) : hg_O) := by
  refine hg_start (cv := fun q => (.inl (some (va_rf q.2), q.1) : hg_O)) hq ?_
  intro F hF h
  refine hg_enter (lv := [(0, va_rf (some o)), (1, va_rf p1), (2, .int p2), (3, .int p3)]) (by decide +kernel) (by simp [lg_sl, va_rf_cat, hg_cti, hg_ctr]) (by simp [lv_args, va_rf_cat, va_rf_some, hg_cti, hg_ctr]) ?_
  intro X hC hR
  show hg_G X l (hg_rm 9 203 Z) D 6 Z 0 [(0, va_rf (some o)), (1, va_rf p1), (2, .int p2), (3, .int p3)] []
  have h : dc_wp (hm_DR_loopEach G Z o p1 p2 p3) F := h
  delta hm_DR_loopEach at h
  refine hg_aloadn (pc := 0) (j := 0) (i := 0) (r := (some o)) hC 0 rfl rfl (show decode prog_4_method_12_code 0 = .ok (.aload_n 0, 1) by decide +kernel) ?_
  refine hg_iconst (pc := 1) (v := 5) hC (show decode prog_4_method_12_code 1 = .ok (.iconst 5, 1) by decide +kernel) (by decide +kernel) ?_
  refine hg_aloadn (pc := 2) (j := 1) (i := 1) (r := p1) hC 1 rfl rfl (show decode prog_4_method_12_code 2 = .ok (.aload_n 1, 1) by decide +kernel) ?_
  refine hg_aloadn (pc := 3) (j := 0) (i := 0) (r := (some o)) hC 0 rfl rfl (show decode prog_4_method_12_code 3 = .ok (.aload_n 0, 1) by decide +kernel) ?_
  refine hg_iloadn (pc := 4) (j := 3) (i := 3) hC 3 rfl rfl (show decode prog_4_method_12_code 4 = .ok (.iload_n 3, 1) by decide +kernel) ?_
  obtain ⟨b1, hb2, h⟩ := dc_bind h
  obtain ⟨hb2, hv3⟩ := hg_chk_of (C := R_DR) rfl hb2
  refine hg_kVr (pc := 5) (b := b1) (r := (some o)) (As := [.int p3]) (rest := [va_rf p1, .int 5, va_rf (some o)]) (vo := fun q => q.2) (so := fun q => q.1) hC cw_SignalEngine_Draft_58 (fun q hq => hm_DR_halt_ok l D G Z b1 p3 q hq) (Nat.le_of_ble_eq_true rfl) (Nat.le_of_ble_eq_true rfl) hb2 hv3 rfl (by simp only [List.map, va_rf_cat]; exact Nat.le_of_ble_eq_true rfl) (show decode prog_4_method_12_code 5 = .ok (.invokevirtual 58, 3) by decide +kernel) h ?_
  intro q4 h
  refine hg_iloadn (pc := 8) (j := 3) (i := 3) hC 3 rfl rfl (show decode prog_4_method_12_code 8 = .ok (.iload_n 3, 1) by decide +kernel) ?_
  obtain ⟨b5, hb6, h⟩ := dc_bind h
  obtain ⟨hb6, hv7⟩ := hg_chk_of (C := R_DR) rfl hb6
  refine hg_kVr (pc := 9) (b := b5) (r := (some o)) (As := [.int 5, va_rf p1, va_rf q4.2, .int p3]) (rest := []) (vo := fun q => q.2) (so := fun q => q.1) hC cw_SignalEngine_Draft_40 (fun q hq => hm_DR_join_ok l D G q4.1 b5 (5 : Int32) p1 q4.2 p3 q hq) (Nat.le_of_ble_eq_true rfl) (Nat.le_of_ble_eq_true rfl) hb6 hv7 rfl (Nat.le_of_ble_eq_true rfl) (show decode prog_4_method_12_code 9 = .ok (.invokevirtual 40, 3) by decide +kernel) h ?_
  intro q8 h
  refine hg_astore (pc := 12) (i := 4) (r := q8.2) (lv' := [(4, va_rf q8.2), (0, va_rf (some o)), (1, va_rf p1), (2, .int p2), (3, .int p3)]) hC (Nat.le_of_ble_eq_true rfl) rfl (show decode prog_4_method_12_code 12 = .ok (.astore 4, 2) by decide +kernel) ?_
  refine hg_aloadn (pc := 14) (j := 0) (i := 0) (r := (some o)) hC 1 rfl rfl (show decode prog_4_method_12_code 14 = .ok (.aload_n 0, 1) by decide +kernel) ?_
  refine hg_iconst (pc := 15) (v := 4) hC (show decode prog_4_method_12_code 15 = .ok (.iconst 4, 1) by decide +kernel) (by decide +kernel) ?_
  refine hg_iloadn (pc := 16) (j := 2) (i := 2) hC 3 rfl rfl (show decode prog_4_method_12_code 16 = .ok (.iload_n 2, 1) by decide +kernel) ?_
  refine hg_aload (pc := 17) (i := 4) (r := q8.2) hC 0 rfl (show decode prog_4_method_12_code 17 = .ok (.aload 4, 2) by decide +kernel) ?_
  refine hg_null (pc := 19) hC (show decode prog_4_method_12_code 19 = .ok (.aconst_null, 1) by decide +kernel) ?_
  refine hg_iloadn (pc := 20) (j := 3) (i := 3) hC 4 rfl rfl (show decode prog_4_method_12_code 20 = .ok (.iload_n 3, 1) by decide +kernel) ?_
  obtain ⟨b9, hb10, h⟩ := dc_bind h
  obtain ⟨hb10, hv11⟩ := hg_chk_of (C := R_DR) rfl hb10
  refine hg_kVr (pc := 21) (b := b9) (r := (some o)) (As := [.int 4, .int p2, va_rf q8.2, va_rf none, .int p3]) (rest := []) (vo := fun q => q.2) (so := fun q => q.1) hC cw_SignalEngine_Draft_62 (fun q hq => hm_DR_tested_ok l D G q8.1 b9 (4 : Int32) p2 q8.2 (none : Option Nat) p3 q hq) (Nat.le_of_ble_eq_true rfl) (Nat.le_of_ble_eq_true rfl) hb10 hv11 rfl (Nat.le_of_ble_eq_true rfl) (show decode prog_4_method_12_code 21 = .ok (.invokevirtual 62, 3) by decide +kernel) h ?_
  intro q12 h
  refine hg_astore (pc := 24) (i := 5) (r := q12.2) (lv' := [(5, va_rf q12.2), (4, va_rf q8.2), (0, va_rf (some o)), (1, va_rf p1), (2, .int p2), (3, .int p3)]) hC (Nat.le_of_ble_eq_true rfl) (by simp [va_rf_cat, hg_cti]) (show decode prog_4_method_12_code 24 = .ok (.astore 5, 2) by decide +kernel) ?_
  refine hg_aloadn (pc := 26) (j := 0) (i := 0) (r := (some o)) hC 2 rfl rfl (show decode prog_4_method_12_code 26 = .ok (.aload_n 0, 1) by decide +kernel) ?_
  refine hg_bipush (pc := 27) (v := 6) hC (show decode prog_4_method_12_code 27 = .ok (.bipush 6, 2) by decide +kernel) (by decide +kernel) ?_
  refine hg_aloadn (pc := 29) (j := 0) (i := 0) (r := (some o)) hC 2 rfl rfl (show decode prog_4_method_12_code 29 = .ok (.aload_n 0, 1) by decide +kernel) ?_
  refine hg_aload (pc := 30) (i := 5) (r := q12.2) hC 0 rfl (show decode prog_4_method_12_code 30 = .ok (.aload 5, 2) by decide +kernel) ?_
  refine hg_aloadn (pc := 32) (j := 0) (i := 0) (r := (some o)) hC 2 rfl rfl (show decode prog_4_method_12_code 32 = .ok (.aload_n 0, 1) by decide +kernel) ?_
  refine hg_iloadn (pc := 33) (j := 2) (i := 2) hC 4 rfl rfl (show decode prog_4_method_12_code 33 = .ok (.iload_n 2, 1) by decide +kernel) ?_
  refine hg_iloadn (pc := 34) (j := 3) (i := 3) hC 5 rfl rfl (show decode prog_4_method_12_code 34 = .ok (.iload_n 3, 1) by decide +kernel) ?_
  obtain ⟨b13, hb14, h⟩ := dc_bind h
  obtain ⟨hb14, hv15⟩ := hg_chk_of (C := R_DR) rfl hb14
  refine hg_kVr (pc := 35) (b := b13) (r := (some o)) (As := [.int p2, .int p3]) (rest := [va_rf q12.2, va_rf (some o), .int 6, va_rf (some o)]) (vo := fun q => q.2) (so := fun q => q.1) hC cw_SignalEngine_Draft_54 (fun q hq => hm_DR_watch_ok l D G q12.1 b13 p2 p3 q hq) (Nat.le_of_ble_eq_true rfl) (Nat.le_of_ble_eq_true rfl) hb14 hv15 rfl (by simp only [List.map, va_rf_cat]; exact Nat.le_of_ble_eq_true rfl) (show decode prog_4_method_12_code 35 = .ok (.invokevirtual 54, 3) by decide +kernel) h ?_
  intro q16 h
  refine hg_iloadn (pc := 38) (j := 3) (i := 3) hC 5 rfl rfl (show decode prog_4_method_12_code 38 = .ok (.iload_n 3, 1) by decide +kernel) ?_
  obtain ⟨b17, hb18, h⟩ := dc_bind h
  obtain ⟨hb18, hv19⟩ := hg_chk_of (C := R_DR) rfl hb18
  refine hg_kVr (pc := 39) (b := b17) (r := (some o)) (As := [va_rf q12.2, va_rf q16.2, .int p3]) (rest := [.int 6, va_rf (some o)]) (vo := fun q => q.2) (so := fun q => q.1) hC cw_SignalEngine_Draft_66 (fun q hq => hm_DR_abort_ok l D G q16.1 b17 q12.2 q16.2 p3 q hq) (Nat.le_of_ble_eq_true rfl) (Nat.le_of_ble_eq_true rfl) hb18 hv19 rfl (Nat.le_of_ble_eq_true rfl) (show decode prog_4_method_12_code 39 = .ok (.invokevirtual 66, 3) by decide +kernel) h ?_
  intro q20 h
  refine hg_null (pc := 42) hC (show decode prog_4_method_12_code 42 = .ok (.aconst_null, 1) by decide +kernel) ?_
  refine hg_iloadn (pc := 43) (j := 3) (i := 3) hC 5 rfl rfl (show decode prog_4_method_12_code 43 = .ok (.iload_n 3, 1) by decide +kernel) ?_
  obtain ⟨b21, hb22, h⟩ := dc_bind h
  obtain ⟨hb22, hv23⟩ := hg_chk_of (C := R_DR) rfl hb22
  refine hg_kVr (pc := 44) (b := b21) (r := (some o)) (As := [.int 6, va_rf q20.2, va_rf none, .int p3]) (rest := []) (vo := fun q => q.2) (so := fun q => q.1) hC cw_SignalEngine_Draft_40 (fun q hq => hm_DR_join_ok l D G q20.1 b21 (6 : Int32) q20.2 (none : Option Nat) p3 q hq) (Nat.le_of_ble_eq_true rfl) (Nat.le_of_ble_eq_true rfl) hb22 hv23 rfl (Nat.le_of_ble_eq_true rfl) (show decode prog_4_method_12_code 44 = .ok (.invokevirtual 40, 3) by decide +kernel) h ?_
  intro q24 h
  exact hg_aret (pc := 47) (r := q24.2) hC hR (by first | exact Or.inl ⟨_, rfl⟩ | exact Or.inr ⟨_, rfl⟩) (hF _ (dc_some h)) (show decode prog_4_method_12_code 47 = .ok (.areturn, 1) by decide +kernel)
noncomputable def hm_DR_trap (G : hg_E) (S : hg_S) (o : Nat) (p1 : Int32) (p2 : Option Nat) (p3 : Int32) : Option (hg_S × (Option Nat)) :=
  (hg_chk S (some o) 6).bind fun b1 => (hm_DR_join G S b1 (8 : Int32) p2 (none : Option Nat) p3).bind fun q4 => (hg_pf q4.1 q4.2 8 5 (.int p1)).bind fun S5 => some (S5, q4.2)
set_option maxHeartbeats 4000000 in
set_option maxRecDepth 100000 in
/-- SignalEngine$Draft.trap(ILSignalEngine$Node;I)LSignalEngine$Node; -/
theorem hm_DR_trap_ok (l : Launch) (D : va_G) (G : hg_E) (Z : hg_S) (o : Nat) (p1 : Int32) (p2 : Option Nat) (p3 : Int32) (q : hg_S × (Option Nat)) (hq : hm_DR_trap G Z o p1 p2 p3 = some q) : hg_C l ⟨"SignalEngine$Draft", "trap", "(ILSignalEngine$Node;I)LSignalEngine$Node;"⟩ prog_4_method_5_code 5 (some (.object "SignalEngine$Node")) 8 177 D G [.ref o, .int p1, va_rf p2, .int p3] Z (.inl (some (va_rf q.2), q.1) : hg_O) := by
  refine hg_start (cv := fun q => (.inl (some (va_rf q.2), q.1) : hg_O)) hq ?_
  intro F hF h
  refine hg_enter (lv := [(0, va_rf (some o)), (1, .int p1), (2, va_rf p2), (3, .int p3)]) (by decide +kernel) (by simp [lg_sl, va_rf_cat, hg_cti, hg_ctr]) (by simp [lv_args, va_rf_cat, va_rf_some, hg_cti, hg_ctr]) ?_
  intro X hC hR
  show hg_G X l (hg_rm 8 177 Z) D 5 Z 0 [(0, va_rf (some o)), (1, .int p1), (2, va_rf p2), (3, .int p3)] []
  have h : dc_wp (hm_DR_trap G Z o p1 p2 p3) F := h
  delta hm_DR_trap at h
  refine hg_aloadn (pc := 0) (j := 0) (i := 0) (r := (some o)) hC 0 rfl rfl (show decode prog_4_method_5_code 0 = .ok (.aload_n 0, 1) by decide +kernel) ?_
  refine hg_bipush (pc := 1) (v := 8) hC (show decode prog_4_method_5_code 1 = .ok (.bipush 8, 2) by decide +kernel) (by decide +kernel) ?_
  refine hg_aloadn (pc := 3) (j := 2) (i := 2) (r := p2) hC 2 rfl rfl (show decode prog_4_method_5_code 3 = .ok (.aload_n 2, 1) by decide +kernel) ?_
  refine hg_null (pc := 4) hC (show decode prog_4_method_5_code 4 = .ok (.aconst_null, 1) by decide +kernel) ?_
  refine hg_iloadn (pc := 5) (j := 3) (i := 3) hC 3 rfl rfl (show decode prog_4_method_5_code 5 = .ok (.iload_n 3, 1) by decide +kernel) ?_
  obtain ⟨b1, hb2, h⟩ := dc_bind h
  obtain ⟨hb2, hv3⟩ := hg_chk_of (C := R_DR) rfl hb2
  refine hg_kVr (pc := 6) (b := b1) (r := (some o)) (As := [.int 8, va_rf p2, va_rf none, .int p3]) (rest := []) (vo := fun q => q.2) (so := fun q => q.1) hC cw_SignalEngine_Draft_40 (fun q hq => hm_DR_join_ok l D G Z b1 (8 : Int32) p2 (none : Option Nat) p3 q hq) (Nat.le_of_ble_eq_true rfl) (Nat.le_of_ble_eq_true rfl) hb2 hv3 rfl (Nat.le_of_ble_eq_true rfl) (show decode prog_4_method_5_code 6 = .ok (.invokevirtual 40, 3) by decide +kernel) h ?_
  intro q4 h
  refine hg_astore (pc := 9) (i := 4) (r := q4.2) (lv' := [(4, va_rf q4.2), (0, va_rf (some o)), (1, .int p1), (2, va_rf p2), (3, .int p3)]) hC (Nat.le_of_ble_eq_true rfl) rfl (show decode prog_4_method_5_code 9 = .ok (.astore 4, 2) by decide +kernel) ?_
  refine hg_aload (pc := 11) (i := 4) (r := q4.2) hC 0 rfl (show decode prog_4_method_5_code 11 = .ok (.aload 4, 2) by decide +kernel) ?_
  refine hg_iloadn (pc := 13) (j := 1) (i := 1) hC 2 rfl rfl (show decode prog_4_method_5_code 13 = .ok (.iload_n 1, 1) by decide +kernel) ?_
  refine hg_rput (pc := 14) (r := q4.2) (v := .int p1) hC fp_SignalEngine_Draft_47 rfl rfl (show decode prog_4_method_5_code 14 = .ok (.putfield 47, 3) by decide +kernel) h ?_
  intro S5 h
  refine hg_aload (pc := 17) (i := 4) (r := q4.2) hC 0 rfl (show decode prog_4_method_5_code 17 = .ok (.aload 4, 2) by decide +kernel) ?_
  exact hg_aret (pc := 19) (r := q4.2) hC hR (by first | exact Or.inl ⟨_, rfl⟩ | exact Or.inr ⟨_, rfl⟩) (hF _ (dc_some h)) (show decode prog_4_method_5_code 19 = .ok (.areturn, 1) by decide +kernel)
abbrev hm_T2 : Type := (hg_E → hg_S → Nat → Option ((hg_S × (Option Nat)) ⊕ hg_X)) × (hg_E → hg_S → Nat → Option ((hg_S × (Option Nat)) ⊕ hg_X)) × (hg_E → hg_S → Nat → Option ((hg_S × (Option Nat)) ⊕ hg_X)) × (hg_E → hg_S → Nat → (Option Nat) → Int32 → Option ((hg_S × (Option Nat)) ⊕ hg_X)) × (hg_E → hg_S → Nat → Int32 → Option ((hg_S × (Option Nat)) ⊕ hg_X)) × (hg_E → hg_S → Nat → Int32 → Option ((hg_S × (Option Nat)) ⊕ hg_X)) × (hg_E → hg_S → Nat → Int32 → Option ((hg_S × (Option Nat)) ⊕ hg_X)) × (hg_E → hg_S → Nat → Int32 → Option ((hg_S × (Option Nat)) ⊕ hg_X)) × (hg_E → hg_S → Nat → Int32 → Option ((hg_S × (Option Nat)) ⊕ hg_X)) × (hg_E → hg_S → Nat → (Option Nat) → Int32 → Option ((hg_S × (Option Nat)) ⊕ hg_X))
def hm_OK2 (l : Launch) (D : va_G) (G : hg_E) (T : hm_T2) (d : Nat) : Prop :=
  (∀ (Z : hg_S) (o : Nat) (q : (hg_S × (Option Nat)) ⊕ hg_X), T.1 G Z o = some q → hg_C l ⟨"SignalEngine$Parser", "takeBody", "()LSignalEngine$Node;"⟩ prog_9_method_10_code 3 (some (.object "SignalEngine$Node")) (d + 410) (26 * d + 8987) D G [.ref o] Z (Sum.elim (fun q => (.inl (some (va_rf q.2), q.1) : hg_O)) hg_ox q)) ∧
  (∀ (Z : hg_S) (o : Nat) (q : (hg_S × (Option Nat)) ⊕ hg_X), T.2.1 G Z o = some q → hg_C l ⟨"SignalEngine$Parser", "takeRow", "()LSignalEngine$Node;"⟩ prog_9_method_11_code 3 (some (.object "SignalEngine$Node")) (d + 410) (26 * d + 8987) D G [.ref o] Z (Sum.elim (fun q => (.inl (some (va_rf q.2), q.1) : hg_O)) hg_ox q)) ∧
  (∀ (Z : hg_S) (o : Nat) (q : (hg_S × (Option Nat)) ⊕ hg_X), T.2.2.1 G Z o = some q → hg_C l ⟨"SignalEngine$Parser", "takeStatement", "()LSignalEngine$Node;"⟩ prog_9_method_12_code 4 (some (.object "SignalEngine$Node")) (d + 410) (26 * d + 8987) D G [.ref o] Z (Sum.elim (fun q => (.inl (some (va_rf q.2), q.1) : hg_O)) hg_ox q)) ∧
  (∀ (Z : hg_S) (o : Nat) (p1 : Option Nat) (p2 : Int32) (q : (hg_S × (Option Nat)) ⊕ hg_X), T.2.2.2.1 G Z o p1 p2 = some q → hg_C l ⟨"SignalEngine$Parser", "takeRest", "(LSignalEngine$Token;I)LSignalEngine$Node;"⟩ prog_9_method_13_code 3 (some (.object "SignalEngine$Node")) (d + 410) (26 * d + 8987) D G [.ref o, va_rf p1, .int p2] Z (Sum.elim (fun q => (.inl (some (va_rf q.2), q.1) : hg_O)) hg_ox q)) ∧
  (∀ (Z : hg_S) (o : Nat) (p1 : Int32) (q : (hg_S × (Option Nat)) ⊕ hg_X), T.2.2.2.2.1 G Z o p1 = some q → hg_C l ⟨"SignalEngine$Parser", "takePresent", "(I)LSignalEngine$Node;"⟩ prog_9_method_15_code 5 (some (.object "SignalEngine$Node")) (d + 410) (26 * d + 8987) D G [.ref o, .int p1] Z (Sum.elim (fun q => (.inl (some (va_rf q.2), q.1) : hg_O)) hg_ox q)) ∧
  (∀ (Z : hg_S) (o : Nat) (p1 : Int32) (q : (hg_S × (Option Nat)) ⊕ hg_X), T.2.2.2.2.2.1 G Z o p1 = some q → hg_C l ⟨"SignalEngine$Parser", "takeLoop", "(I)LSignalEngine$Node;"⟩ prog_9_method_16_code 3 (some (.object "SignalEngine$Node")) (d + 410) (26 * d + 8987) D G [.ref o, .int p1] Z (Sum.elim (fun q => (.inl (some (va_rf q.2), q.1) : hg_O)) hg_ox q)) ∧
  (∀ (Z : hg_S) (o : Nat) (p1 : Int32) (q : (hg_S × (Option Nat)) ⊕ hg_X), T.2.2.2.2.2.2.1 G Z o p1 = some q → hg_C l ⟨"SignalEngine$Parser", "takeTrap", "(I)LSignalEngine$Node;"⟩ prog_9_method_17_code 5 (some (.object "SignalEngine$Node")) (d + 410) (26 * d + 8987) D G [.ref o, .int p1] Z (Sum.elim (fun q => (.inl (some (va_rf q.2), q.1) : hg_O)) hg_ox q)) ∧
  (∀ (Z : hg_S) (o : Nat) (p1 : Int32) (q : (hg_S × (Option Nat)) ⊕ hg_X), T.2.2.2.2.2.2.2.1 G Z o p1 = some q → hg_C l ⟨"SignalEngine$Parser", "takeLocals", "(I)LSignalEngine$Node;"⟩ prog_9_method_18_code 7 (some (.object "SignalEngine$Node")) (d + 410) (26 * d + 8987) D G [.ref o, .int p1] Z (Sum.elim (fun q => (.inl (some (va_rf q.2), q.1) : hg_O)) hg_ox q)) ∧
  (∀ (Z : hg_S) (o : Nat) (p1 : Int32) (q : (hg_S × (Option Nat)) ⊕ hg_X), T.2.2.2.2.2.2.2.2.1 G Z o p1 = some q → hg_C l ⟨"SignalEngine$Parser", "takeEvery", "(I)LSignalEngine$Node;"⟩ prog_9_method_19_code 4 (some (.object "SignalEngine$Node")) (d + 410) (26 * d + 8987) D G [.ref o, .int p1] Z (Sum.elim (fun q => (.inl (some (va_rf q.2), q.1) : hg_O)) hg_ox q)) ∧
  (∀ (Z : hg_S) (o : Nat) (p1 : Option Nat) (p2 : Int32) (q : (hg_S × (Option Nat)) ⊕ hg_X), T.2.2.2.2.2.2.2.2.2 G Z o p1 p2 = some q → hg_C l ⟨"SignalEngine$Parser", "takeGuarded", "(LSignalEngine$Token;I)LSignalEngine$Node;"⟩ prog_9_method_20_code 6 (some (.object "SignalEngine$Node")) (d + 410) (26 * d + 8987) D G [.ref o, va_rf p1, .int p2] Z (Sum.elim (fun q => (.inl (some (va_rf q.2), q.1) : hg_O)) hg_ox q))
noncomputable def hm_PA_takeBody_L54 (T : hm_T2) (G : hg_E) (S : hg_S) (o : Nat) (x1 : Option Nat) : Option ((hg_S × (Option Nat)) ⊕ hg_X) :=
  some (.inl (S, x1))
noncomputable def hm_PA_takeBody_b7 (T : hm_T2) (G : hg_E) (S : hg_S) (o : Nat) (x1 : Option Nat) (x2 : Int32) : Option ((hg_S × (Option Nat) × Int32) ⊕ ((hg_S × (Option Nat)) ⊕ (hg_X))) :=
  (hg_gr S (some o) 4 0).bind fun e1 => (hg_gr S e1 2 0).bind fun e2 => (hg_ln S e2 (G.1 1)).bind fun e3 => if x2 < e3 then ((hg_chk S (some o) 4).bind fun b4 => (hm_PA_skip G S b4 (some (G.2.1 30))).bind (Sum.elim (fun q7 => if q7.2 = 0 then (some (.inr (.inl (q7.1, x1)))) else ((hg_gr q7.1 (some o) 4 3).bind fun e8 => (hg_chk q7.1 (some o) 4).bind fun b9 => (T.2.1 G q7.1 b9).bind (Sum.elim (fun q12 => (hg_gi q12.1 x1 8 1).bind fun e13 => (hg_chk q12.1 e8 6).bind fun b14 => (hm_DR_join G q12.1 b14 (7 : Int32) x1 q12.2 e13).bind fun q17 => some (.inl (q17.1, q17.2, (x2 + 1)))) (fun z => some (Sum.inr (.inr z)))))) (fun z => some (Sum.inr (.inr z))))) else (some (.inr (.inl (S, x1))))
noncomputable def hm_PA_takeBody_s7 (T : hm_T2) (G : hg_E) (o : Nat) (q : hg_S × (Option Nat) × Int32) : Option ((hg_S × (Option Nat) × Int32) ⊕ ((hg_S × (Option Nat)) ⊕ (hg_X))) :=
  hm_PA_takeBody_b7 T G q.1 o q.2.1 q.2.2
noncomputable def hm_PA_takeBody_L7 (T : hm_T2) (G : hg_E) (S : hg_S) (o : Nat) (x1 : Option Nat) (x2 : Int32) : Option ((hg_S × (Option Nat)) ⊕ hg_X) :=
  (dc_it (hm_PA_takeBody_s7 T G o) (S, x1, x2)).bind (Sum.elim (fun (z : hg_S × (Option Nat)) => hm_PA_takeBody_L54 T G z.1 o z.2) (fun (z : hg_X) => some (Sum.inr z)))
noncomputable def hm_PA_takeBody (T : hm_T2) (G : hg_E) (S : hg_S) (o : Nat) : Option ((hg_S × (Option Nat)) ⊕ hg_X) :=
  (hg_chk S (some o) 4).bind fun b18 => (T.2.1 G S b18).bind (Sum.elim (fun q21 => hm_PA_takeBody_L7 T G q21.1 o q21.2 0) (fun z => some (Sum.inr z)))
set_option maxHeartbeats 4000000 in
set_option maxRecDepth 100000 in
/-- SignalEngine$Parser.takeBody()LSignalEngine$Node; -/
theorem hm_PA_takeBody_ok (l : Launch) (hlt : l.stackTraces = false) (D : va_G) (G : hg_E) (T : hm_T2) (d : Nat) (hT : hm_OK2 l D G T d) (Z : hg_S) (o : Nat) (q : (hg_S × (Option Nat)) ⊕ hg_X) (hq : hm_PA_takeBody T G Z o = some q) : hg_C l ⟨"SignalEngine$Parser", "takeBody", "()LSignalEngine$Node;"⟩ prog_9_method_10_code 3 (some (.object "SignalEngine$Node")) (d + 1 + 410) (26 * (d + 1) + 8987) D G [.ref o] Z (Sum.elim (fun q => (.inl (some (va_rf q.2), q.1) : hg_O)) hg_ox q) := by
  refine hg_start (cv := fun q => (Sum.elim (fun q => (.inl (some (va_rf q.2), q.1) : hg_O)) hg_ox q)) hq ?_
  intro F hF h
  refine hg_enter (lv := [(0, va_rf (some o))]) (by decide +kernel) (by simp [lg_sl, va_rf_cat, hg_cti, hg_ctr]) (by simp [lv_args, va_rf_cat, va_rf_some, hg_cti, hg_ctr]) ?_
  intro X hC hR
  have lab_54 : ∀ (S : hg_S) (x1 : Option Nat), dc_wp (hm_PA_takeBody_L54 T G S o x1) F → hg_G X l (hg_rm (d + 1 + 410) (26 * (d + 1) + 8987) Z) D 3 S 54 [(0, va_rf (some o)), (1, va_rf x1)] [] := by
    intro S x1 h
    delta hm_PA_takeBody_L54 at h
    refine hg_aloadn (pc := 54) (j := 1) (i := 1) (r := x1) hC 1 rfl rfl (show decode prog_9_method_10_code 54 = .ok (.aload_n 1, 1) by decide +kernel) ?_
    exact hg_aret (pc := 55) (r := x1) hC hR (by first | exact Or.inl ⟨_, rfl⟩ | exact Or.inr ⟨_, rfl⟩) (hF _ (dc_some h)) (show decode prog_9_method_10_code 55 = .ok (.areturn, 1) by decide +kernel)
  have loop_7 : ∀ (q : hg_S × (Option Nat) × Int32), dc_wp (dc_it (hm_PA_takeBody_s7 T G o) q) (fun z => dc_wp ((Sum.elim (fun (z : hg_S × (Option Nat)) => hm_PA_takeBody_L54 T G z.1 o z.2) (fun (z : hg_X) => some (Sum.inr z))) z) F) → hg_G X l (hg_rm (d + 1 + 410) (26 * (d + 1) + 8987) Z) D 3 q.1 7 [(0, va_rf (some o)), (1, va_rf q.2.1), (2, .int q.2.2)] [] := by
    refine dc_loopF ?_
    intro F_7 hl_7 hr_7
    rintro ⟨S, x1, x2⟩ h
    have h : dc_wp (hm_PA_takeBody_b7 T G S o x1 x2) F_7 := h
    delta hm_PA_takeBody_b7 at h
    refine hg_iloadn (pc := 7) (j := 2) (i := 2) hC 2 rfl rfl (show decode prog_9_method_10_code 7 = .ok (.iload_n 2, 1) by decide +kernel) ?_
    refine hg_aloadn (pc := 8) (j := 0) (i := 0) (r := (some o)) hC 0 rfl rfl (show decode prog_9_method_10_code 8 = .ok (.aload_n 0, 1) by decide +kernel) ?_
    refine hg_rgr (pc := 9) (r := (some o)) hC fl_SignalEngine_Parser_23 (show decode prog_9_method_10_code 9 = .ok (.getfield 23, 3) by decide +kernel) h ?_
    intro e1 h
    refine hg_rgr (pc := 12) (r := e1) hC fl_SignalEngine_Parser_106 (show decode prog_9_method_10_code 12 = .ok (.getfield 106, 3) by decide +kernel) h ?_
    intro e2 h
    refine hg_rlen (pc := 15) (r := e2) (t := 1) hC rfl (show decode prog_9_method_10_code 15 = .ok (.arraylength, 1) by decide +kernel) h ?_
    intro e3 h
    refine hg_icmp_ge (pc := 16) (tgt := 54) hC (show decode prog_9_method_10_code 16 = .ok (.if_icmp .ge 38, 3) by decide +kernel) (by decide +kernel) h ?_ ?_
    · intro h
      refine hg_aloadn (pc := 19) (j := 0) (i := 0) (r := (some o)) hC 0 rfl rfl (show decode prog_9_method_10_code 19 = .ok (.aload_n 0, 1) by decide +kernel) ?_
      refine hg_tok (pc := 20) (j := 30) hC (by decide) rfl w_801 (show decode prog_9_method_10_code 20 = .ok (.getstatic 139, 3) by decide +kernel) ?_
      obtain ⟨b4, hb5, h⟩ := dc_bind h
      obtain ⟨hb5, hv6⟩ := hg_chk_of (C := R_PA) rfl hb5
      refine hg_kVTi (pc := 23) (b := b4) (r := (some o)) (As := [va_rf (some (G.2.1 30))]) (rest := []) (vo := fun q => q.2) (so := fun q => q.1) hC hR cw_SignalEngine_Parser_127 (fun q hq => hm_PA_skip_ok l hlt D G S b4 (some (G.2.1 30)) q hq) (by show _ + 1 ≤ d + 1 + 410; omega) (by show _ ≤ 26 * (d + 1) + 8987; omega) hb5 hv6 rfl (Nat.le_of_ble_eq_true rfl) (show decode prog_9_method_10_code 23 = .ok (.invokevirtual 127, 3) by decide +kernel) h (fun z h => (fun (h : dc_wp (some (Sum.inr z)) F) => hF (.inr z) (dc_some h)) (hr_7 (.inr z) (dc_some h))) ?_
      intro q7 h
      refine hg_if_eq (pc := 26) (tgt := 54) hC (show decode prog_9_method_10_code 26 = .ok (.ifCond .eq 28, 3) by decide +kernel) (by decide +kernel) h ?_ ?_
      · intro h
        have h : dc_wp (hm_PA_takeBody_L54 T G q7.1 o x1) F := hr_7 (.inl (q7.1, x1)) (dc_some h)
        exact hg_sub [0, 1] rfl (lab_54 q7.1 x1 h)
      · intro h
        refine hg_aloadn (pc := 29) (j := 0) (i := 0) (r := (some o)) hC 0 rfl rfl (show decode prog_9_method_10_code 29 = .ok (.aload_n 0, 1) by decide +kernel) ?_
        refine hg_rgr (pc := 30) (r := (some o)) hC fl_SignalEngine_Parser_12 (show decode prog_9_method_10_code 30 = .ok (.getfield 12, 3) by decide +kernel) h ?_
        intro e8 h
        refine hg_bipush (pc := 33) (v := 7) hC (show decode prog_9_method_10_code 33 = .ok (.bipush 7, 2) by decide +kernel) (by decide +kernel) ?_
        refine hg_aloadn (pc := 35) (j := 1) (i := 1) (r := x1) hC 1 rfl rfl (show decode prog_9_method_10_code 35 = .ok (.aload_n 1, 1) by decide +kernel) ?_
        refine hg_aloadn (pc := 36) (j := 0) (i := 0) (r := (some o)) hC 0 rfl rfl (show decode prog_9_method_10_code 36 = .ok (.aload_n 0, 1) by decide +kernel) ?_
        obtain ⟨b9, hb10, h⟩ := dc_bind h
        obtain ⟨hb10, hv11⟩ := hg_chk_of (C := R_PA) rfl hb10
        refine hg_kVTr (pc := 37) (b := b9) (r := (some o)) (As := []) (rest := [va_rf x1, .int 7, va_rf e8]) (vo := fun q => q.2) (so := fun q => q.1) hC hR cw_SignalEngine_Parser_136 (fun q hq => hT.2.1 q7.1 b9 q hq) (by show _ + 1 ≤ d + 1 + 410; omega) (by show _ ≤ 26 * (d + 1) + 8987; omega) hb10 hv11 rfl (by simp only [List.map, va_rf_cat]; exact Nat.le_of_ble_eq_true rfl) (show decode prog_9_method_10_code 37 = .ok (.invokevirtual 136, 3) by decide +kernel) h (fun z h => (fun (h : dc_wp (some (Sum.inr z)) F) => hF (.inr z) (dc_some h)) (hr_7 (.inr z) (dc_some h))) ?_
        intro q12 h
        refine hg_aloadn (pc := 40) (j := 1) (i := 1) (r := x1) hC 1 rfl rfl (show decode prog_9_method_10_code 40 = .ok (.aload_n 1, 1) by decide +kernel) ?_
        refine hg_rgi (pc := 41) (r := x1) hC fl_SignalEngine_Parser_142 (show decode prog_9_method_10_code 41 = .ok (.getfield 142, 3) by decide +kernel) h ?_
        intro e13 h
        obtain ⟨b14, hb15, h⟩ := dc_bind h
        obtain ⟨hb15, hv16⟩ := hg_chk_of (C := R_DR) rfl hb15
        refine hg_kVr (pc := 44) (b := b14) (r := e8) (As := [.int 7, va_rf x1, va_rf q12.2, .int e13]) (rest := []) (vo := fun q => q.2) (so := fun q => q.1) hC cw_SignalEngine_Parser_147 (fun q hq => hm_DR_join_ok l D G q12.1 b14 (7 : Int32) x1 q12.2 e13 q hq) (by show _ + 1 ≤ d + 1 + 410; omega) (by show _ ≤ 26 * (d + 1) + 8987; omega) hb15 hv16 rfl (Nat.le_of_ble_eq_true rfl) (show decode prog_9_method_10_code 44 = .ok (.invokevirtual 147, 3) by decide +kernel) h ?_
        intro q17 h
        refine hg_astoren (pc := 47) (j := 1) (i := 1) (r := q17.2) (lv' := [(1, va_rf q17.2), (0, va_rf (some o)), (2, .int x2)]) hC rfl (Nat.le_of_ble_eq_true rfl) rfl (show decode prog_9_method_10_code 47 = .ok (.astore_n 1, 1) by decide +kernel) ?_
        refine hg_iinc (pc := 48) (i := 2) (v := (x2 + 1)) (lv' := [(2, .int (x2 + 1)), (1, va_rf q17.2), (0, va_rf (some o))]) hC 2 rfl rfl (Nat.le_of_ble_eq_true rfl) (by simp [va_rf_cat, hg_cti]) (show decode prog_9_method_10_code 48 = .ok (.iinc 2 1, 3) by decide +kernel) ?_
        refine hg_goto (pc := 51) (tgt := 7) hC (show decode prog_9_method_10_code 51 = .ok (.goto (-44), 3) by decide +kernel) (by decide +kernel) ?_
        exact hg_sub [2, 1, 0] rfl (hl_7 (q17.1, q17.2, (x2 + 1)) (dc_some h))
    · intro h
      have h : dc_wp (hm_PA_takeBody_L54 T G S o x1) F := hr_7 (.inl (S, x1)) (dc_some h)
      exact hg_sub [0, 1] rfl (lab_54 S x1 h)
  have lab_7 : ∀ (S : hg_S) (x1 : Option Nat) (x2 : Int32), dc_wp (hm_PA_takeBody_L7 T G S o x1 x2) F → hg_G X l (hg_rm (d + 1 + 410) (26 * (d + 1) + 8987) Z) D 3 S 7 [(0, va_rf (some o)), (1, va_rf x1), (2, .int x2)] [] := fun S x1 x2 h => loop_7  (S, x1, x2) (dc_bind h)
  show hg_G X l (hg_rm (d + 1 + 410) (26 * (d + 1) + 8987) Z) D 3 Z 0 [(0, va_rf (some o))] []
  have h : dc_wp (hm_PA_takeBody T G Z o) F := h
  delta hm_PA_takeBody at h
  refine hg_aloadn (pc := 0) (j := 0) (i := 0) (r := (some o)) hC 0 rfl rfl (show decode prog_9_method_10_code 0 = .ok (.aload_n 0, 1) by decide +kernel) ?_
  obtain ⟨b18, hb19, h⟩ := dc_bind h
  obtain ⟨hb19, hv20⟩ := hg_chk_of (C := R_PA) rfl hb19
  refine hg_kVTr (pc := 1) (b := b18) (r := (some o)) (As := []) (rest := []) (vo := fun q => q.2) (so := fun q => q.1) hC hR cw_SignalEngine_Parser_136 (fun q hq => hT.2.1 Z b18 q hq) (by show _ + 1 ≤ d + 1 + 410; omega) (by show _ ≤ 26 * (d + 1) + 8987; omega) hb19 hv20 rfl (Nat.le_of_ble_eq_true rfl) (show decode prog_9_method_10_code 1 = .ok (.invokevirtual 136, 3) by decide +kernel) h (fun z h => hF (.inr z) (dc_some h)) ?_
  intro q21 h
  refine hg_astoren (pc := 4) (j := 1) (i := 1) (r := q21.2) (lv' := [(1, va_rf q21.2), (0, va_rf (some o))]) hC rfl (Nat.le_of_ble_eq_true rfl) rfl (show decode prog_9_method_10_code 4 = .ok (.astore_n 1, 1) by decide +kernel) ?_
  refine hg_iconst (pc := 5) (v := 0) hC (show decode prog_9_method_10_code 5 = .ok (.iconst 0, 1) by decide +kernel) (by decide +kernel) ?_
  refine hg_istoren (pc := 6) (j := 2) (i := 2) (lv' := [(2, .int 0), (1, va_rf q21.2), (0, va_rf (some o))]) hC rfl (Nat.le_of_ble_eq_true rfl) (by simp [va_rf_cat, hg_cti]) (show decode prog_9_method_10_code 6 = .ok (.istore_n 2, 1) by decide +kernel) ?_
  exact hg_sub [2, 1, 0] rfl (lab_7 q21.1 q21.2 0 h)
