noncomputable def hm_RE_beginSuspend_L132 (G : hg_E) (S : hg_S) (o : Nat) (x1 : Int32) : Option (hg_S × Int32) :=
  (hg_chk S (some o) 10).bind fun b1 => (hm_RE_answer G S b1 x1 (2 : Int32) (1 : Int32)).bind fun q4 => some (q4, (-1))
noncomputable def hm_RE_beginSuspend_L125 (G : hg_E) (S : hg_S) (o : Nat) (x1 : Int32) (x2 : Int32) (y0 : Int32) (y1 : Int32) (y2 : Option Nat) : Option ((hg_S × Int32) ⊕ ((hg_S))) :=
  (dc_zb y0).bind fun _ => (hg_st S y2 (G.1 2) y1 y0).bind fun S6 => some (.inl (S6, (x2 + 1)))
noncomputable def hm_RE_beginSuspend_L124 (G : hg_E) (S : hg_S) (o : Nat) (x1 : Int32) (x2 : Int32) (y0 : Int32) (y1 : Option Nat) : Option ((hg_S × Int32) ⊕ ((hg_S))) :=
  hm_RE_beginSuspend_L125 G S o x1 x2 0 y0 y1
noncomputable def hm_RE_beginSuspend_b76 (G : hg_E) (S : hg_S) (o : Nat) (x1 : Int32) (x2 : Int32) : Option ((hg_S × Int32) ⊕ ((hg_S))) :=
  (hg_gr S (some o) 10 0).bind fun e7 => (hg_gr S e7 9 16).bind fun e8 => (hg_ld S e8 (G.1 0) x1).bind fun e9 => if x2 < e9 then ((hg_gr S (some o) 10 11).bind fun e10 => (hg_gr S (some o) 10 9).bind fun e11 => (hg_ld S e11 (G.1 2) x1).bind fun e12 => if e12 = 0 then (hm_RE_beginSuspend_L124 G S o x1 x2 x2 e10) else ((hg_gr S (some o) 10 10).bind fun e13 => (hg_ld S e13 (G.1 0) x2).bind fun e14 => (hg_gr S (some o) 10 10).bind fun e15 => (hg_ld S e15 (G.1 0) (x2 + 1)).bind fun e16 => if e14 < e16 then (hm_RE_beginSuspend_L125 G S o x1 x2 1 x2 e10) else (hm_RE_beginSuspend_L124 G S o x1 x2 x2 e10))) else (some (.inr S))
noncomputable def hm_RE_beginSuspend_s76 (G : hg_E) (o : Nat) (x1 : Int32) (q : hg_S × Int32) : Option ((hg_S × Int32) ⊕ ((hg_S))) :=
  hm_RE_beginSuspend_b76 G q.1 o x1 q.2
noncomputable def hm_RE_beginSuspend_L76 (G : hg_E) (S : hg_S) (o : Nat) (x1 : Int32) (x2 : Int32) : Option (hg_S × Int32) :=
  (dc_it (hm_RE_beginSuspend_s76 G o x1) (S, x2)).bind (fun (z : hg_S) => hm_RE_beginSuspend_L132 G z o x1)
noncomputable def hm_RE_beginSuspend_L62 (G : hg_E) (S : hg_S) (o : Nat) (y0 : Int32) (y1 : Int32) : Option (hg_S × Int32) :=
  (hg_chk S (some o) 10).bind fun b17 => (hm_RE_within G S b17 y1 y0).bind fun q20 => some (q20.1, q20.2)
noncomputable def hm_RE_beginSuspend_L61 (G : hg_E) (S : hg_S) (o : Nat) (y0 : Int32) : Option (hg_S × Int32) :=
  hm_RE_beginSuspend_L62 G S o 0 y0
noncomputable def hm_RE_beginSuspend (G : hg_E) (S : hg_S) (o : Nat) (p1 : Int32) : Option (hg_S × Int32) :=
  (hg_gr S (some o) 10 6).bind fun e21 => (hg_gr S (some o) 10 0).bind fun e22 => (hg_gr S e22 9 11).bind fun e23 => (hg_ld S e23 (G.1 0) p1).bind fun e24 => (hg_chk S (some o) 10).bind fun b25 => (hm_RE_valueOf G S b25 e24).bind fun q28 => (hg_st q28.1 e21 (G.1 0) p1 q28.2).bind fun S29 => (hg_gr S29 (some o) 10 6).bind fun e30 => (hg_ld S29 e30 (G.1 0) p1).bind fun e31 => if e31 = 1 then ((hg_gr S29 (some o) 10 0).bind fun e32 => (hg_gr S29 e32 9 15).bind fun e33 => (hg_ld S29 e33 (G.1 0) p1).bind fun e34 => hm_RE_beginSuspend_L76 G S29 o p1 e34) else ((hg_gr S29 (some o) 10 0).bind fun e35 => (hg_gr S29 e35 9 8).bind fun e36 => (hg_ld S29 e36 (G.1 0) p1).bind fun e37 => (hg_gr S29 (some o) 10 9).bind fun e38 => (hg_ld S29 e38 (G.1 2) p1).bind fun e39 => if e39 = 0 then (hm_RE_beginSuspend_L61 G S29 o e37) else ((hg_gr S29 (some o) 10 6).bind fun e40 => (hg_ld S29 e40 (G.1 0) p1).bind fun e41 => if e41 = 0 then (hm_RE_beginSuspend_L62 G S29 o 1 e37) else (hm_RE_beginSuspend_L61 G S29 o e37)))
set_option maxHeartbeats 4000000 in
set_option maxRecDepth 100000 in
/-- SignalEngine$Reactor.beginSuspend(I)I -/
theorem hm_RE_beginSuspend_ok (l : Launch) (D : va_G) (G : hg_E) (Z : hg_S) (o : Nat) (p1 : Int32) (q : hg_S × Int32) (hq : hm_RE_beginSuspend G Z o p1 = some q) : hg_C l ⟨"SignalEngine$Reactor", "beginSuspend", "(I)I"⟩ prog_12_method_23_code 3 (some (.int)) 1 24 D G [.ref o, .int p1] Z (.inl (some (.int q.2), q.1) : hg_O) := by
  refine hg_start (cv := fun q => (.inl (some (.int q.2), q.1) : hg_O)) hq ?_
  intro F hF h
  refine hg_enter (lv := [(0, va_rf (some o)), (1, .int p1)]) (by decide +kernel) (by simp [lg_sl, va_rf_cat, hg_cti, hg_ctr]) (by simp [lv_args, va_rf_cat, va_rf_some, hg_cti, hg_ctr]) ?_
  intro X hC hR
  have lab_132 : ∀ (S : hg_S) (x1 : Int32), dc_wp (hm_RE_beginSuspend_L132 G S o x1) F → hg_G X l (hg_rm 1 24 Z) D 3 S 132 [(0, va_rf (some o)), (1, .int x1)] [] := by
    intro S x1 h
    delta hm_RE_beginSuspend_L132 at h
    refine hg_aloadn (pc := 132) (j := 0) (i := 0) (r := (some o)) hC 0 rfl rfl (show decode prog_12_method_23_code 132 = .ok (.aload_n 0, 1) by decide +kernel) ?_
    refine hg_iloadn (pc := 133) (j := 1) (i := 1) hC 1 rfl rfl (show decode prog_12_method_23_code 133 = .ok (.iload_n 1, 1) by decide +kernel) ?_
    refine hg_iconst (pc := 134) (v := 2) hC (show decode prog_12_method_23_code 134 = .ok (.iconst 2, 1) by decide +kernel) (by decide +kernel) ?_
    refine hg_iconst (pc := 135) (v := 1) hC (show decode prog_12_method_23_code 135 = .ok (.iconst 1, 1) by decide +kernel) (by decide +kernel) ?_
    obtain ⟨b1, hb2, h⟩ := dc_bind h
    obtain ⟨hb2, hv3⟩ := hg_chk_of (C := R_RE) rfl hb2
    refine hg_kVv (pc := 136) (b := b1) (r := (some o)) (As := [.int x1, .int 2, .int 1]) (rest := []) (so := fun q => q) hC cw_SignalEngine_Reactor_171 (fun q hq => hm_RE_answer_ok l D G S b1 x1 (2 : Int32) (1 : Int32) q hq) (Nat.le_of_ble_eq_true rfl) (Nat.le_of_ble_eq_true rfl) hb2 hv3 rfl (Nat.le_of_ble_eq_true rfl) (show decode prog_12_method_23_code 136 = .ok (.invokevirtual 171, 3) by decide +kernel) h ?_
    intro q4 h
    refine hg_iconst (pc := 139) (v := (-1)) hC (show decode prog_12_method_23_code 139 = .ok (.iconst (-1), 1) by decide +kernel) (by decide +kernel) ?_
    exact hg_iret (pc := 140) hC hR (hF _ (dc_some h)) (show decode prog_12_method_23_code 140 = .ok (.ireturn, 1) by decide +kernel)
  have loop_76 : ∀ (x1 : Int32) (q : hg_S × Int32), dc_wp (dc_it (hm_RE_beginSuspend_s76 G o x1) q) (fun z => dc_wp ((fun (z : hg_S) => hm_RE_beginSuspend_L132 G z o x1) z) F) → hg_G X l (hg_rm 1 24 Z) D 3 q.1 76 [(0, va_rf (some o)), (1, .int x1), (2, .int q.2)] [] := by
    intro x1
    refine dc_loopF ?_
    intro F_76 hl_76 hr_76
    have lab_125 : ∀ (S : hg_S) (x2 : Int32) (y0 : Int32) (y1 : Int32) (y2 : Option Nat), dc_wp (hm_RE_beginSuspend_L125 G S o x1 x2 y0 y1 y2) F_76 → hg_G X l (hg_rm 1 24 Z) D 3 S 125 [(0, va_rf (some o)), (1, .int x1), (2, .int x2)] [.int y0, .int y1, va_rf y2] := by
      intro S x2 y0 y1 y2 h
      delta hm_RE_beginSuspend_L125 at h
      obtain ⟨hz5, h⟩ := dc_zb_wp (dc_bind h)
      refine hg_rzast (pc := 125) (r := y2) hC hz5 (show decode prog_12_method_23_code 125 = .ok (.bastore, 1) by decide +kernel) h ?_
      intro S6 h
      refine hg_iinc (pc := 126) (i := 2) (v := (x2 + 1)) (lv' := [(2, .int (x2 + 1)), (0, va_rf (some o)), (1, .int x1)]) hC 2 rfl rfl (Nat.le_of_ble_eq_true rfl) rfl (show decode prog_12_method_23_code 126 = .ok (.iinc 2 1, 3) by decide +kernel) ?_
      refine hg_goto (pc := 129) (tgt := 76) hC (show decode prog_12_method_23_code 129 = .ok (.goto (-53), 3) by decide +kernel) (by decide +kernel) ?_
      exact hg_sub [1, 2, 0] rfl (hl_76 (S6, (x2 + 1)) (dc_some h))
    have lab_124 : ∀ (S : hg_S) (x2 : Int32) (y0 : Int32) (y1 : Option Nat), dc_wp (hm_RE_beginSuspend_L124 G S o x1 x2 y0 y1) F_76 → hg_G X l (hg_rm 1 24 Z) D 3 S 124 [(0, va_rf (some o)), (1, .int x1), (2, .int x2)] [.int y0, va_rf y1] := by
      intro S x2 y0 y1 h
      delta hm_RE_beginSuspend_L124 at h
      refine hg_iconst (pc := 124) (v := 0) hC (show decode prog_12_method_23_code 124 = .ok (.iconst 0, 1) by decide +kernel) (by decide +kernel) ?_
      exact lab_125 S x2 0 y0 y1 h
    rintro ⟨S, x2⟩ h
    have h : dc_wp (hm_RE_beginSuspend_b76 G S o x1 x2) F_76 := h
    delta hm_RE_beginSuspend_b76 at h
    refine hg_iloadn (pc := 76) (j := 2) (i := 2) hC 2 rfl rfl (show decode prog_12_method_23_code 76 = .ok (.iload_n 2, 1) by decide +kernel) ?_
    refine hg_aloadn (pc := 77) (j := 0) (i := 0) (r := (some o)) hC 0 rfl rfl (show decode prog_12_method_23_code 77 = .ok (.aload_n 0, 1) by decide +kernel) ?_
    refine hg_rgr (pc := 78) (r := (some o)) hC fl_SignalEngine_Reactor_9 (show decode prog_12_method_23_code 78 = .ok (.getfield 9, 3) by decide +kernel) h ?_
    intro e7 h
    refine hg_rgr (pc := 81) (r := e7) hC fl_SignalEngine_Reactor_168 (show decode prog_12_method_23_code 81 = .ok (.getfield 168, 3) by decide +kernel) h ?_
    intro e8 h
    refine hg_iloadn (pc := 84) (j := 1) (i := 1) hC 1 rfl rfl (show decode prog_12_method_23_code 84 = .ok (.iload_n 1, 1) by decide +kernel) ?_
    refine hg_riald (pc := 85) (r := e8) hC (show decode prog_12_method_23_code 85 = .ok (.iaload, 1) by decide +kernel) h ?_
    intro e9 h
    refine hg_icmp_ge (pc := 86) (tgt := 132) hC (show decode prog_12_method_23_code 86 = .ok (.if_icmp .ge 46, 3) by decide +kernel) (by decide +kernel) h ?_ ?_
    · intro h
      refine hg_aloadn (pc := 89) (j := 0) (i := 0) (r := (some o)) hC 0 rfl rfl (show decode prog_12_method_23_code 89 = .ok (.aload_n 0, 1) by decide +kernel) ?_
      refine hg_rgr (pc := 90) (r := (some o)) hC fl_SignalEngine_Reactor_76 (show decode prog_12_method_23_code 90 = .ok (.getfield 76, 3) by decide +kernel) h ?_
      intro e10 h
      refine hg_iloadn (pc := 93) (j := 2) (i := 2) hC 2 rfl rfl (show decode prog_12_method_23_code 93 = .ok (.iload_n 2, 1) by decide +kernel) ?_
      refine hg_aloadn (pc := 94) (j := 0) (i := 0) (r := (some o)) hC 0 rfl rfl (show decode prog_12_method_23_code 94 = .ok (.aload_n 0, 1) by decide +kernel) ?_
      refine hg_rgr (pc := 95) (r := (some o)) hC fl_SignalEngine_Reactor_66 (show decode prog_12_method_23_code 95 = .ok (.getfield 66, 3) by decide +kernel) h ?_
      intro e11 h
      refine hg_iloadn (pc := 98) (j := 1) (i := 1) hC 1 rfl rfl (show decode prog_12_method_23_code 98 = .ok (.iload_n 1, 1) by decide +kernel) ?_
      refine hg_rzald (pc := 99) (r := e11) hC (show decode prog_12_method_23_code 99 = .ok (.baload, 1) by decide +kernel) h ?_
      intro e12 h
      refine hg_if_eq (pc := 100) (tgt := 124) hC (show decode prog_12_method_23_code 100 = .ok (.ifCond .eq 24, 3) by decide +kernel) (by decide +kernel) h ?_ ?_
      · intro h
        exact lab_124 S x2 x2 e10 h
      · intro h
        refine hg_aloadn (pc := 103) (j := 0) (i := 0) (r := (some o)) hC 0 rfl rfl (show decode prog_12_method_23_code 103 = .ok (.aload_n 0, 1) by decide +kernel) ?_
        refine hg_rgr (pc := 104) (r := (some o)) hC fl_SignalEngine_Reactor_73 (show decode prog_12_method_23_code 104 = .ok (.getfield 73, 3) by decide +kernel) h ?_
        intro e13 h
        refine hg_iloadn (pc := 107) (j := 2) (i := 2) hC 2 rfl rfl (show decode prog_12_method_23_code 107 = .ok (.iload_n 2, 1) by decide +kernel) ?_
        refine hg_riald (pc := 108) (r := e13) hC (show decode prog_12_method_23_code 108 = .ok (.iaload, 1) by decide +kernel) h ?_
        intro e14 h
        refine hg_aloadn (pc := 109) (j := 0) (i := 0) (r := (some o)) hC 0 rfl rfl (show decode prog_12_method_23_code 109 = .ok (.aload_n 0, 1) by decide +kernel) ?_
        refine hg_rgr (pc := 110) (r := (some o)) hC fl_SignalEngine_Reactor_73 (show decode prog_12_method_23_code 110 = .ok (.getfield 73, 3) by decide +kernel) h ?_
        intro e15 h
        refine hg_iloadn (pc := 113) (j := 2) (i := 2) hC 2 rfl rfl (show decode prog_12_method_23_code 113 = .ok (.iload_n 2, 1) by decide +kernel) ?_
        refine hg_iconst (pc := 114) (v := 1) hC (show decode prog_12_method_23_code 114 = .ok (.iconst 1, 1) by decide +kernel) (by decide +kernel) ?_
        refine hg_iadd (pc := 115) hC (show decode prog_12_method_23_code 115 = .ok (.iadd, 1) by decide +kernel) ?_
        refine hg_riald (pc := 116) (r := e15) hC (show decode prog_12_method_23_code 116 = .ok (.iaload, 1) by decide +kernel) h ?_
        intro e16 h
        refine hg_icmp_ge (pc := 117) (tgt := 124) hC (show decode prog_12_method_23_code 117 = .ok (.if_icmp .ge 7, 3) by decide +kernel) (by decide +kernel) h ?_ ?_
        · intro h
          refine hg_iconst (pc := 120) (v := 1) hC (show decode prog_12_method_23_code 120 = .ok (.iconst 1, 1) by decide +kernel) (by decide +kernel) ?_
          refine hg_goto (pc := 121) (tgt := 125) hC (show decode prog_12_method_23_code 121 = .ok (.goto 4, 3) by decide +kernel) (by decide +kernel) ?_
          exact lab_125 S x2 1 x2 e10 h
        · intro h
          exact lab_124 S x2 x2 e10 h
    · intro h
      have h : dc_wp (hm_RE_beginSuspend_L132 G S o x1) F := hr_76 S (dc_some h)
      exact hg_sub [0, 1] rfl (lab_132 S x1 h)
  have lab_76 : ∀ (S : hg_S) (x1 : Int32) (x2 : Int32), dc_wp (hm_RE_beginSuspend_L76 G S o x1 x2) F → hg_G X l (hg_rm 1 24 Z) D 3 S 76 [(0, va_rf (some o)), (1, .int x1), (2, .int x2)] [] := fun S x1 x2 h => loop_76 x1 (S, x2) (dc_bind h)
  have lab_62 : ∀ (S : hg_S) (y0 : Int32) (y1 : Int32), dc_wp (hm_RE_beginSuspend_L62 G S o y0 y1) F → hg_G X l (hg_rm 1 24 Z) D 3 S 62 [(0, va_rf (some o))] [.int y0, .int y1, va_rf (some o)] := by
    intro S y0 y1 h
    delta hm_RE_beginSuspend_L62 at h
    obtain ⟨b17, hb18, h⟩ := dc_bind h
    obtain ⟨hb18, hv19⟩ := hg_chk_of (C := R_RE) rfl hb18
    refine hg_kVi (pc := 62) (b := b17) (r := (some o)) (As := [.int y1, .int y0]) (rest := []) (vo := fun q => q.2) (so := fun q => q.1) hC cw_SignalEngine_Reactor_135 (fun q hq => hm_RE_within_ok l D G S b17 y1 y0 q hq) (Nat.le_of_ble_eq_true rfl) (Nat.le_of_ble_eq_true rfl) hb18 hv19 rfl (Nat.le_of_ble_eq_true rfl) (show decode prog_12_method_23_code 62 = .ok (.invokevirtual 135, 3) by decide +kernel) h ?_
    intro q20 h
    exact hg_iret (pc := 65) hC hR (hF _ (dc_some h)) (show decode prog_12_method_23_code 65 = .ok (.ireturn, 1) by decide +kernel)
  have lab_61 : ∀ (S : hg_S) (y0 : Int32), dc_wp (hm_RE_beginSuspend_L61 G S o y0) F → hg_G X l (hg_rm 1 24 Z) D 3 S 61 [(0, va_rf (some o))] [.int y0, va_rf (some o)] := by
    intro S y0 h
    delta hm_RE_beginSuspend_L61 at h
    refine hg_iconst (pc := 61) (v := 0) hC (show decode prog_12_method_23_code 61 = .ok (.iconst 0, 1) by decide +kernel) (by decide +kernel) ?_
    exact lab_62 S 0 y0 h
  show hg_G X l (hg_rm 1 24 Z) D 3 Z 0 [(0, va_rf (some o)), (1, .int p1)] []
  have h : dc_wp (hm_RE_beginSuspend G Z o p1) F := h
  delta hm_RE_beginSuspend at h
  refine hg_aloadn (pc := 0) (j := 0) (i := 0) (r := (some o)) hC 0 rfl rfl (show decode prog_12_method_23_code 0 = .ok (.aload_n 0, 1) by decide +kernel) ?_
  refine hg_rgr (pc := 1) (r := (some o)) hC fl_SignalEngine_Reactor_57 (show decode prog_12_method_23_code 1 = .ok (.getfield 57, 3) by decide +kernel) h ?_
  intro e21 h
  refine hg_iloadn (pc := 4) (j := 1) (i := 1) hC 1 rfl rfl (show decode prog_12_method_23_code 4 = .ok (.iload_n 1, 1) by decide +kernel) ?_
  refine hg_aloadn (pc := 5) (j := 0) (i := 0) (r := (some o)) hC 0 rfl rfl (show decode prog_12_method_23_code 5 = .ok (.aload_n 0, 1) by decide +kernel) ?_
  refine hg_aloadn (pc := 6) (j := 0) (i := 0) (r := (some o)) hC 0 rfl rfl (show decode prog_12_method_23_code 6 = .ok (.aload_n 0, 1) by decide +kernel) ?_
  refine hg_rgr (pc := 7) (r := (some o)) hC fl_SignalEngine_Reactor_9 (show decode prog_12_method_23_code 7 = .ok (.getfield 9, 3) by decide +kernel) h ?_
  intro e22 h
  refine hg_rgr (pc := 10) (r := e22) hC fl_SignalEngine_Reactor_85 (show decode prog_12_method_23_code 10 = .ok (.getfield 85, 3) by decide +kernel) h ?_
  intro e23 h
  refine hg_iloadn (pc := 13) (j := 1) (i := 1) hC 1 rfl rfl (show decode prog_12_method_23_code 13 = .ok (.iload_n 1, 1) by decide +kernel) ?_
  refine hg_riald (pc := 14) (r := e23) hC (show decode prog_12_method_23_code 14 = .ok (.iaload, 1) by decide +kernel) h ?_
  intro e24 h
  obtain ⟨b25, hb26, h⟩ := dc_bind h
  obtain ⟨hb26, hv27⟩ := hg_chk_of (C := R_RE) rfl hb26
  refine hg_kVi (pc := 15) (b := b25) (r := (some o)) (As := [.int e24]) (rest := [.int p1, va_rf e21]) (vo := fun q => q.2) (so := fun q => q.1) hC cw_SignalEngine_Reactor_185 (fun q hq => hm_RE_valueOf_ok l D G Z b25 e24 q hq) (Nat.le_of_ble_eq_true rfl) (Nat.le_of_ble_eq_true rfl) hb26 hv27 rfl (by simp only [List.map, va_rf_cat]; exact Nat.le_of_ble_eq_true rfl) (show decode prog_12_method_23_code 15 = .ok (.invokevirtual 185, 3) by decide +kernel) h ?_
  intro q28 h
  refine hg_riast (pc := 18) (r := e21) hC (show decode prog_12_method_23_code 18 = .ok (.iastore, 1) by decide +kernel) h ?_
  intro S29 h
  refine hg_aloadn (pc := 19) (j := 0) (i := 0) (r := (some o)) hC 0 rfl rfl (show decode prog_12_method_23_code 19 = .ok (.aload_n 0, 1) by decide +kernel) ?_
  refine hg_rgr (pc := 20) (r := (some o)) hC fl_SignalEngine_Reactor_57 (show decode prog_12_method_23_code 20 = .ok (.getfield 57, 3) by decide +kernel) h ?_
  intro e30 h
  refine hg_iloadn (pc := 23) (j := 1) (i := 1) hC 1 rfl rfl (show decode prog_12_method_23_code 23 = .ok (.iload_n 1, 1) by decide +kernel) ?_
  refine hg_riald (pc := 24) (r := e30) hC (show decode prog_12_method_23_code 24 = .ok (.iaload, 1) by decide +kernel) h ?_
  intro e31 h
  refine hg_iconst (pc := 25) (v := 1) hC (show decode prog_12_method_23_code 25 = .ok (.iconst 1, 1) by decide +kernel) (by decide +kernel) ?_
  refine hg_icmp_eq (pc := 26) (tgt := 66) hC (show decode prog_12_method_23_code 26 = .ok (.if_icmp .eq 40, 3) by decide +kernel) (by decide +kernel) h ?_ ?_
  · intro h
    refine hg_aloadn (pc := 66) (j := 0) (i := 0) (r := (some o)) hC 0 rfl rfl (show decode prog_12_method_23_code 66 = .ok (.aload_n 0, 1) by decide +kernel) ?_
    refine hg_rgr (pc := 67) (r := (some o)) hC fl_SignalEngine_Reactor_9 (show decode prog_12_method_23_code 67 = .ok (.getfield 9, 3) by decide +kernel) h ?_
    intro e32 h
    refine hg_rgr (pc := 70) (r := e32) hC fl_SignalEngine_Reactor_165 (show decode prog_12_method_23_code 70 = .ok (.getfield 165, 3) by decide +kernel) h ?_
    intro e33 h
    refine hg_iloadn (pc := 73) (j := 1) (i := 1) hC 1 rfl rfl (show decode prog_12_method_23_code 73 = .ok (.iload_n 1, 1) by decide +kernel) ?_
    refine hg_riald (pc := 74) (r := e33) hC (show decode prog_12_method_23_code 74 = .ok (.iaload, 1) by decide +kernel) h ?_
    intro e34 h
    refine hg_istoren (pc := 75) (j := 2) (i := 2) (lv' := [(2, .int e34), (0, va_rf (some o)), (1, .int p1)]) hC rfl (Nat.le_of_ble_eq_true rfl) rfl (show decode prog_12_method_23_code 75 = .ok (.istore_n 2, 1) by decide +kernel) ?_
    exact hg_sub [1, 2, 0] rfl (lab_76 S29 p1 e34 h)
  · intro h
    refine hg_aloadn (pc := 29) (j := 0) (i := 0) (r := (some o)) hC 0 rfl rfl (show decode prog_12_method_23_code 29 = .ok (.aload_n 0, 1) by decide +kernel) ?_
    refine hg_aloadn (pc := 30) (j := 0) (i := 0) (r := (some o)) hC 0 rfl rfl (show decode prog_12_method_23_code 30 = .ok (.aload_n 0, 1) by decide +kernel) ?_
    refine hg_rgr (pc := 31) (r := (some o)) hC fl_SignalEngine_Reactor_9 (show decode prog_12_method_23_code 31 = .ok (.getfield 9, 3) by decide +kernel) h ?_
    intro e35 h
    refine hg_rgr (pc := 34) (r := e35) hC fl_SignalEngine_Reactor_182 (show decode prog_12_method_23_code 34 = .ok (.getfield 182, 3) by decide +kernel) h ?_
    intro e36 h
    refine hg_iloadn (pc := 37) (j := 1) (i := 1) hC 1 rfl rfl (show decode prog_12_method_23_code 37 = .ok (.iload_n 1, 1) by decide +kernel) ?_
    refine hg_riald (pc := 38) (r := e36) hC (show decode prog_12_method_23_code 38 = .ok (.iaload, 1) by decide +kernel) h ?_
    intro e37 h
    refine hg_aloadn (pc := 39) (j := 0) (i := 0) (r := (some o)) hC 0 rfl rfl (show decode prog_12_method_23_code 39 = .ok (.aload_n 0, 1) by decide +kernel) ?_
    refine hg_rgr (pc := 40) (r := (some o)) hC fl_SignalEngine_Reactor_66 (show decode prog_12_method_23_code 40 = .ok (.getfield 66, 3) by decide +kernel) h ?_
    intro e38 h
    refine hg_iloadn (pc := 43) (j := 1) (i := 1) hC 1 rfl rfl (show decode prog_12_method_23_code 43 = .ok (.iload_n 1, 1) by decide +kernel) ?_
    refine hg_rzald (pc := 44) (r := e38) hC (show decode prog_12_method_23_code 44 = .ok (.baload, 1) by decide +kernel) h ?_
    intro e39 h
    refine hg_if_eq (pc := 45) (tgt := 61) hC (show decode prog_12_method_23_code 45 = .ok (.ifCond .eq 16, 3) by decide +kernel) (by decide +kernel) h ?_ ?_
    · intro h
      exact hg_sub [0] rfl (lab_61 S29 e37 h)
    · intro h
      refine hg_aloadn (pc := 48) (j := 0) (i := 0) (r := (some o)) hC 0 rfl rfl (show decode prog_12_method_23_code 48 = .ok (.aload_n 0, 1) by decide +kernel) ?_
      refine hg_rgr (pc := 49) (r := (some o)) hC fl_SignalEngine_Reactor_57 (show decode prog_12_method_23_code 49 = .ok (.getfield 57, 3) by decide +kernel) h ?_
      intro e40 h
      refine hg_iloadn (pc := 52) (j := 1) (i := 1) hC 1 rfl rfl (show decode prog_12_method_23_code 52 = .ok (.iload_n 1, 1) by decide +kernel) ?_
      refine hg_riald (pc := 53) (r := e40) hC (show decode prog_12_method_23_code 53 = .ok (.iaload, 1) by decide +kernel) h ?_
      intro e41 h
      refine hg_if_ne (pc := 54) (tgt := 61) hC (show decode prog_12_method_23_code 54 = .ok (.ifCond .ne 7, 3) by decide +kernel) (by decide +kernel) h ?_ ?_
      · intro h
        refine hg_iconst (pc := 57) (v := 1) hC (show decode prog_12_method_23_code 57 = .ok (.iconst 1, 1) by decide +kernel) (by decide +kernel) ?_
        refine hg_goto (pc := 58) (tgt := 62) hC (show decode prog_12_method_23_code 58 = .ok (.goto 4, 3) by decide +kernel) (by decide +kernel) ?_
        exact hg_sub [0] rfl (lab_62 S29 1 e37 h)
      · intro h
        exact hg_sub [0] rfl (lab_61 S29 e37 h)
noncomputable def hm_RE_answerEnded (G : hg_E) (S : hg_S) (o : Nat) (p1 : Int32) : Option (hg_S) :=
  (hg_gr S (some o) 10 7).bind fun e1 => (hg_st S e1 (G.1 0) p1 1).bind fun S2 => (hg_gr S2 (some o) 10 8).bind fun e3 => (hg_st S2 e3 (G.1 0) p1 0).bind fun S4 => some S4
set_option maxHeartbeats 4000000 in
set_option maxRecDepth 100000 in
/-- SignalEngine$Reactor.answerEnded(I)V -/
theorem hm_RE_answerEnded_ok (l : Launch) (D : va_G) (G : hg_E) (Z : hg_S) (o : Nat) (p1 : Int32) (q : hg_S) (hq : hm_RE_answerEnded G Z o p1 = some q) : hg_C l ⟨"SignalEngine$Reactor", "answerEnded", "(I)V"⟩ prog_12_method_22_code 2 none 0 0 D G [.ref o, .int p1] Z (.inl (none, q) : hg_O) := by
  refine hg_start (cv := fun q => (.inl (none, q) : hg_O)) hq ?_
  intro F hF h
  refine hg_enter (lv := [(0, va_rf (some o)), (1, .int p1)]) (by decide +kernel) (by simp [lg_sl, va_rf_cat, hg_cti, hg_ctr]) (by simp [lv_args, va_rf_cat, va_rf_some, hg_cti, hg_ctr]) ?_
  intro X hC hR
  show hg_G X l (hg_rm 0 0 Z) D 2 Z 0 [(0, va_rf (some o)), (1, .int p1)] []
  have h : dc_wp (hm_RE_answerEnded G Z o p1) F := h
  delta hm_RE_answerEnded at h
  refine hg_aloadn (pc := 0) (j := 0) (i := 0) (r := (some o)) hC 0 rfl rfl (show decode prog_12_method_22_code 0 = .ok (.aload_n 0, 1) by decide +kernel) ?_
  refine hg_rgr (pc := 1) (r := (some o)) hC fl_SignalEngine_Reactor_60 (show decode prog_12_method_22_code 1 = .ok (.getfield 60, 3) by decide +kernel) h ?_
  intro e1 h
  refine hg_iloadn (pc := 4) (j := 1) (i := 1) hC 1 rfl rfl (show decode prog_12_method_22_code 4 = .ok (.iload_n 1, 1) by decide +kernel) ?_
  refine hg_iconst (pc := 5) (v := 1) hC (show decode prog_12_method_22_code 5 = .ok (.iconst 1, 1) by decide +kernel) (by decide +kernel) ?_
  refine hg_riast (pc := 6) (r := e1) hC (show decode prog_12_method_22_code 6 = .ok (.iastore, 1) by decide +kernel) h ?_
  intro S2 h
  refine hg_aloadn (pc := 7) (j := 0) (i := 0) (r := (some o)) hC 0 rfl rfl (show decode prog_12_method_22_code 7 = .ok (.aload_n 0, 1) by decide +kernel) ?_
  refine hg_rgr (pc := 8) (r := (some o)) hC fl_SignalEngine_Reactor_63 (show decode prog_12_method_22_code 8 = .ok (.getfield 63, 3) by decide +kernel) h ?_
  intro e3 h
  refine hg_iloadn (pc := 11) (j := 1) (i := 1) hC 1 rfl rfl (show decode prog_12_method_22_code 11 = .ok (.iload_n 1, 1) by decide +kernel) ?_
  refine hg_iconst (pc := 12) (v := 0) hC (show decode prog_12_method_22_code 12 = .ok (.iconst 0, 1) by decide +kernel) (by decide +kernel) ?_
  refine hg_riast (pc := 13) (r := e3) hC (show decode prog_12_method_22_code 13 = .ok (.iastore, 1) by decide +kernel) h ?_
  intro S4 h
  exact hg_vret (pc := 14) hC hR (hF _ (dc_some h)) (show decode prog_12_method_22_code 14 = .ok (.return_, 1) by decide +kernel)
noncomputable def hm_RE_isHeld_L36 (G : hg_E) (S : hg_S) (o : Nat) (y0 : Int32) : Option (Int32) :=
  (dc_zb y0).bind fun _ => some y0
noncomputable def hm_RE_isHeld (G : hg_E) (S : hg_S) (o : Nat) (p1 : Int32) : Option (Int32) :=
  (hg_gr S (some o) 10 10).bind fun e2 => (hg_gr S (some o) 10 0).bind fun e3 => (hg_gr S e3 9 15).bind fun e4 => (hg_ld S e4 (G.1 0) p1).bind fun e5 => (hg_ld S e2 (G.1 0) e5).bind fun e6 => (hg_gr S (some o) 10 10).bind fun e7 => (hg_gr S (some o) 10 0).bind fun e8 => (hg_gr S e8 9 16).bind fun e9 => (hg_ld S e9 (G.1 0) p1).bind fun e10 => (hg_ld S e7 (G.1 0) e10).bind fun e11 => if e6 < e11 then (hm_RE_isHeld_L36 G S o 1) else (hm_RE_isHeld_L36 G S o 0)
set_option maxHeartbeats 4000000 in
set_option maxRecDepth 100000 in
/-- SignalEngine$Reactor.isHeld(I)Z -/
theorem hm_RE_isHeld_ok (l : Launch) (D : va_G) (G : hg_E) (Z : hg_S) (o : Nat) (p1 : Int32) (q : Int32) (hq : hm_RE_isHeld G Z o p1 = some q) : hg_C l ⟨"SignalEngine$Reactor", "isHeld", "(I)Z"⟩ prog_12_method_10_code 2 (some (.boolean)) 0 0 D G [.ref o, .int p1] Z (.inl (some (.int q), Z) : hg_O) := by
  refine hg_start (cv := fun q => (.inl (some (.int q), Z) : hg_O)) hq ?_
  intro F hF h
  refine hg_enter (lv := [(0, va_rf (some o)), (1, .int p1)]) (by decide +kernel) (by simp [lg_sl, va_rf_cat, hg_cti, hg_ctr]) (by simp [lv_args, va_rf_cat, va_rf_some, hg_cti, hg_ctr]) ?_
  intro X hC hR
  have lab_36 : ∀ (y0 : Int32), dc_wp (hm_RE_isHeld_L36 G Z o y0) F → hg_G X l (hg_rm 0 0 Z) D 2 Z 36 [(0, va_rf (some o))] [.int y0] := by
    intro y0 h
    delta hm_RE_isHeld_L36 at h
    obtain ⟨hz1, h⟩ := dc_zb_wp (dc_bind h)
    exact hg_zret (pc := 36) hC hR hz1 (hF _ (dc_some h)) (show decode prog_12_method_10_code 36 = .ok (.ireturn, 1) by decide +kernel)
  show hg_G X l (hg_rm 0 0 Z) D 2 Z 0 [(0, va_rf (some o)), (1, .int p1)] []
  have h : dc_wp (hm_RE_isHeld G Z o p1) F := h
  delta hm_RE_isHeld at h
  refine hg_aloadn (pc := 0) (j := 0) (i := 0) (r := (some o)) hC 0 rfl rfl (show decode prog_12_method_10_code 0 = .ok (.aload_n 0, 1) by decide +kernel) ?_
  refine hg_rgr (pc := 1) (r := (some o)) hC fl_SignalEngine_Reactor_73 (show decode prog_12_method_10_code 1 = .ok (.getfield 73, 3) by decide +kernel) h ?_
  intro e2 h
  refine hg_aloadn (pc := 4) (j := 0) (i := 0) (r := (some o)) hC 0 rfl rfl (show decode prog_12_method_10_code 4 = .ok (.aload_n 0, 1) by decide +kernel) ?_
  refine hg_rgr (pc := 5) (r := (some o)) hC fl_SignalEngine_Reactor_9 (show decode prog_12_method_10_code 5 = .ok (.getfield 9, 3) by decide +kernel) h ?_
  intro e3 h
  refine hg_rgr (pc := 8) (r := e3) hC fl_SignalEngine_Reactor_165 (show decode prog_12_method_10_code 8 = .ok (.getfield 165, 3) by decide +kernel) h ?_
  intro e4 h
  refine hg_iloadn (pc := 11) (j := 1) (i := 1) hC 1 rfl rfl (show decode prog_12_method_10_code 11 = .ok (.iload_n 1, 1) by decide +kernel) ?_
  refine hg_riald (pc := 12) (r := e4) hC (show decode prog_12_method_10_code 12 = .ok (.iaload, 1) by decide +kernel) h ?_
  intro e5 h
  refine hg_riald (pc := 13) (r := e2) hC (show decode prog_12_method_10_code 13 = .ok (.iaload, 1) by decide +kernel) h ?_
  intro e6 h
  refine hg_aloadn (pc := 14) (j := 0) (i := 0) (r := (some o)) hC 0 rfl rfl (show decode prog_12_method_10_code 14 = .ok (.aload_n 0, 1) by decide +kernel) ?_
  refine hg_rgr (pc := 15) (r := (some o)) hC fl_SignalEngine_Reactor_73 (show decode prog_12_method_10_code 15 = .ok (.getfield 73, 3) by decide +kernel) h ?_
  intro e7 h
  refine hg_aloadn (pc := 18) (j := 0) (i := 0) (r := (some o)) hC 0 rfl rfl (show decode prog_12_method_10_code 18 = .ok (.aload_n 0, 1) by decide +kernel) ?_
  refine hg_rgr (pc := 19) (r := (some o)) hC fl_SignalEngine_Reactor_9 (show decode prog_12_method_10_code 19 = .ok (.getfield 9, 3) by decide +kernel) h ?_
  intro e8 h
  refine hg_rgr (pc := 22) (r := e8) hC fl_SignalEngine_Reactor_168 (show decode prog_12_method_10_code 22 = .ok (.getfield 168, 3) by decide +kernel) h ?_
  intro e9 h
  refine hg_iloadn (pc := 25) (j := 1) (i := 1) hC 1 rfl rfl (show decode prog_12_method_10_code 25 = .ok (.iload_n 1, 1) by decide +kernel) ?_
  refine hg_riald (pc := 26) (r := e9) hC (show decode prog_12_method_10_code 26 = .ok (.iaload, 1) by decide +kernel) h ?_
  intro e10 h
  refine hg_riald (pc := 27) (r := e7) hC (show decode prog_12_method_10_code 27 = .ok (.iaload, 1) by decide +kernel) h ?_
  intro e11 h
  refine hg_icmp_ge (pc := 28) (tgt := 35) hC (show decode prog_12_method_10_code 28 = .ok (.if_icmp .ge 7, 3) by decide +kernel) (by decide +kernel) h ?_ ?_
  · intro h
    refine hg_iconst (pc := 31) (v := 1) hC (show decode prog_12_method_10_code 31 = .ok (.iconst 1, 1) by decide +kernel) (by decide +kernel) ?_
    refine hg_goto (pc := 32) (tgt := 36) hC (show decode prog_12_method_10_code 32 = .ok (.goto 4, 3) by decide +kernel) (by decide +kernel) ?_
    exact hg_sub [0] rfl (lab_36 1 h)
  · intro h
    refine hg_iconst (pc := 35) (v := 0) hC (show decode prog_12_method_10_code 35 = .ok (.iconst 0, 1) by decide +kernel) (by decide +kernel) ?_
    exact hg_sub [0] rfl (lab_36 0 h)
noncomputable def hm_RE_beginResume_L159 (G : hg_E) (S : hg_S) (o : Nat) (x1 : Int32) (y0 : Int32) : Option (hg_S × Int32) :=
  (hg_gr S (some o) 10 9).bind fun e1 => (hg_ld S e1 (G.1 2) x1).bind fun e2 => (hg_chk S (some o) 10).bind fun b3 => (hm_RE_within G S b3 y0 e2).bind fun q6 => some (q6.1, q6.2)
noncomputable def hm_RE_beginResume_L127 (G : hg_E) (S : hg_S) (o : Nat) (x1 : Int32) (y0 : Int32) : Option (hg_S × Int32) :=
  (hg_gr S (some o) 10 9).bind fun e7 => (hg_ld S e7 (G.1 2) x1).bind fun e8 => (hg_chk S (some o) 10).bind fun b9 => (hm_RE_within G S b9 y0 e8).bind fun q12 => some (q12.1, q12.2)
noncomputable def hm_RE_beginResume (G : hg_E) (S : hg_S) (o : Nat) (p1 : Int32) : Option (hg_S × Int32) :=
  (hg_gr S (some o) 10 0).bind fun e13 => (hg_gr S e13 9 8).bind fun e14 => (hg_ld S e14 (G.1 0) p1).bind fun e15 => (hg_gr S (some o) 10 0).bind fun e16 => (hg_gr S e16 9 7).bind fun e17 => (hg_ld S e17 (G.1 0) p1).bind fun e18 => dc_let (e18 : Int32) fun v19 => if v19 = 1 then ((hg_chk S (some o) 10).bind fun b20 => (hm_RE_answer G S b20 p1 (1 : Int32) (0 : Int32)).bind fun q23 => some (q23, (-1))) else if v19 = 2 then ((hg_gr S (some o) 10 9).bind fun e25 => (hg_ld S e25 (G.1 2) p1).bind fun e26 => (hg_chk S (some o) 10).bind fun b27 => (hm_RE_within G S b27 e15 e26).bind fun q30 => some (q30.1, q30.2)) else if v19 = 3 then ((hg_chk S (some o) 10).bind fun b32 => (hm_RE_isHeld G S b32 e15).bind fun q35 => if q35 = 0 then ((hg_gr S (some o) 10 0).bind fun e36 => (hg_gr S e36 9 9).bind fun e37 => (hg_ld S e37 (G.1 0) p1).bind fun e38 => hm_RE_beginResume_L159 G S o p1 e38) else (hm_RE_beginResume_L159 G S o p1 e15)) else if v19 = 4 then ((hg_chk S (some o) 10).bind fun b40 => (hm_RE_beginSuspend G S b40 p1).bind fun q43 => some (q43.1, q43.2)) else if v19 = 5 then ((hg_chk S (some o) 10).bind fun b45 => (hm_RE_isHeld G S b45 e15).bind fun q48 => if q48 = 0 then ((hg_gr S (some o) 10 0).bind fun e49 => (hg_gr S e49 9 9).bind fun e50 => (hg_ld S e50 (G.1 0) p1).bind fun e51 => hm_RE_beginResume_L159 G S o p1 e51) else (hm_RE_beginResume_L159 G S o p1 e15)) else if v19 = 6 then ((hg_gr S (some o) 10 9).bind fun e53 => (hg_ld S e53 (G.1 2) p1).bind fun e54 => (hg_chk S (some o) 10).bind fun b55 => (hm_RE_within G S b55 e15 e54).bind fun q58 => some (q58.1, q58.2)) else if v19 = 7 then ((hg_chk S (some o) 10).bind fun b60 => (hm_RE_answerEnded G S b60 e15).bind fun q63 => (hg_gr q63 (some o) 10 0).bind fun e64 => (hg_gr q63 e64 9 9).bind fun e65 => (hg_ld q63 e65 (G.1 0) p1).bind fun e66 => (hg_chk q63 (some o) 10).bind fun b67 => (hm_RE_answerEnded G q63 b67 e66).bind fun q70 => (hg_chk q70 (some o) 10).bind fun b71 => (hm_RE_isHeld G q70 b71 e15).bind fun q74 => if q74 = 0 then ((hg_gr q70 (some o) 10 0).bind fun e75 => (hg_gr q70 e75 9 9).bind fun e76 => (hg_ld q70 e76 (G.1 0) p1).bind fun e77 => hm_RE_beginResume_L127 G q70 o p1 e77) else (hm_RE_beginResume_L127 G q70 o p1 e15)) else if v19 = 8 then ((hg_gr S (some o) 10 9).bind fun e79 => (hg_ld S e79 (G.1 2) p1).bind fun e80 => (hg_chk S (some o) 10).bind fun b81 => (hm_RE_within G S b81 e15 e80).bind fun q84 => some (q84.1, q84.2)) else if v19 = 9 then ((hg_gr S (some o) 10 9).bind fun e86 => (hg_ld S e86 (G.1 2) p1).bind fun e87 => (hg_chk S (some o) 10).bind fun b88 => (hm_RE_within G S b88 e15 e87).bind fun q91 => some (q91.1, q91.2)) else if v19 = 10 then ((hg_gr S (some o) 10 4).bind fun e93 => (hg_gr S (some o) 10 0).bind fun e94 => (hg_gr S e94 9 11).bind fun e95 => (hg_ld S e95 (G.1 0) p1).bind fun e96 => (hg_gr S (some o) 10 3).bind fun e97 => (hg_gr S (some o) 10 0).bind fun e98 => (hg_gr S e98 9 11).bind fun e99 => (hg_ld S e99 (G.1 0) p1).bind fun e100 => (hg_ld S e97 (G.1 0) e100).bind fun e101 => (hg_st S e93 (G.1 0) e96 e101).bind fun S102 => (hg_gr S102 (some o) 10 9).bind fun e103 => (hg_ld S102 e103 (G.1 2) p1).bind fun e104 => (hg_chk S102 (some o) 10).bind fun b105 => (hm_RE_within G S102 b105 e15 e104).bind fun q108 => some (q108.1, q108.2)) else ((hg_gr S (some o) 10 9).bind fun e110 => (hg_ld S e110 (G.1 2) p1).bind fun e111 => (hg_chk S (some o) 10).bind fun b112 => (hm_RE_within G S b112 e15 e111).bind fun q115 => some (q115.1, q115.2))
set_option maxHeartbeats 4000000 in
set_option maxRecDepth 100000 in
/-- SignalEngine$Reactor.beginResume(I)I -/
theorem hm_RE_beginResume_ok (l : Launch) (D : va_G) (G : hg_E) (Z : hg_S) (o : Nat) (p1 : Int32) (q : hg_S × Int32) (hq : hm_RE_beginResume G Z o p1 = some q) : hg_C l ⟨"SignalEngine$Reactor", "beginResume", "(I)I"⟩ prog_12_method_21_code 3 (some (.int)) 2 46 D G [.ref o, .int p1] Z (.inl (some (.int q.2), q.1) : hg_O) := by
  refine hg_start (cv := fun q => (.inl (some (.int q.2), q.1) : hg_O)) hq ?_
  intro F hF h
  refine hg_enter (lv := [(0, va_rf (some o)), (1, .int p1)]) (by decide +kernel) (by simp [lg_sl, va_rf_cat, hg_cti, hg_ctr]) (by simp [lv_args, va_rf_cat, va_rf_some, hg_cti, hg_ctr]) ?_
  intro X hC hR
  have lab_159 : ∀ (S : hg_S) (x1 : Int32) (y0 : Int32), dc_wp (hm_RE_beginResume_L159 G S o x1 y0) F → hg_G X l (hg_rm 2 46 Z) D 3 S 159 [(0, va_rf (some o)), (1, .int x1)] [.int y0, va_rf (some o)] := by
    intro S x1 y0 h
    delta hm_RE_beginResume_L159 at h
    refine hg_aloadn (pc := 159) (j := 0) (i := 0) (r := (some o)) hC 0 rfl rfl (show decode prog_12_method_21_code 159 = .ok (.aload_n 0, 1) by decide +kernel) ?_
    refine hg_rgr (pc := 160) (r := (some o)) hC fl_SignalEngine_Reactor_66 (show decode prog_12_method_21_code 160 = .ok (.getfield 66, 3) by decide +kernel) h ?_
    intro e1 h
    refine hg_iloadn (pc := 163) (j := 1) (i := 1) hC 1 rfl rfl (show decode prog_12_method_21_code 163 = .ok (.iload_n 1, 1) by decide +kernel) ?_
    refine hg_rzald (pc := 164) (r := e1) hC (show decode prog_12_method_21_code 164 = .ok (.baload, 1) by decide +kernel) h ?_
    intro e2 h
    obtain ⟨b3, hb4, h⟩ := dc_bind h
    obtain ⟨hb4, hv5⟩ := hg_chk_of (C := R_RE) rfl hb4
    refine hg_kVi (pc := 165) (b := b3) (r := (some o)) (As := [.int y0, .int e2]) (rest := []) (vo := fun q => q.2) (so := fun q => q.1) hC cw_SignalEngine_Reactor_135 (fun q hq => hm_RE_within_ok l D G S b3 y0 e2 q hq) (Nat.le_of_ble_eq_true rfl) (Nat.le_of_ble_eq_true rfl) hb4 hv5 rfl (Nat.le_of_ble_eq_true rfl) (show decode prog_12_method_21_code 165 = .ok (.invokevirtual 135, 3) by decide +kernel) h ?_
    intro q6 h
    exact hg_iret (pc := 168) hC hR (hF _ (dc_some h)) (show decode prog_12_method_21_code 168 = .ok (.ireturn, 1) by decide +kernel)
  have lab_127 : ∀ (S : hg_S) (x1 : Int32) (y0 : Int32), dc_wp (hm_RE_beginResume_L127 G S o x1 y0) F → hg_G X l (hg_rm 2 46 Z) D 3 S 127 [(0, va_rf (some o)), (1, .int x1)] [.int y0, va_rf (some o)] := by
    intro S x1 y0 h
    delta hm_RE_beginResume_L127 at h
    refine hg_aloadn (pc := 127) (j := 0) (i := 0) (r := (some o)) hC 0 rfl rfl (show decode prog_12_method_21_code 127 = .ok (.aload_n 0, 1) by decide +kernel) ?_
    refine hg_rgr (pc := 128) (r := (some o)) hC fl_SignalEngine_Reactor_66 (show decode prog_12_method_21_code 128 = .ok (.getfield 66, 3) by decide +kernel) h ?_
    intro e7 h
    refine hg_iloadn (pc := 131) (j := 1) (i := 1) hC 1 rfl rfl (show decode prog_12_method_21_code 131 = .ok (.iload_n 1, 1) by decide +kernel) ?_
    refine hg_rzald (pc := 132) (r := e7) hC (show decode prog_12_method_21_code 132 = .ok (.baload, 1) by decide +kernel) h ?_
    intro e8 h
    obtain ⟨b9, hb10, h⟩ := dc_bind h
    obtain ⟨hb10, hv11⟩ := hg_chk_of (C := R_RE) rfl hb10
    refine hg_kVi (pc := 133) (b := b9) (r := (some o)) (As := [.int y0, .int e8]) (rest := []) (vo := fun q => q.2) (so := fun q => q.1) hC cw_SignalEngine_Reactor_135 (fun q hq => hm_RE_within_ok l D G S b9 y0 e8 q hq) (Nat.le_of_ble_eq_true rfl) (Nat.le_of_ble_eq_true rfl) hb10 hv11 rfl (Nat.le_of_ble_eq_true rfl) (show decode prog_12_method_21_code 133 = .ok (.invokevirtual 135, 3) by decide +kernel) h ?_
    intro q12 h
    exact hg_iret (pc := 136) hC hR (hF _ (dc_some h)) (show decode prog_12_method_21_code 136 = .ok (.ireturn, 1) by decide +kernel)
  show hg_G X l (hg_rm 2 46 Z) D 3 Z 0 [(0, va_rf (some o)), (1, .int p1)] []
  have h : dc_wp (hm_RE_beginResume G Z o p1) F := h
  delta hm_RE_beginResume at h
  refine hg_aloadn (pc := 0) (j := 0) (i := 0) (r := (some o)) hC 0 rfl rfl (show decode prog_12_method_21_code 0 = .ok (.aload_n 0, 1) by decide +kernel) ?_
  refine hg_rgr (pc := 1) (r := (some o)) hC fl_SignalEngine_Reactor_9 (show decode prog_12_method_21_code 1 = .ok (.getfield 9, 3) by decide +kernel) h ?_
  intro e13 h
  refine hg_rgr (pc := 4) (r := e13) hC fl_SignalEngine_Reactor_182 (show decode prog_12_method_21_code 4 = .ok (.getfield 182, 3) by decide +kernel) h ?_
  intro e14 h
  refine hg_iloadn (pc := 7) (j := 1) (i := 1) hC 1 rfl rfl (show decode prog_12_method_21_code 7 = .ok (.iload_n 1, 1) by decide +kernel) ?_
  refine hg_riald (pc := 8) (r := e14) hC (show decode prog_12_method_21_code 8 = .ok (.iaload, 1) by decide +kernel) h ?_
  intro e15 h
  refine hg_istoren (pc := 9) (j := 2) (i := 2) (lv' := [(2, .int e15), (0, va_rf (some o)), (1, .int p1)]) hC rfl (Nat.le_of_ble_eq_true rfl) rfl (show decode prog_12_method_21_code 9 = .ok (.istore_n 2, 1) by decide +kernel) ?_
  refine hg_aloadn (pc := 10) (j := 0) (i := 0) (r := (some o)) hC 1 rfl rfl (show decode prog_12_method_21_code 10 = .ok (.aload_n 0, 1) by decide +kernel) ?_
  refine hg_rgr (pc := 11) (r := (some o)) hC fl_SignalEngine_Reactor_9 (show decode prog_12_method_21_code 11 = .ok (.getfield 9, 3) by decide +kernel) h ?_
  intro e16 h
  refine hg_rgr (pc := 14) (r := e16) hC fl_SignalEngine_Reactor_15 (show decode prog_12_method_21_code 14 = .ok (.getfield 15, 3) by decide +kernel) h ?_
  intro e17 h
  refine hg_iloadn (pc := 17) (j := 1) (i := 1) hC 2 rfl rfl (show decode prog_12_method_21_code 17 = .ok (.iload_n 1, 1) by decide +kernel) ?_
  refine hg_riald (pc := 18) (r := e17) hC (show decode prog_12_method_21_code 18 = .ok (.iaload, 1) by decide +kernel) h ?_
  intro e18 h
  refine hg_letI h ?_
  intro v19 h
  rcases dc_ite h with ⟨hk24, h2⟩ | ⟨hk24, h2⟩
  · subst hk24; clear h; have h := h2; clear h2
    refine hg_tabIn (pc := 19) (off := 53) (tgt := 72) hC dsw_prog_12_method_21_code_19 (by decide +kernel) (by decide +kernel) (by decide +kernel) (by decide +kernel) ?_
    refine hg_aloadn (pc := 72) (j := 0) (i := 0) (r := (some o)) hC 1 rfl rfl (show decode prog_12_method_21_code 72 = .ok (.aload_n 0, 1) by decide +kernel) ?_
    refine hg_iloadn (pc := 73) (j := 1) (i := 1) hC 2 rfl rfl (show decode prog_12_method_21_code 73 = .ok (.iload_n 1, 1) by decide +kernel) ?_
    refine hg_iconst (pc := 74) (v := 1) hC (show decode prog_12_method_21_code 74 = .ok (.iconst 1, 1) by decide +kernel) (by decide +kernel) ?_
    refine hg_iconst (pc := 75) (v := 0) hC (show decode prog_12_method_21_code 75 = .ok (.iconst 0, 1) by decide +kernel) (by decide +kernel) ?_
    obtain ⟨b20, hb21, h⟩ := dc_bind h
    obtain ⟨hb21, hv22⟩ := hg_chk_of (C := R_RE) rfl hb21
    refine hg_kVv (pc := 76) (b := b20) (r := (some o)) (As := [.int p1, .int 1, .int 0]) (rest := []) (so := fun q => q) hC cw_SignalEngine_Reactor_171 (fun q hq => hm_RE_answer_ok l D G Z b20 p1 (1 : Int32) (0 : Int32) q hq) (Nat.le_of_ble_eq_true rfl) (Nat.le_of_ble_eq_true rfl) hb21 hv22 rfl (Nat.le_of_ble_eq_true rfl) (show decode prog_12_method_21_code 76 = .ok (.invokevirtual 171, 3) by decide +kernel) h ?_
    intro q23 h
    refine hg_iconst (pc := 79) (v := (-1)) hC (show decode prog_12_method_21_code 79 = .ok (.iconst (-1), 1) by decide +kernel) (by decide +kernel) ?_
    exact hg_iret (pc := 80) hC hR (hF _ (dc_some h)) (show decode prog_12_method_21_code 80 = .ok (.ireturn, 1) by decide +kernel)
  clear h; have h := h2; clear h2
  rcases dc_ite h with ⟨hk31, h2⟩ | ⟨hk31, h2⟩
  · subst hk31; clear h; have h := h2; clear h2
    refine hg_tabIn (pc := 19) (off := 190) (tgt := 209) hC dsw_prog_12_method_21_code_19 (by decide +kernel) (by decide +kernel) (by decide +kernel) (by decide +kernel) ?_
    refine hg_aloadn (pc := 209) (j := 0) (i := 0) (r := (some o)) hC 1 rfl rfl (show decode prog_12_method_21_code 209 = .ok (.aload_n 0, 1) by decide +kernel) ?_
    refine hg_iloadn (pc := 210) (j := 2) (i := 2) hC 0 rfl rfl (show decode prog_12_method_21_code 210 = .ok (.iload_n 2, 1) by decide +kernel) ?_
    refine hg_aloadn (pc := 211) (j := 0) (i := 0) (r := (some o)) hC 1 rfl rfl (show decode prog_12_method_21_code 211 = .ok (.aload_n 0, 1) by decide +kernel) ?_
    refine hg_rgr (pc := 212) (r := (some o)) hC fl_SignalEngine_Reactor_66 (show decode prog_12_method_21_code 212 = .ok (.getfield 66, 3) by decide +kernel) h ?_
    intro e25 h
    refine hg_iloadn (pc := 215) (j := 1) (i := 1) hC 2 rfl rfl (show decode prog_12_method_21_code 215 = .ok (.iload_n 1, 1) by decide +kernel) ?_
    refine hg_rzald (pc := 216) (r := e25) hC (show decode prog_12_method_21_code 216 = .ok (.baload, 1) by decide +kernel) h ?_
    intro e26 h
    obtain ⟨b27, hb28, h⟩ := dc_bind h
    obtain ⟨hb28, hv29⟩ := hg_chk_of (C := R_RE) rfl hb28
    refine hg_kVi (pc := 217) (b := b27) (r := (some o)) (As := [.int e15, .int e26]) (rest := []) (vo := fun q => q.2) (so := fun q => q.1) hC cw_SignalEngine_Reactor_135 (fun q hq => hm_RE_within_ok l D G Z b27 e15 e26 q hq) (Nat.le_of_ble_eq_true rfl) (Nat.le_of_ble_eq_true rfl) hb28 hv29 rfl (Nat.le_of_ble_eq_true rfl) (show decode prog_12_method_21_code 217 = .ok (.invokevirtual 135, 3) by decide +kernel) h ?_
    intro q30 h
    exact hg_iret (pc := 220) hC hR (hF _ (dc_some h)) (show decode prog_12_method_21_code 220 = .ok (.ireturn, 1) by decide +kernel)
  clear h; have h := h2; clear h2
  rcases dc_ite h with ⟨hk39, h2⟩ | ⟨hk39, h2⟩
  · subst hk39; clear h; have h := h2; clear h2
    refine hg_tabIn (pc := 19) (off := 118) (tgt := 137) hC dsw_prog_12_method_21_code_19 (by decide +kernel) (by decide +kernel) (by decide +kernel) (by decide +kernel) ?_
    refine hg_aloadn (pc := 137) (j := 0) (i := 0) (r := (some o)) hC 1 rfl rfl (show decode prog_12_method_21_code 137 = .ok (.aload_n 0, 1) by decide +kernel) ?_
    refine hg_aloadn (pc := 138) (j := 0) (i := 0) (r := (some o)) hC 1 rfl rfl (show decode prog_12_method_21_code 138 = .ok (.aload_n 0, 1) by decide +kernel) ?_
    refine hg_iloadn (pc := 139) (j := 2) (i := 2) hC 0 rfl rfl (show decode prog_12_method_21_code 139 = .ok (.iload_n 2, 1) by decide +kernel) ?_
    obtain ⟨b32, hb33, h⟩ := dc_bind h
    obtain ⟨hb33, hv34⟩ := hg_chk_of (C := R_RE) rfl hb33
    refine hg_kVi (pc := 140) (b := b32) (r := (some o)) (As := [.int e15]) (rest := [va_rf (some o)]) (vo := fun q => q) (so := fun q => Z) hC cw_SignalEngine_Reactor_221 (fun q hq => hm_RE_isHeld_ok l D G Z b32 e15 q hq) (Nat.le_of_ble_eq_true rfl) (Nat.le_of_ble_eq_true rfl) hb33 hv34 rfl (Nat.le_of_ble_eq_true rfl) (show decode prog_12_method_21_code 140 = .ok (.invokevirtual 221, 3) by decide +kernel) h ?_
    intro q35 h
    refine hg_if_eq (pc := 143) (tgt := 150) hC (show decode prog_12_method_21_code 143 = .ok (.ifCond .eq 7, 3) by decide +kernel) (by decide +kernel) h ?_ ?_
    · intro h
      refine hg_aloadn (pc := 150) (j := 0) (i := 0) (r := (some o)) hC 1 rfl rfl (show decode prog_12_method_21_code 150 = .ok (.aload_n 0, 1) by decide +kernel) ?_
      refine hg_rgr (pc := 151) (r := (some o)) hC fl_SignalEngine_Reactor_9 (show decode prog_12_method_21_code 151 = .ok (.getfield 9, 3) by decide +kernel) h ?_
      intro e36 h
      refine hg_rgr (pc := 154) (r := e36) hC fl_SignalEngine_Reactor_188 (show decode prog_12_method_21_code 154 = .ok (.getfield 188, 3) by decide +kernel) h ?_
      intro e37 h
      refine hg_iloadn (pc := 157) (j := 1) (i := 1) hC 2 rfl rfl (show decode prog_12_method_21_code 157 = .ok (.iload_n 1, 1) by decide +kernel) ?_
      refine hg_riald (pc := 158) (r := e37) hC (show decode prog_12_method_21_code 158 = .ok (.iaload, 1) by decide +kernel) h ?_
      intro e38 h
      exact hg_sub [1, 2] rfl (lab_159 Z p1 e38 h)
    · intro h
      refine hg_iloadn (pc := 146) (j := 2) (i := 2) hC 0 rfl rfl (show decode prog_12_method_21_code 146 = .ok (.iload_n 2, 1) by decide +kernel) ?_
      refine hg_goto (pc := 147) (tgt := 159) hC (show decode prog_12_method_21_code 147 = .ok (.goto 12, 3) by decide +kernel) (by decide +kernel) ?_
      exact hg_sub [1, 2] rfl (lab_159 Z p1 e15 h)
  clear h; have h := h2; clear h2
  rcases dc_ite h with ⟨hk44, h2⟩ | ⟨hk44, h2⟩
  · subst hk44; clear h; have h := h2; clear h2
    refine hg_tabIn (pc := 19) (off := 62) (tgt := 81) hC dsw_prog_12_method_21_code_19 (by decide +kernel) (by decide +kernel) (by decide +kernel) (by decide +kernel) ?_
    refine hg_aloadn (pc := 81) (j := 0) (i := 0) (r := (some o)) hC 1 rfl rfl (show decode prog_12_method_21_code 81 = .ok (.aload_n 0, 1) by decide +kernel) ?_
    refine hg_iloadn (pc := 82) (j := 1) (i := 1) hC 2 rfl rfl (show decode prog_12_method_21_code 82 = .ok (.iload_n 1, 1) by decide +kernel) ?_
    obtain ⟨b40, hb41, h⟩ := dc_bind h
    obtain ⟨hb41, hv42⟩ := hg_chk_of (C := R_RE) rfl hb41
    refine hg_kVi (pc := 83) (b := b40) (r := (some o)) (As := [.int p1]) (rest := []) (vo := fun q => q.2) (so := fun q => q.1) hC cw_SignalEngine_Reactor_215 (fun q hq => hm_RE_beginSuspend_ok l D G Z b40 p1 q hq) (Nat.le_of_ble_eq_true rfl) (Nat.le_of_ble_eq_true rfl) hb41 hv42 rfl (Nat.le_of_ble_eq_true rfl) (show decode prog_12_method_21_code 83 = .ok (.invokevirtual 215, 3) by decide +kernel) h ?_
    intro q43 h
    exact hg_iret (pc := 86) hC hR (hF _ (dc_some h)) (show decode prog_12_method_21_code 86 = .ok (.ireturn, 1) by decide +kernel)
  clear h; have h := h2; clear h2
  rcases dc_ite h with ⟨hk52, h2⟩ | ⟨hk52, h2⟩
  · subst hk52; clear h; have h := h2; clear h2
    refine hg_tabIn (pc := 19) (off := 118) (tgt := 137) hC dsw_prog_12_method_21_code_19 (by decide +kernel) (by decide +kernel) (by decide +kernel) (by decide +kernel) ?_
    refine hg_aloadn (pc := 137) (j := 0) (i := 0) (r := (some o)) hC 1 rfl rfl (show decode prog_12_method_21_code 137 = .ok (.aload_n 0, 1) by decide +kernel) ?_
    refine hg_aloadn (pc := 138) (j := 0) (i := 0) (r := (some o)) hC 1 rfl rfl (show decode prog_12_method_21_code 138 = .ok (.aload_n 0, 1) by decide +kernel) ?_
    refine hg_iloadn (pc := 139) (j := 2) (i := 2) hC 0 rfl rfl (show decode prog_12_method_21_code 139 = .ok (.iload_n 2, 1) by decide +kernel) ?_
    obtain ⟨b45, hb46, h⟩ := dc_bind h
    obtain ⟨hb46, hv47⟩ := hg_chk_of (C := R_RE) rfl hb46
    refine hg_kVi (pc := 140) (b := b45) (r := (some o)) (As := [.int e15]) (rest := [va_rf (some o)]) (vo := fun q => q) (so := fun q => Z) hC cw_SignalEngine_Reactor_221 (fun q hq => hm_RE_isHeld_ok l D G Z b45 e15 q hq) (Nat.le_of_ble_eq_true rfl) (Nat.le_of_ble_eq_true rfl) hb46 hv47 rfl (Nat.le_of_ble_eq_true rfl) (show decode prog_12_method_21_code 140 = .ok (.invokevirtual 221, 3) by decide +kernel) h ?_
    intro q48 h
    refine hg_if_eq (pc := 143) (tgt := 150) hC (show decode prog_12_method_21_code 143 = .ok (.ifCond .eq 7, 3) by decide +kernel) (by decide +kernel) h ?_ ?_
    · intro h
      refine hg_aloadn (pc := 150) (j := 0) (i := 0) (r := (some o)) hC 1 rfl rfl (show decode prog_12_method_21_code 150 = .ok (.aload_n 0, 1) by decide +kernel) ?_
      refine hg_rgr (pc := 151) (r := (some o)) hC fl_SignalEngine_Reactor_9 (show decode prog_12_method_21_code 151 = .ok (.getfield 9, 3) by decide +kernel) h ?_
      intro e49 h
      refine hg_rgr (pc := 154) (r := e49) hC fl_SignalEngine_Reactor_188 (show decode prog_12_method_21_code 154 = .ok (.getfield 188, 3) by decide +kernel) h ?_
      intro e50 h
      refine hg_iloadn (pc := 157) (j := 1) (i := 1) hC 2 rfl rfl (show decode prog_12_method_21_code 157 = .ok (.iload_n 1, 1) by decide +kernel) ?_
      refine hg_riald (pc := 158) (r := e50) hC (show decode prog_12_method_21_code 158 = .ok (.iaload, 1) by decide +kernel) h ?_
      intro e51 h
      exact hg_sub [1, 2] rfl (lab_159 Z p1 e51 h)
    · intro h
      refine hg_iloadn (pc := 146) (j := 2) (i := 2) hC 0 rfl rfl (show decode prog_12_method_21_code 146 = .ok (.iload_n 2, 1) by decide +kernel) ?_
      refine hg_goto (pc := 147) (tgt := 159) hC (show decode prog_12_method_21_code 147 = .ok (.goto 12, 3) by decide +kernel) (by decide +kernel) ?_
      exact hg_sub [1, 2] rfl (lab_159 Z p1 e15 h)
  clear h; have h := h2; clear h2
  rcases dc_ite h with ⟨hk59, h2⟩ | ⟨hk59, h2⟩
  · subst hk59; clear h; have h := h2; clear h2
    refine hg_tabIn (pc := 19) (off := 190) (tgt := 209) hC dsw_prog_12_method_21_code_19 (by decide +kernel) (by decide +kernel) (by decide +kernel) (by decide +kernel) ?_
    refine hg_aloadn (pc := 209) (j := 0) (i := 0) (r := (some o)) hC 1 rfl rfl (show decode prog_12_method_21_code 209 = .ok (.aload_n 0, 1) by decide +kernel) ?_
    refine hg_iloadn (pc := 210) (j := 2) (i := 2) hC 0 rfl rfl (show decode prog_12_method_21_code 210 = .ok (.iload_n 2, 1) by decide +kernel) ?_
    refine hg_aloadn (pc := 211) (j := 0) (i := 0) (r := (some o)) hC 1 rfl rfl (show decode prog_12_method_21_code 211 = .ok (.aload_n 0, 1) by decide +kernel) ?_
    refine hg_rgr (pc := 212) (r := (some o)) hC fl_SignalEngine_Reactor_66 (show decode prog_12_method_21_code 212 = .ok (.getfield 66, 3) by decide +kernel) h ?_
    intro e53 h
    refine hg_iloadn (pc := 215) (j := 1) (i := 1) hC 2 rfl rfl (show decode prog_12_method_21_code 215 = .ok (.iload_n 1, 1) by decide +kernel) ?_
    refine hg_rzald (pc := 216) (r := e53) hC (show decode prog_12_method_21_code 216 = .ok (.baload, 1) by decide +kernel) h ?_
    intro e54 h
    obtain ⟨b55, hb56, h⟩ := dc_bind h
    obtain ⟨hb56, hv57⟩ := hg_chk_of (C := R_RE) rfl hb56
    refine hg_kVi (pc := 217) (b := b55) (r := (some o)) (As := [.int e15, .int e54]) (rest := []) (vo := fun q => q.2) (so := fun q => q.1) hC cw_SignalEngine_Reactor_135 (fun q hq => hm_RE_within_ok l D G Z b55 e15 e54 q hq) (Nat.le_of_ble_eq_true rfl) (Nat.le_of_ble_eq_true rfl) hb56 hv57 rfl (Nat.le_of_ble_eq_true rfl) (show decode prog_12_method_21_code 217 = .ok (.invokevirtual 135, 3) by decide +kernel) h ?_
    intro q58 h
    exact hg_iret (pc := 220) hC hR (hF _ (dc_some h)) (show decode prog_12_method_21_code 220 = .ok (.ireturn, 1) by decide +kernel)
  clear h; have h := h2; clear h2
  rcases dc_ite h with ⟨hk78, h2⟩ | ⟨hk78, h2⟩
  · subst hk78; clear h; have h := h2; clear h2
    refine hg_tabIn (pc := 19) (off := 68) (tgt := 87) hC dsw_prog_12_method_21_code_19 (by decide +kernel) (by decide +kernel) (by decide +kernel) (by decide +kernel) ?_
    refine hg_aloadn (pc := 87) (j := 0) (i := 0) (r := (some o)) hC 1 rfl rfl (show decode prog_12_method_21_code 87 = .ok (.aload_n 0, 1) by decide +kernel) ?_
    refine hg_iloadn (pc := 88) (j := 2) (i := 2) hC 0 rfl rfl (show decode prog_12_method_21_code 88 = .ok (.iload_n 2, 1) by decide +kernel) ?_
    obtain ⟨b60, hb61, h⟩ := dc_bind h
    obtain ⟨hb61, hv62⟩ := hg_chk_of (C := R_RE) rfl hb61
    refine hg_kVv (pc := 89) (b := b60) (r := (some o)) (As := [.int e15]) (rest := []) (so := fun q => q) hC cw_SignalEngine_Reactor_218 (fun q hq => hm_RE_answerEnded_ok l D G Z b60 e15 q hq) (Nat.le_of_ble_eq_true rfl) (Nat.le_of_ble_eq_true rfl) hb61 hv62 rfl (Nat.le_of_ble_eq_true rfl) (show decode prog_12_method_21_code 89 = .ok (.invokevirtual 218, 3) by decide +kernel) h ?_
    intro q63 h
    refine hg_aloadn (pc := 92) (j := 0) (i := 0) (r := (some o)) hC 1 rfl rfl (show decode prog_12_method_21_code 92 = .ok (.aload_n 0, 1) by decide +kernel) ?_
    refine hg_aloadn (pc := 93) (j := 0) (i := 0) (r := (some o)) hC 1 rfl rfl (show decode prog_12_method_21_code 93 = .ok (.aload_n 0, 1) by decide +kernel) ?_
    refine hg_rgr (pc := 94) (r := (some o)) hC fl_SignalEngine_Reactor_9 (show decode prog_12_method_21_code 94 = .ok (.getfield 9, 3) by decide +kernel) h ?_
    intro e64 h
    refine hg_rgr (pc := 97) (r := e64) hC fl_SignalEngine_Reactor_188 (show decode prog_12_method_21_code 97 = .ok (.getfield 188, 3) by decide +kernel) h ?_
    intro e65 h
    refine hg_iloadn (pc := 100) (j := 1) (i := 1) hC 2 rfl rfl (show decode prog_12_method_21_code 100 = .ok (.iload_n 1, 1) by decide +kernel) ?_
    refine hg_riald (pc := 101) (r := e65) hC (show decode prog_12_method_21_code 101 = .ok (.iaload, 1) by decide +kernel) h ?_
    intro e66 h
    obtain ⟨b67, hb68, h⟩ := dc_bind h
    obtain ⟨hb68, hv69⟩ := hg_chk_of (C := R_RE) rfl hb68
    refine hg_kVv (pc := 102) (b := b67) (r := (some o)) (As := [.int e66]) (rest := []) (so := fun q => q) hC cw_SignalEngine_Reactor_218 (fun q hq => hm_RE_answerEnded_ok l D G q63 b67 e66 q hq) (Nat.le_of_ble_eq_true rfl) (Nat.le_of_ble_eq_true rfl) hb68 hv69 rfl (Nat.le_of_ble_eq_true rfl) (show decode prog_12_method_21_code 102 = .ok (.invokevirtual 218, 3) by decide +kernel) h ?_
    intro q70 h
    refine hg_aloadn (pc := 105) (j := 0) (i := 0) (r := (some o)) hC 1 rfl rfl (show decode prog_12_method_21_code 105 = .ok (.aload_n 0, 1) by decide +kernel) ?_
    refine hg_aloadn (pc := 106) (j := 0) (i := 0) (r := (some o)) hC 1 rfl rfl (show decode prog_12_method_21_code 106 = .ok (.aload_n 0, 1) by decide +kernel) ?_
    refine hg_iloadn (pc := 107) (j := 2) (i := 2) hC 0 rfl rfl (show decode prog_12_method_21_code 107 = .ok (.iload_n 2, 1) by decide +kernel) ?_
    obtain ⟨b71, hb72, h⟩ := dc_bind h
    obtain ⟨hb72, hv73⟩ := hg_chk_of (C := R_RE) rfl hb72
    refine hg_kVi (pc := 108) (b := b71) (r := (some o)) (As := [.int e15]) (rest := [va_rf (some o)]) (vo := fun q => q) (so := fun q => q70) hC cw_SignalEngine_Reactor_221 (fun q hq => hm_RE_isHeld_ok l D G q70 b71 e15 q hq) (Nat.le_of_ble_eq_true rfl) (Nat.le_of_ble_eq_true rfl) hb72 hv73 rfl (Nat.le_of_ble_eq_true rfl) (show decode prog_12_method_21_code 108 = .ok (.invokevirtual 221, 3) by decide +kernel) h ?_
    intro q74 h
    refine hg_if_eq (pc := 111) (tgt := 118) hC (show decode prog_12_method_21_code 111 = .ok (.ifCond .eq 7, 3) by decide +kernel) (by decide +kernel) h ?_ ?_
    · intro h
      refine hg_aloadn (pc := 118) (j := 0) (i := 0) (r := (some o)) hC 1 rfl rfl (show decode prog_12_method_21_code 118 = .ok (.aload_n 0, 1) by decide +kernel) ?_
      refine hg_rgr (pc := 119) (r := (some o)) hC fl_SignalEngine_Reactor_9 (show decode prog_12_method_21_code 119 = .ok (.getfield 9, 3) by decide +kernel) h ?_
      intro e75 h
      refine hg_rgr (pc := 122) (r := e75) hC fl_SignalEngine_Reactor_188 (show decode prog_12_method_21_code 122 = .ok (.getfield 188, 3) by decide +kernel) h ?_
      intro e76 h
      refine hg_iloadn (pc := 125) (j := 1) (i := 1) hC 2 rfl rfl (show decode prog_12_method_21_code 125 = .ok (.iload_n 1, 1) by decide +kernel) ?_
      refine hg_riald (pc := 126) (r := e76) hC (show decode prog_12_method_21_code 126 = .ok (.iaload, 1) by decide +kernel) h ?_
      intro e77 h
      exact hg_sub [1, 2] rfl (lab_127 q70 p1 e77 h)
    · intro h
      refine hg_iloadn (pc := 114) (j := 2) (i := 2) hC 0 rfl rfl (show decode prog_12_method_21_code 114 = .ok (.iload_n 2, 1) by decide +kernel) ?_
      refine hg_goto (pc := 115) (tgt := 127) hC (show decode prog_12_method_21_code 115 = .ok (.goto 12, 3) by decide +kernel) (by decide +kernel) ?_
      exact hg_sub [1, 2] rfl (lab_127 q70 p1 e15 h)
  clear h; have h := h2; clear h2
  rcases dc_ite h with ⟨hk85, h2⟩ | ⟨hk85, h2⟩
  · subst hk85; clear h; have h := h2; clear h2
    refine hg_tabIn (pc := 19) (off := 190) (tgt := 209) hC dsw_prog_12_method_21_code_19 (by decide +kernel) (by decide +kernel) (by decide +kernel) (by decide +kernel) ?_
    refine hg_aloadn (pc := 209) (j := 0) (i := 0) (r := (some o)) hC 1 rfl rfl (show decode prog_12_method_21_code 209 = .ok (.aload_n 0, 1) by decide +kernel) ?_
    refine hg_iloadn (pc := 210) (j := 2) (i := 2) hC 0 rfl rfl (show decode prog_12_method_21_code 210 = .ok (.iload_n 2, 1) by decide +kernel) ?_
    refine hg_aloadn (pc := 211) (j := 0) (i := 0) (r := (some o)) hC 1 rfl rfl (show decode prog_12_method_21_code 211 = .ok (.aload_n 0, 1) by decide +kernel) ?_
    refine hg_rgr (pc := 212) (r := (some o)) hC fl_SignalEngine_Reactor_66 (show decode prog_12_method_21_code 212 = .ok (.getfield 66, 3) by decide +kernel) h ?_
    intro e79 h
    refine hg_iloadn (pc := 215) (j := 1) (i := 1) hC 2 rfl rfl (show decode prog_12_method_21_code 215 = .ok (.iload_n 1, 1) by decide +kernel) ?_
    refine hg_rzald (pc := 216) (r := e79) hC (show decode prog_12_method_21_code 216 = .ok (.baload, 1) by decide +kernel) h ?_
    intro e80 h
    obtain ⟨b81, hb82, h⟩ := dc_bind h
    obtain ⟨hb82, hv83⟩ := hg_chk_of (C := R_RE) rfl hb82
    refine hg_kVi (pc := 217) (b := b81) (r := (some o)) (As := [.int e15, .int e80]) (rest := []) (vo := fun q => q.2) (so := fun q => q.1) hC cw_SignalEngine_Reactor_135 (fun q hq => hm_RE_within_ok l D G Z b81 e15 e80 q hq) (Nat.le_of_ble_eq_true rfl) (Nat.le_of_ble_eq_true rfl) hb82 hv83 rfl (Nat.le_of_ble_eq_true rfl) (show decode prog_12_method_21_code 217 = .ok (.invokevirtual 135, 3) by decide +kernel) h ?_
    intro q84 h
    exact hg_iret (pc := 220) hC hR (hF _ (dc_some h)) (show decode prog_12_method_21_code 220 = .ok (.ireturn, 1) by decide +kernel)
  clear h; have h := h2; clear h2
  rcases dc_ite h with ⟨hk92, h2⟩ | ⟨hk92, h2⟩
  · subst hk92; clear h; have h := h2; clear h2
    refine hg_tabIn (pc := 19) (off := 190) (tgt := 209) hC dsw_prog_12_method_21_code_19 (by decide +kernel) (by decide +kernel) (by decide +kernel) (by decide +kernel) ?_
    refine hg_aloadn (pc := 209) (j := 0) (i := 0) (r := (some o)) hC 1 rfl rfl (show decode prog_12_method_21_code 209 = .ok (.aload_n 0, 1) by decide +kernel) ?_
    refine hg_iloadn (pc := 210) (j := 2) (i := 2) hC 0 rfl rfl (show decode prog_12_method_21_code 210 = .ok (.iload_n 2, 1) by decide +kernel) ?_
    refine hg_aloadn (pc := 211) (j := 0) (i := 0) (r := (some o)) hC 1 rfl rfl (show decode prog_12_method_21_code 211 = .ok (.aload_n 0, 1) by decide +kernel) ?_
    refine hg_rgr (pc := 212) (r := (some o)) hC fl_SignalEngine_Reactor_66 (show decode prog_12_method_21_code 212 = .ok (.getfield 66, 3) by decide +kernel) h ?_
    intro e86 h
    refine hg_iloadn (pc := 215) (j := 1) (i := 1) hC 2 rfl rfl (show decode prog_12_method_21_code 215 = .ok (.iload_n 1, 1) by decide +kernel) ?_
    refine hg_rzald (pc := 216) (r := e86) hC (show decode prog_12_method_21_code 216 = .ok (.baload, 1) by decide +kernel) h ?_
    intro e87 h
    obtain ⟨b88, hb89, h⟩ := dc_bind h
    obtain ⟨hb89, hv90⟩ := hg_chk_of (C := R_RE) rfl hb89
    refine hg_kVi (pc := 217) (b := b88) (r := (some o)) (As := [.int e15, .int e87]) (rest := []) (vo := fun q => q.2) (so := fun q => q.1) hC cw_SignalEngine_Reactor_135 (fun q hq => hm_RE_within_ok l D G Z b88 e15 e87 q hq) (Nat.le_of_ble_eq_true rfl) (Nat.le_of_ble_eq_true rfl) hb89 hv90 rfl (Nat.le_of_ble_eq_true rfl) (show decode prog_12_method_21_code 217 = .ok (.invokevirtual 135, 3) by decide +kernel) h ?_
    intro q91 h
    exact hg_iret (pc := 220) hC hR (hF _ (dc_some h)) (show decode prog_12_method_21_code 220 = .ok (.ireturn, 1) by decide +kernel)
  clear h; have h := h2; clear h2
  rcases dc_ite h with ⟨hk109, h2⟩ | ⟨hk109, h2⟩
  · subst hk109; clear h; have h := h2; clear h2
    refine hg_tabIn (pc := 19) (off := 150) (tgt := 169) hC dsw_prog_12_method_21_code_19 (by decide +kernel) (by decide +kernel) (by decide +kernel) (by decide +kernel) ?_
    refine hg_aloadn (pc := 169) (j := 0) (i := 0) (r := (some o)) hC 1 rfl rfl (show decode prog_12_method_21_code 169 = .ok (.aload_n 0, 1) by decide +kernel) ?_
    refine hg_rgr (pc := 170) (r := (some o)) hC fl_SignalEngine_Reactor_34 (show decode prog_12_method_21_code 170 = .ok (.getfield 34, 3) by decide +kernel) h ?_
    intro e93 h
    refine hg_aloadn (pc := 173) (j := 0) (i := 0) (r := (some o)) hC 1 rfl rfl (show decode prog_12_method_21_code 173 = .ok (.aload_n 0, 1) by decide +kernel) ?_
    refine hg_rgr (pc := 174) (r := (some o)) hC fl_SignalEngine_Reactor_9 (show decode prog_12_method_21_code 174 = .ok (.getfield 9, 3) by decide +kernel) h ?_
    intro e94 h
    refine hg_rgr (pc := 177) (r := e94) hC fl_SignalEngine_Reactor_85 (show decode prog_12_method_21_code 177 = .ok (.getfield 85, 3) by decide +kernel) h ?_
    intro e95 h
    refine hg_iloadn (pc := 180) (j := 1) (i := 1) hC 2 rfl rfl (show decode prog_12_method_21_code 180 = .ok (.iload_n 1, 1) by decide +kernel) ?_
    refine hg_riald (pc := 181) (r := e95) hC (show decode prog_12_method_21_code 181 = .ok (.iaload, 1) by decide +kernel) h ?_
    intro e96 h
    refine hg_aloadn (pc := 182) (j := 0) (i := 0) (r := (some o)) hC 1 rfl rfl (show decode prog_12_method_21_code 182 = .ok (.aload_n 0, 1) by decide +kernel) ?_
    refine hg_rgr (pc := 183) (r := (some o)) hC fl_SignalEngine_Reactor_31 (show decode prog_12_method_21_code 183 = .ok (.getfield 31, 3) by decide +kernel) h ?_
    intro e97 h
    refine hg_aloadn (pc := 186) (j := 0) (i := 0) (r := (some o)) hC 1 rfl rfl (show decode prog_12_method_21_code 186 = .ok (.aload_n 0, 1) by decide +kernel) ?_
    refine hg_rgr (pc := 187) (r := (some o)) hC fl_SignalEngine_Reactor_9 (show decode prog_12_method_21_code 187 = .ok (.getfield 9, 3) by decide +kernel) h ?_
    intro e98 h
    refine hg_rgr (pc := 190) (r := e98) hC fl_SignalEngine_Reactor_85 (show decode prog_12_method_21_code 190 = .ok (.getfield 85, 3) by decide +kernel) h ?_
    intro e99 h
    refine hg_iloadn (pc := 193) (j := 1) (i := 1) hC 2 rfl rfl (show decode prog_12_method_21_code 193 = .ok (.iload_n 1, 1) by decide +kernel) ?_
    refine hg_riald (pc := 194) (r := e99) hC (show decode prog_12_method_21_code 194 = .ok (.iaload, 1) by decide +kernel) h ?_
    intro e100 h
    refine hg_riald (pc := 195) (r := e97) hC (show decode prog_12_method_21_code 195 = .ok (.iaload, 1) by decide +kernel) h ?_
    intro e101 h
    refine hg_riast (pc := 196) (r := e93) hC (show decode prog_12_method_21_code 196 = .ok (.iastore, 1) by decide +kernel) h ?_
    intro S102 h
    refine hg_aloadn (pc := 197) (j := 0) (i := 0) (r := (some o)) hC 1 rfl rfl (show decode prog_12_method_21_code 197 = .ok (.aload_n 0, 1) by decide +kernel) ?_
    refine hg_iloadn (pc := 198) (j := 2) (i := 2) hC 0 rfl rfl (show decode prog_12_method_21_code 198 = .ok (.iload_n 2, 1) by decide +kernel) ?_
    refine hg_aloadn (pc := 199) (j := 0) (i := 0) (r := (some o)) hC 1 rfl rfl (show decode prog_12_method_21_code 199 = .ok (.aload_n 0, 1) by decide +kernel) ?_
    refine hg_rgr (pc := 200) (r := (some o)) hC fl_SignalEngine_Reactor_66 (show decode prog_12_method_21_code 200 = .ok (.getfield 66, 3) by decide +kernel) h ?_
    intro e103 h
    refine hg_iloadn (pc := 203) (j := 1) (i := 1) hC 2 rfl rfl (show decode prog_12_method_21_code 203 = .ok (.iload_n 1, 1) by decide +kernel) ?_
    refine hg_rzald (pc := 204) (r := e103) hC (show decode prog_12_method_21_code 204 = .ok (.baload, 1) by decide +kernel) h ?_
    intro e104 h
    obtain ⟨b105, hb106, h⟩ := dc_bind h
    obtain ⟨hb106, hv107⟩ := hg_chk_of (C := R_RE) rfl hb106
    refine hg_kVi (pc := 205) (b := b105) (r := (some o)) (As := [.int e15, .int e104]) (rest := []) (vo := fun q => q.2) (so := fun q => q.1) hC cw_SignalEngine_Reactor_135 (fun q hq => hm_RE_within_ok l D G S102 b105 e15 e104 q hq) (Nat.le_of_ble_eq_true rfl) (Nat.le_of_ble_eq_true rfl) hb106 hv107 rfl (Nat.le_of_ble_eq_true rfl) (show decode prog_12_method_21_code 205 = .ok (.invokevirtual 135, 3) by decide +kernel) h ?_
    intro q108 h
    exact hg_iret (pc := 208) hC hR (hF _ (dc_some h)) (show decode prog_12_method_21_code 208 = .ok (.ireturn, 1) by decide +kernel)
  clear h; have h := h2; clear h2
  refine hg_tabOut (pc := 19) (tgt := 209) hC dsw_prog_12_method_21_code_19 (by have := dc_swc hk24 (show (1 : Int32).toInt = 1 by decide +kernel); have := dc_swc hk31 (show (2 : Int32).toInt = 2 by decide +kernel); have := dc_swc hk39 (show (3 : Int32).toInt = 3 by decide +kernel); have := dc_swc hk44 (show (4 : Int32).toInt = 4 by decide +kernel); have := dc_swc hk52 (show (5 : Int32).toInt = 5 by decide +kernel); have := dc_swc hk59 (show (6 : Int32).toInt = 6 by decide +kernel); have := dc_swc hk78 (show (7 : Int32).toInt = 7 by decide +kernel); have := dc_swc hk85 (show (8 : Int32).toInt = 8 by decide +kernel); have := dc_swc hk92 (show (9 : Int32).toInt = 9 by decide +kernel); have := dc_swc hk109 (show (10 : Int32).toInt = 10 by decide +kernel); omega) (by decide +kernel) ?_
  refine hg_aloadn (pc := 209) (j := 0) (i := 0) (r := (some o)) hC 1 rfl rfl (show decode prog_12_method_21_code 209 = .ok (.aload_n 0, 1) by decide +kernel) ?_
  refine hg_iloadn (pc := 210) (j := 2) (i := 2) hC 0 rfl rfl (show decode prog_12_method_21_code 210 = .ok (.iload_n 2, 1) by decide +kernel) ?_
  refine hg_aloadn (pc := 211) (j := 0) (i := 0) (r := (some o)) hC 1 rfl rfl (show decode prog_12_method_21_code 211 = .ok (.aload_n 0, 1) by decide +kernel) ?_
  refine hg_rgr (pc := 212) (r := (some o)) hC fl_SignalEngine_Reactor_66 (show decode prog_12_method_21_code 212 = .ok (.getfield 66, 3) by decide +kernel) h ?_
  intro e110 h
  refine hg_iloadn (pc := 215) (j := 1) (i := 1) hC 2 rfl rfl (show decode prog_12_method_21_code 215 = .ok (.iload_n 1, 1) by decide +kernel) ?_
  refine hg_rzald (pc := 216) (r := e110) hC (show decode prog_12_method_21_code 216 = .ok (.baload, 1) by decide +kernel) h ?_
  intro e111 h
  obtain ⟨b112, hb113, h⟩ := dc_bind h
  obtain ⟨hb113, hv114⟩ := hg_chk_of (C := R_RE) rfl hb113
  refine hg_kVi (pc := 217) (b := b112) (r := (some o)) (As := [.int e15, .int e111]) (rest := []) (vo := fun q => q.2) (so := fun q => q.1) hC cw_SignalEngine_Reactor_135 (fun q hq => hm_RE_within_ok l D G Z b112 e15 e111 q hq) (Nat.le_of_ble_eq_true rfl) (Nat.le_of_ble_eq_true rfl) hb113 hv114 rfl (Nat.le_of_ble_eq_true rfl) (show decode prog_12_method_21_code 217 = .ok (.invokevirtual 135, 3) by decide +kernel) h ?_
  intro q115 h
  exact hg_iret (pc := 220) hC hR (hF _ (dc_some h)) (show decode prog_12_method_21_code 220 = .ok (.ireturn, 1) by decide +kernel)
noncomputable def hm_RE_putBehind_L42 (G : hg_E) (S : hg_S) (o : Nat) (y0 : Int32) (y1 : Int32) (y2 : Int32) : Option (hg_S) :=
  (hg_chk S (some o) 10).bind fun b1 => (hm_RE_answer G S b1 y2 y1 y0).bind fun q4 => some q4
noncomputable def hm_RE_putBehind (G : hg_E) (S : hg_S) (o : Nat) (p1 : Int32) (p2 : Int32) : Option (hg_S) :=
  (hg_gr S (some o) 10 7).bind fun e5 => (hg_ld S e5 (G.1 0) p1).bind fun e6 => (hg_gr S (some o) 10 7).bind fun e7 => (hg_ld S e7 (G.1 0) p2).bind fun e8 => (hg_gr S (some o) 10 8).bind fun e9 => (hg_ld S e9 (G.1 0) p1).bind fun e10 => if e10 = 0 then ((hg_gr S (some o) 10 8).bind fun e11 => (hg_ld S e11 (G.1 0) p2).bind fun e12 => hm_RE_putBehind_L42 G S o e12 (((e6 &&& (-2)) ||| e8)) p1) else ((hg_gr S (some o) 10 8).bind fun e13 => (hg_ld S e13 (G.1 0) p1).bind fun e14 => hm_RE_putBehind_L42 G S o e14 (((e6 &&& (-2)) ||| e8)) p1)
set_option maxHeartbeats 4000000 in
set_option maxRecDepth 100000 in
/-- SignalEngine$Reactor.putBehind(II)V -/
theorem hm_RE_putBehind_ok (l : Launch) (D : va_G) (G : hg_E) (Z : hg_S) (o : Nat) (p1 : Int32) (p2 : Int32) (q : hg_S) (hq : hm_RE_putBehind G Z o p1 p2 = some q) : hg_C l ⟨"SignalEngine$Reactor", "putBehind", "(II)V"⟩ prog_12_method_18_code 3 none 1 23 D G [.ref o, .int p1, .int p2] Z (.inl (none, q) : hg_O) := by
  refine hg_start (cv := fun q => (.inl (none, q) : hg_O)) hq ?_
  intro F hF h
  refine hg_enter (lv := [(0, va_rf (some o)), (1, .int p1), (2, .int p2)]) (by decide +kernel) (by simp [lg_sl, va_rf_cat, hg_cti, hg_ctr]) (by simp [lv_args, va_rf_cat, va_rf_some, hg_cti, hg_ctr]) ?_
  intro X hC hR
  have lab_42 : ∀ (S : hg_S) (y0 : Int32) (y1 : Int32) (y2 : Int32), dc_wp (hm_RE_putBehind_L42 G S o y0 y1 y2) F → hg_G X l (hg_rm 1 23 Z) D 3 S 42 [(0, va_rf (some o))] [.int y0, .int y1, .int y2, va_rf (some o)] := by
    intro S y0 y1 y2 h
    delta hm_RE_putBehind_L42 at h
    obtain ⟨b1, hb2, h⟩ := dc_bind h
    obtain ⟨hb2, hv3⟩ := hg_chk_of (C := R_RE) rfl hb2
    refine hg_kVv (pc := 42) (b := b1) (r := (some o)) (As := [.int y2, .int y1, .int y0]) (rest := []) (so := fun q => q) hC cw_SignalEngine_Reactor_171 (fun q hq => hm_RE_answer_ok l D G S b1 y2 y1 y0 q hq) (Nat.le_of_ble_eq_true rfl) (Nat.le_of_ble_eq_true rfl) hb2 hv3 rfl (Nat.le_of_ble_eq_true rfl) (show decode prog_12_method_18_code 42 = .ok (.invokevirtual 171, 3) by decide +kernel) h ?_
    intro q4 h
    exact hg_vret (pc := 45) hC hR (hF _ (dc_some h)) (show decode prog_12_method_18_code 45 = .ok (.return_, 1) by decide +kernel)
  show hg_G X l (hg_rm 1 23 Z) D 3 Z 0 [(0, va_rf (some o)), (1, .int p1), (2, .int p2)] []
  have h : dc_wp (hm_RE_putBehind G Z o p1 p2) F := h
  delta hm_RE_putBehind at h
  refine hg_aloadn (pc := 0) (j := 0) (i := 0) (r := (some o)) hC 0 rfl rfl (show decode prog_12_method_18_code 0 = .ok (.aload_n 0, 1) by decide +kernel) ?_
  refine hg_iloadn (pc := 1) (j := 1) (i := 1) hC 1 rfl rfl (show decode prog_12_method_18_code 1 = .ok (.iload_n 1, 1) by decide +kernel) ?_
  refine hg_aloadn (pc := 2) (j := 0) (i := 0) (r := (some o)) hC 0 rfl rfl (show decode prog_12_method_18_code 2 = .ok (.aload_n 0, 1) by decide +kernel) ?_
  refine hg_rgr (pc := 3) (r := (some o)) hC fl_SignalEngine_Reactor_60 (show decode prog_12_method_18_code 3 = .ok (.getfield 60, 3) by decide +kernel) h ?_
  intro e5 h
  refine hg_iloadn (pc := 6) (j := 1) (i := 1) hC 1 rfl rfl (show decode prog_12_method_18_code 6 = .ok (.iload_n 1, 1) by decide +kernel) ?_
  refine hg_riald (pc := 7) (r := e5) hC (show decode prog_12_method_18_code 7 = .ok (.iaload, 1) by decide +kernel) h ?_
  intro e6 h
  refine hg_bipush (pc := 8) (v := (-2)) hC (show decode prog_12_method_18_code 8 = .ok (.bipush (-2), 2) by decide +kernel) (by decide +kernel) ?_
  refine hg_iand (pc := 10) hC (show decode prog_12_method_18_code 10 = .ok (.iand, 1) by decide +kernel) ?_
  refine hg_aloadn (pc := 11) (j := 0) (i := 0) (r := (some o)) hC 0 rfl rfl (show decode prog_12_method_18_code 11 = .ok (.aload_n 0, 1) by decide +kernel) ?_
  refine hg_rgr (pc := 12) (r := (some o)) hC fl_SignalEngine_Reactor_60 (show decode prog_12_method_18_code 12 = .ok (.getfield 60, 3) by decide +kernel) h ?_
  intro e7 h
  refine hg_iloadn (pc := 15) (j := 2) (i := 2) hC 2 rfl rfl (show decode prog_12_method_18_code 15 = .ok (.iload_n 2, 1) by decide +kernel) ?_
  refine hg_riald (pc := 16) (r := e7) hC (show decode prog_12_method_18_code 16 = .ok (.iaload, 1) by decide +kernel) h ?_
  intro e8 h
  refine hg_ior (pc := 17) hC (show decode prog_12_method_18_code 17 = .ok (.ior, 1) by decide +kernel) ?_
  refine hg_aloadn (pc := 18) (j := 0) (i := 0) (r := (some o)) hC 0 rfl rfl (show decode prog_12_method_18_code 18 = .ok (.aload_n 0, 1) by decide +kernel) ?_
  refine hg_rgr (pc := 19) (r := (some o)) hC fl_SignalEngine_Reactor_63 (show decode prog_12_method_18_code 19 = .ok (.getfield 63, 3) by decide +kernel) h ?_
  intro e9 h
  refine hg_iloadn (pc := 22) (j := 1) (i := 1) hC 1 rfl rfl (show decode prog_12_method_18_code 22 = .ok (.iload_n 1, 1) by decide +kernel) ?_
  refine hg_riald (pc := 23) (r := e9) hC (show decode prog_12_method_18_code 23 = .ok (.iaload, 1) by decide +kernel) h ?_
  intro e10 h
  refine hg_if_ne (pc := 24) (tgt := 36) hC (show decode prog_12_method_18_code 24 = .ok (.ifCond .ne 12, 3) by decide +kernel) (by decide +kernel) h ?_ ?_
  · intro h
    refine hg_aloadn (pc := 27) (j := 0) (i := 0) (r := (some o)) hC 0 rfl rfl (show decode prog_12_method_18_code 27 = .ok (.aload_n 0, 1) by decide +kernel) ?_
    refine hg_rgr (pc := 28) (r := (some o)) hC fl_SignalEngine_Reactor_63 (show decode prog_12_method_18_code 28 = .ok (.getfield 63, 3) by decide +kernel) h ?_
    intro e11 h
    refine hg_iloadn (pc := 31) (j := 2) (i := 2) hC 2 rfl rfl (show decode prog_12_method_18_code 31 = .ok (.iload_n 2, 1) by decide +kernel) ?_
    refine hg_riald (pc := 32) (r := e11) hC (show decode prog_12_method_18_code 32 = .ok (.iaload, 1) by decide +kernel) h ?_
    intro e12 h
    refine hg_goto (pc := 33) (tgt := 42) hC (show decode prog_12_method_18_code 33 = .ok (.goto 9, 3) by decide +kernel) (by decide +kernel) ?_
    exact hg_sub [0] rfl (lab_42 Z e12 (((e6 &&& (-2)) ||| e8)) p1 h)
  · intro h
    refine hg_aloadn (pc := 36) (j := 0) (i := 0) (r := (some o)) hC 0 rfl rfl (show decode prog_12_method_18_code 36 = .ok (.aload_n 0, 1) by decide +kernel) ?_
    refine hg_rgr (pc := 37) (r := (some o)) hC fl_SignalEngine_Reactor_63 (show decode prog_12_method_18_code 37 = .ok (.getfield 63, 3) by decide +kernel) h ?_
    intro e13 h
    refine hg_iloadn (pc := 40) (j := 1) (i := 1) hC 1 rfl rfl (show decode prog_12_method_18_code 40 = .ok (.iload_n 1, 1) by decide +kernel) ?_
    refine hg_riald (pc := 41) (r := e13) hC (show decode prog_12_method_18_code 41 = .ok (.iaload, 1) by decide +kernel) h ?_
    intro e14 h
    exact hg_sub [0] rfl (lab_42 Z e14 (((e6 &&& (-2)) ||| e8)) p1 h)
noncomputable def hm_RE_comeBack (G : hg_E) (S : hg_S) (o : Nat) (p1 : Int32) (p2 : Int32) : Option (hg_S × Int32) :=
  (hg_pf S (some o) 10 15 (.int 0)).bind fun S1 => (hg_pf S1 (some o) 10 16 (.int (-1))).bind fun S2 => (hg_pf S2 (some o) 10 17 (.int 0)).bind fun S3 => (hg_chk S3 (some o) 10).bind fun b4 => (hm_RE_putBehind G S3 b4 p1 p2).bind fun q7 => some (q7, (-1))
set_option maxHeartbeats 4000000 in
set_option maxRecDepth 100000 in
/-- SignalEngine$Reactor.comeBack(II)I -/
theorem hm_RE_comeBack_ok (l : Launch) (D : va_G) (G : hg_E) (Z : hg_S) (o : Nat) (p1 : Int32) (p2 : Int32) (q : hg_S × Int32) (hq : hm_RE_comeBack G Z o p1 p2 = some q) : hg_C l ⟨"SignalEngine$Reactor", "comeBack", "(II)I"⟩ prog_12_method_26_code 3 (some (.int)) 2 45 D G [.ref o, .int p1, .int p2] Z (.inl (some (.int q.2), q.1) : hg_O) := by
  refine hg_start (cv := fun q => (.inl (some (.int q.2), q.1) : hg_O)) hq ?_
  intro F hF h
  refine hg_enter (lv := [(0, va_rf (some o)), (1, .int p1), (2, .int p2)]) (by decide +kernel) (by simp [lg_sl, va_rf_cat, hg_cti, hg_ctr]) (by simp [lv_args, va_rf_cat, va_rf_some, hg_cti, hg_ctr]) ?_
  intro X hC hR
  show hg_G X l (hg_rm 2 45 Z) D 3 Z 0 [(0, va_rf (some o)), (1, .int p1), (2, .int p2)] []
  have h : dc_wp (hm_RE_comeBack G Z o p1 p2) F := h
  delta hm_RE_comeBack at h
  refine hg_aloadn (pc := 0) (j := 0) (i := 0) (r := (some o)) hC 0 rfl rfl (show decode prog_12_method_26_code 0 = .ok (.aload_n 0, 1) by decide +kernel) ?_
  refine hg_iconst (pc := 1) (v := 0) hC (show decode prog_12_method_26_code 1 = .ok (.iconst 0, 1) by decide +kernel) (by decide +kernel) ?_
  refine hg_rput (pc := 2) (r := (some o)) (v := .int 0) hC fp_SignalEngine_Reactor_126 (dc_nar (Or.inl rfl)).2.1 (dc_nar (Or.inl rfl)).2.2 (show decode prog_12_method_26_code 2 = .ok (.putfield 126, 3) by decide +kernel) h ?_
  intro S1 h
  refine hg_aloadn (pc := 5) (j := 0) (i := 0) (r := (some o)) hC 0 rfl rfl (show decode prog_12_method_26_code 5 = .ok (.aload_n 0, 1) by decide +kernel) ?_
  refine hg_iconst (pc := 6) (v := (-1)) hC (show decode prog_12_method_26_code 6 = .ok (.iconst (-1), 1) by decide +kernel) (by decide +kernel) ?_
  refine hg_rput (pc := 7) (r := (some o)) (v := .int (-1)) hC fp_SignalEngine_Reactor_129 rfl rfl (show decode prog_12_method_26_code 7 = .ok (.putfield 129, 3) by decide +kernel) h ?_
  intro S2 h
  refine hg_aloadn (pc := 10) (j := 0) (i := 0) (r := (some o)) hC 0 rfl rfl (show decode prog_12_method_26_code 10 = .ok (.aload_n 0, 1) by decide +kernel) ?_
  refine hg_iconst (pc := 11) (v := 0) hC (show decode prog_12_method_26_code 11 = .ok (.iconst 0, 1) by decide +kernel) (by decide +kernel) ?_
  refine hg_rput (pc := 12) (r := (some o)) (v := .int 0) hC fp_SignalEngine_Reactor_132 rfl rfl (show decode prog_12_method_26_code 12 = .ok (.putfield 132, 3) by decide +kernel) h ?_
  intro S3 h
  refine hg_aloadn (pc := 15) (j := 0) (i := 0) (r := (some o)) hC 0 rfl rfl (show decode prog_12_method_26_code 15 = .ok (.aload_n 0, 1) by decide +kernel) ?_
  refine hg_iloadn (pc := 16) (j := 1) (i := 1) hC 1 rfl rfl (show decode prog_12_method_26_code 16 = .ok (.iload_n 1, 1) by decide +kernel) ?_
  refine hg_iloadn (pc := 17) (j := 2) (i := 2) hC 2 rfl rfl (show decode prog_12_method_26_code 17 = .ok (.iload_n 2, 1) by decide +kernel) ?_
  obtain ⟨b4, hb5, h⟩ := dc_bind h
  obtain ⟨hb5, hv6⟩ := hg_chk_of (C := R_RE) rfl hb5
  refine hg_kVv (pc := 18) (b := b4) (r := (some o)) (As := [.int p1, .int p2]) (rest := []) (so := fun q => q) hC cw_SignalEngine_Reactor_194 (fun q hq => hm_RE_putBehind_ok l D G S3 b4 p1 p2 q hq) (Nat.le_of_ble_eq_true rfl) (Nat.le_of_ble_eq_true rfl) hb5 hv6 rfl (Nat.le_of_ble_eq_true rfl) (show decode prog_12_method_26_code 18 = .ok (.invokevirtual 194, 3) by decide +kernel) h ?_
  intro q7 h
  refine hg_iconst (pc := 21) (v := (-1)) hC (show decode prog_12_method_26_code 21 = .ok (.iconst (-1), 1) by decide +kernel) (by decide +kernel) ?_
  exact hg_iret (pc := 22) hC hR (hF _ (dc_some h)) (show decode prog_12_method_26_code 22 = .ok (.ireturn, 1) by decide +kernel)
noncomputable def hm_RE_goOnPresent (G : hg_E) (S : hg_S) (o : Nat) (p1 : Int32) (p2 : Int32) : Option (hg_S × Int32) :=
  (hg_gr S (some o) 10 6).bind fun e1 => (hg_ld S e1 (G.1 0) p1).bind fun e2 => if e2 = 2 then ((hg_gr S (some o) 10 0).bind fun e3 => (hg_gr S e3 9 8).bind fun e4 => (hg_ld S e4 (G.1 0) p1).bind fun e5 => if p2 = e5 then ((hg_gr S (some o) 10 0).bind fun e6 => (hg_gr S e6 9 9).bind fun e7 => (hg_ld S e7 (G.1 0) p1).bind fun e8 => (hg_chk S (some o) 10).bind fun b9 => (hm_RE_within G S b9 e8 (0 : Int32)).bind fun q12 => some (q12.1, q12.2)) else ((hg_gr S (some o) 10 7).bind fun e13 => (hg_gr S (some o) 10 0).bind fun e14 => (hg_gr S e14 9 8).bind fun e15 => (hg_ld S e15 (G.1 0) p1).bind fun e16 => (hg_ld S e13 (G.1 0) e16).bind fun e17 => (hg_gr S (some o) 10 7).bind fun e18 => (hg_ld S e18 (G.1 0) p2).bind fun e19 => (hg_chk S (some o) 10).bind fun b20 => (hm_RE_answer G S b20 p1 (e17 ||| e19) ((-1) : Int32)).bind fun q23 => some (q23, (-1)))) else ((hg_gr S (some o) 10 7).bind fun e24 => (hg_ld S e24 (G.1 0) p2).bind fun e25 => (hg_gr S (some o) 10 8).bind fun e26 => (hg_ld S e26 (G.1 0) p2).bind fun e27 => (hg_chk S (some o) 10).bind fun b28 => (hm_RE_answer G S b28 p1 e25 e27).bind fun q31 => some (q31, (-1)))
set_option maxHeartbeats 4000000 in
set_option maxRecDepth 100000 in
/-- SignalEngine$Reactor.goOnPresent(II)I -/
theorem hm_RE_goOnPresent_ok (l : Launch) (D : va_G) (G : hg_E) (Z : hg_S) (o : Nat) (p1 : Int32) (p2 : Int32) (q : hg_S × Int32) (hq : hm_RE_goOnPresent G Z o p1 p2 = some q) : hg_C l ⟨"SignalEngine$Reactor", "goOnPresent", "(II)I"⟩ prog_12_method_17_code 3 (some (.int)) 1 23 D G [.ref o, .int p1, .int p2] Z (.inl (some (.int q.2), q.1) : hg_O) := by
  refine hg_start (cv := fun q => (.inl (some (.int q.2), q.1) : hg_O)) hq ?_
  intro F hF h
  refine hg_enter (lv := [(0, va_rf (some o)), (1, .int p1), (2, .int p2)]) (by decide +kernel) (by simp [lg_sl, va_rf_cat, hg_cti, hg_ctr]) (by simp [lv_args, va_rf_cat, va_rf_some, hg_cti, hg_ctr]) ?_
  intro X hC hR
  show hg_G X l (hg_rm 1 23 Z) D 3 Z 0 [(0, va_rf (some o)), (1, .int p1), (2, .int p2)] []
  have h : dc_wp (hm_RE_goOnPresent G Z o p1 p2) F := h
  delta hm_RE_goOnPresent at h
  refine hg_aloadn (pc := 0) (j := 0) (i := 0) (r := (some o)) hC 0 rfl rfl (show decode prog_12_method_17_code 0 = .ok (.aload_n 0, 1) by decide +kernel) ?_
  refine hg_rgr (pc := 1) (r := (some o)) hC fl_SignalEngine_Reactor_57 (show decode prog_12_method_17_code 1 = .ok (.getfield 57, 3) by decide +kernel) h ?_
  intro e1 h
  refine hg_iloadn (pc := 4) (j := 1) (i := 1) hC 1 rfl rfl (show decode prog_12_method_17_code 4 = .ok (.iload_n 1, 1) by decide +kernel) ?_
  refine hg_riald (pc := 5) (r := e1) hC (show decode prog_12_method_17_code 5 = .ok (.iaload, 1) by decide +kernel) h ?_
  intro e2 h
  refine hg_iconst (pc := 6) (v := 2) hC (show decode prog_12_method_17_code 6 = .ok (.iconst 2, 1) by decide +kernel) (by decide +kernel) ?_
  refine hg_icmp_eq (pc := 7) (tgt := 29) hC (show decode prog_12_method_17_code 7 = .ok (.if_icmp .eq 22, 3) by decide +kernel) (by decide +kernel) h ?_ ?_
  · intro h
    refine hg_iloadn (pc := 29) (j := 2) (i := 2) hC 2 rfl rfl (show decode prog_12_method_17_code 29 = .ok (.iload_n 2, 1) by decide +kernel) ?_
    refine hg_aloadn (pc := 30) (j := 0) (i := 0) (r := (some o)) hC 0 rfl rfl (show decode prog_12_method_17_code 30 = .ok (.aload_n 0, 1) by decide +kernel) ?_
    refine hg_rgr (pc := 31) (r := (some o)) hC fl_SignalEngine_Reactor_9 (show decode prog_12_method_17_code 31 = .ok (.getfield 9, 3) by decide +kernel) h ?_
    intro e3 h
    refine hg_rgr (pc := 34) (r := e3) hC fl_SignalEngine_Reactor_182 (show decode prog_12_method_17_code 34 = .ok (.getfield 182, 3) by decide +kernel) h ?_
    intro e4 h
    refine hg_iloadn (pc := 37) (j := 1) (i := 1) hC 1 rfl rfl (show decode prog_12_method_17_code 37 = .ok (.iload_n 1, 1) by decide +kernel) ?_
    refine hg_riald (pc := 38) (r := e4) hC (show decode prog_12_method_17_code 38 = .ok (.iaload, 1) by decide +kernel) h ?_
    intro e5 h
    refine hg_icmp_ne (pc := 39) (tgt := 57) hC (show decode prog_12_method_17_code 39 = .ok (.if_icmp .ne 18, 3) by decide +kernel) (by decide +kernel) h ?_ ?_
    · intro h
      refine hg_aloadn (pc := 42) (j := 0) (i := 0) (r := (some o)) hC 0 rfl rfl (show decode prog_12_method_17_code 42 = .ok (.aload_n 0, 1) by decide +kernel) ?_
      refine hg_aloadn (pc := 43) (j := 0) (i := 0) (r := (some o)) hC 0 rfl rfl (show decode prog_12_method_17_code 43 = .ok (.aload_n 0, 1) by decide +kernel) ?_
      refine hg_rgr (pc := 44) (r := (some o)) hC fl_SignalEngine_Reactor_9 (show decode prog_12_method_17_code 44 = .ok (.getfield 9, 3) by decide +kernel) h ?_
      intro e6 h
      refine hg_rgr (pc := 47) (r := e6) hC fl_SignalEngine_Reactor_188 (show decode prog_12_method_17_code 47 = .ok (.getfield 188, 3) by decide +kernel) h ?_
      intro e7 h
      refine hg_iloadn (pc := 50) (j := 1) (i := 1) hC 1 rfl rfl (show decode prog_12_method_17_code 50 = .ok (.iload_n 1, 1) by decide +kernel) ?_
      refine hg_riald (pc := 51) (r := e7) hC (show decode prog_12_method_17_code 51 = .ok (.iaload, 1) by decide +kernel) h ?_
      intro e8 h
      refine hg_iconst (pc := 52) (v := 0) hC (show decode prog_12_method_17_code 52 = .ok (.iconst 0, 1) by decide +kernel) (by decide +kernel) ?_
      obtain ⟨b9, hb10, h⟩ := dc_bind h
      obtain ⟨hb10, hv11⟩ := hg_chk_of (C := R_RE) rfl hb10
      refine hg_kVi (pc := 53) (b := b9) (r := (some o)) (As := [.int e8, .int 0]) (rest := []) (vo := fun q => q.2) (so := fun q => q.1) hC cw_SignalEngine_Reactor_135 (fun q hq => hm_RE_within_ok l D G Z b9 e8 (0 : Int32) q hq) (Nat.le_of_ble_eq_true rfl) (Nat.le_of_ble_eq_true rfl) hb10 hv11 rfl (Nat.le_of_ble_eq_true rfl) (show decode prog_12_method_17_code 53 = .ok (.invokevirtual 135, 3) by decide +kernel) h ?_
      intro q12 h
      exact hg_iret (pc := 56) hC hR (hF _ (dc_some h)) (show decode prog_12_method_17_code 56 = .ok (.ireturn, 1) by decide +kernel)
    · intro h
      refine hg_aloadn (pc := 57) (j := 0) (i := 0) (r := (some o)) hC 0 rfl rfl (show decode prog_12_method_17_code 57 = .ok (.aload_n 0, 1) by decide +kernel) ?_
      refine hg_iloadn (pc := 58) (j := 1) (i := 1) hC 1 rfl rfl (show decode prog_12_method_17_code 58 = .ok (.iload_n 1, 1) by decide +kernel) ?_
      refine hg_aloadn (pc := 59) (j := 0) (i := 0) (r := (some o)) hC 0 rfl rfl (show decode prog_12_method_17_code 59 = .ok (.aload_n 0, 1) by decide +kernel) ?_
      refine hg_rgr (pc := 60) (r := (some o)) hC fl_SignalEngine_Reactor_60 (show decode prog_12_method_17_code 60 = .ok (.getfield 60, 3) by decide +kernel) h ?_
      intro e13 h
      refine hg_aloadn (pc := 63) (j := 0) (i := 0) (r := (some o)) hC 0 rfl rfl (show decode prog_12_method_17_code 63 = .ok (.aload_n 0, 1) by decide +kernel) ?_
      refine hg_rgr (pc := 64) (r := (some o)) hC fl_SignalEngine_Reactor_9 (show decode prog_12_method_17_code 64 = .ok (.getfield 9, 3) by decide +kernel) h ?_
      intro e14 h
      refine hg_rgr (pc := 67) (r := e14) hC fl_SignalEngine_Reactor_182 (show decode prog_12_method_17_code 67 = .ok (.getfield 182, 3) by decide +kernel) h ?_
      intro e15 h
      refine hg_iloadn (pc := 70) (j := 1) (i := 1) hC 1 rfl rfl (show decode prog_12_method_17_code 70 = .ok (.iload_n 1, 1) by decide +kernel) ?_
      refine hg_riald (pc := 71) (r := e15) hC (show decode prog_12_method_17_code 71 = .ok (.iaload, 1) by decide +kernel) h ?_
      intro e16 h
      refine hg_riald (pc := 72) (r := e13) hC (show decode prog_12_method_17_code 72 = .ok (.iaload, 1) by decide +kernel) h ?_
      intro e17 h
      refine hg_aloadn (pc := 73) (j := 0) (i := 0) (r := (some o)) hC 0 rfl rfl (show decode prog_12_method_17_code 73 = .ok (.aload_n 0, 1) by decide +kernel) ?_
      refine hg_rgr (pc := 74) (r := (some o)) hC fl_SignalEngine_Reactor_60 (show decode prog_12_method_17_code 74 = .ok (.getfield 60, 3) by decide +kernel) h ?_
      intro e18 h
      refine hg_iloadn (pc := 77) (j := 2) (i := 2) hC 2 rfl rfl (show decode prog_12_method_17_code 77 = .ok (.iload_n 2, 1) by decide +kernel) ?_
      refine hg_riald (pc := 78) (r := e18) hC (show decode prog_12_method_17_code 78 = .ok (.iaload, 1) by decide +kernel) h ?_
      intro e19 h
      refine hg_ior (pc := 79) hC (show decode prog_12_method_17_code 79 = .ok (.ior, 1) by decide +kernel) ?_
      refine hg_iconst (pc := 80) (v := (-1)) hC (show decode prog_12_method_17_code 80 = .ok (.iconst (-1), 1) by decide +kernel) (by decide +kernel) ?_
      obtain ⟨b20, hb21, h⟩ := dc_bind h
      obtain ⟨hb21, hv22⟩ := hg_chk_of (C := R_RE) rfl hb21
      refine hg_kVv (pc := 81) (b := b20) (r := (some o)) (As := [.int p1, .int (e17 ||| e19), .int (-1)]) (rest := []) (so := fun q => q) hC cw_SignalEngine_Reactor_171 (fun q hq => hm_RE_answer_ok l D G Z b20 p1 (e17 ||| e19) ((-1) : Int32) q hq) (Nat.le_of_ble_eq_true rfl) (Nat.le_of_ble_eq_true rfl) hb21 hv22 rfl (Nat.le_of_ble_eq_true rfl) (show decode prog_12_method_17_code 81 = .ok (.invokevirtual 171, 3) by decide +kernel) h ?_
      intro q23 h
      refine hg_iconst (pc := 84) (v := (-1)) hC (show decode prog_12_method_17_code 84 = .ok (.iconst (-1), 1) by decide +kernel) (by decide +kernel) ?_
      exact hg_iret (pc := 85) hC hR (hF _ (dc_some h)) (show decode prog_12_method_17_code 85 = .ok (.ireturn, 1) by decide +kernel)
  · intro h
    refine hg_aloadn (pc := 10) (j := 0) (i := 0) (r := (some o)) hC 0 rfl rfl (show decode prog_12_method_17_code 10 = .ok (.aload_n 0, 1) by decide +kernel) ?_
    refine hg_iloadn (pc := 11) (j := 1) (i := 1) hC 1 rfl rfl (show decode prog_12_method_17_code 11 = .ok (.iload_n 1, 1) by decide +kernel) ?_
    refine hg_aloadn (pc := 12) (j := 0) (i := 0) (r := (some o)) hC 0 rfl rfl (show decode prog_12_method_17_code 12 = .ok (.aload_n 0, 1) by decide +kernel) ?_
    refine hg_rgr (pc := 13) (r := (some o)) hC fl_SignalEngine_Reactor_60 (show decode prog_12_method_17_code 13 = .ok (.getfield 60, 3) by decide +kernel) h ?_
    intro e24 h
    refine hg_iloadn (pc := 16) (j := 2) (i := 2) hC 2 rfl rfl (show decode prog_12_method_17_code 16 = .ok (.iload_n 2, 1) by decide +kernel) ?_
    refine hg_riald (pc := 17) (r := e24) hC (show decode prog_12_method_17_code 17 = .ok (.iaload, 1) by decide +kernel) h ?_
    intro e25 h
    refine hg_aloadn (pc := 18) (j := 0) (i := 0) (r := (some o)) hC 0 rfl rfl (show decode prog_12_method_17_code 18 = .ok (.aload_n 0, 1) by decide +kernel) ?_
    refine hg_rgr (pc := 19) (r := (some o)) hC fl_SignalEngine_Reactor_63 (show decode prog_12_method_17_code 19 = .ok (.getfield 63, 3) by decide +kernel) h ?_
    intro e26 h
    refine hg_iloadn (pc := 22) (j := 2) (i := 2) hC 2 rfl rfl (show decode prog_12_method_17_code 22 = .ok (.iload_n 2, 1) by decide +kernel) ?_
    refine hg_riald (pc := 23) (r := e26) hC (show decode prog_12_method_17_code 23 = .ok (.iaload, 1) by decide +kernel) h ?_
    intro e27 h
    obtain ⟨b28, hb29, h⟩ := dc_bind h
    obtain ⟨hb29, hv30⟩ := hg_chk_of (C := R_RE) rfl hb29
    refine hg_kVv (pc := 24) (b := b28) (r := (some o)) (As := [.int p1, .int e25, .int e27]) (rest := []) (so := fun q => q) hC cw_SignalEngine_Reactor_171 (fun q hq => hm_RE_answer_ok l D G Z b28 p1 e25 e27 q hq) (Nat.le_of_ble_eq_true rfl) (Nat.le_of_ble_eq_true rfl) hb29 hv30 rfl (Nat.le_of_ble_eq_true rfl) (show decode prog_12_method_17_code 24 = .ok (.invokevirtual 171, 3) by decide +kernel) h ?_
    intro q31 h
    refine hg_iconst (pc := 27) (v := (-1)) hC (show decode prog_12_method_17_code 27 = .ok (.iconst (-1), 1) by decide +kernel) (by decide +kernel) ?_
    exact hg_iret (pc := 28) hC hR (hF _ (dc_some h)) (show decode prog_12_method_17_code 28 = .ok (.ireturn, 1) by decide +kernel)
noncomputable def hm_RE_closeBoth_L88 (G : hg_E) (S : hg_S) (o : Nat) (y0 : Int32) (y1 : Int32) (y2 : Int32) : Option (hg_S) :=
  (hg_chk S (some o) 10).bind fun b1 => (hm_RE_answer G S b1 y2 y1 y0).bind fun q4 => some q4
noncomputable def hm_RE_closeBoth_L45 (G : hg_E) (S : hg_S) (o : Nat) (x1 : Int32) (x2 : Int32) (x3 : Int32) (y0 : Int32) : Option (hg_S) :=
  (hg_gr S (some o) 10 7).bind fun e5 => (hg_ld S e5 (G.1 0) x2).bind fun e6 => (hg_gr S (some o) 10 7).bind fun e7 => (hg_ld S e7 (G.1 0) x3).bind fun e8 => (hm_SE_greaterOfPairs G S e6 e8).bind fun q9 => if y0 = 0 then (hm_RE_closeBoth_L88 G S o (-1) q9 x1) else ((hg_gr S (some o) 10 8).bind fun e10 => (hg_ld S e10 (G.1 0) x2).bind fun e11 => (hg_gr S (some o) 10 8).bind fun e12 => (hg_ld S e12 (G.1 0) x3).bind fun e13 => hm_RE_closeBoth_L88 G S o (dc_max e11 e13) q9 x1)
noncomputable def hm_RE_closeBoth_L44 (G : hg_E) (S : hg_S) (o : Nat) (x1 : Int32) (x2 : Int32) (x3 : Int32) : Option (hg_S) :=
  hm_RE_closeBoth_L45 G S o x1 x2 x3 0
noncomputable def hm_RE_closeBoth (G : hg_E) (S : hg_S) (o : Nat) (p1 : Int32) : Option (hg_S) :=
  (hg_gr S (some o) 10 0).bind fun e14 => (hg_gr S e14 9 8).bind fun e15 => (hg_ld S e15 (G.1 0) p1).bind fun e16 => (hg_gr S (some o) 10 0).bind fun e17 => (hg_gr S e17 9 9).bind fun e18 => (hg_ld S e18 (G.1 0) p1).bind fun e19 => (hg_gr S (some o) 10 8).bind fun e20 => (hg_ld S e20 (G.1 0) e16).bind fun e21 => if e21 = (-1) then (hm_RE_closeBoth_L44 G S o p1 e16 e19) else ((hg_gr S (some o) 10 8).bind fun e22 => (hg_ld S e22 (G.1 0) e19).bind fun e23 => if e23 = (-1) then (hm_RE_closeBoth_L44 G S o p1 e16 e19) else (hm_RE_closeBoth_L45 G S o p1 e16 e19 1))
set_option maxHeartbeats 4000000 in
set_option maxRecDepth 100000 in
/-- SignalEngine$Reactor.closeBoth(I)V -/
theorem hm_RE_closeBoth_ok (l : Launch) (D : va_G) (G : hg_E) (Z : hg_S) (o : Nat) (p1 : Int32) (q : hg_S) (hq : hm_RE_closeBoth G Z o p1 = some q) : hg_C l ⟨"SignalEngine$Reactor", "closeBoth", "(I)V"⟩ prog_12_method_19_code 5 none 2 41 D G [.ref o, .int p1] Z (.inl (none, q) : hg_O) := by
  refine hg_start (cv := fun q => (.inl (none, q) : hg_O)) hq ?_
  intro F hF h
  refine hg_enter (lv := [(0, va_rf (some o)), (1, .int p1)]) (by decide +kernel) (by simp [lg_sl, va_rf_cat, hg_cti, hg_ctr]) (by simp [lv_args, va_rf_cat, va_rf_some, hg_cti, hg_ctr]) ?_
  intro X hC hR
  have lab_88 : ∀ (S : hg_S) (y0 : Int32) (y1 : Int32) (y2 : Int32), dc_wp (hm_RE_closeBoth_L88 G S o y0 y1 y2) F → hg_G X l (hg_rm 2 41 Z) D 5 S 88 [(0, va_rf (some o))] [.int y0, .int y1, .int y2, va_rf (some o)] := by
    intro S y0 y1 y2 h
    delta hm_RE_closeBoth_L88 at h
    obtain ⟨b1, hb2, h⟩ := dc_bind h
    obtain ⟨hb2, hv3⟩ := hg_chk_of (C := R_RE) rfl hb2
    refine hg_kVv (pc := 88) (b := b1) (r := (some o)) (As := [.int y2, .int y1, .int y0]) (rest := []) (so := fun q => q) hC cw_SignalEngine_Reactor_171 (fun q hq => hm_RE_answer_ok l D G S b1 y2 y1 y0 q hq) (Nat.le_of_ble_eq_true rfl) (Nat.le_of_ble_eq_true rfl) hb2 hv3 rfl (Nat.le_of_ble_eq_true rfl) (show decode prog_12_method_19_code 88 = .ok (.invokevirtual 171, 3) by decide +kernel) h ?_
    intro q4 h
    exact hg_vret (pc := 91) hC hR (hF _ (dc_some h)) (show decode prog_12_method_19_code 91 = .ok (.return_, 1) by decide +kernel)
  have lab_45 : ∀ (S : hg_S) (x1 : Int32) (x2 : Int32) (x3 : Int32) (y0 : Int32), dc_wp (hm_RE_closeBoth_L45 G S o x1 x2 x3 y0) F → hg_G X l (hg_rm 2 41 Z) D 5 S 45 [(0, va_rf (some o)), (1, .int x1), (2, .int x2), (3, .int x3)] [.int y0] := by
    intro S x1 x2 x3 y0 h
    delta hm_RE_closeBoth_L45 at h
    refine hg_istore (pc := 45) (i := 4) (lv' := [(4, .int y0), (0, va_rf (some o)), (1, .int x1), (2, .int x2), (3, .int x3)]) hC (Nat.le_of_ble_eq_true rfl) rfl (show decode prog_12_method_19_code 45 = .ok (.istore 4, 2) by decide +kernel) ?_
    refine hg_aloadn (pc := 47) (j := 0) (i := 0) (r := (some o)) hC 1 rfl rfl (show decode prog_12_method_19_code 47 = .ok (.aload_n 0, 1) by decide +kernel) ?_
    refine hg_iloadn (pc := 48) (j := 1) (i := 1) hC 2 rfl rfl (show decode prog_12_method_19_code 48 = .ok (.iload_n 1, 1) by decide +kernel) ?_
    refine hg_aloadn (pc := 49) (j := 0) (i := 0) (r := (some o)) hC 1 rfl rfl (show decode prog_12_method_19_code 49 = .ok (.aload_n 0, 1) by decide +kernel) ?_
    refine hg_rgr (pc := 50) (r := (some o)) hC fl_SignalEngine_Reactor_60 (show decode prog_12_method_19_code 50 = .ok (.getfield 60, 3) by decide +kernel) h ?_
    intro e5 h
    refine hg_iloadn (pc := 53) (j := 2) (i := 2) hC 3 rfl rfl (show decode prog_12_method_19_code 53 = .ok (.iload_n 2, 1) by decide +kernel) ?_
    refine hg_riald (pc := 54) (r := e5) hC (show decode prog_12_method_19_code 54 = .ok (.iaload, 1) by decide +kernel) h ?_
    intro e6 h
    refine hg_aloadn (pc := 55) (j := 0) (i := 0) (r := (some o)) hC 1 rfl rfl (show decode prog_12_method_19_code 55 = .ok (.aload_n 0, 1) by decide +kernel) ?_
    refine hg_rgr (pc := 56) (r := (some o)) hC fl_SignalEngine_Reactor_60 (show decode prog_12_method_19_code 56 = .ok (.getfield 60, 3) by decide +kernel) h ?_
    intro e7 h
    refine hg_iloadn (pc := 59) (j := 3) (i := 3) hC 4 rfl rfl (show decode prog_12_method_19_code 59 = .ok (.iload_n 3, 1) by decide +kernel) ?_
    refine hg_riald (pc := 60) (r := e7) hC (show decode prog_12_method_19_code 60 = .ok (.iaload, 1) by decide +kernel) h ?_
    intro e8 h
    refine hg_kNi (pc := 61) (As := [.int e6, .int e8]) (rest := [.int x1, va_rf (some o)]) (vo := fun q => q) (so := fun q => S) hC cw_SignalEngine_Reactor_204 (fun q hq => hm_SE_greaterOfPairs_ok l D G S e6 e8 q hq) (Nat.le_of_ble_eq_true rfl) (Nat.le_of_ble_eq_true rfl) rfl (Nat.le_of_ble_eq_true rfl) (show decode prog_12_method_19_code 61 = .ok (.invokestatic 204, 3) by decide +kernel) h ?_
    intro q9 h
    refine hg_iload (pc := 64) (i := 4) hC 0 rfl (show decode prog_12_method_19_code 64 = .ok (.iload 4, 2) by decide +kernel) ?_
    refine hg_if_eq (pc := 66) (tgt := 87) hC (show decode prog_12_method_19_code 66 = .ok (.ifCond .eq 21, 3) by decide +kernel) (by decide +kernel) h ?_ ?_
    · intro h
      refine hg_iconst (pc := 87) (v := (-1)) hC (show decode prog_12_method_19_code 87 = .ok (.iconst (-1), 1) by decide +kernel) (by decide +kernel) ?_
      exact hg_sub [1] rfl (lab_88 S (-1) q9 x1 h)
    · intro h
      refine hg_aloadn (pc := 69) (j := 0) (i := 0) (r := (some o)) hC 1 rfl rfl (show decode prog_12_method_19_code 69 = .ok (.aload_n 0, 1) by decide +kernel) ?_
      refine hg_rgr (pc := 70) (r := (some o)) hC fl_SignalEngine_Reactor_63 (show decode prog_12_method_19_code 70 = .ok (.getfield 63, 3) by decide +kernel) h ?_
      intro e10 h
      refine hg_iloadn (pc := 73) (j := 2) (i := 2) hC 3 rfl rfl (show decode prog_12_method_19_code 73 = .ok (.iload_n 2, 1) by decide +kernel) ?_
      refine hg_riald (pc := 74) (r := e10) hC (show decode prog_12_method_19_code 74 = .ok (.iaload, 1) by decide +kernel) h ?_
      intro e11 h
      refine hg_aloadn (pc := 75) (j := 0) (i := 0) (r := (some o)) hC 1 rfl rfl (show decode prog_12_method_19_code 75 = .ok (.aload_n 0, 1) by decide +kernel) ?_
      refine hg_rgr (pc := 76) (r := (some o)) hC fl_SignalEngine_Reactor_63 (show decode prog_12_method_19_code 76 = .ok (.getfield 63, 3) by decide +kernel) h ?_
      intro e12 h
      refine hg_iloadn (pc := 79) (j := 3) (i := 3) hC 4 rfl rfl (show decode prog_12_method_19_code 79 = .ok (.iload_n 3, 1) by decide +kernel) ?_
      refine hg_riald (pc := 80) (r := e12) hC (show decode prog_12_method_19_code 80 = .ok (.iaload, 1) by decide +kernel) h ?_
      intro e13 h
      refine hg_mmax (pc := 81) hC w_1269 w_633 w_4 w_634 (Nat.le_of_ble_eq_true rfl) (Nat.le_of_ble_eq_true rfl) (show decode prog_12_method_19_code 81 = .ok (.invokestatic 207, 3) by decide +kernel) ?_
      refine hg_goto (pc := 84) (tgt := 88) hC (show decode prog_12_method_19_code 84 = .ok (.goto 4, 3) by decide +kernel) (by decide +kernel) ?_
      exact hg_sub [1] rfl (lab_88 S (dc_max e11 e13) q9 x1 h)
  have lab_44 : ∀ (S : hg_S) (x1 : Int32) (x2 : Int32) (x3 : Int32), dc_wp (hm_RE_closeBoth_L44 G S o x1 x2 x3) F → hg_G X l (hg_rm 2 41 Z) D 5 S 44 [(0, va_rf (some o)), (1, .int x1), (2, .int x2), (3, .int x3)] [] := by
    intro S x1 x2 x3 h
    delta hm_RE_closeBoth_L44 at h
    refine hg_iconst (pc := 44) (v := 0) hC (show decode prog_12_method_19_code 44 = .ok (.iconst 0, 1) by decide +kernel) (by decide +kernel) ?_
    exact lab_45 S x1 x2 x3 0 h
  show hg_G X l (hg_rm 2 41 Z) D 5 Z 0 [(0, va_rf (some o)), (1, .int p1)] []
  have h : dc_wp (hm_RE_closeBoth G Z o p1) F := h
  delta hm_RE_closeBoth at h
  refine hg_aloadn (pc := 0) (j := 0) (i := 0) (r := (some o)) hC 0 rfl rfl (show decode prog_12_method_19_code 0 = .ok (.aload_n 0, 1) by decide +kernel) ?_
  refine hg_rgr (pc := 1) (r := (some o)) hC fl_SignalEngine_Reactor_9 (show decode prog_12_method_19_code 1 = .ok (.getfield 9, 3) by decide +kernel) h ?_
  intro e14 h
  refine hg_rgr (pc := 4) (r := e14) hC fl_SignalEngine_Reactor_182 (show decode prog_12_method_19_code 4 = .ok (.getfield 182, 3) by decide +kernel) h ?_
  intro e15 h
  refine hg_iloadn (pc := 7) (j := 1) (i := 1) hC 1 rfl rfl (show decode prog_12_method_19_code 7 = .ok (.iload_n 1, 1) by decide +kernel) ?_
  refine hg_riald (pc := 8) (r := e15) hC (show decode prog_12_method_19_code 8 = .ok (.iaload, 1) by decide +kernel) h ?_
  intro e16 h
  refine hg_istoren (pc := 9) (j := 2) (i := 2) (lv' := [(2, .int e16), (0, va_rf (some o)), (1, .int p1)]) hC rfl (Nat.le_of_ble_eq_true rfl) rfl (show decode prog_12_method_19_code 9 = .ok (.istore_n 2, 1) by decide +kernel) ?_
  refine hg_aloadn (pc := 10) (j := 0) (i := 0) (r := (some o)) hC 1 rfl rfl (show decode prog_12_method_19_code 10 = .ok (.aload_n 0, 1) by decide +kernel) ?_
  refine hg_rgr (pc := 11) (r := (some o)) hC fl_SignalEngine_Reactor_9 (show decode prog_12_method_19_code 11 = .ok (.getfield 9, 3) by decide +kernel) h ?_
  intro e17 h
  refine hg_rgr (pc := 14) (r := e17) hC fl_SignalEngine_Reactor_188 (show decode prog_12_method_19_code 14 = .ok (.getfield 188, 3) by decide +kernel) h ?_
  intro e18 h
  refine hg_iloadn (pc := 17) (j := 1) (i := 1) hC 2 rfl rfl (show decode prog_12_method_19_code 17 = .ok (.iload_n 1, 1) by decide +kernel) ?_
  refine hg_riald (pc := 18) (r := e18) hC (show decode prog_12_method_19_code 18 = .ok (.iaload, 1) by decide +kernel) h ?_
  intro e19 h
  refine hg_istoren (pc := 19) (j := 3) (i := 3) (lv' := [(3, .int e19), (2, .int e16), (0, va_rf (some o)), (1, .int p1)]) hC rfl (Nat.le_of_ble_eq_true rfl) rfl (show decode prog_12_method_19_code 19 = .ok (.istore_n 3, 1) by decide +kernel) ?_
  refine hg_aloadn (pc := 20) (j := 0) (i := 0) (r := (some o)) hC 2 rfl rfl (show decode prog_12_method_19_code 20 = .ok (.aload_n 0, 1) by decide +kernel) ?_
  refine hg_rgr (pc := 21) (r := (some o)) hC fl_SignalEngine_Reactor_63 (show decode prog_12_method_19_code 21 = .ok (.getfield 63, 3) by decide +kernel) h ?_
  intro e20 h
  refine hg_iloadn (pc := 24) (j := 2) (i := 2) hC 1 rfl rfl (show decode prog_12_method_19_code 24 = .ok (.iload_n 2, 1) by decide +kernel) ?_
  refine hg_riald (pc := 25) (r := e20) hC (show decode prog_12_method_19_code 25 = .ok (.iaload, 1) by decide +kernel) h ?_
  intro e21 h
  refine hg_iconst (pc := 26) (v := (-1)) hC (show decode prog_12_method_19_code 26 = .ok (.iconst (-1), 1) by decide +kernel) (by decide +kernel) ?_
  refine hg_icmp_eq (pc := 27) (tgt := 44) hC (show decode prog_12_method_19_code 27 = .ok (.if_icmp .eq 17, 3) by decide +kernel) (by decide +kernel) h ?_ ?_
  · intro h
    exact hg_sub [2, 3, 1, 0] rfl (lab_44 Z p1 e16 e19 h)
  · intro h
    refine hg_aloadn (pc := 30) (j := 0) (i := 0) (r := (some o)) hC 2 rfl rfl (show decode prog_12_method_19_code 30 = .ok (.aload_n 0, 1) by decide +kernel) ?_
    refine hg_rgr (pc := 31) (r := (some o)) hC fl_SignalEngine_Reactor_63 (show decode prog_12_method_19_code 31 = .ok (.getfield 63, 3) by decide +kernel) h ?_
    intro e22 h
    refine hg_iloadn (pc := 34) (j := 3) (i := 3) hC 0 rfl rfl (show decode prog_12_method_19_code 34 = .ok (.iload_n 3, 1) by decide +kernel) ?_
    refine hg_riald (pc := 35) (r := e22) hC (show decode prog_12_method_19_code 35 = .ok (.iaload, 1) by decide +kernel) h ?_
    intro e23 h
    refine hg_iconst (pc := 36) (v := (-1)) hC (show decode prog_12_method_19_code 36 = .ok (.iconst (-1), 1) by decide +kernel) (by decide +kernel) ?_
    refine hg_icmp_eq (pc := 37) (tgt := 44) hC (show decode prog_12_method_19_code 37 = .ok (.if_icmp .eq 7, 3) by decide +kernel) (by decide +kernel) h ?_ ?_
    · intro h
      exact hg_sub [2, 3, 1, 0] rfl (lab_44 Z p1 e16 e19 h)
    · intro h
      refine hg_iconst (pc := 40) (v := 1) hC (show decode prog_12_method_19_code 40 = .ok (.iconst 1, 1) by decide +kernel) (by decide +kernel) ?_
      refine hg_goto (pc := 41) (tgt := 45) hC (show decode prog_12_method_19_code 41 = .ok (.goto 4, 3) by decide +kernel) (by decide +kernel) ?_
      exact hg_sub [2, 3, 1, 0] rfl (lab_45 Z p1 e16 e19 1 h)
noncomputable def hm_RE_settleAbsent_L35 (G : hg_E) (S : hg_S) (o : Nat) : Option (hg_S) :=
  some S
noncomputable def hm_RE_settleAbsent (G : hg_E) (S : hg_S) (o : Nat) (p1 : Int32) : Option (hg_S) :=
  (hg_gr S (some o) 10 1).bind fun e1 => (hg_ld S e1 (G.1 0) p1).bind fun e2 => if e2 = 2 then ((hg_gr S (some o) 10 2).bind fun e3 => (hg_ld S e3 (G.1 0) p1).bind fun e4 => (hg_gi S (some o) 10 12).bind fun e5 => if e4 = e5 then (hm_RE_settleAbsent_L35 G S o) else ((hg_gr S (some o) 10 1).bind fun e6 => (hg_st S e6 (G.1 0) p1 0).bind fun S7 => (hg_pf S7 (some o) 10 13 (.int 1)).bind fun S8 => hm_RE_settleAbsent_L35 G S8 o)) else (hm_RE_settleAbsent_L35 G S o)
set_option maxHeartbeats 4000000 in
set_option maxRecDepth 100000 in
/-- SignalEngine$Reactor.settleAbsent(I)V -/
theorem hm_RE_settleAbsent_ok (l : Launch) (D : va_G) (G : hg_E) (Z : hg_S) (o : Nat) (p1 : Int32) (q : hg_S) (hq : hm_RE_settleAbsent G Z o p1 = some q) : hg_C l ⟨"SignalEngine$Reactor", "settleAbsent", "(I)V"⟩ prog_12_method_8_code 2 none 0 0 D G [.ref o, .int p1] Z (.inl (none, q) : hg_O) := by
  refine hg_start (cv := fun q => (.inl (none, q) : hg_O)) hq ?_
  intro F hF h
  refine hg_enter (lv := [(0, va_rf (some o)), (1, .int p1)]) (by decide +kernel) (by simp [lg_sl, va_rf_cat, hg_cti, hg_ctr]) (by simp [lv_args, va_rf_cat, va_rf_some, hg_cti, hg_ctr]) ?_
  intro X hC hR
  have lab_35 : ∀ (S : hg_S), dc_wp (hm_RE_settleAbsent_L35 G S o) F → hg_G X l (hg_rm 0 0 Z) D 2 S 35 [(0, va_rf (some o))] [] := by
    intro S  h
    delta hm_RE_settleAbsent_L35 at h
    exact hg_vret (pc := 35) hC hR (hF _ (dc_some h)) (show decode prog_12_method_8_code 35 = .ok (.return_, 1) by decide +kernel)
  show hg_G X l (hg_rm 0 0 Z) D 2 Z 0 [(0, va_rf (some o)), (1, .int p1)] []
  have h : dc_wp (hm_RE_settleAbsent G Z o p1) F := h
  delta hm_RE_settleAbsent at h
  refine hg_aloadn (pc := 0) (j := 0) (i := 0) (r := (some o)) hC 0 rfl rfl (show decode prog_12_method_8_code 0 = .ok (.aload_n 0, 1) by decide +kernel) ?_
  refine hg_rgr (pc := 1) (r := (some o)) hC fl_SignalEngine_Reactor_41 (show decode prog_12_method_8_code 1 = .ok (.getfield 41, 3) by decide +kernel) h ?_
  intro e1 h
  refine hg_iloadn (pc := 4) (j := 1) (i := 1) hC 1 rfl rfl (show decode prog_12_method_8_code 4 = .ok (.iload_n 1, 1) by decide +kernel) ?_
  refine hg_riald (pc := 5) (r := e1) hC (show decode prog_12_method_8_code 5 = .ok (.iaload, 1) by decide +kernel) h ?_
  intro e2 h
  refine hg_iconst (pc := 6) (v := 2) hC (show decode prog_12_method_8_code 6 = .ok (.iconst 2, 1) by decide +kernel) (by decide +kernel) ?_
  refine hg_icmp_ne (pc := 7) (tgt := 35) hC (show decode prog_12_method_8_code 7 = .ok (.if_icmp .ne 28, 3) by decide +kernel) (by decide +kernel) h ?_ ?_
  · intro h
    refine hg_aloadn (pc := 10) (j := 0) (i := 0) (r := (some o)) hC 0 rfl rfl (show decode prog_12_method_8_code 10 = .ok (.aload_n 0, 1) by decide +kernel) ?_
    refine hg_rgr (pc := 11) (r := (some o)) hC fl_SignalEngine_Reactor_44 (show decode prog_12_method_8_code 11 = .ok (.getfield 44, 3) by decide +kernel) h ?_
    intro e3 h
    refine hg_iloadn (pc := 14) (j := 1) (i := 1) hC 1 rfl rfl (show decode prog_12_method_8_code 14 = .ok (.iload_n 1, 1) by decide +kernel) ?_
    refine hg_riald (pc := 15) (r := e3) hC (show decode prog_12_method_8_code 15 = .ok (.iaload, 1) by decide +kernel) h ?_
    intro e4 h
    refine hg_aloadn (pc := 16) (j := 0) (i := 0) (r := (some o)) hC 0 rfl rfl (show decode prog_12_method_8_code 16 = .ok (.aload_n 0, 1) by decide +kernel) ?_
    refine hg_rgi (pc := 17) (r := (some o)) hC fl_SignalEngine_Reactor_99 (show decode prog_12_method_8_code 17 = .ok (.getfield 99, 3) by decide +kernel) h ?_
    intro e5 h
    refine hg_icmp_eq (pc := 20) (tgt := 35) hC (show decode prog_12_method_8_code 20 = .ok (.if_icmp .eq 15, 3) by decide +kernel) (by decide +kernel) h ?_ ?_
    · intro h
      exact hg_sub [0] rfl (lab_35 Z h)
    · intro h
      refine hg_aloadn (pc := 23) (j := 0) (i := 0) (r := (some o)) hC 0 rfl rfl (show decode prog_12_method_8_code 23 = .ok (.aload_n 0, 1) by decide +kernel) ?_
      refine hg_rgr (pc := 24) (r := (some o)) hC fl_SignalEngine_Reactor_41 (show decode prog_12_method_8_code 24 = .ok (.getfield 41, 3) by decide +kernel) h ?_
      intro e6 h
      refine hg_iloadn (pc := 27) (j := 1) (i := 1) hC 1 rfl rfl (show decode prog_12_method_8_code 27 = .ok (.iload_n 1, 1) by decide +kernel) ?_
      refine hg_iconst (pc := 28) (v := 0) hC (show decode prog_12_method_8_code 28 = .ok (.iconst 0, 1) by decide +kernel) (by decide +kernel) ?_
      refine hg_riast (pc := 29) (r := e6) hC (show decode prog_12_method_8_code 29 = .ok (.iastore, 1) by decide +kernel) h ?_
      intro S7 h
      refine hg_aloadn (pc := 30) (j := 0) (i := 0) (r := (some o)) hC 0 rfl rfl (show decode prog_12_method_8_code 30 = .ok (.aload_n 0, 1) by decide +kernel) ?_
      refine hg_iconst (pc := 31) (v := 1) hC (show decode prog_12_method_8_code 31 = .ok (.iconst 1, 1) by decide +kernel) (by decide +kernel) ?_
      refine hg_rput (pc := 32) (r := (some o)) (v := .int 1) hC fp_SignalEngine_Reactor_95 (dc_nar (Or.inr rfl)).2.1 (dc_nar (Or.inr rfl)).2.2 (show decode prog_12_method_8_code 32 = .ok (.putfield 95, 3) by decide +kernel) h ?_
      intro S8 h
      exact hg_sub [0] rfl (lab_35 S8 h)
  · intro h
    exact hg_sub [0] rfl (lab_35 Z h)
noncomputable def hm_RE_closeSingle_L168 (G : hg_E) (S : hg_S) (o : Nat) : Option (hg_S) :=
  some S
noncomputable def hm_RE_closeSingle_L167 (G : hg_E) (S : hg_S) (o : Nat) (y0 : Int32) (y1 : Int32) (y2 : Option Nat) : Option (hg_S) :=
  (hg_st S y2 (G.1 0) y1 y0).bind fun S1 => hm_RE_closeSingle_L168 G S1 o
noncomputable def hm_RE_closeSingle_L90 (G : hg_E) (S : hg_S) (o : Nat) (y0 : Int32) : Option (hg_S) :=
  (dc_zb y0).bind fun _ => (hg_pf S (some o) 10 14 (.int y0)).bind fun S3 => hm_RE_closeSingle_L168 G S3 o
noncomputable def hm_RE_closeSingle_L89 (G : hg_E) (S : hg_S) (o : Nat) : Option (hg_S) :=
  hm_RE_closeSingle_L90 G S o 0
noncomputable def hm_RE_closeSingle_L85 (G : hg_E) (S : hg_S) (o : Nat) : Option (hg_S) :=
  hm_RE_closeSingle_L90 G S o 1
noncomputable def hm_RE_closeSingle (G : hg_E) (S : hg_S) (o : Nat) (p1 : Int32) (p2 : Int32) : Option (hg_S) :=
  (hg_gr S (some o) 10 7).bind fun e4 => (hg_gr S (some o) 10 7).bind fun e5 => (hg_ld S e5 (G.1 0) p2).bind fun e6 => (hg_st S e4 (G.1 0) p1 e6).bind fun S7 => (hg_gr S7 (some o) 10 8).bind fun e8 => (hg_gr S7 (some o) 10 8).bind fun e9 => (hg_ld S7 e9 (G.1 0) p2).bind fun e10 => (hg_st S7 e8 (G.1 0) p1 e10).bind fun S11 => (hg_gr S11 (some o) 10 0).bind fun e12 => (hg_gr S11 e12 9 7).bind fun e13 => (hg_ld S11 e13 (G.1 0) p1).bind fun e14 => if e14 = 10 then ((hg_gr S11 (some o) 10 4).bind fun e15 => (hg_gr S11 (some o) 10 0).bind fun e16 => (hg_gr S11 e16 9 11).bind fun e17 => (hg_ld S11 e17 (G.1 0) p1).bind fun e18 => (hg_ld S11 e15 (G.1 0) e18).bind fun e19 => (hg_chk S11 (some o) 10).bind fun b20 => (hm_RE_settleAbsent G S11 b20 e19).bind fun q23 => (hg_gi q23 (some o) 10 14).bind fun e24 => if e24 = 0 then ((hg_gr q23 (some o) 10 9).bind fun e25 => (hg_ld q23 e25 (G.1 2) p1).bind fun e26 => if e26 = 0 then (hm_RE_closeSingle_L89 G q23 o) else ((hg_gr q23 (some o) 10 1).bind fun e27 => (hg_ld q23 e27 (G.1 0) e19).bind fun e28 => if e28 = 2 then (hm_RE_closeSingle_L85 G q23 o) else (hm_RE_closeSingle_L89 G q23 o))) else (hm_RE_closeSingle_L85 G q23 o)) else ((hg_gr S11 (some o) 10 0).bind fun e29 => (hg_gr S11 e29 9 7).bind fun e30 => (hg_ld S11 e30 (G.1 0) p1).bind fun e31 => if e31 = 8 then ((hg_gr S11 (some o) 10 7).bind fun e32 => (hg_gr S11 (some o) 10 7).bind fun e33 => (hg_ld S11 e33 (G.1 0) p1).bind fun e34 => (hm_SE_withoutTrap G S11 e34).bind fun q35 => (hg_st S11 e32 (G.1 0) p1 q35).bind fun S36 => (hg_gr S36 (some o) 10 8).bind fun e37 => (hg_ld S36 e37 (G.1 0) p1).bind fun e38 => if e38 < 2 then (hm_RE_closeSingle_L168 G S36 o) else ((hg_chk S36 (some o) 10).bind fun b39 => (hm_RE_clear G S36 b39 p1).bind fun q42 => (hg_gr q42 (some o) 10 8).bind fun e43 => (hg_gr q42 (some o) 10 8).bind fun e44 => (hg_ld q42 e44 (G.1 0) p1).bind fun e45 => if e45 = 2 then (hm_RE_closeSingle_L167 G q42 o 0 p1 e43) else ((hg_gr q42 (some o) 10 8).bind fun e46 => (hg_ld q42 e46 (G.1 0) p1).bind fun e47 => hm_RE_closeSingle_L167 G q42 o (e47 - 1) p1 e43))) else (hm_RE_closeSingle_L168 G S11 o))
set_option maxHeartbeats 4000000 in
set_option maxRecDepth 100000 in
/-- SignalEngine$Reactor.closeSingle(II)V -/
theorem hm_RE_closeSingle_ok (l : Launch) (D : va_G) (G : hg_E) (Z : hg_S) (o : Nat) (p1 : Int32) (p2 : Int32) (q : hg_S) (hq : hm_RE_closeSingle G Z o p1 p2 = some q) : hg_C l ⟨"SignalEngine$Reactor", "closeSingle", "(II)V"⟩ prog_12_method_20_code 4 none 1 22 D G [.ref o, .int p1, .int p2] Z (.inl (none, q) : hg_O) := by
  refine hg_start (cv := fun q => (.inl (none, q) : hg_O)) hq ?_
  intro F hF h
  refine hg_enter (lv := [(0, va_rf (some o)), (1, .int p1), (2, .int p2)]) (by decide +kernel) (by simp [lg_sl, va_rf_cat, hg_cti, hg_ctr]) (by simp [lv_args, va_rf_cat, va_rf_some, hg_cti, hg_ctr]) ?_
  intro X hC hR
  have lab_168 : ∀ (S : hg_S), dc_wp (hm_RE_closeSingle_L168 G S o) F → hg_G X l (hg_rm 1 22 Z) D 4 S 168 [(0, va_rf (some o))] [] := by
    intro S  h
    delta hm_RE_closeSingle_L168 at h
    exact hg_vret (pc := 168) hC hR (hF _ (dc_some h)) (show decode prog_12_method_20_code 168 = .ok (.return_, 1) by decide +kernel)
  have lab_167 : ∀ (S : hg_S) (y0 : Int32) (y1 : Int32) (y2 : Option Nat), dc_wp (hm_RE_closeSingle_L167 G S o y0 y1 y2) F → hg_G X l (hg_rm 1 22 Z) D 4 S 167 [(0, va_rf (some o))] [.int y0, .int y1, va_rf y2] := by
    intro S y0 y1 y2 h
    delta hm_RE_closeSingle_L167 at h
    refine hg_riast (pc := 167) (r := y2) hC (show decode prog_12_method_20_code 167 = .ok (.iastore, 1) by decide +kernel) h ?_
    intro S1 h
    exact lab_168 S1 h
  have lab_90 : ∀ (S : hg_S) (y0 : Int32), dc_wp (hm_RE_closeSingle_L90 G S o y0) F → hg_G X l (hg_rm 1 22 Z) D 4 S 90 [(0, va_rf (some o))] [.int y0, va_rf (some o)] := by
    intro S y0 h
    delta hm_RE_closeSingle_L90 at h
    obtain ⟨hz2, h⟩ := dc_zb_wp (dc_bind h)
    refine hg_rput (pc := 90) (r := (some o)) (v := .int y0) hC fp_SignalEngine_Reactor_102 (dc_nar hz2).2.1 (dc_nar hz2).2.2 (show decode prog_12_method_20_code 90 = .ok (.putfield 102, 3) by decide +kernel) h ?_
    intro S3 h
    refine hg_goto (pc := 93) (tgt := 168) hC (show decode prog_12_method_20_code 93 = .ok (.goto 75, 3) by decide +kernel) (by decide +kernel) ?_
    exact lab_168 S3 h
  have lab_89 : ∀ (S : hg_S), dc_wp (hm_RE_closeSingle_L89 G S o) F → hg_G X l (hg_rm 1 22 Z) D 4 S 89 [(0, va_rf (some o))] [va_rf (some o)] := by
    intro S  h
    delta hm_RE_closeSingle_L89 at h
    refine hg_iconst (pc := 89) (v := 0) hC (show decode prog_12_method_20_code 89 = .ok (.iconst 0, 1) by decide +kernel) (by decide +kernel) ?_
    exact lab_90 S 0 h
  have lab_85 : ∀ (S : hg_S), dc_wp (hm_RE_closeSingle_L85 G S o) F → hg_G X l (hg_rm 1 22 Z) D 4 S 85 [(0, va_rf (some o))] [va_rf (some o)] := by
    intro S  h
    delta hm_RE_closeSingle_L85 at h
    refine hg_iconst (pc := 85) (v := 1) hC (show decode prog_12_method_20_code 85 = .ok (.iconst 1, 1) by decide +kernel) (by decide +kernel) ?_
    refine hg_goto (pc := 86) (tgt := 90) hC (show decode prog_12_method_20_code 86 = .ok (.goto 4, 3) by decide +kernel) (by decide +kernel) ?_
    exact lab_90 S 1 h
  show hg_G X l (hg_rm 1 22 Z) D 4 Z 0 [(0, va_rf (some o)), (1, .int p1), (2, .int p2)] []
  have h : dc_wp (hm_RE_closeSingle G Z o p1 p2) F := h
  delta hm_RE_closeSingle at h
  refine hg_aloadn (pc := 0) (j := 0) (i := 0) (r := (some o)) hC 0 rfl rfl (show decode prog_12_method_20_code 0 = .ok (.aload_n 0, 1) by decide +kernel) ?_
  refine hg_rgr (pc := 1) (r := (some o)) hC fl_SignalEngine_Reactor_60 (show decode prog_12_method_20_code 1 = .ok (.getfield 60, 3) by decide +kernel) h ?_
  intro e4 h
  refine hg_iloadn (pc := 4) (j := 1) (i := 1) hC 1 rfl rfl (show decode prog_12_method_20_code 4 = .ok (.iload_n 1, 1) by decide +kernel) ?_
  refine hg_aloadn (pc := 5) (j := 0) (i := 0) (r := (some o)) hC 0 rfl rfl (show decode prog_12_method_20_code 5 = .ok (.aload_n 0, 1) by decide +kernel) ?_
  refine hg_rgr (pc := 6) (r := (some o)) hC fl_SignalEngine_Reactor_60 (show decode prog_12_method_20_code 6 = .ok (.getfield 60, 3) by decide +kernel) h ?_
  intro e5 h
  refine hg_iloadn (pc := 9) (j := 2) (i := 2) hC 2 rfl rfl (show decode prog_12_method_20_code 9 = .ok (.iload_n 2, 1) by decide +kernel) ?_
  refine hg_riald (pc := 10) (r := e5) hC (show decode prog_12_method_20_code 10 = .ok (.iaload, 1) by decide +kernel) h ?_
  intro e6 h
  refine hg_riast (pc := 11) (r := e4) hC (show decode prog_12_method_20_code 11 = .ok (.iastore, 1) by decide +kernel) h ?_
  intro S7 h
  refine hg_aloadn (pc := 12) (j := 0) (i := 0) (r := (some o)) hC 0 rfl rfl (show decode prog_12_method_20_code 12 = .ok (.aload_n 0, 1) by decide +kernel) ?_
  refine hg_rgr (pc := 13) (r := (some o)) hC fl_SignalEngine_Reactor_63 (show decode prog_12_method_20_code 13 = .ok (.getfield 63, 3) by decide +kernel) h ?_
  intro e8 h
  refine hg_iloadn (pc := 16) (j := 1) (i := 1) hC 1 rfl rfl (show decode prog_12_method_20_code 16 = .ok (.iload_n 1, 1) by decide +kernel) ?_
  refine hg_aloadn (pc := 17) (j := 0) (i := 0) (r := (some o)) hC 0 rfl rfl (show decode prog_12_method_20_code 17 = .ok (.aload_n 0, 1) by decide +kernel) ?_
  refine hg_rgr (pc := 18) (r := (some o)) hC fl_SignalEngine_Reactor_63 (show decode prog_12_method_20_code 18 = .ok (.getfield 63, 3) by decide +kernel) h ?_
  intro e9 h
  refine hg_iloadn (pc := 21) (j := 2) (i := 2) hC 2 rfl rfl (show decode prog_12_method_20_code 21 = .ok (.iload_n 2, 1) by decide +kernel) ?_
  refine hg_riald (pc := 22) (r := e9) hC (show decode prog_12_method_20_code 22 = .ok (.iaload, 1) by decide +kernel) h ?_
  intro e10 h
  refine hg_riast (pc := 23) (r := e8) hC (show decode prog_12_method_20_code 23 = .ok (.iastore, 1) by decide +kernel) h ?_
  intro S11 h
  refine hg_aloadn (pc := 24) (j := 0) (i := 0) (r := (some o)) hC 0 rfl rfl (show decode prog_12_method_20_code 24 = .ok (.aload_n 0, 1) by decide +kernel) ?_
  refine hg_rgr (pc := 25) (r := (some o)) hC fl_SignalEngine_Reactor_9 (show decode prog_12_method_20_code 25 = .ok (.getfield 9, 3) by decide +kernel) h ?_
  intro e12 h
  refine hg_rgr (pc := 28) (r := e12) hC fl_SignalEngine_Reactor_15 (show decode prog_12_method_20_code 28 = .ok (.getfield 15, 3) by decide +kernel) h ?_
  intro e13 h
  refine hg_iloadn (pc := 31) (j := 1) (i := 1) hC 1 rfl rfl (show decode prog_12_method_20_code 31 = .ok (.iload_n 1, 1) by decide +kernel) ?_
  refine hg_riald (pc := 32) (r := e13) hC (show decode prog_12_method_20_code 32 = .ok (.iaload, 1) by decide +kernel) h ?_
  intro e14 h
  refine hg_bipush (pc := 33) (v := 10) hC (show decode prog_12_method_20_code 33 = .ok (.bipush 10, 2) by decide +kernel) (by decide +kernel) ?_
  refine hg_icmp_ne (pc := 35) (tgt := 96) hC (show decode prog_12_method_20_code 35 = .ok (.if_icmp .ne 61, 3) by decide +kernel) (by decide +kernel) h ?_ ?_
  · intro h
    refine hg_aloadn (pc := 38) (j := 0) (i := 0) (r := (some o)) hC 0 rfl rfl (show decode prog_12_method_20_code 38 = .ok (.aload_n 0, 1) by decide +kernel) ?_
    refine hg_rgr (pc := 39) (r := (some o)) hC fl_SignalEngine_Reactor_34 (show decode prog_12_method_20_code 39 = .ok (.getfield 34, 3) by decide +kernel) h ?_
    intro e15 h
    refine hg_aloadn (pc := 42) (j := 0) (i := 0) (r := (some o)) hC 0 rfl rfl (show decode prog_12_method_20_code 42 = .ok (.aload_n 0, 1) by decide +kernel) ?_
    refine hg_rgr (pc := 43) (r := (some o)) hC fl_SignalEngine_Reactor_9 (show decode prog_12_method_20_code 43 = .ok (.getfield 9, 3) by decide +kernel) h ?_
    intro e16 h
    refine hg_rgr (pc := 46) (r := e16) hC fl_SignalEngine_Reactor_85 (show decode prog_12_method_20_code 46 = .ok (.getfield 85, 3) by decide +kernel) h ?_
    intro e17 h
    refine hg_iloadn (pc := 49) (j := 1) (i := 1) hC 1 rfl rfl (show decode prog_12_method_20_code 49 = .ok (.iload_n 1, 1) by decide +kernel) ?_
    refine hg_riald (pc := 50) (r := e17) hC (show decode prog_12_method_20_code 50 = .ok (.iaload, 1) by decide +kernel) h ?_
    intro e18 h
    refine hg_riald (pc := 51) (r := e15) hC (show decode prog_12_method_20_code 51 = .ok (.iaload, 1) by decide +kernel) h ?_
    intro e19 h
    refine hg_istoren (pc := 52) (j := 3) (i := 3) (lv' := [(3, .int e19), (0, va_rf (some o)), (1, .int p1), (2, .int p2)]) hC rfl (Nat.le_of_ble_eq_true rfl) rfl (show decode prog_12_method_20_code 52 = .ok (.istore_n 3, 1) by decide +kernel) ?_
    refine hg_aloadn (pc := 53) (j := 0) (i := 0) (r := (some o)) hC 1 rfl rfl (show decode prog_12_method_20_code 53 = .ok (.aload_n 0, 1) by decide +kernel) ?_
    refine hg_iloadn (pc := 54) (j := 3) (i := 3) hC 0 rfl rfl (show decode prog_12_method_20_code 54 = .ok (.iload_n 3, 1) by decide +kernel) ?_
    obtain ⟨b20, hb21, h⟩ := dc_bind h
    obtain ⟨hb21, hv22⟩ := hg_chk_of (C := R_RE) rfl hb21
    refine hg_kVv (pc := 55) (b := b20) (r := (some o)) (As := [.int e19]) (rest := []) (so := fun q => q) hC cw_SignalEngine_Reactor_162 (fun q hq => hm_RE_settleAbsent_ok l D G S11 b20 e19 q hq) (Nat.le_of_ble_eq_true rfl) (Nat.le_of_ble_eq_true rfl) hb21 hv22 rfl (Nat.le_of_ble_eq_true rfl) (show decode prog_12_method_20_code 55 = .ok (.invokevirtual 162, 3) by decide +kernel) h ?_
    intro q23 h
    refine hg_aloadn (pc := 58) (j := 0) (i := 0) (r := (some o)) hC 1 rfl rfl (show decode prog_12_method_20_code 58 = .ok (.aload_n 0, 1) by decide +kernel) ?_
    refine hg_aloadn (pc := 59) (j := 0) (i := 0) (r := (some o)) hC 1 rfl rfl (show decode prog_12_method_20_code 59 = .ok (.aload_n 0, 1) by decide +kernel) ?_
    refine hg_rgi (pc := 60) (r := (some o)) hC fl_SignalEngine_Reactor_102 (show decode prog_12_method_20_code 60 = .ok (.getfield 102, 3) by decide +kernel) h ?_
    intro e24 h
    refine hg_if_ne (pc := 63) (tgt := 85) hC (show decode prog_12_method_20_code 63 = .ok (.ifCond .ne 22, 3) by decide +kernel) (by decide +kernel) h ?_ ?_
    · intro h
      refine hg_aloadn (pc := 66) (j := 0) (i := 0) (r := (some o)) hC 1 rfl rfl (show decode prog_12_method_20_code 66 = .ok (.aload_n 0, 1) by decide +kernel) ?_
      refine hg_rgr (pc := 67) (r := (some o)) hC fl_SignalEngine_Reactor_66 (show decode prog_12_method_20_code 67 = .ok (.getfield 66, 3) by decide +kernel) h ?_
      intro e25 h
      refine hg_iloadn (pc := 70) (j := 1) (i := 1) hC 2 rfl rfl (show decode prog_12_method_20_code 70 = .ok (.iload_n 1, 1) by decide +kernel) ?_
      refine hg_rzald (pc := 71) (r := e25) hC (show decode prog_12_method_20_code 71 = .ok (.baload, 1) by decide +kernel) h ?_
      intro e26 h
      refine hg_if_eq (pc := 72) (tgt := 89) hC (show decode prog_12_method_20_code 72 = .ok (.ifCond .eq 17, 3) by decide +kernel) (by decide +kernel) h ?_ ?_
      · intro h
        exact hg_sub [1] rfl (lab_89 q23 h)
      · intro h
        refine hg_aloadn (pc := 75) (j := 0) (i := 0) (r := (some o)) hC 1 rfl rfl (show decode prog_12_method_20_code 75 = .ok (.aload_n 0, 1) by decide +kernel) ?_
        refine hg_rgr (pc := 76) (r := (some o)) hC fl_SignalEngine_Reactor_41 (show decode prog_12_method_20_code 76 = .ok (.getfield 41, 3) by decide +kernel) h ?_
        intro e27 h
        refine hg_iloadn (pc := 79) (j := 3) (i := 3) hC 0 rfl rfl (show decode prog_12_method_20_code 79 = .ok (.iload_n 3, 1) by decide +kernel) ?_
        refine hg_riald (pc := 80) (r := e27) hC (show decode prog_12_method_20_code 80 = .ok (.iaload, 1) by decide +kernel) h ?_
        intro e28 h
        refine hg_iconst (pc := 81) (v := 2) hC (show decode prog_12_method_20_code 81 = .ok (.iconst 2, 1) by decide +kernel) (by decide +kernel) ?_
        refine hg_icmp_ne (pc := 82) (tgt := 89) hC (show decode prog_12_method_20_code 82 = .ok (.if_icmp .ne 7, 3) by decide +kernel) (by decide +kernel) h ?_ ?_
        · intro h
          exact hg_sub [1] rfl (lab_85 q23 h)
        · intro h
          exact hg_sub [1] rfl (lab_89 q23 h)
    · intro h
      exact hg_sub [1] rfl (lab_85 q23 h)
  · intro h
    refine hg_aloadn (pc := 96) (j := 0) (i := 0) (r := (some o)) hC 0 rfl rfl (show decode prog_12_method_20_code 96 = .ok (.aload_n 0, 1) by decide +kernel) ?_
    refine hg_rgr (pc := 97) (r := (some o)) hC fl_SignalEngine_Reactor_9 (show decode prog_12_method_20_code 97 = .ok (.getfield 9, 3) by decide +kernel) h ?_
    intro e29 h
    refine hg_rgr (pc := 100) (r := e29) hC fl_SignalEngine_Reactor_15 (show decode prog_12_method_20_code 100 = .ok (.getfield 15, 3) by decide +kernel) h ?_
    intro e30 h
    refine hg_iloadn (pc := 103) (j := 1) (i := 1) hC 1 rfl rfl (show decode prog_12_method_20_code 103 = .ok (.iload_n 1, 1) by decide +kernel) ?_
    refine hg_riald (pc := 104) (r := e30) hC (show decode prog_12_method_20_code 104 = .ok (.iaload, 1) by decide +kernel) h ?_
    intro e31 h
    refine hg_bipush (pc := 105) (v := 8) hC (show decode prog_12_method_20_code 105 = .ok (.bipush 8, 2) by decide +kernel) (by decide +kernel) ?_
    refine hg_icmp_ne (pc := 107) (tgt := 168) hC (show decode prog_12_method_20_code 107 = .ok (.if_icmp .ne 61, 3) by decide +kernel) (by decide +kernel) h ?_ ?_
    · intro h
      refine hg_aloadn (pc := 110) (j := 0) (i := 0) (r := (some o)) hC 0 rfl rfl (show decode prog_12_method_20_code 110 = .ok (.aload_n 0, 1) by decide +kernel) ?_
      refine hg_rgr (pc := 111) (r := (some o)) hC fl_SignalEngine_Reactor_60 (show decode prog_12_method_20_code 111 = .ok (.getfield 60, 3) by decide +kernel) h ?_
      intro e32 h
      refine hg_iloadn (pc := 114) (j := 1) (i := 1) hC 1 rfl rfl (show decode prog_12_method_20_code 114 = .ok (.iload_n 1, 1) by decide +kernel) ?_
      refine hg_aloadn (pc := 115) (j := 0) (i := 0) (r := (some o)) hC 0 rfl rfl (show decode prog_12_method_20_code 115 = .ok (.aload_n 0, 1) by decide +kernel) ?_
      refine hg_rgr (pc := 116) (r := (some o)) hC fl_SignalEngine_Reactor_60 (show decode prog_12_method_20_code 116 = .ok (.getfield 60, 3) by decide +kernel) h ?_
      intro e33 h
      refine hg_iloadn (pc := 119) (j := 1) (i := 1) hC 1 rfl rfl (show decode prog_12_method_20_code 119 = .ok (.iload_n 1, 1) by decide +kernel) ?_
      refine hg_riald (pc := 120) (r := e33) hC (show decode prog_12_method_20_code 120 = .ok (.iaload, 1) by decide +kernel) h ?_
      intro e34 h
      refine hg_kNi (pc := 121) (As := [.int e34]) (rest := [.int p1, va_rf e32]) (vo := fun q => q) (so := fun q => S11) hC cw_SignalEngine_Reactor_212 (fun q hq => hm_SE_withoutTrap_ok l D G S11 e34 q hq) (Nat.le_of_ble_eq_true rfl) (Nat.le_of_ble_eq_true rfl) rfl (by simp only [List.map, va_rf_cat]; exact Nat.le_of_ble_eq_true rfl) (show decode prog_12_method_20_code 121 = .ok (.invokestatic 212, 3) by decide +kernel) h ?_
      intro q35 h
      refine hg_riast (pc := 124) (r := e32) hC (show decode prog_12_method_20_code 124 = .ok (.iastore, 1) by decide +kernel) h ?_
      intro S36 h
      refine hg_aloadn (pc := 125) (j := 0) (i := 0) (r := (some o)) hC 0 rfl rfl (show decode prog_12_method_20_code 125 = .ok (.aload_n 0, 1) by decide +kernel) ?_
      refine hg_rgr (pc := 126) (r := (some o)) hC fl_SignalEngine_Reactor_63 (show decode prog_12_method_20_code 126 = .ok (.getfield 63, 3) by decide +kernel) h ?_
      intro e37 h
      refine hg_iloadn (pc := 129) (j := 1) (i := 1) hC 1 rfl rfl (show decode prog_12_method_20_code 129 = .ok (.iload_n 1, 1) by decide +kernel) ?_
      refine hg_riald (pc := 130) (r := e37) hC (show decode prog_12_method_20_code 130 = .ok (.iaload, 1) by decide +kernel) h ?_
      intro e38 h
      refine hg_iconst (pc := 131) (v := 2) hC (show decode prog_12_method_20_code 131 = .ok (.iconst 2, 1) by decide +kernel) (by decide +kernel) ?_
      refine hg_icmp_lt (pc := 132) (tgt := 168) hC (show decode prog_12_method_20_code 132 = .ok (.if_icmp .lt 36, 3) by decide +kernel) (by decide +kernel) h ?_ ?_
      · intro h
        exact hg_sub [0] rfl (lab_168 S36 h)
      · intro h
        refine hg_aloadn (pc := 135) (j := 0) (i := 0) (r := (some o)) hC 0 rfl rfl (show decode prog_12_method_20_code 135 = .ok (.aload_n 0, 1) by decide +kernel) ?_
        refine hg_iloadn (pc := 136) (j := 1) (i := 1) hC 1 rfl rfl (show decode prog_12_method_20_code 136 = .ok (.iload_n 1, 1) by decide +kernel) ?_
        obtain ⟨b39, hb40, h⟩ := dc_bind h
        obtain ⟨hb40, hv41⟩ := hg_chk_of (C := R_RE) rfl hb40
        refine hg_kVv (pc := 137) (b := b39) (r := (some o)) (As := [.int p1]) (rest := []) (so := fun q => q) hC cw_SignalEngine_Reactor_122 (fun q hq => hm_RE_clear_ok l D G S36 b39 p1 q hq) (Nat.le_of_ble_eq_true rfl) (Nat.le_of_ble_eq_true rfl) hb40 hv41 rfl (Nat.le_of_ble_eq_true rfl) (show decode prog_12_method_20_code 137 = .ok (.invokevirtual 122, 3) by decide +kernel) h ?_
        intro q42 h
        refine hg_aloadn (pc := 140) (j := 0) (i := 0) (r := (some o)) hC 0 rfl rfl (show decode prog_12_method_20_code 140 = .ok (.aload_n 0, 1) by decide +kernel) ?_
        refine hg_rgr (pc := 141) (r := (some o)) hC fl_SignalEngine_Reactor_63 (show decode prog_12_method_20_code 141 = .ok (.getfield 63, 3) by decide +kernel) h ?_
        intro e43 h
        refine hg_iloadn (pc := 144) (j := 1) (i := 1) hC 1 rfl rfl (show decode prog_12_method_20_code 144 = .ok (.iload_n 1, 1) by decide +kernel) ?_
        refine hg_aloadn (pc := 145) (j := 0) (i := 0) (r := (some o)) hC 0 rfl rfl (show decode prog_12_method_20_code 145 = .ok (.aload_n 0, 1) by decide +kernel) ?_
        refine hg_rgr (pc := 146) (r := (some o)) hC fl_SignalEngine_Reactor_63 (show decode prog_12_method_20_code 146 = .ok (.getfield 63, 3) by decide +kernel) h ?_
        intro e44 h
        refine hg_iloadn (pc := 149) (j := 1) (i := 1) hC 1 rfl rfl (show decode prog_12_method_20_code 149 = .ok (.iload_n 1, 1) by decide +kernel) ?_
        refine hg_riald (pc := 150) (r := e44) hC (show decode prog_12_method_20_code 150 = .ok (.iaload, 1) by decide +kernel) h ?_
        intro e45 h
        refine hg_iconst (pc := 151) (v := 2) hC (show decode prog_12_method_20_code 151 = .ok (.iconst 2, 1) by decide +kernel) (by decide +kernel) ?_
        refine hg_icmp_ne (pc := 152) (tgt := 159) hC (show decode prog_12_method_20_code 152 = .ok (.if_icmp .ne 7, 3) by decide +kernel) (by decide +kernel) h ?_ ?_
        · intro h
          refine hg_iconst (pc := 155) (v := 0) hC (show decode prog_12_method_20_code 155 = .ok (.iconst 0, 1) by decide +kernel) (by decide +kernel) ?_
          refine hg_goto (pc := 156) (tgt := 167) hC (show decode prog_12_method_20_code 156 = .ok (.goto 11, 3) by decide +kernel) (by decide +kernel) ?_
          exact hg_sub [0] rfl (lab_167 q42 0 p1 e43 h)
        · intro h
          refine hg_aloadn (pc := 159) (j := 0) (i := 0) (r := (some o)) hC 0 rfl rfl (show decode prog_12_method_20_code 159 = .ok (.aload_n 0, 1) by decide +kernel) ?_
          refine hg_rgr (pc := 160) (r := (some o)) hC fl_SignalEngine_Reactor_63 (show decode prog_12_method_20_code 160 = .ok (.getfield 63, 3) by decide +kernel) h ?_
          intro e46 h
          refine hg_iloadn (pc := 163) (j := 1) (i := 1) hC 1 rfl rfl (show decode prog_12_method_20_code 163 = .ok (.iload_n 1, 1) by decide +kernel) ?_
          refine hg_riald (pc := 164) (r := e46) hC (show decode prog_12_method_20_code 164 = .ok (.iaload, 1) by decide +kernel) h ?_
          intro e47 h
          refine hg_iconst (pc := 165) (v := 1) hC (show decode prog_12_method_20_code 165 = .ok (.iconst 1, 1) by decide +kernel) (by decide +kernel) ?_
          refine hg_isub (pc := 166) hC (show decode prog_12_method_20_code 166 = .ok (.isub, 1) by decide +kernel) ?_
          exact hg_sub [0] rfl (lab_167 q42 (e47 - 1) p1 e43 h)
    · intro h
      exact hg_sub [0] rfl (lab_168 S11 h)
noncomputable def hm_RE_goOnStart_L123 (G : hg_E) (S : hg_S) (o : Nat) (y0 : Int32) : Option (hg_S × Int32) :=
  some (S, y0)
noncomputable def hm_RE_goOnStart_L120 (G : hg_E) (S : hg_S) (o : Nat) (y0 : Int32) (y1 : Int32) : Option (hg_S × Int32) :=
  (hg_chk S (some o) 10).bind fun b1 => (hm_RE_within G S b1 y1 y0).bind fun q4 => hm_RE_goOnStart_L123 G q4.1 o q4.2
noncomputable def hm_RE_goOnStart (G : hg_E) (S : hg_S) (o : Nat) (p1 : Int32) (p2 : Int32) : Option (hg_S × Int32) :=
  (hg_gr S (some o) 10 0).bind fun e5 => (hg_gr S e5 9 9).bind fun e6 => (hg_ld S e6 (G.1 0) p1).bind fun e7 => (hg_gr S (some o) 10 0).bind fun e8 => (hg_gr S e8 9 7).bind fun e9 => (hg_ld S e9 (G.1 0) p1).bind fun e10 => dc_let (e10 : Int32) fun v11 => if v11 = 3 then ((hg_chk S (some o) 10).bind fun b12 => (hm_RE_goOnPresent G S b12 p1 p2).bind fun q15 => some (q15.1, q15.2)) else if v11 = 4 then ((hg_chk S (some o) 10).bind fun b17 => (hm_RE_closeSingle G S b17 p1 p2).bind fun q20 => some (q20, (-1))) else if v11 = 5 then (if p2 = e7 then ((hg_chk S (some o) 10).bind fun b22 => (hm_RE_putBehind G S b22 p1 p2).bind fun q25 => some (q25, (-1))) else ((hg_gr S (some o) 10 7).bind fun e26 => (hg_ld S e26 (G.1 0) p2).bind fun e27 => (hg_gr S (some o) 10 8).bind fun e28 => (hg_ld S e28 (G.1 0) p2).bind fun e29 => (hg_chk S (some o) 10).bind fun b30 => (hm_RE_answer G S b30 p1 e27 e29).bind fun q33 => (hg_gr q33 (some o) 10 7).bind fun e34 => (hg_ld q33 e34 (G.1 0) p1).bind fun e35 => if (e35 &&& 1) = 0 then (hm_RE_goOnStart_L123 G q33 o (-1)) else ((hg_gr q33 (some o) 10 8).bind fun e36 => (hg_ld q33 e36 (G.1 0) p1).bind fun e37 => if e37 = 0 then (hm_RE_goOnStart_L120 G q33 o 1 e7) else (hm_RE_goOnStart_L120 G q33 o 0 e7)))) else if v11 = 6 then ((hg_chk S (some o) 10).bind fun b39 => (hm_RE_closeSingle G S b39 p1 p2).bind fun q42 => some (q42, (-1))) else if v11 = 7 then (if p2 = e7 then ((hg_chk S (some o) 10).bind fun b44 => (hm_RE_closeBoth G S b44 p1).bind fun q47 => some (q47, (-1))) else ((hg_gr S (some o) 10 9).bind fun e48 => (hg_ld S e48 (G.1 2) p1).bind fun e49 => (hg_chk S (some o) 10).bind fun b50 => (hm_RE_within G S b50 e7 e49).bind fun q53 => some (q53.1, q53.2))) else ((hg_chk S (some o) 10).bind fun b55 => (hm_RE_closeSingle G S b55 p1 p2).bind fun q58 => some (q58, (-1)))
set_option maxHeartbeats 4000000 in
set_option maxRecDepth 100000 in
/-- SignalEngine$Reactor.goOnStart(II)I -/
theorem hm_RE_goOnStart_ok (l : Launch) (D : va_G) (G : hg_E) (Z : hg_S) (o : Nat) (p1 : Int32) (p2 : Int32) (q : hg_S × Int32) (hq : hm_RE_goOnStart G Z o p1 p2 = some q) : hg_C l ⟨"SignalEngine$Reactor", "goOnStart", "(II)I"⟩ prog_12_method_16_code 4 (some (.int)) 3 65 D G [.ref o, .int p1, .int p2] Z (.inl (some (.int q.2), q.1) : hg_O) := by
  refine hg_start (cv := fun q => (.inl (some (.int q.2), q.1) : hg_O)) hq ?_
  intro F hF h
  refine hg_enter (lv := [(0, va_rf (some o)), (1, .int p1), (2, .int p2)]) (by decide +kernel) (by simp [lg_sl, va_rf_cat, hg_cti, hg_ctr]) (by simp [lv_args, va_rf_cat, va_rf_some, hg_cti, hg_ctr]) ?_
  intro X hC hR
  have lab_123 : ∀ (S : hg_S) (y0 : Int32), dc_wp (hm_RE_goOnStart_L123 G S o y0) F → hg_G X l (hg_rm 3 65 Z) D 4 S 123 [(0, va_rf (some o))] [.int y0] := by
    intro S y0 h
    delta hm_RE_goOnStart_L123 at h
    exact hg_iret (pc := 123) hC hR (hF _ (dc_some h)) (show decode prog_12_method_16_code 123 = .ok (.ireturn, 1) by decide +kernel)
  have lab_120 : ∀ (S : hg_S) (y0 : Int32) (y1 : Int32), dc_wp (hm_RE_goOnStart_L120 G S o y0 y1) F → hg_G X l (hg_rm 3 65 Z) D 4 S 120 [(0, va_rf (some o))] [.int y0, .int y1, va_rf (some o)] := by
    intro S y0 y1 h
    delta hm_RE_goOnStart_L120 at h
    obtain ⟨b1, hb2, h⟩ := dc_bind h
    obtain ⟨hb2, hv3⟩ := hg_chk_of (C := R_RE) rfl hb2
    refine hg_kVi (pc := 120) (b := b1) (r := (some o)) (As := [.int y1, .int y0]) (rest := []) (vo := fun q => q.2) (so := fun q => q.1) hC cw_SignalEngine_Reactor_135 (fun q hq => hm_RE_within_ok l D G S b1 y1 y0 q hq) (Nat.le_of_ble_eq_true rfl) (Nat.le_of_ble_eq_true rfl) hb2 hv3 rfl (Nat.le_of_ble_eq_true rfl) (show decode prog_12_method_16_code 120 = .ok (.invokevirtual 135, 3) by decide +kernel) h ?_
    intro q4 h
    exact lab_123 q4.1 q4.2 h
  show hg_G X l (hg_rm 3 65 Z) D 4 Z 0 [(0, va_rf (some o)), (1, .int p1), (2, .int p2)] []
  have h : dc_wp (hm_RE_goOnStart G Z o p1 p2) F := h
  delta hm_RE_goOnStart at h
  refine hg_aloadn (pc := 0) (j := 0) (i := 0) (r := (some o)) hC 0 rfl rfl (show decode prog_12_method_16_code 0 = .ok (.aload_n 0, 1) by decide +kernel) ?_
  refine hg_rgr (pc := 1) (r := (some o)) hC fl_SignalEngine_Reactor_9 (show decode prog_12_method_16_code 1 = .ok (.getfield 9, 3) by decide +kernel) h ?_
  intro e5 h
  refine hg_rgr (pc := 4) (r := e5) hC fl_SignalEngine_Reactor_188 (show decode prog_12_method_16_code 4 = .ok (.getfield 188, 3) by decide +kernel) h ?_
  intro e6 h
  refine hg_iloadn (pc := 7) (j := 1) (i := 1) hC 1 rfl rfl (show decode prog_12_method_16_code 7 = .ok (.iload_n 1, 1) by decide +kernel) ?_
  refine hg_riald (pc := 8) (r := e6) hC (show decode prog_12_method_16_code 8 = .ok (.iaload, 1) by decide +kernel) h ?_
  intro e7 h
  refine hg_istoren (pc := 9) (j := 3) (i := 3) (lv' := [(3, .int e7), (0, va_rf (some o)), (1, .int p1), (2, .int p2)]) hC rfl (Nat.le_of_ble_eq_true rfl) rfl (show decode prog_12_method_16_code 9 = .ok (.istore_n 3, 1) by decide +kernel) ?_
  refine hg_aloadn (pc := 10) (j := 0) (i := 0) (r := (some o)) hC 1 rfl rfl (show decode prog_12_method_16_code 10 = .ok (.aload_n 0, 1) by decide +kernel) ?_
  refine hg_rgr (pc := 11) (r := (some o)) hC fl_SignalEngine_Reactor_9 (show decode prog_12_method_16_code 11 = .ok (.getfield 9, 3) by decide +kernel) h ?_
  intro e8 h
  refine hg_rgr (pc := 14) (r := e8) hC fl_SignalEngine_Reactor_15 (show decode prog_12_method_16_code 14 = .ok (.getfield 15, 3) by decide +kernel) h ?_
  intro e9 h
  refine hg_iloadn (pc := 17) (j := 1) (i := 1) hC 2 rfl rfl (show decode prog_12_method_16_code 17 = .ok (.iload_n 1, 1) by decide +kernel) ?_
  refine hg_riald (pc := 18) (r := e9) hC (show decode prog_12_method_16_code 18 = .ok (.iaload, 1) by decide +kernel) h ?_
  intro e10 h
  refine hg_letI h ?_
  intro v11 h
  rcases dc_ite h with ⟨hk16, h2⟩ | ⟨hk16, h2⟩
  · subst hk16; clear h; have h := h2; clear h2
    refine hg_tabIn (pc := 19) (off := 33) (tgt := 52) hC dsw_prog_12_method_16_code_19 (by decide +kernel) (by decide +kernel) (by decide +kernel) (by decide +kernel) ?_
    refine hg_aloadn (pc := 52) (j := 0) (i := 0) (r := (some o)) hC 1 rfl rfl (show decode prog_12_method_16_code 52 = .ok (.aload_n 0, 1) by decide +kernel) ?_
    refine hg_iloadn (pc := 53) (j := 1) (i := 1) hC 2 rfl rfl (show decode prog_12_method_16_code 53 = .ok (.iload_n 1, 1) by decide +kernel) ?_
    refine hg_iloadn (pc := 54) (j := 2) (i := 2) hC 3 rfl rfl (show decode prog_12_method_16_code 54 = .ok (.iload_n 2, 1) by decide +kernel) ?_
    obtain ⟨b12, hb13, h⟩ := dc_bind h
    obtain ⟨hb13, hv14⟩ := hg_chk_of (C := R_RE) rfl hb13
    refine hg_kVi (pc := 55) (b := b12) (r := (some o)) (As := [.int p1, .int p2]) (rest := []) (vo := fun q => q.2) (so := fun q => q.1) hC cw_SignalEngine_Reactor_191 (fun q hq => hm_RE_goOnPresent_ok l D G Z b12 p1 p2 q hq) (Nat.le_of_ble_eq_true rfl) (Nat.le_of_ble_eq_true rfl) hb13 hv14 rfl (Nat.le_of_ble_eq_true rfl) (show decode prog_12_method_16_code 55 = .ok (.invokevirtual 191, 3) by decide +kernel) h ?_
    intro q15 h
    exact hg_iret (pc := 58) hC hR (hF _ (dc_some h)) (show decode prog_12_method_16_code 58 = .ok (.ireturn, 1) by decide +kernel)
  clear h; have h := h2; clear h2
  rcases dc_ite h with ⟨hk21, h2⟩ | ⟨hk21, h2⟩
  · subst hk21; clear h; have h := h2; clear h2
    refine hg_tabIn (pc := 19) (off := 129) (tgt := 148) hC dsw_prog_12_method_16_code_19 (by decide +kernel) (by decide +kernel) (by decide +kernel) (by decide +kernel) ?_
    refine hg_aloadn (pc := 148) (j := 0) (i := 0) (r := (some o)) hC 1 rfl rfl (show decode prog_12_method_16_code 148 = .ok (.aload_n 0, 1) by decide +kernel) ?_
    refine hg_iloadn (pc := 149) (j := 1) (i := 1) hC 2 rfl rfl (show decode prog_12_method_16_code 149 = .ok (.iload_n 1, 1) by decide +kernel) ?_
    refine hg_iloadn (pc := 150) (j := 2) (i := 2) hC 3 rfl rfl (show decode prog_12_method_16_code 150 = .ok (.iload_n 2, 1) by decide +kernel) ?_
    obtain ⟨b17, hb18, h⟩ := dc_bind h
    obtain ⟨hb18, hv19⟩ := hg_chk_of (C := R_RE) rfl hb18
    refine hg_kVv (pc := 151) (b := b17) (r := (some o)) (As := [.int p1, .int p2]) (rest := []) (so := fun q => q) hC cw_SignalEngine_Reactor_201 (fun q hq => hm_RE_closeSingle_ok l D G Z b17 p1 p2 q hq) (Nat.le_of_ble_eq_true rfl) (Nat.le_of_ble_eq_true rfl) hb18 hv19 rfl (Nat.le_of_ble_eq_true rfl) (show decode prog_12_method_16_code 151 = .ok (.invokevirtual 201, 3) by decide +kernel) h ?_
    intro q20 h
    refine hg_iconst (pc := 154) (v := (-1)) hC (show decode prog_12_method_16_code 154 = .ok (.iconst (-1), 1) by decide +kernel) (by decide +kernel) ?_
    exact hg_iret (pc := 155) hC hR (hF _ (dc_some h)) (show decode prog_12_method_16_code 155 = .ok (.ireturn, 1) by decide +kernel)
  clear h; have h := h2; clear h2
  rcases dc_ite h with ⟨hk38, h2⟩ | ⟨hk38, h2⟩
  · subst hk38; clear h; have h := h2; clear h2
    refine hg_tabIn (pc := 19) (off := 40) (tgt := 59) hC dsw_prog_12_method_16_code_19 (by decide +kernel) (by decide +kernel) (by decide +kernel) (by decide +kernel) ?_
    refine hg_iloadn (pc := 59) (j := 2) (i := 2) hC 3 rfl rfl (show decode prog_12_method_16_code 59 = .ok (.iload_n 2, 1) by decide +kernel) ?_
    refine hg_iloadn (pc := 60) (j := 3) (i := 3) hC 0 rfl rfl (show decode prog_12_method_16_code 60 = .ok (.iload_n 3, 1) by decide +kernel) ?_
    refine hg_icmp_ne (pc := 61) (tgt := 72) hC (show decode prog_12_method_16_code 61 = .ok (.if_icmp .ne 11, 3) by decide +kernel) (by decide +kernel) h ?_ ?_
    · intro h
      refine hg_aloadn (pc := 64) (j := 0) (i := 0) (r := (some o)) hC 1 rfl rfl (show decode prog_12_method_16_code 64 = .ok (.aload_n 0, 1) by decide +kernel) ?_
      refine hg_iloadn (pc := 65) (j := 1) (i := 1) hC 2 rfl rfl (show decode prog_12_method_16_code 65 = .ok (.iload_n 1, 1) by decide +kernel) ?_
      refine hg_iloadn (pc := 66) (j := 2) (i := 2) hC 3 rfl rfl (show decode prog_12_method_16_code 66 = .ok (.iload_n 2, 1) by decide +kernel) ?_
      obtain ⟨b22, hb23, h⟩ := dc_bind h
      obtain ⟨hb23, hv24⟩ := hg_chk_of (C := R_RE) rfl hb23
      refine hg_kVv (pc := 67) (b := b22) (r := (some o)) (As := [.int p1, .int p2]) (rest := []) (so := fun q => q) hC cw_SignalEngine_Reactor_194 (fun q hq => hm_RE_putBehind_ok l D G Z b22 p1 p2 q hq) (Nat.le_of_ble_eq_true rfl) (Nat.le_of_ble_eq_true rfl) hb23 hv24 rfl (Nat.le_of_ble_eq_true rfl) (show decode prog_12_method_16_code 67 = .ok (.invokevirtual 194, 3) by decide +kernel) h ?_
      intro q25 h
      refine hg_iconst (pc := 70) (v := (-1)) hC (show decode prog_12_method_16_code 70 = .ok (.iconst (-1), 1) by decide +kernel) (by decide +kernel) ?_
      exact hg_iret (pc := 71) hC hR (hF _ (dc_some h)) (show decode prog_12_method_16_code 71 = .ok (.ireturn, 1) by decide +kernel)
    · intro h
      refine hg_aloadn (pc := 72) (j := 0) (i := 0) (r := (some o)) hC 1 rfl rfl (show decode prog_12_method_16_code 72 = .ok (.aload_n 0, 1) by decide +kernel) ?_
      refine hg_iloadn (pc := 73) (j := 1) (i := 1) hC 2 rfl rfl (show decode prog_12_method_16_code 73 = .ok (.iload_n 1, 1) by decide +kernel) ?_
      refine hg_aloadn (pc := 74) (j := 0) (i := 0) (r := (some o)) hC 1 rfl rfl (show decode prog_12_method_16_code 74 = .ok (.aload_n 0, 1) by decide +kernel) ?_
      refine hg_rgr (pc := 75) (r := (some o)) hC fl_SignalEngine_Reactor_60 (show decode prog_12_method_16_code 75 = .ok (.getfield 60, 3) by decide +kernel) h ?_
      intro e26 h
      refine hg_iloadn (pc := 78) (j := 2) (i := 2) hC 3 rfl rfl (show decode prog_12_method_16_code 78 = .ok (.iload_n 2, 1) by decide +kernel) ?_
      refine hg_riald (pc := 79) (r := e26) hC (show decode prog_12_method_16_code 79 = .ok (.iaload, 1) by decide +kernel) h ?_
      intro e27 h
      refine hg_aloadn (pc := 80) (j := 0) (i := 0) (r := (some o)) hC 1 rfl rfl (show decode prog_12_method_16_code 80 = .ok (.aload_n 0, 1) by decide +kernel) ?_
      refine hg_rgr (pc := 81) (r := (some o)) hC fl_SignalEngine_Reactor_63 (show decode prog_12_method_16_code 81 = .ok (.getfield 63, 3) by decide +kernel) h ?_
      intro e28 h
      refine hg_iloadn (pc := 84) (j := 2) (i := 2) hC 3 rfl rfl (show decode prog_12_method_16_code 84 = .ok (.iload_n 2, 1) by decide +kernel) ?_
      refine hg_riald (pc := 85) (r := e28) hC (show decode prog_12_method_16_code 85 = .ok (.iaload, 1) by decide +kernel) h ?_
      intro e29 h
      obtain ⟨b30, hb31, h⟩ := dc_bind h
      obtain ⟨hb31, hv32⟩ := hg_chk_of (C := R_RE) rfl hb31
      refine hg_kVv (pc := 86) (b := b30) (r := (some o)) (As := [.int p1, .int e27, .int e29]) (rest := []) (so := fun q => q) hC cw_SignalEngine_Reactor_171 (fun q hq => hm_RE_answer_ok l D G Z b30 p1 e27 e29 q hq) (Nat.le_of_ble_eq_true rfl) (Nat.le_of_ble_eq_true rfl) hb31 hv32 rfl (Nat.le_of_ble_eq_true rfl) (show decode prog_12_method_16_code 86 = .ok (.invokevirtual 171, 3) by decide +kernel) h ?_
      intro q33 h
      refine hg_aloadn (pc := 89) (j := 0) (i := 0) (r := (some o)) hC 1 rfl rfl (show decode prog_12_method_16_code 89 = .ok (.aload_n 0, 1) by decide +kernel) ?_
      refine hg_rgr (pc := 90) (r := (some o)) hC fl_SignalEngine_Reactor_60 (show decode prog_12_method_16_code 90 = .ok (.getfield 60, 3) by decide +kernel) h ?_
      intro e34 h
      refine hg_iloadn (pc := 93) (j := 1) (i := 1) hC 2 rfl rfl (show decode prog_12_method_16_code 93 = .ok (.iload_n 1, 1) by decide +kernel) ?_
      refine hg_riald (pc := 94) (r := e34) hC (show decode prog_12_method_16_code 94 = .ok (.iaload, 1) by decide +kernel) h ?_
      intro e35 h
      refine hg_iconst (pc := 95) (v := 1) hC (show decode prog_12_method_16_code 95 = .ok (.iconst 1, 1) by decide +kernel) (by decide +kernel) ?_
      refine hg_iand (pc := 96) hC (show decode prog_12_method_16_code 96 = .ok (.iand, 1) by decide +kernel) ?_
      refine hg_if_ne (pc := 97) (tgt := 104) hC (show decode prog_12_method_16_code 97 = .ok (.ifCond .ne 7, 3) by decide +kernel) (by decide +kernel) h ?_ ?_
      · intro h
        refine hg_iconst (pc := 100) (v := (-1)) hC (show decode prog_12_method_16_code 100 = .ok (.iconst (-1), 1) by decide +kernel) (by decide +kernel) ?_
        refine hg_goto (pc := 101) (tgt := 123) hC (show decode prog_12_method_16_code 101 = .ok (.goto 22, 3) by decide +kernel) (by decide +kernel) ?_
        exact hg_sub [1] rfl (lab_123 q33 (-1) h)
      · intro h
        refine hg_aloadn (pc := 104) (j := 0) (i := 0) (r := (some o)) hC 1 rfl rfl (show decode prog_12_method_16_code 104 = .ok (.aload_n 0, 1) by decide +kernel) ?_
        refine hg_iloadn (pc := 105) (j := 3) (i := 3) hC 0 rfl rfl (show decode prog_12_method_16_code 105 = .ok (.iload_n 3, 1) by decide +kernel) ?_
        refine hg_aloadn (pc := 106) (j := 0) (i := 0) (r := (some o)) hC 1 rfl rfl (show decode prog_12_method_16_code 106 = .ok (.aload_n 0, 1) by decide +kernel) ?_
        refine hg_rgr (pc := 107) (r := (some o)) hC fl_SignalEngine_Reactor_63 (show decode prog_12_method_16_code 107 = .ok (.getfield 63, 3) by decide +kernel) h ?_
        intro e36 h
        refine hg_iloadn (pc := 110) (j := 1) (i := 1) hC 2 rfl rfl (show decode prog_12_method_16_code 110 = .ok (.iload_n 1, 1) by decide +kernel) ?_
        refine hg_riald (pc := 111) (r := e36) hC (show decode prog_12_method_16_code 111 = .ok (.iaload, 1) by decide +kernel) h ?_
        intro e37 h
        refine hg_if_ne (pc := 112) (tgt := 119) hC (show decode prog_12_method_16_code 112 = .ok (.ifCond .ne 7, 3) by decide +kernel) (by decide +kernel) h ?_ ?_
        · intro h
          refine hg_iconst (pc := 115) (v := 1) hC (show decode prog_12_method_16_code 115 = .ok (.iconst 1, 1) by decide +kernel) (by decide +kernel) ?_
          refine hg_goto (pc := 116) (tgt := 120) hC (show decode prog_12_method_16_code 116 = .ok (.goto 4, 3) by decide +kernel) (by decide +kernel) ?_
          exact hg_sub [1] rfl (lab_120 q33 1 e7 h)
        · intro h
          refine hg_iconst (pc := 119) (v := 0) hC (show decode prog_12_method_16_code 119 = .ok (.iconst 0, 1) by decide +kernel) (by decide +kernel) ?_
          exact hg_sub [1] rfl (lab_120 q33 0 e7 h)
  clear h; have h := h2; clear h2
  rcases dc_ite h with ⟨hk43, h2⟩ | ⟨hk43, h2⟩
  · subst hk43; clear h; have h := h2; clear h2
    refine hg_tabIn (pc := 19) (off := 129) (tgt := 148) hC dsw_prog_12_method_16_code_19 (by decide +kernel) (by decide +kernel) (by decide +kernel) (by decide +kernel) ?_
    refine hg_aloadn (pc := 148) (j := 0) (i := 0) (r := (some o)) hC 1 rfl rfl (show decode prog_12_method_16_code 148 = .ok (.aload_n 0, 1) by decide +kernel) ?_
    refine hg_iloadn (pc := 149) (j := 1) (i := 1) hC 2 rfl rfl (show decode prog_12_method_16_code 149 = .ok (.iload_n 1, 1) by decide +kernel) ?_
    refine hg_iloadn (pc := 150) (j := 2) (i := 2) hC 3 rfl rfl (show decode prog_12_method_16_code 150 = .ok (.iload_n 2, 1) by decide +kernel) ?_
    obtain ⟨b39, hb40, h⟩ := dc_bind h
    obtain ⟨hb40, hv41⟩ := hg_chk_of (C := R_RE) rfl hb40
    refine hg_kVv (pc := 151) (b := b39) (r := (some o)) (As := [.int p1, .int p2]) (rest := []) (so := fun q => q) hC cw_SignalEngine_Reactor_201 (fun q hq => hm_RE_closeSingle_ok l D G Z b39 p1 p2 q hq) (Nat.le_of_ble_eq_true rfl) (Nat.le_of_ble_eq_true rfl) hb40 hv41 rfl (Nat.le_of_ble_eq_true rfl) (show decode prog_12_method_16_code 151 = .ok (.invokevirtual 201, 3) by decide +kernel) h ?_
    intro q42 h
    refine hg_iconst (pc := 154) (v := (-1)) hC (show decode prog_12_method_16_code 154 = .ok (.iconst (-1), 1) by decide +kernel) (by decide +kernel) ?_
    exact hg_iret (pc := 155) hC hR (hF _ (dc_some h)) (show decode prog_12_method_16_code 155 = .ok (.ireturn, 1) by decide +kernel)
  clear h; have h := h2; clear h2
  rcases dc_ite h with ⟨hk54, h2⟩ | ⟨hk54, h2⟩
  · subst hk54; clear h; have h := h2; clear h2
    refine hg_tabIn (pc := 19) (off := 105) (tgt := 124) hC dsw_prog_12_method_16_code_19 (by decide +kernel) (by decide +kernel) (by decide +kernel) (by decide +kernel) ?_
    refine hg_iloadn (pc := 124) (j := 2) (i := 2) hC 3 rfl rfl (show decode prog_12_method_16_code 124 = .ok (.iload_n 2, 1) by decide +kernel) ?_
    refine hg_iloadn (pc := 125) (j := 3) (i := 3) hC 0 rfl rfl (show decode prog_12_method_16_code 125 = .ok (.iload_n 3, 1) by decide +kernel) ?_
    refine hg_icmp_eq (pc := 126) (tgt := 141) hC (show decode prog_12_method_16_code 126 = .ok (.if_icmp .eq 15, 3) by decide +kernel) (by decide +kernel) h ?_ ?_
    · intro h
      refine hg_aloadn (pc := 141) (j := 0) (i := 0) (r := (some o)) hC 1 rfl rfl (show decode prog_12_method_16_code 141 = .ok (.aload_n 0, 1) by decide +kernel) ?_
      refine hg_iloadn (pc := 142) (j := 1) (i := 1) hC 2 rfl rfl (show decode prog_12_method_16_code 142 = .ok (.iload_n 1, 1) by decide +kernel) ?_
      obtain ⟨b44, hb45, h⟩ := dc_bind h
      obtain ⟨hb45, hv46⟩ := hg_chk_of (C := R_RE) rfl hb45
      refine hg_kVv (pc := 143) (b := b44) (r := (some o)) (As := [.int p1]) (rest := []) (so := fun q => q) hC cw_SignalEngine_Reactor_198 (fun q hq => hm_RE_closeBoth_ok l D G Z b44 p1 q hq) (Nat.le_of_ble_eq_true rfl) (Nat.le_of_ble_eq_true rfl) hb45 hv46 rfl (Nat.le_of_ble_eq_true rfl) (show decode prog_12_method_16_code 143 = .ok (.invokevirtual 198, 3) by decide +kernel) h ?_
      intro q47 h
      refine hg_iconst (pc := 146) (v := (-1)) hC (show decode prog_12_method_16_code 146 = .ok (.iconst (-1), 1) by decide +kernel) (by decide +kernel) ?_
      exact hg_iret (pc := 147) hC hR (hF _ (dc_some h)) (show decode prog_12_method_16_code 147 = .ok (.ireturn, 1) by decide +kernel)
    · intro h
      refine hg_aloadn (pc := 129) (j := 0) (i := 0) (r := (some o)) hC 1 rfl rfl (show decode prog_12_method_16_code 129 = .ok (.aload_n 0, 1) by decide +kernel) ?_
      refine hg_iloadn (pc := 130) (j := 3) (i := 3) hC 0 rfl rfl (show decode prog_12_method_16_code 130 = .ok (.iload_n 3, 1) by decide +kernel) ?_
      refine hg_aloadn (pc := 131) (j := 0) (i := 0) (r := (some o)) hC 1 rfl rfl (show decode prog_12_method_16_code 131 = .ok (.aload_n 0, 1) by decide +kernel) ?_
      refine hg_rgr (pc := 132) (r := (some o)) hC fl_SignalEngine_Reactor_66 (show decode prog_12_method_16_code 132 = .ok (.getfield 66, 3) by decide +kernel) h ?_
      intro e48 h
      refine hg_iloadn (pc := 135) (j := 1) (i := 1) hC 2 rfl rfl (show decode prog_12_method_16_code 135 = .ok (.iload_n 1, 1) by decide +kernel) ?_
      refine hg_rzald (pc := 136) (r := e48) hC (show decode prog_12_method_16_code 136 = .ok (.baload, 1) by decide +kernel) h ?_
      intro e49 h
      obtain ⟨b50, hb51, h⟩ := dc_bind h
      obtain ⟨hb51, hv52⟩ := hg_chk_of (C := R_RE) rfl hb51
      refine hg_kVi (pc := 137) (b := b50) (r := (some o)) (As := [.int e7, .int e49]) (rest := []) (vo := fun q => q.2) (so := fun q => q.1) hC cw_SignalEngine_Reactor_135 (fun q hq => hm_RE_within_ok l D G Z b50 e7 e49 q hq) (Nat.le_of_ble_eq_true rfl) (Nat.le_of_ble_eq_true rfl) hb51 hv52 rfl (Nat.le_of_ble_eq_true rfl) (show decode prog_12_method_16_code 137 = .ok (.invokevirtual 135, 3) by decide +kernel) h ?_
      intro q53 h
      exact hg_iret (pc := 140) hC hR (hF _ (dc_some h)) (show decode prog_12_method_16_code 140 = .ok (.ireturn, 1) by decide +kernel)
  clear h; have h := h2; clear h2
  refine hg_tabOut (pc := 19) (tgt := 148) hC dsw_prog_12_method_16_code_19 (by have := dc_swc hk16 (show (3 : Int32).toInt = 3 by decide +kernel); have := dc_swc hk21 (show (4 : Int32).toInt = 4 by decide +kernel); have := dc_swc hk38 (show (5 : Int32).toInt = 5 by decide +kernel); have := dc_swc hk43 (show (6 : Int32).toInt = 6 by decide +kernel); have := dc_swc hk54 (show (7 : Int32).toInt = 7 by decide +kernel); omega) (by decide +kernel) ?_
  refine hg_aloadn (pc := 148) (j := 0) (i := 0) (r := (some o)) hC 1 rfl rfl (show decode prog_12_method_16_code 148 = .ok (.aload_n 0, 1) by decide +kernel) ?_
  refine hg_iloadn (pc := 149) (j := 1) (i := 1) hC 2 rfl rfl (show decode prog_12_method_16_code 149 = .ok (.iload_n 1, 1) by decide +kernel) ?_
  refine hg_iloadn (pc := 150) (j := 2) (i := 2) hC 3 rfl rfl (show decode prog_12_method_16_code 150 = .ok (.iload_n 2, 1) by decide +kernel) ?_
  obtain ⟨b55, hb56, h⟩ := dc_bind h
  obtain ⟨hb56, hv57⟩ := hg_chk_of (C := R_RE) rfl hb56
  refine hg_kVv (pc := 151) (b := b55) (r := (some o)) (As := [.int p1, .int p2]) (rest := []) (so := fun q => q) hC cw_SignalEngine_Reactor_201 (fun q hq => hm_RE_closeSingle_ok l D G Z b55 p1 p2 q hq) (Nat.le_of_ble_eq_true rfl) (Nat.le_of_ble_eq_true rfl) hb56 hv57 rfl (Nat.le_of_ble_eq_true rfl) (show decode prog_12_method_16_code 151 = .ok (.invokevirtual 201, 3) by decide +kernel) h ?_
  intro q58 h
  refine hg_iconst (pc := 154) (v := (-1)) hC (show decode prog_12_method_16_code 154 = .ok (.iconst (-1), 1) by decide +kernel) (by decide +kernel) ?_
  exact hg_iret (pc := 155) hC hR (hF _ (dc_some h)) (show decode prog_12_method_16_code 155 = .ok (.ireturn, 1) by decide +kernel)
