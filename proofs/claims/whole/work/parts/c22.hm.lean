noncomputable def hm_PA_takeRow_L53 (T : hm_T2) (G : hg_E) (S : hg_S) (o : Nat) (x1 : Option Nat) : Option ((hg_S × (Option Nat)) ⊕ hg_X) :=
  some (.inl (S, x1))
noncomputable def hm_PA_takeRow_b7 (T : hm_T2) (G : hg_E) (S : hg_S) (o : Nat) (x1 : Option Nat) (x2 : Int32) : Option ((hg_S × (Option Nat) × Int32) ⊕ ((hg_S × (Option Nat)) ⊕ (hg_X))) :=
  (hg_gr S (some o) 4 0).bind fun e1 => (hg_gr S e1 2 0).bind fun e2 => (hg_ln S e2 (G.1 1)).bind fun e3 => if x2 < e3 then ((hg_chk S (some o) 4).bind fun b4 => (hm_PA_skip G S b4 (some (G.2.1 26))).bind (Sum.elim (fun q7 => if q7.2 = 0 then (some (.inr (.inl (q7.1, x1)))) else ((hg_gr q7.1 (some o) 4 3).bind fun e8 => (hg_chk q7.1 (some o) 4).bind fun b9 => (T.2.2.1 G q7.1 b9).bind (Sum.elim (fun q12 => (hg_gi q12.1 x1 8 1).bind fun e13 => (hg_chk q12.1 e8 6).bind fun b14 => (hm_DR_join G q12.1 b14 (5 : Int32) x1 q12.2 e13).bind fun q17 => some (.inl (q17.1, q17.2, (x2 + 1)))) (fun z => some (Sum.inr (.inr z)))))) (fun z => some (Sum.inr (.inr z))))) else (some (.inr (.inl (S, x1))))
noncomputable def hm_PA_takeRow_s7 (T : hm_T2) (G : hg_E) (o : Nat) (q : hg_S × (Option Nat) × Int32) : Option ((hg_S × (Option Nat) × Int32) ⊕ ((hg_S × (Option Nat)) ⊕ (hg_X))) :=
  hm_PA_takeRow_b7 T G q.1 o q.2.1 q.2.2
noncomputable def hm_PA_takeRow_L7 (T : hm_T2) (G : hg_E) (S : hg_S) (o : Nat) (x1 : Option Nat) (x2 : Int32) : Option ((hg_S × (Option Nat)) ⊕ hg_X) :=
  (dc_it (hm_PA_takeRow_s7 T G o) (S, x1, x2)).bind (Sum.elim (fun (z : hg_S × (Option Nat)) => hm_PA_takeRow_L53 T G z.1 o z.2) (fun (z : hg_X) => some (Sum.inr z)))
noncomputable def hm_PA_takeRow (T : hm_T2) (G : hg_E) (S : hg_S) (o : Nat) : Option ((hg_S × (Option Nat)) ⊕ hg_X) :=
  (hg_chk S (some o) 4).bind fun b18 => (T.2.2.1 G S b18).bind (Sum.elim (fun q21 => hm_PA_takeRow_L7 T G q21.1 o q21.2 0) (fun z => some (Sum.inr z)))
set_option maxHeartbeats 4000000 in
set_option maxRecDepth 100000 in
/-- SignalEngine$Parser.takeRow()LSignalEngine$Node; -/
theorem hm_PA_takeRow_ok (l : Launch) (hlt : l.stackTraces = false) (D : va_G) (G : hg_E) (T : hm_T2) (d : Nat) (hT : hm_OK2 l D G T d) (Z : hg_S) (o : Nat) (q : (hg_S × (Option Nat)) ⊕ hg_X) (hq : hm_PA_takeRow T G Z o = some q) : hg_C l ⟨"SignalEngine$Parser", "takeRow", "()LSignalEngine$Node;"⟩ prog_9_method_11_code 3 (some (.object "SignalEngine$Node")) (d + 1 + 410) (26 * (d + 1) + 8987) D G [.ref o] Z (Sum.elim (fun q => (.inl (some (va_rf q.2), q.1) : hg_O)) hg_ox q) := by
  refine hg_start (cv := fun q => (Sum.elim (fun q => (.inl (some (va_rf q.2), q.1) : hg_O)) hg_ox q)) hq ?_
  intro F hF h
  refine hg_enter (lv := [(0, va_rf (some o))]) (by decide +kernel) (by simp [lg_sl, va_rf_cat, hg_cti, hg_ctr]) (by simp [lv_args, va_rf_cat, va_rf_some, hg_cti, hg_ctr]) ?_
  intro X hC hR
  have lab_53 : ∀ (S : hg_S) (x1 : Option Nat), dc_wp (hm_PA_takeRow_L53 T G S o x1) F → hg_G X l (hg_rm (d + 1 + 410) (26 * (d + 1) + 8987) Z) D 3 S 53 [(0, va_rf (some o)), (1, va_rf x1)] [] := by
    intro S x1 h
    delta hm_PA_takeRow_L53 at h
    refine hg_aloadn (pc := 53) (j := 1) (i := 1) (r := x1) hC 1 rfl rfl (show decode prog_9_method_11_code 53 = .ok (.aload_n 1, 1) by decide +kernel) ?_
    exact hg_aret (pc := 54) (r := x1) hC hR (by first | exact Or.inl ⟨_, rfl⟩ | exact Or.inr ⟨_, rfl⟩) (hF _ (dc_some h)) (show decode prog_9_method_11_code 54 = .ok (.areturn, 1) by decide +kernel)
  have loop_7 : ∀ (q : hg_S × (Option Nat) × Int32), dc_wp (dc_it (hm_PA_takeRow_s7 T G o) q) (fun z => dc_wp ((Sum.elim (fun (z : hg_S × (Option Nat)) => hm_PA_takeRow_L53 T G z.1 o z.2) (fun (z : hg_X) => some (Sum.inr z))) z) F) → hg_G X l (hg_rm (d + 1 + 410) (26 * (d + 1) + 8987) Z) D 3 q.1 7 [(0, va_rf (some o)), (1, va_rf q.2.1), (2, .int q.2.2)] [] := by
    refine dc_loopF ?_
    intro F_7 hl_7 hr_7
    rintro ⟨S, x1, x2⟩ h
    have h : dc_wp (hm_PA_takeRow_b7 T G S o x1 x2) F_7 := h
    delta hm_PA_takeRow_b7 at h
    refine hg_iloadn (pc := 7) (j := 2) (i := 2) hC 2 rfl rfl (show decode prog_9_method_11_code 7 = .ok (.iload_n 2, 1) by decide +kernel) ?_
    refine hg_aloadn (pc := 8) (j := 0) (i := 0) (r := (some o)) hC 0 rfl rfl (show decode prog_9_method_11_code 8 = .ok (.aload_n 0, 1) by decide +kernel) ?_
    refine hg_rgr (pc := 9) (r := (some o)) hC fl_SignalEngine_Parser_23 (show decode prog_9_method_11_code 9 = .ok (.getfield 23, 3) by decide +kernel) h ?_
    intro e1 h
    refine hg_rgr (pc := 12) (r := e1) hC fl_SignalEngine_Parser_106 (show decode prog_9_method_11_code 12 = .ok (.getfield 106, 3) by decide +kernel) h ?_
    intro e2 h
    refine hg_rlen (pc := 15) (r := e2) (t := 1) hC rfl (show decode prog_9_method_11_code 15 = .ok (.arraylength, 1) by decide +kernel) h ?_
    intro e3 h
    refine hg_icmp_ge (pc := 16) (tgt := 53) hC (show decode prog_9_method_11_code 16 = .ok (.if_icmp .ge 37, 3) by decide +kernel) (by decide +kernel) h ?_ ?_
    · intro h
      refine hg_aloadn (pc := 19) (j := 0) (i := 0) (r := (some o)) hC 0 rfl rfl (show decode prog_9_method_11_code 19 = .ok (.aload_n 0, 1) by decide +kernel) ?_
      refine hg_tok (pc := 20) (j := 26) hC (by decide) rfl w_506 (show decode prog_9_method_11_code 20 = .ok (.getstatic 85, 3) by decide +kernel) ?_
      obtain ⟨b4, hb5, h⟩ := dc_bind h
      obtain ⟨hb5, hv6⟩ := hg_chk_of (C := R_PA) rfl hb5
      refine hg_kVTi (pc := 23) (b := b4) (r := (some o)) (As := [va_rf (some (G.2.1 26))]) (rest := []) (vo := fun q => q.2) (so := fun q => q.1) hC hR cw_SignalEngine_Parser_127 (fun q hq => hm_PA_skip_ok l hlt D G S b4 (some (G.2.1 26)) q hq) (by show _ + 1 ≤ d + 1 + 410; omega) (by show _ ≤ 26 * (d + 1) + 8987; omega) hb5 hv6 rfl (Nat.le_of_ble_eq_true rfl) (show decode prog_9_method_11_code 23 = .ok (.invokevirtual 127, 3) by decide +kernel) h (fun z h => (fun (h : dc_wp (some (Sum.inr z)) F) => hF (.inr z) (dc_some h)) (hr_7 (.inr z) (dc_some h))) ?_
      intro q7 h
      refine hg_if_eq (pc := 26) (tgt := 53) hC (show decode prog_9_method_11_code 26 = .ok (.ifCond .eq 27, 3) by decide +kernel) (by decide +kernel) h ?_ ?_
      · intro h
        have h : dc_wp (hm_PA_takeRow_L53 T G q7.1 o x1) F := hr_7 (.inl (q7.1, x1)) (dc_some h)
        exact hg_sub [0, 1] rfl (lab_53 q7.1 x1 h)
      · intro h
        refine hg_aloadn (pc := 29) (j := 0) (i := 0) (r := (some o)) hC 0 rfl rfl (show decode prog_9_method_11_code 29 = .ok (.aload_n 0, 1) by decide +kernel) ?_
        refine hg_rgr (pc := 30) (r := (some o)) hC fl_SignalEngine_Parser_12 (show decode prog_9_method_11_code 30 = .ok (.getfield 12, 3) by decide +kernel) h ?_
        intro e8 h
        refine hg_iconst (pc := 33) (v := 5) hC (show decode prog_9_method_11_code 33 = .ok (.iconst 5, 1) by decide +kernel) (by decide +kernel) ?_
        refine hg_aloadn (pc := 34) (j := 1) (i := 1) (r := x1) hC 1 rfl rfl (show decode prog_9_method_11_code 34 = .ok (.aload_n 1, 1) by decide +kernel) ?_
        refine hg_aloadn (pc := 35) (j := 0) (i := 0) (r := (some o)) hC 0 rfl rfl (show decode prog_9_method_11_code 35 = .ok (.aload_n 0, 1) by decide +kernel) ?_
        obtain ⟨b9, hb10, h⟩ := dc_bind h
        obtain ⟨hb10, hv11⟩ := hg_chk_of (C := R_PA) rfl hb10
        refine hg_kVTr (pc := 36) (b := b9) (r := (some o)) (As := []) (rest := [va_rf x1, .int 5, va_rf e8]) (vo := fun q => q.2) (so := fun q => q.1) hC hR cw_SignalEngine_Parser_151 (fun q hq => hT.2.2.1 q7.1 b9 q hq) (by show _ + 1 ≤ d + 1 + 410; omega) (by show _ ≤ 26 * (d + 1) + 8987; omega) hb10 hv11 rfl (by simp only [List.map, va_rf_cat]; exact Nat.le_of_ble_eq_true rfl) (show decode prog_9_method_11_code 36 = .ok (.invokevirtual 151, 3) by decide +kernel) h (fun z h => (fun (h : dc_wp (some (Sum.inr z)) F) => hF (.inr z) (dc_some h)) (hr_7 (.inr z) (dc_some h))) ?_
        intro q12 h
        refine hg_aloadn (pc := 39) (j := 1) (i := 1) (r := x1) hC 1 rfl rfl (show decode prog_9_method_11_code 39 = .ok (.aload_n 1, 1) by decide +kernel) ?_
        refine hg_rgi (pc := 40) (r := x1) hC fl_SignalEngine_Parser_142 (show decode prog_9_method_11_code 40 = .ok (.getfield 142, 3) by decide +kernel) h ?_
        intro e13 h
        obtain ⟨b14, hb15, h⟩ := dc_bind h
        obtain ⟨hb15, hv16⟩ := hg_chk_of (C := R_DR) rfl hb15
        refine hg_kVr (pc := 43) (b := b14) (r := e8) (As := [.int 5, va_rf x1, va_rf q12.2, .int e13]) (rest := []) (vo := fun q => q.2) (so := fun q => q.1) hC cw_SignalEngine_Parser_147 (fun q hq => hm_DR_join_ok l D G q12.1 b14 (5 : Int32) x1 q12.2 e13 q hq) (by show _ + 1 ≤ d + 1 + 410; omega) (by show _ ≤ 26 * (d + 1) + 8987; omega) hb15 hv16 rfl (Nat.le_of_ble_eq_true rfl) (show decode prog_9_method_11_code 43 = .ok (.invokevirtual 147, 3) by decide +kernel) h ?_
        intro q17 h
        refine hg_astoren (pc := 46) (j := 1) (i := 1) (r := q17.2) (lv' := [(1, va_rf q17.2), (0, va_rf (some o)), (2, .int x2)]) hC rfl (Nat.le_of_ble_eq_true rfl) rfl (show decode prog_9_method_11_code 46 = .ok (.astore_n 1, 1) by decide +kernel) ?_
        refine hg_iinc (pc := 47) (i := 2) (v := (x2 + 1)) (lv' := [(2, .int (x2 + 1)), (1, va_rf q17.2), (0, va_rf (some o))]) hC 2 rfl rfl (Nat.le_of_ble_eq_true rfl) (by simp [va_rf_cat, hg_cti]) (show decode prog_9_method_11_code 47 = .ok (.iinc 2 1, 3) by decide +kernel) ?_
        refine hg_goto (pc := 50) (tgt := 7) hC (show decode prog_9_method_11_code 50 = .ok (.goto (-43), 3) by decide +kernel) (by decide +kernel) ?_
        exact hg_sub [2, 1, 0] rfl (hl_7 (q17.1, q17.2, (x2 + 1)) (dc_some h))
    · intro h
      have h : dc_wp (hm_PA_takeRow_L53 T G S o x1) F := hr_7 (.inl (S, x1)) (dc_some h)
      exact hg_sub [0, 1] rfl (lab_53 S x1 h)
  have lab_7 : ∀ (S : hg_S) (x1 : Option Nat) (x2 : Int32), dc_wp (hm_PA_takeRow_L7 T G S o x1 x2) F → hg_G X l (hg_rm (d + 1 + 410) (26 * (d + 1) + 8987) Z) D 3 S 7 [(0, va_rf (some o)), (1, va_rf x1), (2, .int x2)] [] := fun S x1 x2 h => loop_7  (S, x1, x2) (dc_bind h)
  show hg_G X l (hg_rm (d + 1 + 410) (26 * (d + 1) + 8987) Z) D 3 Z 0 [(0, va_rf (some o))] []
  have h : dc_wp (hm_PA_takeRow T G Z o) F := h
  delta hm_PA_takeRow at h
  refine hg_aloadn (pc := 0) (j := 0) (i := 0) (r := (some o)) hC 0 rfl rfl (show decode prog_9_method_11_code 0 = .ok (.aload_n 0, 1) by decide +kernel) ?_
  obtain ⟨b18, hb19, h⟩ := dc_bind h
  obtain ⟨hb19, hv20⟩ := hg_chk_of (C := R_PA) rfl hb19
  refine hg_kVTr (pc := 1) (b := b18) (r := (some o)) (As := []) (rest := []) (vo := fun q => q.2) (so := fun q => q.1) hC hR cw_SignalEngine_Parser_151 (fun q hq => hT.2.2.1 Z b18 q hq) (by show _ + 1 ≤ d + 1 + 410; omega) (by show _ ≤ 26 * (d + 1) + 8987; omega) hb19 hv20 rfl (Nat.le_of_ble_eq_true rfl) (show decode prog_9_method_11_code 1 = .ok (.invokevirtual 151, 3) by decide +kernel) h (fun z h => hF (.inr z) (dc_some h)) ?_
  intro q21 h
  refine hg_astoren (pc := 4) (j := 1) (i := 1) (r := q21.2) (lv' := [(1, va_rf q21.2), (0, va_rf (some o))]) hC rfl (Nat.le_of_ble_eq_true rfl) rfl (show decode prog_9_method_11_code 4 = .ok (.astore_n 1, 1) by decide +kernel) ?_
  refine hg_iconst (pc := 5) (v := 0) hC (show decode prog_9_method_11_code 5 = .ok (.iconst 0, 1) by decide +kernel) (by decide +kernel) ?_
  refine hg_istoren (pc := 6) (j := 2) (i := 2) (lv' := [(2, .int 0), (1, va_rf q21.2), (0, va_rf (some o))]) hC rfl (Nat.le_of_ble_eq_true rfl) (by simp [va_rf_cat, hg_cti]) (show decode prog_9_method_11_code 6 = .ok (.istore_n 2, 1) by decide +kernel) ?_
  exact hg_sub [2, 1, 0] rfl (lab_7 q21.1 q21.2 0 h)
noncomputable def hm_PA_takeStatement (T : hm_T2) (G : hg_E) (S : hg_S) (o : Nat) : Option ((hg_S × (Option Nat)) ⊕ hg_X) :=
  (hg_gr S (some o) 4 0).bind fun e1 => (hg_gr S e1 2 1).bind fun e2 => (hg_gr S (some o) 4 0).bind fun e3 => (hg_gi S e3 2 4).bind fun e4 => (hg_gr S (some o) 4 0).bind fun e5 => (hg_tk G e2).bind fun j6 => (hg_chk S e5 2).bind fun b10 => (hm_LX_require G S b10 (tk_st.getD j6 0)).bind (Sum.elim (fun q13 => (hg_chk q13 (some o) 4).bind fun b14 => (hm_PA_enter G q13 b14).bind (Sum.elim (fun q17 => (hg_gr q17 (some o) 4 0).bind fun e18 => (hg_chk q17 e18 2).bind fun b19 => (hm_LX_advance G q17 b19).bind (Sum.elim (fun q22 => (hg_chk q22 (some o) 4).bind fun b23 => (T.2.2.2.1 G q22 b23 e2 e4).bind (Sum.elim (fun q26 => (hg_gi q26.1 (some o) 4 6).bind fun e27 => (hg_pf q26.1 (some o) 4 6 (.int (e27 - 1))).bind fun S28 => some (.inl (S28, q26.2))) (fun z => some (Sum.inr z)))) (fun z => some (Sum.inr z)))) (fun z => some (Sum.inr z)))) (fun z => some (Sum.inr z)))
set_option maxHeartbeats 4000000 in
set_option maxRecDepth 100000 in
/-- SignalEngine$Parser.takeStatement()LSignalEngine$Node; -/
theorem hm_PA_takeStatement_ok (l : Launch) (hlt : l.stackTraces = false) (D : va_G) (G : hg_E) (T : hm_T2) (d : Nat) (hT : hm_OK2 l D G T d) (Z : hg_S) (o : Nat) (q : (hg_S × (Option Nat)) ⊕ hg_X) (hq : hm_PA_takeStatement T G Z o = some q) : hg_C l ⟨"SignalEngine$Parser", "takeStatement", "()LSignalEngine$Node;"⟩ prog_9_method_12_code 4 (some (.object "SignalEngine$Node")) (d + 1 + 410) (26 * (d + 1) + 8987) D G [.ref o] Z (Sum.elim (fun q => (.inl (some (va_rf q.2), q.1) : hg_O)) hg_ox q) := by
  refine hg_start (cv := fun q => (Sum.elim (fun q => (.inl (some (va_rf q.2), q.1) : hg_O)) hg_ox q)) hq ?_
  intro F hF h
  refine hg_enter (lv := [(0, va_rf (some o))]) (by decide +kernel) (by simp [lg_sl, va_rf_cat, hg_cti, hg_ctr]) (by simp [lv_args, va_rf_cat, va_rf_some, hg_cti, hg_ctr]) ?_
  intro X hC hR
  show hg_G X l (hg_rm (d + 1 + 410) (26 * (d + 1) + 8987) Z) D 4 Z 0 [(0, va_rf (some o))] []
  have h : dc_wp (hm_PA_takeStatement T G Z o) F := h
  delta hm_PA_takeStatement at h
  refine hg_aloadn (pc := 0) (j := 0) (i := 0) (r := (some o)) hC 0 rfl rfl (show decode prog_9_method_12_code 0 = .ok (.aload_n 0, 1) by decide +kernel) ?_
  refine hg_rgr (pc := 1) (r := (some o)) hC fl_SignalEngine_Parser_23 (show decode prog_9_method_12_code 1 = .ok (.getfield 23, 3) by decide +kernel) h ?_
  intro e1 h
  refine hg_rgr (pc := 4) (r := e1) hC fl_SignalEngine_Parser_70 (show decode prog_9_method_12_code 4 = .ok (.getfield 70, 3) by decide +kernel) h ?_
  intro e2 h
  refine hg_astoren (pc := 7) (j := 1) (i := 1) (r := e2) (lv' := [(1, va_rf e2), (0, va_rf (some o))]) hC rfl (Nat.le_of_ble_eq_true rfl) rfl (show decode prog_9_method_12_code 7 = .ok (.astore_n 1, 1) by decide +kernel) ?_
  refine hg_aloadn (pc := 8) (j := 0) (i := 0) (r := (some o)) hC 1 rfl rfl (show decode prog_9_method_12_code 8 = .ok (.aload_n 0, 1) by decide +kernel) ?_
  refine hg_rgr (pc := 9) (r := (some o)) hC fl_SignalEngine_Parser_23 (show decode prog_9_method_12_code 9 = .ok (.getfield 23, 3) by decide +kernel) h ?_
  intro e3 h
  refine hg_rgi (pc := 12) (r := e3) hC fl_SignalEngine_Parser_154 (show decode prog_9_method_12_code 12 = .ok (.getfield 154, 3) by decide +kernel) h ?_
  intro e4 h
  refine hg_istoren (pc := 15) (j := 2) (i := 2) (lv' := [(2, .int e4), (1, va_rf e2), (0, va_rf (some o))]) hC rfl (Nat.le_of_ble_eq_true rfl) (by simp [va_rf_cat, hg_cti]) (show decode prog_9_method_12_code 15 = .ok (.istore_n 2, 1) by decide +kernel) ?_
  refine hg_aloadn (pc := 16) (j := 0) (i := 0) (r := (some o)) hC 2 rfl rfl (show decode prog_9_method_12_code 16 = .ok (.aload_n 0, 1) by decide +kernel) ?_
  refine hg_rgr (pc := 17) (r := (some o)) hC fl_SignalEngine_Parser_23 (show decode prog_9_method_12_code 17 = .ok (.getfield 23, 3) by decide +kernel) h ?_
  intro e5 h
  refine hg_aloadn (pc := 20) (j := 1) (i := 1) (r := e2) hC 1 rfl rfl (show decode prog_9_method_12_code 20 = .ok (.aload_n 1, 1) by decide +kernel) ?_
  obtain ⟨j6, hj7, h⟩ := dc_bind h
  obtain ⟨hj8, hj9⟩ := hg_tk_of hj7
  refine hg_top hj9 ?_
  refine hg_of (pc := 21) hC (he_starts hj8) (Or.inr ⟨_, wn_2371⟩) (show decode prog_9_method_12_code 21 = .ok (.getfield 155, 3) by decide +kernel) ?_
  obtain ⟨b10, hb11, h⟩ := dc_bind h
  obtain ⟨hb11, hv12⟩ := hg_chk_of (C := R_LX) rfl hb11
  refine hg_kVTv (pc := 24) (b := b10) (r := e5) (As := [.int (tk_st.getD j6 0)]) (rest := []) (so := fun q => q) hC hR cw_SignalEngine_Parser_102 (fun q hq => hm_LX_require_ok l hlt D G Z b10 (tk_st.getD j6 0) q hq) (by show _ + 1 ≤ d + 1 + 410; omega) (by show _ ≤ 26 * (d + 1) + 8987; omega) hb11 hv12 rfl (Nat.le_of_ble_eq_true rfl) (show decode prog_9_method_12_code 24 = .ok (.invokevirtual 102, 3) by decide +kernel) h (fun z h => hF (.inr z) (dc_some h)) ?_
  intro q13 h
  refine hg_aloadn (pc := 27) (j := 0) (i := 0) (r := (some o)) hC 2 rfl rfl (show decode prog_9_method_12_code 27 = .ok (.aload_n 0, 1) by decide +kernel) ?_
  obtain ⟨b14, hb15, h⟩ := dc_bind h
  obtain ⟨hb15, hv16⟩ := hg_chk_of (C := R_PA) rfl hb15
  refine hg_kVTv (pc := 28) (b := b14) (r := (some o)) (As := []) (rest := []) (so := fun q => q) hC hR cw_SignalEngine_Parser_159 (fun q hq => hm_PA_enter_ok l hlt D G q13 b14 q hq) (by show _ + 1 ≤ d + 1 + 410; omega) (by show _ ≤ 26 * (d + 1) + 8987; omega) hb15 hv16 rfl (Nat.le_of_ble_eq_true rfl) (show decode prog_9_method_12_code 28 = .ok (.invokevirtual 159, 3) by decide +kernel) h (fun z h => hF (.inr z) (dc_some h)) ?_
  intro q17 h
  refine hg_aloadn (pc := 31) (j := 0) (i := 0) (r := (some o)) hC 2 rfl rfl (show decode prog_9_method_12_code 31 = .ok (.aload_n 0, 1) by decide +kernel) ?_
  refine hg_rgr (pc := 32) (r := (some o)) hC fl_SignalEngine_Parser_23 (show decode prog_9_method_12_code 32 = .ok (.getfield 23, 3) by decide +kernel) h ?_
  intro e18 h
  obtain ⟨b19, hb20, h⟩ := dc_bind h
  obtain ⟨hb20, hv21⟩ := hg_chk_of (C := R_LX) rfl hb20
  refine hg_kVTv (pc := 35) (b := b19) (r := e18) (As := []) (rest := []) (so := fun q => q) hC hR cw_SignalEngine_Parser_79 (fun q hq => hm_LX_advance_ok l hlt D G q17 b19 q hq) (by show _ + 1 ≤ d + 1 + 410; omega) (by show _ ≤ 26 * (d + 1) + 8987; omega) hb20 hv21 rfl (Nat.le_of_ble_eq_true rfl) (show decode prog_9_method_12_code 35 = .ok (.invokevirtual 79, 3) by decide +kernel) h (fun z h => hF (.inr z) (dc_some h)) ?_
  intro q22 h
  refine hg_aloadn (pc := 38) (j := 0) (i := 0) (r := (some o)) hC 2 rfl rfl (show decode prog_9_method_12_code 38 = .ok (.aload_n 0, 1) by decide +kernel) ?_
  refine hg_aloadn (pc := 39) (j := 1) (i := 1) (r := e2) hC 1 rfl rfl (show decode prog_9_method_12_code 39 = .ok (.aload_n 1, 1) by decide +kernel) ?_
  refine hg_iloadn (pc := 40) (j := 2) (i := 2) hC 0 rfl rfl (show decode prog_9_method_12_code 40 = .ok (.iload_n 2, 1) by decide +kernel) ?_
  obtain ⟨b23, hb24, h⟩ := dc_bind h
  obtain ⟨hb24, hv25⟩ := hg_chk_of (C := R_PA) rfl hb24
  refine hg_kVTr (pc := 41) (b := b23) (r := (some o)) (As := [va_rf e2, .int e4]) (rest := []) (vo := fun q => q.2) (so := fun q => q.1) hC hR cw_SignalEngine_Parser_162 (fun q hq => hT.2.2.2.1 q22 b23 e2 e4 q hq) (by show _ + 1 ≤ d + 1 + 410; omega) (by show _ ≤ 26 * (d + 1) + 8987; omega) hb24 hv25 rfl (Nat.le_of_ble_eq_true rfl) (show decode prog_9_method_12_code 41 = .ok (.invokevirtual 162, 3) by decide +kernel) h (fun z h => hF (.inr z) (dc_some h)) ?_
  intro q26 h
  refine hg_astoren (pc := 44) (j := 3) (i := 3) (r := q26.2) (lv' := [(3, va_rf q26.2), (2, .int e4), (1, va_rf e2), (0, va_rf (some o))]) hC rfl (Nat.le_of_ble_eq_true rfl) rfl (show decode prog_9_method_12_code 44 = .ok (.astore_n 3, 1) by decide +kernel) ?_
  refine hg_aloadn (pc := 45) (j := 0) (i := 0) (r := (some o)) hC 3 rfl rfl (show decode prog_9_method_12_code 45 = .ok (.aload_n 0, 1) by decide +kernel) ?_
  refine hg_dup (pc := 46) hC (show decode prog_9_method_12_code 46 = .ok (.dup, 1) by decide +kernel) rfl ?_
  refine hg_rgi (pc := 47) (r := (some o)) hC fl_SignalEngine_Parser_134 (show decode prog_9_method_12_code 47 = .ok (.getfield 134, 3) by decide +kernel) h ?_
  intro e27 h
  refine hg_iconst (pc := 50) (v := 1) hC (show decode prog_9_method_12_code 50 = .ok (.iconst 1, 1) by decide +kernel) (by decide +kernel) ?_
  refine hg_isub (pc := 51) hC (show decode prog_9_method_12_code 51 = .ok (.isub, 1) by decide +kernel) ?_
  refine hg_rput (pc := 52) (r := (some o)) (v := .int (e27 - 1)) hC fp_SignalEngine_Parser_134 rfl rfl (show decode prog_9_method_12_code 52 = .ok (.putfield 134, 3) by decide +kernel) h ?_
  intro S28 h
  refine hg_aloadn (pc := 55) (j := 3) (i := 3) (r := q26.2) hC 0 rfl rfl (show decode prog_9_method_12_code 55 = .ok (.aload_n 3, 1) by decide +kernel) ?_
  exact hg_aret (pc := 56) (r := q26.2) hC hR (by first | exact Or.inl ⟨_, rfl⟩ | exact Or.inr ⟨_, rfl⟩) (hF _ (dc_some h)) (show decode prog_9_method_12_code 56 = .ok (.areturn, 1) by decide +kernel)
noncomputable def hm_PA_takeRest (T : hm_T2) (G : hg_E) (S : hg_S) (o : Nat) (p1 : Option Nat) (p2 : Int32) : Option ((hg_S × (Option Nat)) ⊕ hg_X) :=
  (hg_tk G p1).bind fun j1 => (hm_EN_ordinal G S (G.2.1 j1)).bind fun q5 => (hg_cst (hk_sv 3) q5).bind fun e6 => dc_let (e6 : Int32) fun v7 => if v7 = 1 then ((hg_gr S (some o) 4 3).bind fun e8 => (hg_chk S e8 6).bind fun b9 => (hm_DR_leaf G S b9 (0 : Int32) ((-1) : Int32) p2).bind fun q12 => some (.inl (q12.1, q12.2))) else if v7 = 2 then ((hg_gr S (some o) 4 3).bind fun e14 => (hg_chk S e14 6).bind fun b15 => (hm_DR_leaf G S b15 (1 : Int32) ((-1) : Int32) p2).bind fun q18 => some (.inl (q18.1, q18.2))) else if v7 = 3 then ((hg_gr S (some o) 4 3).bind fun e20 => (hg_chk S e20 6).bind fun b21 => (hm_DR_halt G S b21 p2).bind fun q24 => some (.inl (q24.1, q24.2))) else if v7 = 4 then ((hg_gr S (some o) 4 3).bind fun e26 => (hg_gr S (some o) 4 1).bind fun e27 => (hg_gi S (some o) 4 4).bind fun e28 => (hg_chk S (some o) 4).bind fun b29 => (hm_PA_takeUse G S b29 e27 e28).bind (Sum.elim (fun q32 => (hg_chk q32.1 e26 6).bind fun b33 => (hm_DR_leaf G q32.1 b33 (2 : Int32) q32.2 p2).bind fun q36 => some (.inl (q36.1, q36.2))) (fun z => some (Sum.inr z)))) else if v7 = 5 then ((hg_gr S (some o) 4 3).bind fun e38 => (hg_gr S (some o) 4 1).bind fun e39 => (hg_gi S (some o) 4 4).bind fun e40 => (hg_chk S (some o) 4).bind fun b41 => (hm_PA_takeUse G S b41 e39 e40).bind (Sum.elim (fun q44 => (hg_chk q44.1 e38 6).bind fun b45 => (hm_DR_sustain G q44.1 b45 q44.2 p2).bind fun q48 => some (.inl (q48.1, q48.2))) (fun z => some (Sum.inr z)))) else if v7 = 6 then ((hg_gr S (some o) 4 3).bind fun e50 => (hg_gr S (some o) 4 2).bind fun e51 => (hg_chk S (some o) 4).bind fun b52 => (hm_PA_takeUse G S b52 e51 (0 : Int32)).bind (Sum.elim (fun q55 => (hg_chk q55.1 e50 6).bind fun b56 => (hm_DR_exit G q55.1 b56 q55.2 p2).bind fun q59 => some (.inl (q59.1, q59.2))) (fun z => some (Sum.inr z)))) else if v7 = 7 then ((hg_gr S (some o) 4 3).bind fun e61 => (hg_chk S (some o) 4).bind fun b62 => (hm_PA_takeEither_r G S b62).bind (Sum.elim (fun q65 => (hg_chk q65.1 e61 6).bind fun b66 => (hm_DR_await G q65.1 b66 q65.2 p2).bind fun q69 => some (.inl (q69.1, q69.2))) (fun z => some (Sum.inr z)))) else if v7 = 8 then ((hg_chk S (some o) 4).bind fun b71 => (T.2.2.2.2.1 G S b71 p2).bind (Sum.elim (fun q74 => (hg_chk q74.1 (some o) 4).bind fun b75 => (hm_PA_closedBy G q74.1 b75 (some (G.2.1 11)) q74.2).bind (Sum.elim (fun q78 => some (.inl (q78.1, q78.2))) (fun z => some (Sum.inr z)))) (fun z => some (Sum.inr z)))) else if v7 = 9 then ((hg_chk S (some o) 4).bind fun b80 => (T.2.2.2.2.2.1 G S b80 p2).bind (Sum.elim (fun q83 => (hg_chk q83.1 (some o) 4).bind fun b84 => (hm_PA_closedBy G q83.1 b84 (some (G.2.1 11)) q83.2).bind (Sum.elim (fun q87 => some (.inl (q87.1, q87.2))) (fun z => some (Sum.inr z)))) (fun z => some (Sum.inr z)))) else if v7 = 10 then ((hg_chk S (some o) 4).bind fun b89 => (T.2.2.2.2.2.2.1 G S b89 p2).bind (Sum.elim (fun q92 => (hg_chk q92.1 (some o) 4).bind fun b93 => (hm_PA_closedBy G q92.1 b93 (some (G.2.1 11)) q92.2).bind (Sum.elim (fun q96 => some (.inl (q96.1, q96.2))) (fun z => some (Sum.inr z)))) (fun z => some (Sum.inr z)))) else if v7 = 11 then ((hg_chk S (some o) 4).bind fun b98 => (T.2.2.2.2.2.2.2.1 G S b98 p2).bind (Sum.elim (fun q101 => (hg_chk q101.1 (some o) 4).bind fun b102 => (hm_PA_closedBy G q101.1 b102 (some (G.2.1 11)) q101.2).bind (Sum.elim (fun q105 => some (.inl (q105.1, q105.2))) (fun z => some (Sum.inr z)))) (fun z => some (Sum.inr z)))) else if v7 = 12 then ((hg_chk S (some o) 4).bind fun b107 => (T.2.2.2.2.2.2.2.2.1 G S b107 p2).bind (Sum.elim (fun q110 => (hg_chk q110.1 (some o) 4).bind fun b111 => (hm_PA_closedBy G q110.1 b111 (some (G.2.1 11)) q110.2).bind (Sum.elim (fun q114 => some (.inl (q114.1, q114.2))) (fun z => some (Sum.inr z)))) (fun z => some (Sum.inr z)))) else if v7 = 13 then ((hg_chk S (some o) 4).bind fun b116 => (T.2.2.2.2.2.2.2.2.2 G S b116 p1 p2).bind (Sum.elim (fun q119 => (hg_chk q119.1 (some o) 4).bind fun b120 => (hm_PA_closedBy G q119.1 b120 (some (G.2.1 11)) q119.2).bind (Sum.elim (fun q123 => some (.inl (q123.1, q123.2))) (fun z => some (Sum.inr z)))) (fun z => some (Sum.inr z)))) else if v7 = 14 then ((hg_chk S (some o) 4).bind fun b125 => (T.2.2.2.2.2.2.2.2.2 G S b125 p1 p2).bind (Sum.elim (fun q128 => (hg_chk q128.1 (some o) 4).bind fun b129 => (hm_PA_closedBy G q128.1 b129 (some (G.2.1 11)) q128.2).bind (Sum.elim (fun q132 => some (.inl (q132.1, q132.2))) (fun z => some (Sum.inr z)))) (fun z => some (Sum.inr z)))) else if v7 = 15 then ((hg_chk S (some o) 4).bind fun b134 => (T.2.2.2.2.2.2.2.2.2 G S b134 p1 p2).bind (Sum.elim (fun q137 => (hg_chk q137.1 (some o) 4).bind fun b138 => (hm_PA_closedBy G q137.1 b138 (some (G.2.1 11)) q137.2).bind (Sum.elim (fun q141 => some (.inl (q141.1, q141.2))) (fun z => some (Sum.inr z)))) (fun z => some (Sum.inr z)))) else ((hg_chk S (some o) 4).bind fun b143 => (T.1 G S b143).bind (Sum.elim (fun q146 => (hg_chk q146.1 (some o) 4).bind fun b147 => (hm_PA_closedBy G q146.1 b147 (some (G.2.1 29)) q146.2).bind (Sum.elim (fun q150 => some (.inl (q150.1, q150.2))) (fun z => some (Sum.inr z)))) (fun z => some (Sum.inr z))))
set_option maxHeartbeats 4000000 in
set_option maxRecDepth 100000 in
/-- SignalEngine$Parser.takeRest(LSignalEngine$Token;I)LSignalEngine$Node; -/
theorem hm_PA_takeRest_ok (l : Launch) (hlt : l.stackTraces = false) (D : va_G) (G : hg_E) (T : hm_T2) (d : Nat) (hT : hm_OK2 l D G T d) (Z : hg_S) (o : Nat) (p1 : Option Nat) (p2 : Int32) (q : (hg_S × (Option Nat)) ⊕ hg_X) (hq : hm_PA_takeRest T G Z o p1 p2 = some q) : hg_C l ⟨"SignalEngine$Parser", "takeRest", "(LSignalEngine$Token;I)LSignalEngine$Node;"⟩ prog_9_method_13_code 3 (some (.object "SignalEngine$Node")) (d + 1 + 410) (26 * (d + 1) + 8987) D G [.ref o, va_rf p1, .int p2] Z (Sum.elim (fun q => (.inl (some (va_rf q.2), q.1) : hg_O)) hg_ox q) := by
  refine hg_start (cv := fun q => (Sum.elim (fun q => (.inl (some (va_rf q.2), q.1) : hg_O)) hg_ox q)) hq ?_
  intro F hF h
  refine hg_enter (lv := [(0, va_rf (some o)), (1, va_rf p1), (2, .int p2)]) (by decide +kernel) (by simp [lg_sl, va_rf_cat, hg_cti, hg_ctr]) (by simp [lv_args, va_rf_cat, va_rf_some, hg_cti, hg_ctr]) ?_
  intro X hC hR
  show hg_G X l (hg_rm (d + 1 + 410) (26 * (d + 1) + 8987) Z) D 3 Z 0 [(0, va_rf (some o)), (1, va_rf p1), (2, .int p2)] []
  have h : dc_wp (hm_PA_takeRest T G Z o p1 p2) F := h
  delta hm_PA_takeRest at h
  refine hg_gst (pc := 0) (j := 3) hC (by decide) w_534 (show decode prog_9_method_13_code 0 = .ok (.getstatic 166, 3) by decide +kernel) ?_
  refine hg_aloadn (pc := 3) (j := 1) (i := 1) (r := p1) hC 1 rfl rfl (show decode prog_9_method_13_code 3 = .ok (.aload_n 1, 1) by decide +kernel) ?_
  obtain ⟨j1, hj2, h⟩ := dc_bind h
  obtain ⟨hj3, hj4⟩ := hg_tk_of hj2
  refine hg_kU (pc := 4) (b := G.2.1 j1) (r := p1) (rest := [va_rf (some (G.2.2.2 3))]) (vo := fun q => q) (so := fun _ => Z) (x := ⟨"SignalEngine$Token", "ordinal", "()I"⟩) (owner := "java/lang/Enum") hC cu_SignalEngine_Parser_172 rfl (by decide +kernel) (fun q hq => hm_EN_ordinal_ok l D G Z (G.2.1 j1) q hq) (by show _ + 1 ≤ d + 1 + 410; omega) (by show _ ≤ 26 * (d + 1) + 8987; omega) hj4 (he_tokO hj3) rfl (by simp only [List.map, va_rf_cat]; exact Nat.le_of_ble_eq_true rfl) (show decode prog_9_method_13_code 4 = .ok (.invokevirtual 172, 3) by decide +kernel) h ?_
  intro q5 h
  refine hg_rcst (pc := 7) (j := 3) hC (by decide) (show decode prog_9_method_13_code 7 = .ok (.iaload, 1) by decide +kernel) h ?_
  intro e6 h
  refine hg_letI h ?_
  intro v7 h
  rcases dc_ite h with ⟨hk13, h2⟩ | ⟨hk13, h2⟩
  · subst hk13; clear h; have h := h2; clear h2
    refine hg_tabIn (pc := 8) (off := 76) (tgt := 84) hC dsw_prog_9_method_13_code_8 (by decide +kernel) (by decide +kernel) (by decide +kernel) (by decide +kernel) ?_
    refine hg_aloadn (pc := 84) (j := 0) (i := 0) (r := (some o)) hC 0 rfl rfl (show decode prog_9_method_13_code 84 = .ok (.aload_n 0, 1) by decide +kernel) ?_
    refine hg_rgr (pc := 85) (r := (some o)) hC fl_SignalEngine_Parser_12 (show decode prog_9_method_13_code 85 = .ok (.getfield 12, 3) by decide +kernel) h ?_
    intro e8 h
    refine hg_iconst (pc := 88) (v := 0) hC (show decode prog_9_method_13_code 88 = .ok (.iconst 0, 1) by decide +kernel) (by decide +kernel) ?_
    refine hg_iconst (pc := 89) (v := (-1)) hC (show decode prog_9_method_13_code 89 = .ok (.iconst (-1), 1) by decide +kernel) (by decide +kernel) ?_
    refine hg_iloadn (pc := 90) (j := 2) (i := 2) hC 2 rfl rfl (show decode prog_9_method_13_code 90 = .ok (.iload_n 2, 1) by decide +kernel) ?_
    obtain ⟨b9, hb10, h⟩ := dc_bind h
    obtain ⟨hb10, hv11⟩ := hg_chk_of (C := R_DR) rfl hb10
    refine hg_kVr (pc := 91) (b := b9) (r := e8) (As := [.int 0, .int (-1), .int p2]) (rest := []) (vo := fun q => q.2) (so := fun q => q.1) hC cw_SignalEngine_Parser_175 (fun q hq => hm_DR_leaf_ok l D G Z b9 (0 : Int32) ((-1) : Int32) p2 q hq) (by show _ + 1 ≤ d + 1 + 410; omega) (by show _ ≤ 26 * (d + 1) + 8987; omega) hb10 hv11 rfl (Nat.le_of_ble_eq_true rfl) (show decode prog_9_method_13_code 91 = .ok (.invokevirtual 175, 3) by decide +kernel) h ?_
    intro q12 h
    exact hg_aret (pc := 94) (r := q12.2) hC hR (by first | exact Or.inl ⟨_, rfl⟩ | exact Or.inr ⟨_, rfl⟩) (hF _ (dc_some h)) (show decode prog_9_method_13_code 94 = .ok (.areturn, 1) by decide +kernel)
  clear h; have h := h2; clear h2
  rcases dc_ite h with ⟨hk19, h2⟩ | ⟨hk19, h2⟩
  · subst hk19; clear h; have h := h2; clear h2
    refine hg_tabIn (pc := 8) (off := 87) (tgt := 95) hC dsw_prog_9_method_13_code_8 (by decide +kernel) (by decide +kernel) (by decide +kernel) (by decide +kernel) ?_
    refine hg_aloadn (pc := 95) (j := 0) (i := 0) (r := (some o)) hC 0 rfl rfl (show decode prog_9_method_13_code 95 = .ok (.aload_n 0, 1) by decide +kernel) ?_
    refine hg_rgr (pc := 96) (r := (some o)) hC fl_SignalEngine_Parser_12 (show decode prog_9_method_13_code 96 = .ok (.getfield 12, 3) by decide +kernel) h ?_
    intro e14 h
    refine hg_iconst (pc := 99) (v := 1) hC (show decode prog_9_method_13_code 99 = .ok (.iconst 1, 1) by decide +kernel) (by decide +kernel) ?_
    refine hg_iconst (pc := 100) (v := (-1)) hC (show decode prog_9_method_13_code 100 = .ok (.iconst (-1), 1) by decide +kernel) (by decide +kernel) ?_
    refine hg_iloadn (pc := 101) (j := 2) (i := 2) hC 2 rfl rfl (show decode prog_9_method_13_code 101 = .ok (.iload_n 2, 1) by decide +kernel) ?_
    obtain ⟨b15, hb16, h⟩ := dc_bind h
    obtain ⟨hb16, hv17⟩ := hg_chk_of (C := R_DR) rfl hb16
    refine hg_kVr (pc := 102) (b := b15) (r := e14) (As := [.int 1, .int (-1), .int p2]) (rest := []) (vo := fun q => q.2) (so := fun q => q.1) hC cw_SignalEngine_Parser_175 (fun q hq => hm_DR_leaf_ok l D G Z b15 (1 : Int32) ((-1) : Int32) p2 q hq) (by show _ + 1 ≤ d + 1 + 410; omega) (by show _ ≤ 26 * (d + 1) + 8987; omega) hb16 hv17 rfl (Nat.le_of_ble_eq_true rfl) (show decode prog_9_method_13_code 102 = .ok (.invokevirtual 175, 3) by decide +kernel) h ?_
    intro q18 h
    exact hg_aret (pc := 105) (r := q18.2) hC hR (by first | exact Or.inl ⟨_, rfl⟩ | exact Or.inr ⟨_, rfl⟩) (hF _ (dc_some h)) (show decode prog_9_method_13_code 105 = .ok (.areturn, 1) by decide +kernel)
  clear h; have h := h2; clear h2
  rcases dc_ite h with ⟨hk25, h2⟩ | ⟨hk25, h2⟩
  · subst hk25; clear h; have h := h2; clear h2
    refine hg_tabIn (pc := 8) (off := 98) (tgt := 106) hC dsw_prog_9_method_13_code_8 (by decide +kernel) (by decide +kernel) (by decide +kernel) (by decide +kernel) ?_
    refine hg_aloadn (pc := 106) (j := 0) (i := 0) (r := (some o)) hC 0 rfl rfl (show decode prog_9_method_13_code 106 = .ok (.aload_n 0, 1) by decide +kernel) ?_
    refine hg_rgr (pc := 107) (r := (some o)) hC fl_SignalEngine_Parser_12 (show decode prog_9_method_13_code 107 = .ok (.getfield 12, 3) by decide +kernel) h ?_
    intro e20 h
    refine hg_iloadn (pc := 110) (j := 2) (i := 2) hC 2 rfl rfl (show decode prog_9_method_13_code 110 = .ok (.iload_n 2, 1) by decide +kernel) ?_
    obtain ⟨b21, hb22, h⟩ := dc_bind h
    obtain ⟨hb22, hv23⟩ := hg_chk_of (C := R_DR) rfl hb22
    refine hg_kVr (pc := 111) (b := b21) (r := e20) (As := [.int p2]) (rest := []) (vo := fun q => q.2) (so := fun q => q.1) hC cw_SignalEngine_Parser_179 (fun q hq => hm_DR_halt_ok l D G Z b21 p2 q hq) (by show _ + 1 ≤ d + 1 + 410; omega) (by show _ ≤ 26 * (d + 1) + 8987; omega) hb22 hv23 rfl (Nat.le_of_ble_eq_true rfl) (show decode prog_9_method_13_code 111 = .ok (.invokevirtual 179, 3) by decide +kernel) h ?_
    intro q24 h
    exact hg_aret (pc := 114) (r := q24.2) hC hR (by first | exact Or.inl ⟨_, rfl⟩ | exact Or.inr ⟨_, rfl⟩) (hF _ (dc_some h)) (show decode prog_9_method_13_code 114 = .ok (.areturn, 1) by decide +kernel)
  clear h; have h := h2; clear h2
  rcases dc_ite h with ⟨hk37, h2⟩ | ⟨hk37, h2⟩
  · subst hk37; clear h; have h := h2; clear h2
    refine hg_tabIn (pc := 8) (off := 107) (tgt := 115) hC dsw_prog_9_method_13_code_8 (by decide +kernel) (by decide +kernel) (by decide +kernel) (by decide +kernel) ?_
    refine hg_aloadn (pc := 115) (j := 0) (i := 0) (r := (some o)) hC 0 rfl rfl (show decode prog_9_method_13_code 115 = .ok (.aload_n 0, 1) by decide +kernel) ?_
    refine hg_rgr (pc := 116) (r := (some o)) hC fl_SignalEngine_Parser_12 (show decode prog_9_method_13_code 116 = .ok (.getfield 12, 3) by decide +kernel) h ?_
    intro e26 h
    refine hg_iconst (pc := 119) (v := 2) hC (show decode prog_9_method_13_code 119 = .ok (.iconst 2, 1) by decide +kernel) (by decide +kernel) ?_
    refine hg_aloadn (pc := 120) (j := 0) (i := 0) (r := (some o)) hC 0 rfl rfl (show decode prog_9_method_13_code 120 = .ok (.aload_n 0, 1) by decide +kernel) ?_
    refine hg_aloadn (pc := 121) (j := 0) (i := 0) (r := (some o)) hC 0 rfl rfl (show decode prog_9_method_13_code 121 = .ok (.aload_n 0, 1) by decide +kernel) ?_
    refine hg_rgr (pc := 122) (r := (some o)) hC fl_SignalEngine_Parser_30 (show decode prog_9_method_13_code 122 = .ok (.getfield 30, 3) by decide +kernel) h ?_
    intro e27 h
    refine hg_aloadn (pc := 125) (j := 0) (i := 0) (r := (some o)) hC 0 rfl rfl (show decode prog_9_method_13_code 125 = .ok (.aload_n 0, 1) by decide +kernel) ?_
    refine hg_rgi (pc := 126) (r := (some o)) hC fl_SignalEngine_Parser_57 (show decode prog_9_method_13_code 126 = .ok (.getfield 57, 3) by decide +kernel) h ?_
    intro e28 h
    obtain ⟨b29, hb30, h⟩ := dc_bind h
    obtain ⟨hb30, hv31⟩ := hg_chk_of (C := R_PA) rfl hb30
    refine hg_kVTi (pc := 129) (b := b29) (r := (some o)) (As := [va_rf e27, .int e28]) (rest := [.int 2, va_rf e26]) (vo := fun q => q.2) (so := fun q => q.1) hC hR cw_SignalEngine_Parser_183 (fun q hq => hm_PA_takeUse_ok l hlt D G Z b29 e27 e28 q hq) (by show _ + 1 ≤ d + 1 + 410; omega) (by show _ ≤ 26 * (d + 1) + 8987; omega) hb30 hv31 rfl (by simp only [List.map, va_rf_cat]; exact Nat.le_of_ble_eq_true rfl) (show decode prog_9_method_13_code 129 = .ok (.invokevirtual 183, 3) by decide +kernel) h (fun z h => hF (.inr z) (dc_some h)) ?_
    intro q32 h
    refine hg_iloadn (pc := 132) (j := 2) (i := 2) hC 2 rfl rfl (show decode prog_9_method_13_code 132 = .ok (.iload_n 2, 1) by decide +kernel) ?_
    obtain ⟨b33, hb34, h⟩ := dc_bind h
    obtain ⟨hb34, hv35⟩ := hg_chk_of (C := R_DR) rfl hb34
    refine hg_kVr (pc := 133) (b := b33) (r := e26) (As := [.int 2, .int q32.2, .int p2]) (rest := []) (vo := fun q => q.2) (so := fun q => q.1) hC cw_SignalEngine_Parser_175 (fun q hq => hm_DR_leaf_ok l D G q32.1 b33 (2 : Int32) q32.2 p2 q hq) (by show _ + 1 ≤ d + 1 + 410; omega) (by show _ ≤ 26 * (d + 1) + 8987; omega) hb34 hv35 rfl (Nat.le_of_ble_eq_true rfl) (show decode prog_9_method_13_code 133 = .ok (.invokevirtual 175, 3) by decide +kernel) h ?_
    intro q36 h
    exact hg_aret (pc := 136) (r := q36.2) hC hR (by first | exact Or.inl ⟨_, rfl⟩ | exact Or.inr ⟨_, rfl⟩) (hF _ (dc_some h)) (show decode prog_9_method_13_code 136 = .ok (.areturn, 1) by decide +kernel)
  clear h; have h := h2; clear h2
  rcases dc_ite h with ⟨hk49, h2⟩ | ⟨hk49, h2⟩
  · subst hk49; clear h; have h := h2; clear h2
    refine hg_tabIn (pc := 8) (off := 129) (tgt := 137) hC dsw_prog_9_method_13_code_8 (by decide +kernel) (by decide +kernel) (by decide +kernel) (by decide +kernel) ?_
    refine hg_aloadn (pc := 137) (j := 0) (i := 0) (r := (some o)) hC 0 rfl rfl (show decode prog_9_method_13_code 137 = .ok (.aload_n 0, 1) by decide +kernel) ?_
    refine hg_rgr (pc := 138) (r := (some o)) hC fl_SignalEngine_Parser_12 (show decode prog_9_method_13_code 138 = .ok (.getfield 12, 3) by decide +kernel) h ?_
    intro e38 h
    refine hg_aloadn (pc := 141) (j := 0) (i := 0) (r := (some o)) hC 0 rfl rfl (show decode prog_9_method_13_code 141 = .ok (.aload_n 0, 1) by decide +kernel) ?_
    refine hg_aloadn (pc := 142) (j := 0) (i := 0) (r := (some o)) hC 0 rfl rfl (show decode prog_9_method_13_code 142 = .ok (.aload_n 0, 1) by decide +kernel) ?_
    refine hg_rgr (pc := 143) (r := (some o)) hC fl_SignalEngine_Parser_30 (show decode prog_9_method_13_code 143 = .ok (.getfield 30, 3) by decide +kernel) h ?_
    intro e39 h
    refine hg_aloadn (pc := 146) (j := 0) (i := 0) (r := (some o)) hC 0 rfl rfl (show decode prog_9_method_13_code 146 = .ok (.aload_n 0, 1) by decide +kernel) ?_
    refine hg_rgi (pc := 147) (r := (some o)) hC fl_SignalEngine_Parser_57 (show decode prog_9_method_13_code 147 = .ok (.getfield 57, 3) by decide +kernel) h ?_
    intro e40 h
    obtain ⟨b41, hb42, h⟩ := dc_bind h
    obtain ⟨hb42, hv43⟩ := hg_chk_of (C := R_PA) rfl hb42
    refine hg_kVTi (pc := 150) (b := b41) (r := (some o)) (As := [va_rf e39, .int e40]) (rest := [va_rf e38]) (vo := fun q => q.2) (so := fun q => q.1) hC hR cw_SignalEngine_Parser_183 (fun q hq => hm_PA_takeUse_ok l hlt D G Z b41 e39 e40 q hq) (by show _ + 1 ≤ d + 1 + 410; omega) (by show _ ≤ 26 * (d + 1) + 8987; omega) hb42 hv43 rfl (by simp only [List.map, va_rf_cat]; exact Nat.le_of_ble_eq_true rfl) (show decode prog_9_method_13_code 150 = .ok (.invokevirtual 183, 3) by decide +kernel) h (fun z h => hF (.inr z) (dc_some h)) ?_
    intro q44 h
    refine hg_iloadn (pc := 153) (j := 2) (i := 2) hC 2 rfl rfl (show decode prog_9_method_13_code 153 = .ok (.iload_n 2, 1) by decide +kernel) ?_
    obtain ⟨b45, hb46, h⟩ := dc_bind h
    obtain ⟨hb46, hv47⟩ := hg_chk_of (C := R_DR) rfl hb46
    refine hg_kVr (pc := 154) (b := b45) (r := e38) (As := [.int q44.2, .int p2]) (rest := []) (vo := fun q => q.2) (so := fun q => q.1) hC cw_SignalEngine_Parser_187 (fun q hq => hm_DR_sustain_ok l D G q44.1 b45 q44.2 p2 q hq) (by show _ + 1 ≤ d + 1 + 410; omega) (by show _ ≤ 26 * (d + 1) + 8987; omega) hb46 hv47 rfl (Nat.le_of_ble_eq_true rfl) (show decode prog_9_method_13_code 154 = .ok (.invokevirtual 187, 3) by decide +kernel) h ?_
    intro q48 h
    exact hg_aret (pc := 157) (r := q48.2) hC hR (by first | exact Or.inl ⟨_, rfl⟩ | exact Or.inr ⟨_, rfl⟩) (hF _ (dc_some h)) (show decode prog_9_method_13_code 157 = .ok (.areturn, 1) by decide +kernel)
  clear h; have h := h2; clear h2
  rcases dc_ite h with ⟨hk60, h2⟩ | ⟨hk60, h2⟩
  · subst hk60; clear h; have h := h2; clear h2
    refine hg_tabIn (pc := 8) (off := 150) (tgt := 158) hC dsw_prog_9_method_13_code_8 (by decide +kernel) (by decide +kernel) (by decide +kernel) (by decide +kernel) ?_
    refine hg_aloadn (pc := 158) (j := 0) (i := 0) (r := (some o)) hC 0 rfl rfl (show decode prog_9_method_13_code 158 = .ok (.aload_n 0, 1) by decide +kernel) ?_
    refine hg_rgr (pc := 159) (r := (some o)) hC fl_SignalEngine_Parser_12 (show decode prog_9_method_13_code 159 = .ok (.getfield 12, 3) by decide +kernel) h ?_
    intro e50 h
    refine hg_aloadn (pc := 162) (j := 0) (i := 0) (r := (some o)) hC 0 rfl rfl (show decode prog_9_method_13_code 162 = .ok (.aload_n 0, 1) by decide +kernel) ?_
    refine hg_aloadn (pc := 163) (j := 0) (i := 0) (r := (some o)) hC 0 rfl rfl (show decode prog_9_method_13_code 163 = .ok (.aload_n 0, 1) by decide +kernel) ?_
    refine hg_rgr (pc := 164) (r := (some o)) hC fl_SignalEngine_Parser_34 (show decode prog_9_method_13_code 164 = .ok (.getfield 34, 3) by decide +kernel) h ?_
    intro e51 h
    refine hg_iconst (pc := 167) (v := 0) hC (show decode prog_9_method_13_code 167 = .ok (.iconst 0, 1) by decide +kernel) (by decide +kernel) ?_
    obtain ⟨b52, hb53, h⟩ := dc_bind h
    obtain ⟨hb53, hv54⟩ := hg_chk_of (C := R_PA) rfl hb53
    refine hg_kVTi (pc := 168) (b := b52) (r := (some o)) (As := [va_rf e51, .int 0]) (rest := [va_rf e50]) (vo := fun q => q.2) (so := fun q => q.1) hC hR cw_SignalEngine_Parser_183 (fun q hq => hm_PA_takeUse_ok l hlt D G Z b52 e51 (0 : Int32) q hq) (by show _ + 1 ≤ d + 1 + 410; omega) (by show _ ≤ 26 * (d + 1) + 8987; omega) hb53 hv54 rfl (by simp only [List.map, va_rf_cat]; exact Nat.le_of_ble_eq_true rfl) (show decode prog_9_method_13_code 168 = .ok (.invokevirtual 183, 3) by decide +kernel) h (fun z h => hF (.inr z) (dc_some h)) ?_
    intro q55 h
    refine hg_iloadn (pc := 171) (j := 2) (i := 2) hC 2 rfl rfl (show decode prog_9_method_13_code 171 = .ok (.iload_n 2, 1) by decide +kernel) ?_
    obtain ⟨b56, hb57, h⟩ := dc_bind h
    obtain ⟨hb57, hv58⟩ := hg_chk_of (C := R_DR) rfl hb57
    refine hg_kVr (pc := 172) (b := b56) (r := e50) (As := [.int q55.2, .int p2]) (rest := []) (vo := fun q => q.2) (so := fun q => q.1) hC cw_SignalEngine_Parser_191 (fun q hq => hm_DR_exit_ok l D G q55.1 b56 q55.2 p2 q hq) (by show _ + 1 ≤ d + 1 + 410; omega) (by show _ ≤ 26 * (d + 1) + 8987; omega) hb57 hv58 rfl (Nat.le_of_ble_eq_true rfl) (show decode prog_9_method_13_code 172 = .ok (.invokevirtual 191, 3) by decide +kernel) h ?_
    intro q59 h
    exact hg_aret (pc := 175) (r := q59.2) hC hR (by first | exact Or.inl ⟨_, rfl⟩ | exact Or.inr ⟨_, rfl⟩) (hF _ (dc_some h)) (show decode prog_9_method_13_code 175 = .ok (.areturn, 1) by decide +kernel)
  clear h; have h := h2; clear h2
  rcases dc_ite h with ⟨hk70, h2⟩ | ⟨hk70, h2⟩
  · subst hk70; clear h; have h := h2; clear h2
    refine hg_tabIn (pc := 8) (off := 168) (tgt := 176) hC dsw_prog_9_method_13_code_8 (by decide +kernel) (by decide +kernel) (by decide +kernel) (by decide +kernel) ?_
    refine hg_aloadn (pc := 176) (j := 0) (i := 0) (r := (some o)) hC 0 rfl rfl (show decode prog_9_method_13_code 176 = .ok (.aload_n 0, 1) by decide +kernel) ?_
    refine hg_rgr (pc := 177) (r := (some o)) hC fl_SignalEngine_Parser_12 (show decode prog_9_method_13_code 177 = .ok (.getfield 12, 3) by decide +kernel) h ?_
    intro e61 h
    refine hg_aloadn (pc := 180) (j := 0) (i := 0) (r := (some o)) hC 0 rfl rfl (show decode prog_9_method_13_code 180 = .ok (.aload_n 0, 1) by decide +kernel) ?_
    obtain ⟨b62, hb63, h⟩ := dc_bind h
    obtain ⟨hb63, hv64⟩ := hg_chk_of (C := R_PA) rfl hb63
    refine hg_kVTi (pc := 181) (b := b62) (r := (some o)) (As := []) (rest := [va_rf e61]) (vo := fun q => q.2) (so := fun q => q.1) hC hR cw_SignalEngine_Parser_194 (fun q hq => hm_PA_takeEither_r_ok l hlt D G Z b62 q hq) (by show _ + 1 ≤ d + 1 + 410; omega) (by show _ ≤ 26 * (d + 1) + 8987; omega) hb63 hv64 rfl (by simp only [List.map, va_rf_cat]; exact Nat.le_of_ble_eq_true rfl) (show decode prog_9_method_13_code 181 = .ok (.invokevirtual 194, 3) by decide +kernel) h (fun z h => hF (.inr z) (dc_some h)) ?_
    intro q65 h
    refine hg_iloadn (pc := 184) (j := 2) (i := 2) hC 2 rfl rfl (show decode prog_9_method_13_code 184 = .ok (.iload_n 2, 1) by decide +kernel) ?_
    obtain ⟨b66, hb67, h⟩ := dc_bind h
    obtain ⟨hb67, hv68⟩ := hg_chk_of (C := R_DR) rfl hb67
    refine hg_kVr (pc := 185) (b := b66) (r := e61) (As := [.int q65.2, .int p2]) (rest := []) (vo := fun q => q.2) (so := fun q => q.1) hC cw_SignalEngine_Parser_197 (fun q hq => hm_DR_await_ok l D G q65.1 b66 q65.2 p2 q hq) (by show _ + 1 ≤ d + 1 + 410; omega) (by show _ ≤ 26 * (d + 1) + 8987; omega) hb67 hv68 rfl (Nat.le_of_ble_eq_true rfl) (show decode prog_9_method_13_code 185 = .ok (.invokevirtual 197, 3) by decide +kernel) h ?_
    intro q69 h
    exact hg_aret (pc := 188) (r := q69.2) hC hR (by first | exact Or.inl ⟨_, rfl⟩ | exact Or.inr ⟨_, rfl⟩) (hF _ (dc_some h)) (show decode prog_9_method_13_code 188 = .ok (.areturn, 1) by decide +kernel)
  clear h; have h := h2; clear h2
  rcases dc_ite h with ⟨hk79, h2⟩ | ⟨hk79, h2⟩
  · subst hk79; clear h; have h := h2; clear h2
    refine hg_tabIn (pc := 8) (off := 181) (tgt := 189) hC dsw_prog_9_method_13_code_8 (by decide +kernel) (by decide +kernel) (by decide +kernel) (by decide +kernel) ?_
    refine hg_aloadn (pc := 189) (j := 0) (i := 0) (r := (some o)) hC 0 rfl rfl (show decode prog_9_method_13_code 189 = .ok (.aload_n 0, 1) by decide +kernel) ?_
    refine hg_tok (pc := 190) (j := 11) hC (by decide) rfl w_734 (show decode prog_9_method_13_code 190 = .ok (.getstatic 200, 3) by decide +kernel) ?_
    refine hg_aloadn (pc := 193) (j := 0) (i := 0) (r := (some o)) hC 0 rfl rfl (show decode prog_9_method_13_code 193 = .ok (.aload_n 0, 1) by decide +kernel) ?_
    refine hg_iloadn (pc := 194) (j := 2) (i := 2) hC 2 rfl rfl (show decode prog_9_method_13_code 194 = .ok (.iload_n 2, 1) by decide +kernel) ?_
    obtain ⟨b71, hb72, h⟩ := dc_bind h
    obtain ⟨hb72, hv73⟩ := hg_chk_of (C := R_PA) rfl hb72
    refine hg_kVTr (pc := 195) (b := b71) (r := (some o)) (As := [.int p2]) (rest := [va_rf (some (G.2.1 11)), va_rf (some o)]) (vo := fun q => q.2) (so := fun q => q.1) hC hR cw_SignalEngine_Parser_203 (fun q hq => hT.2.2.2.2.1 Z b71 p2 q hq) (by show _ + 1 ≤ d + 1 + 410; omega) (by show _ ≤ 26 * (d + 1) + 8987; omega) hb72 hv73 rfl (by simp only [List.map, va_rf_cat]; exact Nat.le_of_ble_eq_true rfl) (show decode prog_9_method_13_code 195 = .ok (.invokevirtual 203, 3) by decide +kernel) h (fun z h => hF (.inr z) (dc_some h)) ?_
    intro q74 h
    obtain ⟨b75, hb76, h⟩ := dc_bind h
    obtain ⟨hb76, hv77⟩ := hg_chk_of (C := R_PA) rfl hb76
    refine hg_kVTr (pc := 198) (b := b75) (r := (some o)) (As := [va_rf (some (G.2.1 11)), va_rf q74.2]) (rest := []) (vo := fun q => q.2) (so := fun q => q.1) hC hR cw_SignalEngine_Parser_206 (fun q hq => hm_PA_closedBy_ok l hlt D G q74.1 b75 (some (G.2.1 11)) q74.2 q hq) (by show _ + 1 ≤ d + 1 + 410; omega) (by show _ ≤ 26 * (d + 1) + 8987; omega) hb76 hv77 rfl (Nat.le_of_ble_eq_true rfl) (show decode prog_9_method_13_code 198 = .ok (.invokevirtual 206, 3) by decide +kernel) h (fun z h => hF (.inr z) (dc_some h)) ?_
    intro q78 h
    exact hg_aret (pc := 201) (r := q78.2) hC hR (by first | exact Or.inl ⟨_, rfl⟩ | exact Or.inr ⟨_, rfl⟩) (hF _ (dc_some h)) (show decode prog_9_method_13_code 201 = .ok (.areturn, 1) by decide +kernel)
  clear h; have h := h2; clear h2
  rcases dc_ite h with ⟨hk88, h2⟩ | ⟨hk88, h2⟩
  · subst hk88; clear h; have h := h2; clear h2
    refine hg_tabIn (pc := 8) (off := 194) (tgt := 202) hC dsw_prog_9_method_13_code_8 (by decide +kernel) (by decide +kernel) (by decide +kernel) (by decide +kernel) ?_
    refine hg_aloadn (pc := 202) (j := 0) (i := 0) (r := (some o)) hC 0 rfl rfl (show decode prog_9_method_13_code 202 = .ok (.aload_n 0, 1) by decide +kernel) ?_
    refine hg_tok (pc := 203) (j := 11) hC (by decide) rfl w_734 (show decode prog_9_method_13_code 203 = .ok (.getstatic 200, 3) by decide +kernel) ?_
    refine hg_aloadn (pc := 206) (j := 0) (i := 0) (r := (some o)) hC 0 rfl rfl (show decode prog_9_method_13_code 206 = .ok (.aload_n 0, 1) by decide +kernel) ?_
    refine hg_iloadn (pc := 207) (j := 2) (i := 2) hC 2 rfl rfl (show decode prog_9_method_13_code 207 = .ok (.iload_n 2, 1) by decide +kernel) ?_
    obtain ⟨b80, hb81, h⟩ := dc_bind h
    obtain ⟨hb81, hv82⟩ := hg_chk_of (C := R_PA) rfl hb81
    refine hg_kVTr (pc := 208) (b := b80) (r := (some o)) (As := [.int p2]) (rest := [va_rf (some (G.2.1 11)), va_rf (some o)]) (vo := fun q => q.2) (so := fun q => q.1) hC hR cw_SignalEngine_Parser_210 (fun q hq => hT.2.2.2.2.2.1 Z b80 p2 q hq) (by show _ + 1 ≤ d + 1 + 410; omega) (by show _ ≤ 26 * (d + 1) + 8987; omega) hb81 hv82 rfl (by simp only [List.map, va_rf_cat]; exact Nat.le_of_ble_eq_true rfl) (show decode prog_9_method_13_code 208 = .ok (.invokevirtual 210, 3) by decide +kernel) h (fun z h => hF (.inr z) (dc_some h)) ?_
    intro q83 h
    obtain ⟨b84, hb85, h⟩ := dc_bind h
    obtain ⟨hb85, hv86⟩ := hg_chk_of (C := R_PA) rfl hb85
    refine hg_kVTr (pc := 211) (b := b84) (r := (some o)) (As := [va_rf (some (G.2.1 11)), va_rf q83.2]) (rest := []) (vo := fun q => q.2) (so := fun q => q.1) hC hR cw_SignalEngine_Parser_206 (fun q hq => hm_PA_closedBy_ok l hlt D G q83.1 b84 (some (G.2.1 11)) q83.2 q hq) (by show _ + 1 ≤ d + 1 + 410; omega) (by show _ ≤ 26 * (d + 1) + 8987; omega) hb85 hv86 rfl (Nat.le_of_ble_eq_true rfl) (show decode prog_9_method_13_code 211 = .ok (.invokevirtual 206, 3) by decide +kernel) h (fun z h => hF (.inr z) (dc_some h)) ?_
    intro q87 h
    exact hg_aret (pc := 214) (r := q87.2) hC hR (by first | exact Or.inl ⟨_, rfl⟩ | exact Or.inr ⟨_, rfl⟩) (hF _ (dc_some h)) (show decode prog_9_method_13_code 214 = .ok (.areturn, 1) by decide +kernel)
  clear h; have h := h2; clear h2
  rcases dc_ite h with ⟨hk97, h2⟩ | ⟨hk97, h2⟩
  · subst hk97; clear h; have h := h2; clear h2
    refine hg_tabIn (pc := 8) (off := 207) (tgt := 215) hC dsw_prog_9_method_13_code_8 (by decide +kernel) (by decide +kernel) (by decide +kernel) (by decide +kernel) ?_
    refine hg_aloadn (pc := 215) (j := 0) (i := 0) (r := (some o)) hC 0 rfl rfl (show decode prog_9_method_13_code 215 = .ok (.aload_n 0, 1) by decide +kernel) ?_
    refine hg_tok (pc := 216) (j := 11) hC (by decide) rfl w_734 (show decode prog_9_method_13_code 216 = .ok (.getstatic 200, 3) by decide +kernel) ?_
    refine hg_aloadn (pc := 219) (j := 0) (i := 0) (r := (some o)) hC 0 rfl rfl (show decode prog_9_method_13_code 219 = .ok (.aload_n 0, 1) by decide +kernel) ?_
    refine hg_iloadn (pc := 220) (j := 2) (i := 2) hC 2 rfl rfl (show decode prog_9_method_13_code 220 = .ok (.iload_n 2, 1) by decide +kernel) ?_
    obtain ⟨b89, hb90, h⟩ := dc_bind h
    obtain ⟨hb90, hv91⟩ := hg_chk_of (C := R_PA) rfl hb90
    refine hg_kVTr (pc := 221) (b := b89) (r := (some o)) (As := [.int p2]) (rest := [va_rf (some (G.2.1 11)), va_rf (some o)]) (vo := fun q => q.2) (so := fun q => q.1) hC hR cw_SignalEngine_Parser_213 (fun q hq => hT.2.2.2.2.2.2.1 Z b89 p2 q hq) (by show _ + 1 ≤ d + 1 + 410; omega) (by show _ ≤ 26 * (d + 1) + 8987; omega) hb90 hv91 rfl (by simp only [List.map, va_rf_cat]; exact Nat.le_of_ble_eq_true rfl) (show decode prog_9_method_13_code 221 = .ok (.invokevirtual 213, 3) by decide +kernel) h (fun z h => hF (.inr z) (dc_some h)) ?_
    intro q92 h
    obtain ⟨b93, hb94, h⟩ := dc_bind h
    obtain ⟨hb94, hv95⟩ := hg_chk_of (C := R_PA) rfl hb94
    refine hg_kVTr (pc := 224) (b := b93) (r := (some o)) (As := [va_rf (some (G.2.1 11)), va_rf q92.2]) (rest := []) (vo := fun q => q.2) (so := fun q => q.1) hC hR cw_SignalEngine_Parser_206 (fun q hq => hm_PA_closedBy_ok l hlt D G q92.1 b93 (some (G.2.1 11)) q92.2 q hq) (by show _ + 1 ≤ d + 1 + 410; omega) (by show _ ≤ 26 * (d + 1) + 8987; omega) hb94 hv95 rfl (Nat.le_of_ble_eq_true rfl) (show decode prog_9_method_13_code 224 = .ok (.invokevirtual 206, 3) by decide +kernel) h (fun z h => hF (.inr z) (dc_some h)) ?_
    intro q96 h
    exact hg_aret (pc := 227) (r := q96.2) hC hR (by first | exact Or.inl ⟨_, rfl⟩ | exact Or.inr ⟨_, rfl⟩) (hF _ (dc_some h)) (show decode prog_9_method_13_code 227 = .ok (.areturn, 1) by decide +kernel)
  clear h; have h := h2; clear h2
  rcases dc_ite h with ⟨hk106, h2⟩ | ⟨hk106, h2⟩
  · subst hk106; clear h; have h := h2; clear h2
    refine hg_tabIn (pc := 8) (off := 220) (tgt := 228) hC dsw_prog_9_method_13_code_8 (by decide +kernel) (by decide +kernel) (by decide +kernel) (by decide +kernel) ?_
    refine hg_aloadn (pc := 228) (j := 0) (i := 0) (r := (some o)) hC 0 rfl rfl (show decode prog_9_method_13_code 228 = .ok (.aload_n 0, 1) by decide +kernel) ?_
    refine hg_tok (pc := 229) (j := 11) hC (by decide) rfl w_734 (show decode prog_9_method_13_code 229 = .ok (.getstatic 200, 3) by decide +kernel) ?_
    refine hg_aloadn (pc := 232) (j := 0) (i := 0) (r := (some o)) hC 0 rfl rfl (show decode prog_9_method_13_code 232 = .ok (.aload_n 0, 1) by decide +kernel) ?_
    refine hg_iloadn (pc := 233) (j := 2) (i := 2) hC 2 rfl rfl (show decode prog_9_method_13_code 233 = .ok (.iload_n 2, 1) by decide +kernel) ?_
    obtain ⟨b98, hb99, h⟩ := dc_bind h
    obtain ⟨hb99, hv100⟩ := hg_chk_of (C := R_PA) rfl hb99
    refine hg_kVTr (pc := 234) (b := b98) (r := (some o)) (As := [.int p2]) (rest := [va_rf (some (G.2.1 11)), va_rf (some o)]) (vo := fun q => q.2) (so := fun q => q.1) hC hR cw_SignalEngine_Parser_216 (fun q hq => hT.2.2.2.2.2.2.2.1 Z b98 p2 q hq) (by show _ + 1 ≤ d + 1 + 410; omega) (by show _ ≤ 26 * (d + 1) + 8987; omega) hb99 hv100 rfl (by simp only [List.map, va_rf_cat]; exact Nat.le_of_ble_eq_true rfl) (show decode prog_9_method_13_code 234 = .ok (.invokevirtual 216, 3) by decide +kernel) h (fun z h => hF (.inr z) (dc_some h)) ?_
    intro q101 h
    obtain ⟨b102, hb103, h⟩ := dc_bind h
    obtain ⟨hb103, hv104⟩ := hg_chk_of (C := R_PA) rfl hb103
    refine hg_kVTr (pc := 237) (b := b102) (r := (some o)) (As := [va_rf (some (G.2.1 11)), va_rf q101.2]) (rest := []) (vo := fun q => q.2) (so := fun q => q.1) hC hR cw_SignalEngine_Parser_206 (fun q hq => hm_PA_closedBy_ok l hlt D G q101.1 b102 (some (G.2.1 11)) q101.2 q hq) (by show _ + 1 ≤ d + 1 + 410; omega) (by show _ ≤ 26 * (d + 1) + 8987; omega) hb103 hv104 rfl (Nat.le_of_ble_eq_true rfl) (show decode prog_9_method_13_code 237 = .ok (.invokevirtual 206, 3) by decide +kernel) h (fun z h => hF (.inr z) (dc_some h)) ?_
    intro q105 h
    exact hg_aret (pc := 240) (r := q105.2) hC hR (by first | exact Or.inl ⟨_, rfl⟩ | exact Or.inr ⟨_, rfl⟩) (hF _ (dc_some h)) (show decode prog_9_method_13_code 240 = .ok (.areturn, 1) by decide +kernel)
  clear h; have h := h2; clear h2
  rcases dc_ite h with ⟨hk115, h2⟩ | ⟨hk115, h2⟩
  · subst hk115; clear h; have h := h2; clear h2
    refine hg_tabIn (pc := 8) (off := 233) (tgt := 241) hC dsw_prog_9_method_13_code_8 (by decide +kernel) (by decide +kernel) (by decide +kernel) (by decide +kernel) ?_
    refine hg_aloadn (pc := 241) (j := 0) (i := 0) (r := (some o)) hC 0 rfl rfl (show decode prog_9_method_13_code 241 = .ok (.aload_n 0, 1) by decide +kernel) ?_
    refine hg_tok (pc := 242) (j := 11) hC (by decide) rfl w_734 (show decode prog_9_method_13_code 242 = .ok (.getstatic 200, 3) by decide +kernel) ?_
    refine hg_aloadn (pc := 245) (j := 0) (i := 0) (r := (some o)) hC 0 rfl rfl (show decode prog_9_method_13_code 245 = .ok (.aload_n 0, 1) by decide +kernel) ?_
    refine hg_iloadn (pc := 246) (j := 2) (i := 2) hC 2 rfl rfl (show decode prog_9_method_13_code 246 = .ok (.iload_n 2, 1) by decide +kernel) ?_
    obtain ⟨b107, hb108, h⟩ := dc_bind h
    obtain ⟨hb108, hv109⟩ := hg_chk_of (C := R_PA) rfl hb108
    refine hg_kVTr (pc := 247) (b := b107) (r := (some o)) (As := [.int p2]) (rest := [va_rf (some (G.2.1 11)), va_rf (some o)]) (vo := fun q => q.2) (so := fun q => q.1) hC hR cw_SignalEngine_Parser_219 (fun q hq => hT.2.2.2.2.2.2.2.2.1 Z b107 p2 q hq) (by show _ + 1 ≤ d + 1 + 410; omega) (by show _ ≤ 26 * (d + 1) + 8987; omega) hb108 hv109 rfl (by simp only [List.map, va_rf_cat]; exact Nat.le_of_ble_eq_true rfl) (show decode prog_9_method_13_code 247 = .ok (.invokevirtual 219, 3) by decide +kernel) h (fun z h => hF (.inr z) (dc_some h)) ?_
    intro q110 h
    obtain ⟨b111, hb112, h⟩ := dc_bind h
    obtain ⟨hb112, hv113⟩ := hg_chk_of (C := R_PA) rfl hb112
    refine hg_kVTr (pc := 250) (b := b111) (r := (some o)) (As := [va_rf (some (G.2.1 11)), va_rf q110.2]) (rest := []) (vo := fun q => q.2) (so := fun q => q.1) hC hR cw_SignalEngine_Parser_206 (fun q hq => hm_PA_closedBy_ok l hlt D G q110.1 b111 (some (G.2.1 11)) q110.2 q hq) (by show _ + 1 ≤ d + 1 + 410; omega) (by show _ ≤ 26 * (d + 1) + 8987; omega) hb112 hv113 rfl (Nat.le_of_ble_eq_true rfl) (show decode prog_9_method_13_code 250 = .ok (.invokevirtual 206, 3) by decide +kernel) h (fun z h => hF (.inr z) (dc_some h)) ?_
    intro q114 h
    exact hg_aret (pc := 253) (r := q114.2) hC hR (by first | exact Or.inl ⟨_, rfl⟩ | exact Or.inr ⟨_, rfl⟩) (hF _ (dc_some h)) (show decode prog_9_method_13_code 253 = .ok (.areturn, 1) by decide +kernel)
  clear h; have h := h2; clear h2
  rcases dc_ite h with ⟨hk124, h2⟩ | ⟨hk124, h2⟩
  · subst hk124; clear h; have h := h2; clear h2
    refine hg_tabIn (pc := 8) (off := 246) (tgt := 254) hC dsw_prog_9_method_13_code_8 (by decide +kernel) (by decide +kernel) (by decide +kernel) (by decide +kernel) ?_
    refine hg_aloadn (pc := 254) (j := 0) (i := 0) (r := (some o)) hC 0 rfl rfl (show decode prog_9_method_13_code 254 = .ok (.aload_n 0, 1) by decide +kernel) ?_
    refine hg_tok (pc := 255) (j := 11) hC (by decide) rfl w_734 (show decode prog_9_method_13_code 255 = .ok (.getstatic 200, 3) by decide +kernel) ?_
    refine hg_aloadn (pc := 258) (j := 0) (i := 0) (r := (some o)) hC 0 rfl rfl (show decode prog_9_method_13_code 258 = .ok (.aload_n 0, 1) by decide +kernel) ?_
    refine hg_aloadn (pc := 259) (j := 1) (i := 1) (r := p1) hC 1 rfl rfl (show decode prog_9_method_13_code 259 = .ok (.aload_n 1, 1) by decide +kernel) ?_
    refine hg_iloadn (pc := 260) (j := 2) (i := 2) hC 2 rfl rfl (show decode prog_9_method_13_code 260 = .ok (.iload_n 2, 1) by decide +kernel) ?_
    obtain ⟨b116, hb117, h⟩ := dc_bind h
    obtain ⟨hb117, hv118⟩ := hg_chk_of (C := R_PA) rfl hb117
    refine hg_kVTr (pc := 261) (b := b116) (r := (some o)) (As := [va_rf p1, .int p2]) (rest := [va_rf (some (G.2.1 11)), va_rf (some o)]) (vo := fun q => q.2) (so := fun q => q.1) hC hR cw_SignalEngine_Parser_222 (fun q hq => hT.2.2.2.2.2.2.2.2.2 Z b116 p1 p2 q hq) (by show _ + 1 ≤ d + 1 + 410; omega) (by show _ ≤ 26 * (d + 1) + 8987; omega) hb117 hv118 rfl (by simp only [List.map, va_rf_cat]; exact Nat.le_of_ble_eq_true rfl) (show decode prog_9_method_13_code 261 = .ok (.invokevirtual 222, 3) by decide +kernel) h (fun z h => hF (.inr z) (dc_some h)) ?_
    intro q119 h
    obtain ⟨b120, hb121, h⟩ := dc_bind h
    obtain ⟨hb121, hv122⟩ := hg_chk_of (C := R_PA) rfl hb121
    refine hg_kVTr (pc := 264) (b := b120) (r := (some o)) (As := [va_rf (some (G.2.1 11)), va_rf q119.2]) (rest := []) (vo := fun q => q.2) (so := fun q => q.1) hC hR cw_SignalEngine_Parser_206 (fun q hq => hm_PA_closedBy_ok l hlt D G q119.1 b120 (some (G.2.1 11)) q119.2 q hq) (by show _ + 1 ≤ d + 1 + 410; omega) (by show _ ≤ 26 * (d + 1) + 8987; omega) hb121 hv122 rfl (Nat.le_of_ble_eq_true rfl) (show decode prog_9_method_13_code 264 = .ok (.invokevirtual 206, 3) by decide +kernel) h (fun z h => hF (.inr z) (dc_some h)) ?_
    intro q123 h
    exact hg_aret (pc := 267) (r := q123.2) hC hR (by first | exact Or.inl ⟨_, rfl⟩ | exact Or.inr ⟨_, rfl⟩) (hF _ (dc_some h)) (show decode prog_9_method_13_code 267 = .ok (.areturn, 1) by decide +kernel)
  clear h; have h := h2; clear h2
  rcases dc_ite h with ⟨hk133, h2⟩ | ⟨hk133, h2⟩
  · subst hk133; clear h; have h := h2; clear h2
    refine hg_tabIn (pc := 8) (off := 246) (tgt := 254) hC dsw_prog_9_method_13_code_8 (by decide +kernel) (by decide +kernel) (by decide +kernel) (by decide +kernel) ?_
    refine hg_aloadn (pc := 254) (j := 0) (i := 0) (r := (some o)) hC 0 rfl rfl (show decode prog_9_method_13_code 254 = .ok (.aload_n 0, 1) by decide +kernel) ?_
    refine hg_tok (pc := 255) (j := 11) hC (by decide) rfl w_734 (show decode prog_9_method_13_code 255 = .ok (.getstatic 200, 3) by decide +kernel) ?_
    refine hg_aloadn (pc := 258) (j := 0) (i := 0) (r := (some o)) hC 0 rfl rfl (show decode prog_9_method_13_code 258 = .ok (.aload_n 0, 1) by decide +kernel) ?_
    refine hg_aloadn (pc := 259) (j := 1) (i := 1) (r := p1) hC 1 rfl rfl (show decode prog_9_method_13_code 259 = .ok (.aload_n 1, 1) by decide +kernel) ?_
    refine hg_iloadn (pc := 260) (j := 2) (i := 2) hC 2 rfl rfl (show decode prog_9_method_13_code 260 = .ok (.iload_n 2, 1) by decide +kernel) ?_
    obtain ⟨b125, hb126, h⟩ := dc_bind h
    obtain ⟨hb126, hv127⟩ := hg_chk_of (C := R_PA) rfl hb126
    refine hg_kVTr (pc := 261) (b := b125) (r := (some o)) (As := [va_rf p1, .int p2]) (rest := [va_rf (some (G.2.1 11)), va_rf (some o)]) (vo := fun q => q.2) (so := fun q => q.1) hC hR cw_SignalEngine_Parser_222 (fun q hq => hT.2.2.2.2.2.2.2.2.2 Z b125 p1 p2 q hq) (by show _ + 1 ≤ d + 1 + 410; omega) (by show _ ≤ 26 * (d + 1) + 8987; omega) hb126 hv127 rfl (by simp only [List.map, va_rf_cat]; exact Nat.le_of_ble_eq_true rfl) (show decode prog_9_method_13_code 261 = .ok (.invokevirtual 222, 3) by decide +kernel) h (fun z h => hF (.inr z) (dc_some h)) ?_
    intro q128 h
    obtain ⟨b129, hb130, h⟩ := dc_bind h
    obtain ⟨hb130, hv131⟩ := hg_chk_of (C := R_PA) rfl hb130
    refine hg_kVTr (pc := 264) (b := b129) (r := (some o)) (As := [va_rf (some (G.2.1 11)), va_rf q128.2]) (rest := []) (vo := fun q => q.2) (so := fun q => q.1) hC hR cw_SignalEngine_Parser_206 (fun q hq => hm_PA_closedBy_ok l hlt D G q128.1 b129 (some (G.2.1 11)) q128.2 q hq) (by show _ + 1 ≤ d + 1 + 410; omega) (by show _ ≤ 26 * (d + 1) + 8987; omega) hb130 hv131 rfl (Nat.le_of_ble_eq_true rfl) (show decode prog_9_method_13_code 264 = .ok (.invokevirtual 206, 3) by decide +kernel) h (fun z h => hF (.inr z) (dc_some h)) ?_
    intro q132 h
    exact hg_aret (pc := 267) (r := q132.2) hC hR (by first | exact Or.inl ⟨_, rfl⟩ | exact Or.inr ⟨_, rfl⟩) (hF _ (dc_some h)) (show decode prog_9_method_13_code 267 = .ok (.areturn, 1) by decide +kernel)
  clear h; have h := h2; clear h2
  rcases dc_ite h with ⟨hk142, h2⟩ | ⟨hk142, h2⟩
  · subst hk142; clear h; have h := h2; clear h2
    refine hg_tabIn (pc := 8) (off := 246) (tgt := 254) hC dsw_prog_9_method_13_code_8 (by decide +kernel) (by decide +kernel) (by decide +kernel) (by decide +kernel) ?_
    refine hg_aloadn (pc := 254) (j := 0) (i := 0) (r := (some o)) hC 0 rfl rfl (show decode prog_9_method_13_code 254 = .ok (.aload_n 0, 1) by decide +kernel) ?_
    refine hg_tok (pc := 255) (j := 11) hC (by decide) rfl w_734 (show decode prog_9_method_13_code 255 = .ok (.getstatic 200, 3) by decide +kernel) ?_
    refine hg_aloadn (pc := 258) (j := 0) (i := 0) (r := (some o)) hC 0 rfl rfl (show decode prog_9_method_13_code 258 = .ok (.aload_n 0, 1) by decide +kernel) ?_
    refine hg_aloadn (pc := 259) (j := 1) (i := 1) (r := p1) hC 1 rfl rfl (show decode prog_9_method_13_code 259 = .ok (.aload_n 1, 1) by decide +kernel) ?_
    refine hg_iloadn (pc := 260) (j := 2) (i := 2) hC 2 rfl rfl (show decode prog_9_method_13_code 260 = .ok (.iload_n 2, 1) by decide +kernel) ?_
    obtain ⟨b134, hb135, h⟩ := dc_bind h
    obtain ⟨hb135, hv136⟩ := hg_chk_of (C := R_PA) rfl hb135
    refine hg_kVTr (pc := 261) (b := b134) (r := (some o)) (As := [va_rf p1, .int p2]) (rest := [va_rf (some (G.2.1 11)), va_rf (some o)]) (vo := fun q => q.2) (so := fun q => q.1) hC hR cw_SignalEngine_Parser_222 (fun q hq => hT.2.2.2.2.2.2.2.2.2 Z b134 p1 p2 q hq) (by show _ + 1 ≤ d + 1 + 410; omega) (by show _ ≤ 26 * (d + 1) + 8987; omega) hb135 hv136 rfl (by simp only [List.map, va_rf_cat]; exact Nat.le_of_ble_eq_true rfl) (show decode prog_9_method_13_code 261 = .ok (.invokevirtual 222, 3) by decide +kernel) h (fun z h => hF (.inr z) (dc_some h)) ?_
    intro q137 h
    obtain ⟨b138, hb139, h⟩ := dc_bind h
    obtain ⟨hb139, hv140⟩ := hg_chk_of (C := R_PA) rfl hb139
    refine hg_kVTr (pc := 264) (b := b138) (r := (some o)) (As := [va_rf (some (G.2.1 11)), va_rf q137.2]) (rest := []) (vo := fun q => q.2) (so := fun q => q.1) hC hR cw_SignalEngine_Parser_206 (fun q hq => hm_PA_closedBy_ok l hlt D G q137.1 b138 (some (G.2.1 11)) q137.2 q hq) (by show _ + 1 ≤ d + 1 + 410; omega) (by show _ ≤ 26 * (d + 1) + 8987; omega) hb139 hv140 rfl (Nat.le_of_ble_eq_true rfl) (show decode prog_9_method_13_code 264 = .ok (.invokevirtual 206, 3) by decide +kernel) h (fun z h => hF (.inr z) (dc_some h)) ?_
    intro q141 h
    exact hg_aret (pc := 267) (r := q141.2) hC hR (by first | exact Or.inl ⟨_, rfl⟩ | exact Or.inr ⟨_, rfl⟩) (hF _ (dc_some h)) (show decode prog_9_method_13_code 267 = .ok (.areturn, 1) by decide +kernel)
  clear h; have h := h2; clear h2
  refine hg_tabOut (pc := 8) (tgt := 268) hC dsw_prog_9_method_13_code_8 (by have := dc_swc hk13 (show (1 : Int32).toInt = 1 by decide +kernel); have := dc_swc hk19 (show (2 : Int32).toInt = 2 by decide +kernel); have := dc_swc hk25 (show (3 : Int32).toInt = 3 by decide +kernel); have := dc_swc hk37 (show (4 : Int32).toInt = 4 by decide +kernel); have := dc_swc hk49 (show (5 : Int32).toInt = 5 by decide +kernel); have := dc_swc hk60 (show (6 : Int32).toInt = 6 by decide +kernel); have := dc_swc hk70 (show (7 : Int32).toInt = 7 by decide +kernel); have := dc_swc hk79 (show (8 : Int32).toInt = 8 by decide +kernel); have := dc_swc hk88 (show (9 : Int32).toInt = 9 by decide +kernel); have := dc_swc hk97 (show (10 : Int32).toInt = 10 by decide +kernel); have := dc_swc hk106 (show (11 : Int32).toInt = 11 by decide +kernel); have := dc_swc hk115 (show (12 : Int32).toInt = 12 by decide +kernel); have := dc_swc hk124 (show (13 : Int32).toInt = 13 by decide +kernel); have := dc_swc hk133 (show (14 : Int32).toInt = 14 by decide +kernel); have := dc_swc hk142 (show (15 : Int32).toInt = 15 by decide +kernel); omega) (by decide +kernel) ?_
  refine hg_aloadn (pc := 268) (j := 0) (i := 0) (r := (some o)) hC 0 rfl rfl (show decode prog_9_method_13_code 268 = .ok (.aload_n 0, 1) by decide +kernel) ?_
  refine hg_tok (pc := 269) (j := 29) hC (by decide) rfl w_720 (show decode prog_9_method_13_code 269 = .ok (.getstatic 225, 3) by decide +kernel) ?_
  refine hg_aloadn (pc := 272) (j := 0) (i := 0) (r := (some o)) hC 0 rfl rfl (show decode prog_9_method_13_code 272 = .ok (.aload_n 0, 1) by decide +kernel) ?_
  obtain ⟨b143, hb144, h⟩ := dc_bind h
  obtain ⟨hb144, hv145⟩ := hg_chk_of (C := R_PA) rfl hb144
  refine hg_kVTr (pc := 273) (b := b143) (r := (some o)) (As := []) (rest := [va_rf (some (G.2.1 29)), va_rf (some o)]) (vo := fun q => q.2) (so := fun q => q.1) hC hR cw_SignalEngine_Parser_95 (fun q hq => hT.1 Z b143 q hq) (by show _ + 1 ≤ d + 1 + 410; omega) (by show _ ≤ 26 * (d + 1) + 8987; omega) hb144 hv145 rfl (by simp only [List.map, va_rf_cat]; exact Nat.le_of_ble_eq_true rfl) (show decode prog_9_method_13_code 273 = .ok (.invokevirtual 95, 3) by decide +kernel) h (fun z h => hF (.inr z) (dc_some h)) ?_
  intro q146 h
  obtain ⟨b147, hb148, h⟩ := dc_bind h
  obtain ⟨hb148, hv149⟩ := hg_chk_of (C := R_PA) rfl hb148
  refine hg_kVTr (pc := 276) (b := b147) (r := (some o)) (As := [va_rf (some (G.2.1 29)), va_rf q146.2]) (rest := []) (vo := fun q => q.2) (so := fun q => q.1) hC hR cw_SignalEngine_Parser_206 (fun q hq => hm_PA_closedBy_ok l hlt D G q146.1 b147 (some (G.2.1 29)) q146.2 q hq) (by show _ + 1 ≤ d + 1 + 410; omega) (by show _ ≤ 26 * (d + 1) + 8987; omega) hb148 hv149 rfl (Nat.le_of_ble_eq_true rfl) (show decode prog_9_method_13_code 276 = .ok (.invokevirtual 206, 3) by decide +kernel) h (fun z h => hF (.inr z) (dc_some h)) ?_
  intro q150 h
  exact hg_aret (pc := 279) (r := q150.2) hC hR (by first | exact Or.inl ⟨_, rfl⟩ | exact Or.inr ⟨_, rfl⟩) (hF _ (dc_some h)) (show decode prog_9_method_13_code 279 = .ok (.areturn, 1) by decide +kernel)
noncomputable def hm_PA_takePresent_L98 (T : hm_T2) (G : hg_E) (S : hg_S) (o : Nat) (x1 : Int32) (x2 : Int32) (x3 : Option Nat) (y0 : Option Nat) : Option ((hg_S × (Option Nat)) ⊕ hg_X) :=
  (hg_gr S (some o) 4 3).bind fun e1 => (hg_chk S e1 6).bind fun b2 => (hm_DR_tested G S b2 (3 : Int32) x2 x3 y0 x1).bind fun q5 => some (.inl (q5.1, q5.2))
noncomputable def hm_PA_takePresent_L70 (T : hm_T2) (G : hg_E) (S : hg_S) (o : Nat) (x1 : Int32) (x2 : Int32) (y0 : Option Nat) : Option ((hg_S × (Option Nat)) ⊕ hg_X) :=
  (hg_chk S (some o) 4).bind fun b6 => (hm_PA_skip G S b6 (some (G.2.1 10))).bind (Sum.elim (fun q9 => if q9.2 = 0 then ((hg_gr q9.1 (some o) 4 3).bind fun e10 => (hg_chk q9.1 e10 6).bind fun b11 => (hm_DR_leaf G q9.1 b11 (0 : Int32) ((-1) : Int32) x1).bind fun q14 => hm_PA_takePresent_L98 T G q14.1 o x1 x2 y0 q14.2) else ((hg_chk q9.1 (some o) 4).bind fun b15 => (T.1 G q9.1 b15).bind (Sum.elim (fun q18 => hm_PA_takePresent_L98 T G q18.1 o x1 x2 y0 q18.2) (fun z => some (Sum.inr z))))) (fun z => some (Sum.inr z)))
noncomputable def hm_PA_takePresent_L40 (T : hm_T2) (G : hg_E) (S : hg_S) (o : Nat) (x1 : Int32) (x2 : Int32) (y0 : Int32) (y1 : Option Nat) : Option ((hg_S × (Option Nat)) ⊕ hg_X) :=
  (hg_chk S y1 2).bind fun b19 => (hm_LX_require G S b19 y0).bind (Sum.elim (fun q22 => (hg_chk q22 (some o) 4).bind fun b23 => (hm_PA_skip G q22 b23 (some (G.2.1 9))).bind (Sum.elim (fun q26 => if q26.2 = 0 then ((hg_gr q26.1 (some o) 4 3).bind fun e27 => (hg_chk q26.1 e27 6).bind fun b28 => (hm_DR_leaf G q26.1 b28 (0 : Int32) ((-1) : Int32) x1).bind fun q31 => hm_PA_takePresent_L70 T G q31.1 o x1 x2 q31.2) else ((hg_chk q26.1 (some o) 4).bind fun b32 => (T.1 G q26.1 b32).bind (Sum.elim (fun q35 => hm_PA_takePresent_L70 T G q35.1 o x1 x2 q35.2) (fun z => some (Sum.inr z))))) (fun z => some (Sum.inr z)))) (fun z => some (Sum.inr z)))
noncomputable def hm_PA_takePresent_L35 (T : hm_T2) (G : hg_E) (S : hg_S) (o : Nat) (x1 : Int32) (x2 : Int32) (y0 : Option Nat) : Option ((hg_S × (Option Nat)) ⊕ hg_X) :=
  hm_PA_takePresent_L40 T G S o x1 x2 1 y0
noncomputable def hm_PA_takePresent (T : hm_T2) (G : hg_E) (S : hg_S) (o : Nat) (p1 : Int32) : Option ((hg_S × (Option Nat)) ⊕ hg_X) :=
  (hg_chk S (some o) 4).bind fun b36 => (hm_PA_takeEither_r G S b36).bind (Sum.elim (fun q39 => (hg_gr q39.1 (some o) 4 0).bind fun e40 => (hg_gr q39.1 (some o) 4 0).bind fun e41 => (hg_gr q39.1 e41 2 1).bind fun e42 => if e42 = (some (G.2.1 9)) then (hm_PA_takePresent_L35 T G q39.1 o p1 q39.2 e40) else ((hg_gr q39.1 (some o) 4 0).bind fun e43 => (hg_gr q39.1 e43 2 1).bind fun e44 => if e44 = (some (G.2.1 10)) then (hm_PA_takePresent_L35 T G q39.1 o p1 q39.2 e40) else (hm_PA_takePresent_L40 T G q39.1 o p1 q39.2 0 e40))) (fun z => some (Sum.inr z)))
set_option maxHeartbeats 4000000 in
set_option maxRecDepth 100000 in
/-- SignalEngine$Parser.takePresent(I)LSignalEngine$Node; -/
theorem hm_PA_takePresent_ok (l : Launch) (hlt : l.stackTraces = false) (D : va_G) (G : hg_E) (T : hm_T2) (d : Nat) (hT : hm_OK2 l D G T d) (Z : hg_S) (o : Nat) (p1 : Int32) (q : (hg_S × (Option Nat)) ⊕ hg_X) (hq : hm_PA_takePresent T G Z o p1 = some q) : hg_C l ⟨"SignalEngine$Parser", "takePresent", "(I)LSignalEngine$Node;"⟩ prog_9_method_15_code 5 (some (.object "SignalEngine$Node")) (d + 1 + 410) (26 * (d + 1) + 8987) D G [.ref o, .int p1] Z (Sum.elim (fun q => (.inl (some (va_rf q.2), q.1) : hg_O)) hg_ox q) := by
  refine hg_start (cv := fun q => (Sum.elim (fun q => (.inl (some (va_rf q.2), q.1) : hg_O)) hg_ox q)) hq ?_
  intro F hF h
  refine hg_enter (lv := [(0, va_rf (some o)), (1, .int p1)]) (by decide +kernel) (by simp [lg_sl, va_rf_cat, hg_cti, hg_ctr]) (by simp [lv_args, va_rf_cat, va_rf_some, hg_cti, hg_ctr]) ?_
  intro X hC hR
  have lab_98 : ∀ (S : hg_S) (x1 : Int32) (x2 : Int32) (x3 : Option Nat) (y0 : Option Nat), dc_wp (hm_PA_takePresent_L98 T G S o x1 x2 x3 y0) F → hg_G X l (hg_rm (d + 1 + 410) (26 * (d + 1) + 8987) Z) D 5 S 98 [(0, va_rf (some o)), (1, .int x1), (2, .int x2), (3, va_rf x3)] [va_rf y0] := by
    intro S x1 x2 x3 y0 h
    delta hm_PA_takePresent_L98 at h
    refine hg_astore (pc := 98) (i := 4) (r := y0) (lv' := [(4, va_rf y0), (0, va_rf (some o)), (1, .int x1), (2, .int x2), (3, va_rf x3)]) hC (Nat.le_of_ble_eq_true rfl) (by simp [va_rf_cat, hg_cti]) (show decode prog_9_method_15_code 98 = .ok (.astore 4, 2) by decide +kernel) ?_
    refine hg_aloadn (pc := 100) (j := 0) (i := 0) (r := (some o)) hC 1 rfl rfl (show decode prog_9_method_15_code 100 = .ok (.aload_n 0, 1) by decide +kernel) ?_
    refine hg_rgr (pc := 101) (r := (some o)) hC fl_SignalEngine_Parser_12 (show decode prog_9_method_15_code 101 = .ok (.getfield 12, 3) by decide +kernel) h ?_
    intro e1 h
    refine hg_iconst (pc := 104) (v := 3) hC (show decode prog_9_method_15_code 104 = .ok (.iconst 3, 1) by decide +kernel) (by decide +kernel) ?_
    refine hg_iloadn (pc := 105) (j := 2) (i := 2) hC 3 rfl rfl (show decode prog_9_method_15_code 105 = .ok (.iload_n 2, 1) by decide +kernel) ?_
    refine hg_aloadn (pc := 106) (j := 3) (i := 3) (r := x3) hC 4 rfl rfl (show decode prog_9_method_15_code 106 = .ok (.aload_n 3, 1) by decide +kernel) ?_
    refine hg_aload (pc := 107) (i := 4) (r := y0) hC 0 rfl (show decode prog_9_method_15_code 107 = .ok (.aload 4, 2) by decide +kernel) ?_
    refine hg_iloadn (pc := 109) (j := 1) (i := 1) hC 2 rfl rfl (show decode prog_9_method_15_code 109 = .ok (.iload_n 1, 1) by decide +kernel) ?_
    obtain ⟨b2, hb3, h⟩ := dc_bind h
    obtain ⟨hb3, hv4⟩ := hg_chk_of (C := R_DR) rfl hb3
    refine hg_kVr (pc := 110) (b := b2) (r := e1) (As := [.int 3, .int x2, va_rf x3, va_rf y0, .int x1]) (rest := []) (vo := fun q => q.2) (so := fun q => q.1) hC cw_SignalEngine_Parser_234 (fun q hq => hm_DR_tested_ok l D G S b2 (3 : Int32) x2 x3 y0 x1 q hq) (by show _ + 1 ≤ d + 1 + 410; omega) (by show _ ≤ 26 * (d + 1) + 8987; omega) hb3 hv4 rfl (Nat.le_of_ble_eq_true rfl) (show decode prog_9_method_15_code 110 = .ok (.invokevirtual 234, 3) by decide +kernel) h ?_
    intro q5 h
    exact hg_aret (pc := 113) (r := q5.2) hC hR (by first | exact Or.inl ⟨_, rfl⟩ | exact Or.inr ⟨_, rfl⟩) (hF _ (dc_some h)) (show decode prog_9_method_15_code 113 = .ok (.areturn, 1) by decide +kernel)
  have lab_70 : ∀ (S : hg_S) (x1 : Int32) (x2 : Int32) (y0 : Option Nat), dc_wp (hm_PA_takePresent_L70 T G S o x1 x2 y0) F → hg_G X l (hg_rm (d + 1 + 410) (26 * (d + 1) + 8987) Z) D 5 S 70 [(0, va_rf (some o)), (1, .int x1), (2, .int x2)] [va_rf y0] := by
    intro S x1 x2 y0 h
    delta hm_PA_takePresent_L70 at h
    refine hg_astoren (pc := 70) (j := 3) (i := 3) (r := y0) (lv' := [(3, va_rf y0), (0, va_rf (some o)), (1, .int x1), (2, .int x2)]) hC rfl (Nat.le_of_ble_eq_true rfl) rfl (show decode prog_9_method_15_code 70 = .ok (.astore_n 3, 1) by decide +kernel) ?_
    refine hg_aloadn (pc := 71) (j := 0) (i := 0) (r := (some o)) hC 1 rfl rfl (show decode prog_9_method_15_code 71 = .ok (.aload_n 0, 1) by decide +kernel) ?_
    refine hg_tok (pc := 72) (j := 10) hC (by decide) rfl w_742 (show decode prog_9_method_15_code 72 = .ok (.getstatic 231, 3) by decide +kernel) ?_
    obtain ⟨b6, hb7, h⟩ := dc_bind h
    obtain ⟨hb7, hv8⟩ := hg_chk_of (C := R_PA) rfl hb7
    refine hg_kVTi (pc := 75) (b := b6) (r := (some o)) (As := [va_rf (some (G.2.1 10))]) (rest := []) (vo := fun q => q.2) (so := fun q => q.1) hC hR cw_SignalEngine_Parser_127 (fun q hq => hm_PA_skip_ok l hlt D G S b6 (some (G.2.1 10)) q hq) (by show _ + 1 ≤ d + 1 + 410; omega) (by show _ ≤ 26 * (d + 1) + 8987; omega) hb7 hv8 rfl (Nat.le_of_ble_eq_true rfl) (show decode prog_9_method_15_code 75 = .ok (.invokevirtual 127, 3) by decide +kernel) h (fun z h => hF (.inr z) (dc_some h)) ?_
    intro q9 h
    refine hg_if_eq (pc := 78) (tgt := 88) hC (show decode prog_9_method_15_code 78 = .ok (.ifCond .eq 10, 3) by decide +kernel) (by decide +kernel) h ?_ ?_
    · intro h
      refine hg_aloadn (pc := 88) (j := 0) (i := 0) (r := (some o)) hC 1 rfl rfl (show decode prog_9_method_15_code 88 = .ok (.aload_n 0, 1) by decide +kernel) ?_
      refine hg_rgr (pc := 89) (r := (some o)) hC fl_SignalEngine_Parser_12 (show decode prog_9_method_15_code 89 = .ok (.getfield 12, 3) by decide +kernel) h ?_
      intro e10 h
      refine hg_iconst (pc := 92) (v := 0) hC (show decode prog_9_method_15_code 92 = .ok (.iconst 0, 1) by decide +kernel) (by decide +kernel) ?_
      refine hg_iconst (pc := 93) (v := (-1)) hC (show decode prog_9_method_15_code 93 = .ok (.iconst (-1), 1) by decide +kernel) (by decide +kernel) ?_
      refine hg_iloadn (pc := 94) (j := 1) (i := 1) hC 2 rfl rfl (show decode prog_9_method_15_code 94 = .ok (.iload_n 1, 1) by decide +kernel) ?_
      obtain ⟨b11, hb12, h⟩ := dc_bind h
      obtain ⟨hb12, hv13⟩ := hg_chk_of (C := R_DR) rfl hb12
      refine hg_kVr (pc := 95) (b := b11) (r := e10) (As := [.int 0, .int (-1), .int x1]) (rest := []) (vo := fun q => q.2) (so := fun q => q.1) hC cw_SignalEngine_Parser_175 (fun q hq => hm_DR_leaf_ok l D G q9.1 b11 (0 : Int32) ((-1) : Int32) x1 q hq) (by show _ + 1 ≤ d + 1 + 410; omega) (by show _ ≤ 26 * (d + 1) + 8987; omega) hb12 hv13 rfl (Nat.le_of_ble_eq_true rfl) (show decode prog_9_method_15_code 95 = .ok (.invokevirtual 175, 3) by decide +kernel) h ?_
      intro q14 h
      exact hg_sub [1, 2, 3, 0] rfl (lab_98 q14.1 x1 x2 y0 q14.2 h)
    · intro h
      refine hg_aloadn (pc := 81) (j := 0) (i := 0) (r := (some o)) hC 1 rfl rfl (show decode prog_9_method_15_code 81 = .ok (.aload_n 0, 1) by decide +kernel) ?_
      obtain ⟨b15, hb16, h⟩ := dc_bind h
      obtain ⟨hb16, hv17⟩ := hg_chk_of (C := R_PA) rfl hb16
      refine hg_kVTr (pc := 82) (b := b15) (r := (some o)) (As := []) (rest := []) (vo := fun q => q.2) (so := fun q => q.1) hC hR cw_SignalEngine_Parser_95 (fun q hq => hT.1 q9.1 b15 q hq) (by show _ + 1 ≤ d + 1 + 410; omega) (by show _ ≤ 26 * (d + 1) + 8987; omega) hb16 hv17 rfl (Nat.le_of_ble_eq_true rfl) (show decode prog_9_method_15_code 82 = .ok (.invokevirtual 95, 3) by decide +kernel) h (fun z h => hF (.inr z) (dc_some h)) ?_
      intro q18 h
      refine hg_goto (pc := 85) (tgt := 98) hC (show decode prog_9_method_15_code 85 = .ok (.goto 13, 3) by decide +kernel) (by decide +kernel) ?_
      exact hg_sub [1, 2, 3, 0] rfl (lab_98 q18.1 x1 x2 y0 q18.2 h)
  have lab_40 : ∀ (S : hg_S) (x1 : Int32) (x2 : Int32) (y0 : Int32) (y1 : Option Nat), dc_wp (hm_PA_takePresent_L40 T G S o x1 x2 y0 y1) F → hg_G X l (hg_rm (d + 1 + 410) (26 * (d + 1) + 8987) Z) D 5 S 40 [(0, va_rf (some o)), (1, .int x1), (2, .int x2)] [.int y0, va_rf y1] := by
    intro S x1 x2 y0 y1 h
    delta hm_PA_takePresent_L40 at h
    obtain ⟨b19, hb20, h⟩ := dc_bind h
    obtain ⟨hb20, hv21⟩ := hg_chk_of (C := R_LX) rfl hb20
    refine hg_kVTv (pc := 40) (b := b19) (r := y1) (As := [.int y0]) (rest := []) (so := fun q => q) hC hR cw_SignalEngine_Parser_102 (fun q hq => hm_LX_require_ok l hlt D G S b19 y0 q hq) (by show _ + 1 ≤ d + 1 + 410; omega) (by show _ ≤ 26 * (d + 1) + 8987; omega) hb20 hv21 rfl (Nat.le_of_ble_eq_true rfl) (show decode prog_9_method_15_code 40 = .ok (.invokevirtual 102, 3) by decide +kernel) h (fun z h => hF (.inr z) (dc_some h)) ?_
    intro q22 h
    refine hg_aloadn (pc := 43) (j := 0) (i := 0) (r := (some o)) hC 0 rfl rfl (show decode prog_9_method_15_code 43 = .ok (.aload_n 0, 1) by decide +kernel) ?_
    refine hg_tok (pc := 44) (j := 9) hC (by decide) rfl w_740 (show decode prog_9_method_15_code 44 = .ok (.getstatic 228, 3) by decide +kernel) ?_
    obtain ⟨b23, hb24, h⟩ := dc_bind h
    obtain ⟨hb24, hv25⟩ := hg_chk_of (C := R_PA) rfl hb24
    refine hg_kVTi (pc := 47) (b := b23) (r := (some o)) (As := [va_rf (some (G.2.1 9))]) (rest := []) (vo := fun q => q.2) (so := fun q => q.1) hC hR cw_SignalEngine_Parser_127 (fun q hq => hm_PA_skip_ok l hlt D G q22 b23 (some (G.2.1 9)) q hq) (by show _ + 1 ≤ d + 1 + 410; omega) (by show _ ≤ 26 * (d + 1) + 8987; omega) hb24 hv25 rfl (Nat.le_of_ble_eq_true rfl) (show decode prog_9_method_15_code 47 = .ok (.invokevirtual 127, 3) by decide +kernel) h (fun z h => hF (.inr z) (dc_some h)) ?_
    intro q26 h
    refine hg_if_eq (pc := 50) (tgt := 60) hC (show decode prog_9_method_15_code 50 = .ok (.ifCond .eq 10, 3) by decide +kernel) (by decide +kernel) h ?_ ?_
    · intro h
      refine hg_aloadn (pc := 60) (j := 0) (i := 0) (r := (some o)) hC 0 rfl rfl (show decode prog_9_method_15_code 60 = .ok (.aload_n 0, 1) by decide +kernel) ?_
      refine hg_rgr (pc := 61) (r := (some o)) hC fl_SignalEngine_Parser_12 (show decode prog_9_method_15_code 61 = .ok (.getfield 12, 3) by decide +kernel) h ?_
      intro e27 h
      refine hg_iconst (pc := 64) (v := 0) hC (show decode prog_9_method_15_code 64 = .ok (.iconst 0, 1) by decide +kernel) (by decide +kernel) ?_
      refine hg_iconst (pc := 65) (v := (-1)) hC (show decode prog_9_method_15_code 65 = .ok (.iconst (-1), 1) by decide +kernel) (by decide +kernel) ?_
      refine hg_iloadn (pc := 66) (j := 1) (i := 1) hC 1 rfl rfl (show decode prog_9_method_15_code 66 = .ok (.iload_n 1, 1) by decide +kernel) ?_
      obtain ⟨b28, hb29, h⟩ := dc_bind h
      obtain ⟨hb29, hv30⟩ := hg_chk_of (C := R_DR) rfl hb29
      refine hg_kVr (pc := 67) (b := b28) (r := e27) (As := [.int 0, .int (-1), .int x1]) (rest := []) (vo := fun q => q.2) (so := fun q => q.1) hC cw_SignalEngine_Parser_175 (fun q hq => hm_DR_leaf_ok l D G q26.1 b28 (0 : Int32) ((-1) : Int32) x1 q hq) (by show _ + 1 ≤ d + 1 + 410; omega) (by show _ ≤ 26 * (d + 1) + 8987; omega) hb29 hv30 rfl (Nat.le_of_ble_eq_true rfl) (show decode prog_9_method_15_code 67 = .ok (.invokevirtual 175, 3) by decide +kernel) h ?_
      intro q31 h
      exact lab_70 q31.1 x1 x2 q31.2 h
    · intro h
      refine hg_aloadn (pc := 53) (j := 0) (i := 0) (r := (some o)) hC 0 rfl rfl (show decode prog_9_method_15_code 53 = .ok (.aload_n 0, 1) by decide +kernel) ?_
      obtain ⟨b32, hb33, h⟩ := dc_bind h
      obtain ⟨hb33, hv34⟩ := hg_chk_of (C := R_PA) rfl hb33
      refine hg_kVTr (pc := 54) (b := b32) (r := (some o)) (As := []) (rest := []) (vo := fun q => q.2) (so := fun q => q.1) hC hR cw_SignalEngine_Parser_95 (fun q hq => hT.1 q26.1 b32 q hq) (by show _ + 1 ≤ d + 1 + 410; omega) (by show _ ≤ 26 * (d + 1) + 8987; omega) hb33 hv34 rfl (Nat.le_of_ble_eq_true rfl) (show decode prog_9_method_15_code 54 = .ok (.invokevirtual 95, 3) by decide +kernel) h (fun z h => hF (.inr z) (dc_some h)) ?_
      intro q35 h
      refine hg_goto (pc := 57) (tgt := 70) hC (show decode prog_9_method_15_code 57 = .ok (.goto 13, 3) by decide +kernel) (by decide +kernel) ?_
      exact lab_70 q35.1 x1 x2 q35.2 h
  have lab_35 : ∀ (S : hg_S) (x1 : Int32) (x2 : Int32) (y0 : Option Nat), dc_wp (hm_PA_takePresent_L35 T G S o x1 x2 y0) F → hg_G X l (hg_rm (d + 1 + 410) (26 * (d + 1) + 8987) Z) D 5 S 35 [(0, va_rf (some o)), (1, .int x1), (2, .int x2)] [va_rf y0] := by
    intro S x1 x2 y0 h
    delta hm_PA_takePresent_L35 at h
    refine hg_iconst (pc := 35) (v := 1) hC (show decode prog_9_method_15_code 35 = .ok (.iconst 1, 1) by decide +kernel) (by decide +kernel) ?_
    refine hg_goto (pc := 36) (tgt := 40) hC (show decode prog_9_method_15_code 36 = .ok (.goto 4, 3) by decide +kernel) (by decide +kernel) ?_
    exact lab_40 S x1 x2 1 y0 h
  show hg_G X l (hg_rm (d + 1 + 410) (26 * (d + 1) + 8987) Z) D 5 Z 0 [(0, va_rf (some o)), (1, .int p1)] []
  have h : dc_wp (hm_PA_takePresent T G Z o p1) F := h
  delta hm_PA_takePresent at h
  refine hg_aloadn (pc := 0) (j := 0) (i := 0) (r := (some o)) hC 0 rfl rfl (show decode prog_9_method_15_code 0 = .ok (.aload_n 0, 1) by decide +kernel) ?_
  obtain ⟨b36, hb37, h⟩ := dc_bind h
  obtain ⟨hb37, hv38⟩ := hg_chk_of (C := R_PA) rfl hb37
  refine hg_kVTi (pc := 1) (b := b36) (r := (some o)) (As := []) (rest := []) (vo := fun q => q.2) (so := fun q => q.1) hC hR cw_SignalEngine_Parser_194 (fun q hq => hm_PA_takeEither_r_ok l hlt D G Z b36 q hq) (by show _ + 1 ≤ d + 1 + 410; omega) (by show _ ≤ 26 * (d + 1) + 8987; omega) hb37 hv38 rfl (Nat.le_of_ble_eq_true rfl) (show decode prog_9_method_15_code 1 = .ok (.invokevirtual 194, 3) by decide +kernel) h (fun z h => hF (.inr z) (dc_some h)) ?_
  intro q39 h
  refine hg_istoren (pc := 4) (j := 2) (i := 2) (lv' := [(2, .int q39.2), (0, va_rf (some o)), (1, .int p1)]) hC rfl (Nat.le_of_ble_eq_true rfl) rfl (show decode prog_9_method_15_code 4 = .ok (.istore_n 2, 1) by decide +kernel) ?_
  refine hg_aloadn (pc := 5) (j := 0) (i := 0) (r := (some o)) hC 1 rfl rfl (show decode prog_9_method_15_code 5 = .ok (.aload_n 0, 1) by decide +kernel) ?_
  refine hg_rgr (pc := 6) (r := (some o)) hC fl_SignalEngine_Parser_23 (show decode prog_9_method_15_code 6 = .ok (.getfield 23, 3) by decide +kernel) h ?_
  intro e40 h
  refine hg_aloadn (pc := 9) (j := 0) (i := 0) (r := (some o)) hC 1 rfl rfl (show decode prog_9_method_15_code 9 = .ok (.aload_n 0, 1) by decide +kernel) ?_
  refine hg_rgr (pc := 10) (r := (some o)) hC fl_SignalEngine_Parser_23 (show decode prog_9_method_15_code 10 = .ok (.getfield 23, 3) by decide +kernel) h ?_
  intro e41 h
  refine hg_rgr (pc := 13) (r := e41) hC fl_SignalEngine_Parser_70 (show decode prog_9_method_15_code 13 = .ok (.getfield 70, 3) by decide +kernel) h ?_
  intro e42 h
  refine hg_tok (pc := 16) (j := 9) hC (by decide) rfl w_740 (show decode prog_9_method_15_code 16 = .ok (.getstatic 228, 3) by decide +kernel) ?_
  refine hg_acmp_eq (pc := 19) (tgt := 35) (x := e42) (y := (some (G.2.1 9))) hC (show decode prog_9_method_15_code 19 = .ok (.if_acmp .eq 16, 3) by decide +kernel) (by decide +kernel) h ?_ ?_
  · intro h
    exact hg_sub [1, 2, 0] rfl (lab_35 q39.1 p1 q39.2 e40 h)
  · intro h
    refine hg_aloadn (pc := 22) (j := 0) (i := 0) (r := (some o)) hC 1 rfl rfl (show decode prog_9_method_15_code 22 = .ok (.aload_n 0, 1) by decide +kernel) ?_
    refine hg_rgr (pc := 23) (r := (some o)) hC fl_SignalEngine_Parser_23 (show decode prog_9_method_15_code 23 = .ok (.getfield 23, 3) by decide +kernel) h ?_
    intro e43 h
    refine hg_rgr (pc := 26) (r := e43) hC fl_SignalEngine_Parser_70 (show decode prog_9_method_15_code 26 = .ok (.getfield 70, 3) by decide +kernel) h ?_
    intro e44 h
    refine hg_tok (pc := 29) (j := 10) hC (by decide) rfl w_742 (show decode prog_9_method_15_code 29 = .ok (.getstatic 231, 3) by decide +kernel) ?_
    refine hg_acmp_ne (pc := 32) (tgt := 39) (x := e44) (y := (some (G.2.1 10))) hC (show decode prog_9_method_15_code 32 = .ok (.if_acmp .ne 7, 3) by decide +kernel) (by decide +kernel) h ?_ ?_
    · intro h
      exact hg_sub [1, 2, 0] rfl (lab_35 q39.1 p1 q39.2 e40 h)
    · intro h
      refine hg_iconst (pc := 39) (v := 0) hC (show decode prog_9_method_15_code 39 = .ok (.iconst 0, 1) by decide +kernel) (by decide +kernel) ?_
      exact hg_sub [1, 2, 0] rfl (lab_40 q39.1 p1 q39.2 0 e40 h)
noncomputable def hm_PA_takeLoop_L43 (T : hm_T2) (G : hg_E) (S : hg_S) (o : Nat) (y0 : Option Nat) : Option ((hg_S × (Option Nat)) ⊕ hg_X) :=
  some (.inl (S, y0))
noncomputable def hm_PA_takeLoop (T : hm_T2) (G : hg_E) (S : hg_S) (o : Nat) (p1 : Int32) : Option ((hg_S × (Option Nat)) ⊕ hg_X) :=
  (hg_chk S (some o) 4).bind fun b1 => (T.1 G S b1).bind (Sum.elim (fun q4 => (hg_chk q4.1 (some o) 4).bind fun b5 => (hm_PA_skip G q4.1 b5 (some (G.2.1 15))).bind (Sum.elim (fun q8 => if q8.2 = 0 then ((hg_gr q8.1 (some o) 4 3).bind fun e9 => (hg_chk q8.1 e9 6).bind fun b10 => (hm_DR_join G q8.1 b10 (6 : Int32) q4.2 (none : Option Nat) p1).bind fun q13 => hm_PA_takeLoop_L43 T G q13.1 o q13.2) else ((hg_gr q8.1 (some o) 4 3).bind fun e14 => (hg_chk q8.1 (some o) 4).bind fun b15 => (hm_PA_takeEither_r G q8.1 b15).bind (Sum.elim (fun q18 => (hg_chk q18.1 e14 6).bind fun b19 => (hm_DR_loopEach G q18.1 b19 q4.2 q18.2 p1).bind fun q22 => hm_PA_takeLoop_L43 T G q22.1 o q22.2) (fun z => some (Sum.inr z))))) (fun z => some (Sum.inr z)))) (fun z => some (Sum.inr z)))
set_option maxHeartbeats 4000000 in
set_option maxRecDepth 100000 in
/-- SignalEngine$Parser.takeLoop(I)LSignalEngine$Node; -/
theorem hm_PA_takeLoop_ok (l : Launch) (hlt : l.stackTraces = false) (D : va_G) (G : hg_E) (T : hm_T2) (d : Nat) (hT : hm_OK2 l D G T d) (Z : hg_S) (o : Nat) (p1 : Int32) (q : (hg_S × (Option Nat)) ⊕ hg_X) (hq : hm_PA_takeLoop T G Z o p1 = some q) : hg_C l ⟨"SignalEngine$Parser", "takeLoop", "(I)LSignalEngine$Node;"⟩ prog_9_method_16_code 3 (some (.object "SignalEngine$Node")) (d + 1 + 410) (26 * (d + 1) + 8987) D G [.ref o, .int p1] Z (Sum.elim (fun q => (.inl (some (va_rf q.2), q.1) : hg_O)) hg_ox q) := by
  refine hg_start (cv := fun q => (Sum.elim (fun q => (.inl (some (va_rf q.2), q.1) : hg_O)) hg_ox q)) hq ?_
  intro F hF h
  refine hg_enter (lv := [(0, va_rf (some o)), (1, .int p1)]) (by decide +kernel) (by simp [lg_sl, va_rf_cat, hg_cti, hg_ctr]) (by simp [lv_args, va_rf_cat, va_rf_some, hg_cti, hg_ctr]) ?_
  intro X hC hR
  have lab_43 : ∀ (S : hg_S) (y0 : Option Nat), dc_wp (hm_PA_takeLoop_L43 T G S o y0) F → hg_G X l (hg_rm (d + 1 + 410) (26 * (d + 1) + 8987) Z) D 3 S 43 [(0, va_rf (some o))] [va_rf y0] := by
    intro S y0 h
    delta hm_PA_takeLoop_L43 at h
    exact hg_aret (pc := 43) (r := y0) hC hR (by first | exact Or.inl ⟨_, rfl⟩ | exact Or.inr ⟨_, rfl⟩) (hF _ (dc_some h)) (show decode prog_9_method_16_code 43 = .ok (.areturn, 1) by decide +kernel)
  show hg_G X l (hg_rm (d + 1 + 410) (26 * (d + 1) + 8987) Z) D 3 Z 0 [(0, va_rf (some o)), (1, .int p1)] []
  have h : dc_wp (hm_PA_takeLoop T G Z o p1) F := h
  delta hm_PA_takeLoop at h
  refine hg_aloadn (pc := 0) (j := 0) (i := 0) (r := (some o)) hC 0 rfl rfl (show decode prog_9_method_16_code 0 = .ok (.aload_n 0, 1) by decide +kernel) ?_
  obtain ⟨b1, hb2, h⟩ := dc_bind h
  obtain ⟨hb2, hv3⟩ := hg_chk_of (C := R_PA) rfl hb2
  refine hg_kVTr (pc := 1) (b := b1) (r := (some o)) (As := []) (rest := []) (vo := fun q => q.2) (so := fun q => q.1) hC hR cw_SignalEngine_Parser_95 (fun q hq => hT.1 Z b1 q hq) (by show _ + 1 ≤ d + 1 + 410; omega) (by show _ ≤ 26 * (d + 1) + 8987; omega) hb2 hv3 rfl (Nat.le_of_ble_eq_true rfl) (show decode prog_9_method_16_code 1 = .ok (.invokevirtual 95, 3) by decide +kernel) h (fun z h => hF (.inr z) (dc_some h)) ?_
  intro q4 h
  refine hg_astoren (pc := 4) (j := 2) (i := 2) (r := q4.2) (lv' := [(2, va_rf q4.2), (0, va_rf (some o)), (1, .int p1)]) hC rfl (Nat.le_of_ble_eq_true rfl) rfl (show decode prog_9_method_16_code 4 = .ok (.astore_n 2, 1) by decide +kernel) ?_
  refine hg_aloadn (pc := 5) (j := 0) (i := 0) (r := (some o)) hC 1 rfl rfl (show decode prog_9_method_16_code 5 = .ok (.aload_n 0, 1) by decide +kernel) ?_
  refine hg_tok (pc := 6) (j := 15) hC (by decide) rfl w_756 (show decode prog_9_method_16_code 6 = .ok (.getstatic 238, 3) by decide +kernel) ?_
  obtain ⟨b5, hb6, h⟩ := dc_bind h
  obtain ⟨hb6, hv7⟩ := hg_chk_of (C := R_PA) rfl hb6
  refine hg_kVTi (pc := 9) (b := b5) (r := (some o)) (As := [va_rf (some (G.2.1 15))]) (rest := []) (vo := fun q => q.2) (so := fun q => q.1) hC hR cw_SignalEngine_Parser_127 (fun q hq => hm_PA_skip_ok l hlt D G q4.1 b5 (some (G.2.1 15)) q hq) (by show _ + 1 ≤ d + 1 + 410; omega) (by show _ ≤ 26 * (d + 1) + 8987; omega) hb6 hv7 rfl (Nat.le_of_ble_eq_true rfl) (show decode prog_9_method_16_code 9 = .ok (.invokevirtual 127, 3) by decide +kernel) h (fun z h => hF (.inr z) (dc_some h)) ?_
  intro q8 h
  refine hg_if_eq (pc := 12) (tgt := 31) hC (show decode prog_9_method_16_code 12 = .ok (.ifCond .eq 19, 3) by decide +kernel) (by decide +kernel) h ?_ ?_
  · intro h
    refine hg_aloadn (pc := 31) (j := 0) (i := 0) (r := (some o)) hC 1 rfl rfl (show decode prog_9_method_16_code 31 = .ok (.aload_n 0, 1) by decide +kernel) ?_
    refine hg_rgr (pc := 32) (r := (some o)) hC fl_SignalEngine_Parser_12 (show decode prog_9_method_16_code 32 = .ok (.getfield 12, 3) by decide +kernel) h ?_
    intro e9 h
    refine hg_bipush (pc := 35) (v := 6) hC (show decode prog_9_method_16_code 35 = .ok (.bipush 6, 2) by decide +kernel) (by decide +kernel) ?_
    refine hg_aloadn (pc := 37) (j := 2) (i := 2) (r := q4.2) hC 0 rfl rfl (show decode prog_9_method_16_code 37 = .ok (.aload_n 2, 1) by decide +kernel) ?_
    refine hg_null (pc := 38) hC (show decode prog_9_method_16_code 38 = .ok (.aconst_null, 1) by decide +kernel) ?_
    refine hg_iloadn (pc := 39) (j := 1) (i := 1) hC 2 rfl rfl (show decode prog_9_method_16_code 39 = .ok (.iload_n 1, 1) by decide +kernel) ?_
    obtain ⟨b10, hb11, h⟩ := dc_bind h
    obtain ⟨hb11, hv12⟩ := hg_chk_of (C := R_DR) rfl hb11
    refine hg_kVr (pc := 40) (b := b10) (r := e9) (As := [.int 6, va_rf q4.2, va_rf none, .int p1]) (rest := []) (vo := fun q => q.2) (so := fun q => q.1) hC cw_SignalEngine_Parser_147 (fun q hq => hm_DR_join_ok l D G q8.1 b10 (6 : Int32) q4.2 (none : Option Nat) p1 q hq) (by show _ + 1 ≤ d + 1 + 410; omega) (by show _ ≤ 26 * (d + 1) + 8987; omega) hb11 hv12 rfl (Nat.le_of_ble_eq_true rfl) (show decode prog_9_method_16_code 40 = .ok (.invokevirtual 147, 3) by decide +kernel) h ?_
    intro q13 h
    exact hg_sub [1] rfl (lab_43 q13.1 q13.2 h)
  · intro h
    refine hg_aloadn (pc := 15) (j := 0) (i := 0) (r := (some o)) hC 1 rfl rfl (show decode prog_9_method_16_code 15 = .ok (.aload_n 0, 1) by decide +kernel) ?_
    refine hg_rgr (pc := 16) (r := (some o)) hC fl_SignalEngine_Parser_12 (show decode prog_9_method_16_code 16 = .ok (.getfield 12, 3) by decide +kernel) h ?_
    intro e14 h
    refine hg_aloadn (pc := 19) (j := 2) (i := 2) (r := q4.2) hC 0 rfl rfl (show decode prog_9_method_16_code 19 = .ok (.aload_n 2, 1) by decide +kernel) ?_
    refine hg_aloadn (pc := 20) (j := 0) (i := 0) (r := (some o)) hC 1 rfl rfl (show decode prog_9_method_16_code 20 = .ok (.aload_n 0, 1) by decide +kernel) ?_
    obtain ⟨b15, hb16, h⟩ := dc_bind h
    obtain ⟨hb16, hv17⟩ := hg_chk_of (C := R_PA) rfl hb16
    refine hg_kVTi (pc := 21) (b := b15) (r := (some o)) (As := []) (rest := [va_rf q4.2, va_rf e14]) (vo := fun q => q.2) (so := fun q => q.1) hC hR cw_SignalEngine_Parser_194 (fun q hq => hm_PA_takeEither_r_ok l hlt D G q8.1 b15 q hq) (by show _ + 1 ≤ d + 1 + 410; omega) (by show _ ≤ 26 * (d + 1) + 8987; omega) hb16 hv17 rfl (by simp only [List.map, va_rf_cat]; exact Nat.le_of_ble_eq_true rfl) (show decode prog_9_method_16_code 21 = .ok (.invokevirtual 194, 3) by decide +kernel) h (fun z h => hF (.inr z) (dc_some h)) ?_
    intro q18 h
    refine hg_iloadn (pc := 24) (j := 1) (i := 1) hC 2 rfl rfl (show decode prog_9_method_16_code 24 = .ok (.iload_n 1, 1) by decide +kernel) ?_
    obtain ⟨b19, hb20, h⟩ := dc_bind h
    obtain ⟨hb20, hv21⟩ := hg_chk_of (C := R_DR) rfl hb20
    refine hg_kVr (pc := 25) (b := b19) (r := e14) (As := [va_rf q4.2, .int q18.2, .int p1]) (rest := []) (vo := fun q => q.2) (so := fun q => q.1) hC cw_SignalEngine_Parser_241 (fun q hq => hm_DR_loopEach_ok l D G q18.1 b19 q4.2 q18.2 p1 q hq) (by show _ + 1 ≤ d + 1 + 410; omega) (by show _ ≤ 26 * (d + 1) + 8987; omega) hb20 hv21 rfl (Nat.le_of_ble_eq_true rfl) (show decode prog_9_method_16_code 25 = .ok (.invokevirtual 241, 3) by decide +kernel) h ?_
    intro q22 h
    refine hg_goto (pc := 28) (tgt := 43) hC (show decode prog_9_method_16_code 28 = .ok (.goto 15, 3) by decide +kernel) (by decide +kernel) ?_
    exact hg_sub [1] rfl (lab_43 q22.1 q22.2 h)
noncomputable def hm_PA_takeTrap_L22 (T : hm_T2) (G : hg_E) (S : hg_S) (o : Nat) (x1 : Int32) (y0 : Int32) (y1 : Option Nat) : Option ((hg_S × (Option Nat)) ⊕ hg_X) :=
  (hg_chk S y1 2).bind fun b1 => (hm_LX_require G S b1 y0).bind (Sum.elim (fun q4 => (hg_gr q4 (some o) 4 2).bind fun e5 => (hg_gi q4 e5 3 5).bind fun e6 => (hg_gr q4 (some o) 4 2).bind fun e7 => (hg_gr q4 (some o) 4 0).bind fun e8 => (hg_chk q4 e7 3).bind fun b9 => (hm_NM_bring G q4 b9 e8).bind fun q12 => (hg_gr q12.1 (some o) 4 0).bind fun e13 => (hg_chk q12.1 e13 2).bind fun b14 => (hm_LX_advance G q12.1 b14).bind (Sum.elim (fun q17 => (hg_chk q17 (some o) 4).bind fun b18 => (hm_PA_take G q17 b18 (some (G.2.1 0))).bind (Sum.elim (fun q21 => (hg_chk q21 (some o) 4).bind fun b22 => (T.1 G q21 b22).bind (Sum.elim (fun q25 => (hg_gr q25.1 (some o) 4 2).bind fun e26 => (hg_pf q25.1 e26 3 5 (.int e6)).bind fun S27 => (hg_gr S27 (some o) 4 3).bind fun e28 => (hg_chk S27 e28 6).bind fun b29 => (hm_DR_trap G S27 b29 q12.2 q25.2 x1).bind fun q32 => some (.inl (q32.1, q32.2))) (fun z => some (Sum.inr z)))) (fun z => some (Sum.inr z)))) (fun z => some (Sum.inr z)))) (fun z => some (Sum.inr z)))
noncomputable def hm_PA_takeTrap (T : hm_T2) (G : hg_E) (S : hg_S) (o : Nat) (p1 : Int32) : Option ((hg_S × (Option Nat)) ⊕ hg_X) :=
  (hg_gr S (some o) 4 0).bind fun e33 => (hg_gr S (some o) 4 0).bind fun e34 => (hg_gr S e34 2 1).bind fun e35 => if e35 = (some (G.2.1 31)) then (hm_PA_takeTrap_L22 T G S o p1 1 e33) else (hm_PA_takeTrap_L22 T G S o p1 0 e33)
set_option maxHeartbeats 4000000 in
set_option maxRecDepth 100000 in
/-- SignalEngine$Parser.takeTrap(I)LSignalEngine$Node; -/
theorem hm_PA_takeTrap_ok (l : Launch) (hlt : l.stackTraces = false) (D : va_G) (G : hg_E) (T : hm_T2) (d : Nat) (hT : hm_OK2 l D G T d) (Z : hg_S) (o : Nat) (p1 : Int32) (q : (hg_S × (Option Nat)) ⊕ hg_X) (hq : hm_PA_takeTrap T G Z o p1 = some q) : hg_C l ⟨"SignalEngine$Parser", "takeTrap", "(I)LSignalEngine$Node;"⟩ prog_9_method_17_code 5 (some (.object "SignalEngine$Node")) (d + 1 + 410) (26 * (d + 1) + 8987) D G [.ref o, .int p1] Z (Sum.elim (fun q => (.inl (some (va_rf q.2), q.1) : hg_O)) hg_ox q) := by
  refine hg_start (cv := fun q => (Sum.elim (fun q => (.inl (some (va_rf q.2), q.1) : hg_O)) hg_ox q)) hq ?_
  intro F hF h
  refine hg_enter (lv := [(0, va_rf (some o)), (1, .int p1)]) (by decide +kernel) (by simp [lg_sl, va_rf_cat, hg_cti, hg_ctr]) (by simp [lv_args, va_rf_cat, va_rf_some, hg_cti, hg_ctr]) ?_
  intro X hC hR
  have lab_22 : ∀ (S : hg_S) (x1 : Int32) (y0 : Int32) (y1 : Option Nat), dc_wp (hm_PA_takeTrap_L22 T G S o x1 y0 y1) F → hg_G X l (hg_rm (d + 1 + 410) (26 * (d + 1) + 8987) Z) D 5 S 22 [(0, va_rf (some o)), (1, .int x1)] [.int y0, va_rf y1] := by
    intro S x1 y0 y1 h
    delta hm_PA_takeTrap_L22 at h
    obtain ⟨b1, hb2, h⟩ := dc_bind h
    obtain ⟨hb2, hv3⟩ := hg_chk_of (C := R_LX) rfl hb2
    refine hg_kVTv (pc := 22) (b := b1) (r := y1) (As := [.int y0]) (rest := []) (so := fun q => q) hC hR cw_SignalEngine_Parser_102 (fun q hq => hm_LX_require_ok l hlt D G S b1 y0 q hq) (by show _ + 1 ≤ d + 1 + 410; omega) (by show _ ≤ 26 * (d + 1) + 8987; omega) hb2 hv3 rfl (Nat.le_of_ble_eq_true rfl) (show decode prog_9_method_17_code 22 = .ok (.invokevirtual 102, 3) by decide +kernel) h (fun z h => hF (.inr z) (dc_some h)) ?_
    intro q4 h
    refine hg_aloadn (pc := 25) (j := 0) (i := 0) (r := (some o)) hC 0 rfl rfl (show decode prog_9_method_17_code 25 = .ok (.aload_n 0, 1) by decide +kernel) ?_
    refine hg_rgr (pc := 26) (r := (some o)) hC fl_SignalEngine_Parser_34 (show decode prog_9_method_17_code 26 = .ok (.getfield 34, 3) by decide +kernel) h ?_
    intro e5 h
    refine hg_rgi (pc := 29) (r := e5) hC fl_SignalEngine_Parser_245 (show decode prog_9_method_17_code 29 = .ok (.getfield 245, 3) by decide +kernel) h ?_
    intro e6 h
    refine hg_istoren (pc := 32) (j := 2) (i := 2) (lv' := [(2, .int e6), (0, va_rf (some o)), (1, .int x1)]) hC rfl (Nat.le_of_ble_eq_true rfl) rfl (show decode prog_9_method_17_code 32 = .ok (.istore_n 2, 1) by decide +kernel) ?_
    refine hg_aloadn (pc := 33) (j := 0) (i := 0) (r := (some o)) hC 1 rfl rfl (show decode prog_9_method_17_code 33 = .ok (.aload_n 0, 1) by decide +kernel) ?_
    refine hg_rgr (pc := 34) (r := (some o)) hC fl_SignalEngine_Parser_34 (show decode prog_9_method_17_code 34 = .ok (.getfield 34, 3) by decide +kernel) h ?_
    intro e7 h
    refine hg_aloadn (pc := 37) (j := 0) (i := 0) (r := (some o)) hC 1 rfl rfl (show decode prog_9_method_17_code 37 = .ok (.aload_n 0, 1) by decide +kernel) ?_
    refine hg_rgr (pc := 38) (r := (some o)) hC fl_SignalEngine_Parser_23 (show decode prog_9_method_17_code 38 = .ok (.getfield 23, 3) by decide +kernel) h ?_
    intro e8 h
    obtain ⟨b9, hb10, h⟩ := dc_bind h
    obtain ⟨hb10, hv11⟩ := hg_chk_of (C := R_NM) rfl hb10
    refine hg_kVi (pc := 41) (b := b9) (r := e7) (As := [va_rf e8]) (rest := []) (vo := fun q => q.2) (so := fun q => q.1) hC cw_SignalEngine_Parser_120 (fun q hq => hm_NM_bring_ok l D G q4 b9 e8 q hq) (by show _ + 1 ≤ d + 1 + 410; omega) (by show _ ≤ 26 * (d + 1) + 8987; omega) hb10 hv11 rfl (Nat.le_of_ble_eq_true rfl) (show decode prog_9_method_17_code 41 = .ok (.invokevirtual 120, 3) by decide +kernel) h ?_
    intro q12 h
    refine hg_istoren (pc := 44) (j := 3) (i := 3) (lv' := [(3, .int q12.2), (2, .int e6), (0, va_rf (some o)), (1, .int x1)]) hC rfl (Nat.le_of_ble_eq_true rfl) rfl (show decode prog_9_method_17_code 44 = .ok (.istore_n 3, 1) by decide +kernel) ?_
    refine hg_aloadn (pc := 45) (j := 0) (i := 0) (r := (some o)) hC 2 rfl rfl (show decode prog_9_method_17_code 45 = .ok (.aload_n 0, 1) by decide +kernel) ?_
    refine hg_rgr (pc := 46) (r := (some o)) hC fl_SignalEngine_Parser_23 (show decode prog_9_method_17_code 46 = .ok (.getfield 23, 3) by decide +kernel) h ?_
    intro e13 h
    obtain ⟨b14, hb15, h⟩ := dc_bind h
    obtain ⟨hb15, hv16⟩ := hg_chk_of (C := R_LX) rfl hb15
    refine hg_kVTv (pc := 49) (b := b14) (r := e13) (As := []) (rest := []) (so := fun q => q) hC hR cw_SignalEngine_Parser_79 (fun q hq => hm_LX_advance_ok l hlt D G q12.1 b14 q hq) (by show _ + 1 ≤ d + 1 + 410; omega) (by show _ ≤ 26 * (d + 1) + 8987; omega) hb15 hv16 rfl (Nat.le_of_ble_eq_true rfl) (show decode prog_9_method_17_code 49 = .ok (.invokevirtual 79, 3) by decide +kernel) h (fun z h => hF (.inr z) (dc_some h)) ?_
    intro q17 h
    refine hg_aloadn (pc := 52) (j := 0) (i := 0) (r := (some o)) hC 2 rfl rfl (show decode prog_9_method_17_code 52 = .ok (.aload_n 0, 1) by decide +kernel) ?_
    refine hg_tok (pc := 53) (j := 0) hC (by decide) rfl w_470 (show decode prog_9_method_17_code 53 = .ok (.getstatic 74, 3) by decide +kernel) ?_
    obtain ⟨b18, hb19, h⟩ := dc_bind h
    obtain ⟨hb19, hv20⟩ := hg_chk_of (C := R_PA) rfl hb19
    refine hg_kVTv (pc := 56) (b := b18) (r := (some o)) (As := [va_rf (some (G.2.1 0))]) (rest := []) (so := fun q => q) hC hR cw_SignalEngine_Parser_88 (fun q hq => hm_PA_take_ok l hlt D G q17 b18 (some (G.2.1 0)) q hq) (by show _ + 1 ≤ d + 1 + 410; omega) (by show _ ≤ 26 * (d + 1) + 8987; omega) hb19 hv20 rfl (Nat.le_of_ble_eq_true rfl) (show decode prog_9_method_17_code 56 = .ok (.invokevirtual 88, 3) by decide +kernel) h (fun z h => hF (.inr z) (dc_some h)) ?_
    intro q21 h
    refine hg_aloadn (pc := 59) (j := 0) (i := 0) (r := (some o)) hC 2 rfl rfl (show decode prog_9_method_17_code 59 = .ok (.aload_n 0, 1) by decide +kernel) ?_
    obtain ⟨b22, hb23, h⟩ := dc_bind h
    obtain ⟨hb23, hv24⟩ := hg_chk_of (C := R_PA) rfl hb23
    refine hg_kVTr (pc := 60) (b := b22) (r := (some o)) (As := []) (rest := []) (vo := fun q => q.2) (so := fun q => q.1) hC hR cw_SignalEngine_Parser_95 (fun q hq => hT.1 q21 b22 q hq) (by show _ + 1 ≤ d + 1 + 410; omega) (by show _ ≤ 26 * (d + 1) + 8987; omega) hb23 hv24 rfl (Nat.le_of_ble_eq_true rfl) (show decode prog_9_method_17_code 60 = .ok (.invokevirtual 95, 3) by decide +kernel) h (fun z h => hF (.inr z) (dc_some h)) ?_
    intro q25 h
    refine hg_astore (pc := 63) (i := 4) (r := q25.2) (lv' := [(4, va_rf q25.2), (3, .int q12.2), (2, .int e6), (0, va_rf (some o)), (1, .int x1)]) hC (Nat.le_of_ble_eq_true rfl) rfl (show decode prog_9_method_17_code 63 = .ok (.astore 4, 2) by decide +kernel) ?_
    refine hg_aloadn (pc := 65) (j := 0) (i := 0) (r := (some o)) hC 3 rfl rfl (show decode prog_9_method_17_code 65 = .ok (.aload_n 0, 1) by decide +kernel) ?_
    refine hg_rgr (pc := 66) (r := (some o)) hC fl_SignalEngine_Parser_34 (show decode prog_9_method_17_code 66 = .ok (.getfield 34, 3) by decide +kernel) h ?_
    intro e26 h
    refine hg_iloadn (pc := 69) (j := 2) (i := 2) hC 2 rfl rfl (show decode prog_9_method_17_code 69 = .ok (.iload_n 2, 1) by decide +kernel) ?_
    refine hg_rput (pc := 70) (r := e26) (v := .int e6) hC fp_SignalEngine_Parser_245 rfl rfl (show decode prog_9_method_17_code 70 = .ok (.putfield 245, 3) by decide +kernel) h ?_
    intro S27 h
    refine hg_aloadn (pc := 73) (j := 0) (i := 0) (r := (some o)) hC 3 rfl rfl (show decode prog_9_method_17_code 73 = .ok (.aload_n 0, 1) by decide +kernel) ?_
    refine hg_rgr (pc := 74) (r := (some o)) hC fl_SignalEngine_Parser_12 (show decode prog_9_method_17_code 74 = .ok (.getfield 12, 3) by decide +kernel) h ?_
    intro e28 h
    refine hg_iloadn (pc := 77) (j := 3) (i := 3) hC 1 rfl rfl (show decode prog_9_method_17_code 77 = .ok (.iload_n 3, 1) by decide +kernel) ?_
    refine hg_aload (pc := 78) (i := 4) (r := q25.2) hC 0 rfl (show decode prog_9_method_17_code 78 = .ok (.aload 4, 2) by decide +kernel) ?_
    refine hg_iloadn (pc := 80) (j := 1) (i := 1) hC 4 rfl rfl (show decode prog_9_method_17_code 80 = .ok (.iload_n 1, 1) by decide +kernel) ?_
    obtain ⟨b29, hb30, h⟩ := dc_bind h
    obtain ⟨hb30, hv31⟩ := hg_chk_of (C := R_DR) rfl hb30
    refine hg_kVr (pc := 81) (b := b29) (r := e28) (As := [.int q12.2, va_rf q25.2, .int x1]) (rest := []) (vo := fun q => q.2) (so := fun q => q.1) hC cw_SignalEngine_Parser_248 (fun q hq => hm_DR_trap_ok l D G S27 b29 q12.2 q25.2 x1 q hq) (by show _ + 1 ≤ d + 1 + 410; omega) (by show _ ≤ 26 * (d + 1) + 8987; omega) hb30 hv31 rfl (Nat.le_of_ble_eq_true rfl) (show decode prog_9_method_17_code 81 = .ok (.invokevirtual 248, 3) by decide +kernel) h ?_
    intro q32 h
    exact hg_aret (pc := 84) (r := q32.2) hC hR (by first | exact Or.inl ⟨_, rfl⟩ | exact Or.inr ⟨_, rfl⟩) (hF _ (dc_some h)) (show decode prog_9_method_17_code 84 = .ok (.areturn, 1) by decide +kernel)
  show hg_G X l (hg_rm (d + 1 + 410) (26 * (d + 1) + 8987) Z) D 5 Z 0 [(0, va_rf (some o)), (1, .int p1)] []
  have h : dc_wp (hm_PA_takeTrap T G Z o p1) F := h
  delta hm_PA_takeTrap at h
  refine hg_aloadn (pc := 0) (j := 0) (i := 0) (r := (some o)) hC 0 rfl rfl (show decode prog_9_method_17_code 0 = .ok (.aload_n 0, 1) by decide +kernel) ?_
  refine hg_rgr (pc := 1) (r := (some o)) hC fl_SignalEngine_Parser_23 (show decode prog_9_method_17_code 1 = .ok (.getfield 23, 3) by decide +kernel) h ?_
  intro e33 h
  refine hg_aloadn (pc := 4) (j := 0) (i := 0) (r := (some o)) hC 0 rfl rfl (show decode prog_9_method_17_code 4 = .ok (.aload_n 0, 1) by decide +kernel) ?_
  refine hg_rgr (pc := 5) (r := (some o)) hC fl_SignalEngine_Parser_23 (show decode prog_9_method_17_code 5 = .ok (.getfield 23, 3) by decide +kernel) h ?_
  intro e34 h
  refine hg_rgr (pc := 8) (r := e34) hC fl_SignalEngine_Parser_70 (show decode prog_9_method_17_code 8 = .ok (.getfield 70, 3) by decide +kernel) h ?_
  intro e35 h
  refine hg_tok (pc := 11) (j := 31) hC (by decide) rfl w_477 (show decode prog_9_method_17_code 11 = .ok (.getstatic 110, 3) by decide +kernel) ?_
  refine hg_acmp_ne (pc := 14) (tgt := 21) (x := e35) (y := (some (G.2.1 31))) hC (show decode prog_9_method_17_code 14 = .ok (.if_acmp .ne 7, 3) by decide +kernel) (by decide +kernel) h ?_ ?_
  · intro h
    refine hg_iconst (pc := 17) (v := 1) hC (show decode prog_9_method_17_code 17 = .ok (.iconst 1, 1) by decide +kernel) (by decide +kernel) ?_
    refine hg_goto (pc := 18) (tgt := 22) hC (show decode prog_9_method_17_code 18 = .ok (.goto 4, 3) by decide +kernel) (by decide +kernel) ?_
    exact lab_22 Z p1 1 e33 h
  · intro h
    refine hg_iconst (pc := 21) (v := 0) hC (show decode prog_9_method_17_code 21 = .ok (.iconst 0, 1) by decide +kernel) (by decide +kernel) ?_
    exact lab_22 Z p1 0 e33 h
noncomputable def hm_PA_takeLocals_L91 (T : hm_T2) (G : hg_E) (S : hg_S) (o : Nat) (x5 : Option Nat) : Option ((hg_S × (Option Nat)) ⊕ hg_X) :=
  some (.inl (S, x5))
noncomputable def hm_PA_takeLocals_b57 (T : hm_T2) (G : hg_E) (S : hg_S) (o : Nat) (x1 : Int32) (x3 : Int32) (x5 : Option Nat) (x6 : Int32) : Option ((hg_S × (Option Nat) × Int32) ⊕ ((hg_S × (Option Nat)))) :=
  if x6 < x3 then (some (.inr (S, x5))) else ((hg_gr S (some o) 4 3).bind fun e1 => (hg_chk S e1 6).bind fun b2 => (hm_DR_join G S b2 (10 : Int32) x5 (none : Option Nat) x1).bind fun q5 => (hg_pf q5.1 q5.2 8 4 (.int x6)).bind fun S6 => some (.inl (S6, q5.2, (x6 + (-1)))))
noncomputable def hm_PA_takeLocals_s57 (T : hm_T2) (G : hg_E) (o : Nat) (x1 : Int32) (x3 : Int32) (q : hg_S × (Option Nat) × Int32) : Option ((hg_S × (Option Nat) × Int32) ⊕ ((hg_S × (Option Nat)))) :=
  hm_PA_takeLocals_b57 T G q.1 o x1 x3 q.2.1 q.2.2
noncomputable def hm_PA_takeLocals_L57 (T : hm_T2) (G : hg_E) (S : hg_S) (o : Nat) (x1 : Int32) (x3 : Int32) (x5 : Option Nat) (x6 : Int32) : Option ((hg_S × (Option Nat)) ⊕ hg_X) :=
  (dc_it (hm_PA_takeLocals_s57 T G o x1 x3) (S, x5, x6)).bind (fun (z : hg_S × (Option Nat)) => hm_PA_takeLocals_L91 T G z.1 o z.2)
noncomputable def hm_PA_takeLocals (T : hm_T2) (G : hg_E) (S : hg_S) (o : Nat) (p1 : Int32) : Option ((hg_S × (Option Nat)) ⊕ hg_X) :=
  (hg_gr S (some o) 4 1).bind fun e7 => (hg_gi S e7 3 5).bind fun e8 => (hg_gr S (some o) 4 1).bind fun e9 => (hg_gi S e9 3 4).bind fun e10 => (hg_chk S (some o) 4).bind fun b11 => (hm_PA_takeNames G S b11 e10).bind (Sum.elim (fun q14 => (hg_gr q14 (some o) 4 1).bind fun e15 => (hg_gi q14 e15 3 4).bind fun e16 => (hg_chk q14 (some o) 4).bind fun b17 => (hm_PA_take G q14 b17 (some (G.2.1 0))).bind (Sum.elim (fun q20 => (hg_chk q20 (some o) 4).bind fun b21 => (T.1 G q20 b21).bind (Sum.elim (fun q24 => (hg_gr q24.1 (some o) 4 1).bind fun e25 => (hg_pf q24.1 e25 3 5 (.int e8)).bind fun S26 => dc_let ((e16 - 1) : Int32) fun v27 => hm_PA_takeLocals_L57 T G S26 o p1 e10 q24.2 v27) (fun z => some (Sum.inr z)))) (fun z => some (Sum.inr z)))) (fun z => some (Sum.inr z)))
set_option maxHeartbeats 4000000 in
set_option maxRecDepth 100000 in
/-- SignalEngine$Parser.takeLocals(I)LSignalEngine$Node; -/
theorem hm_PA_takeLocals_ok (l : Launch) (hlt : l.stackTraces = false) (D : va_G) (G : hg_E) (T : hm_T2) (d : Nat) (hT : hm_OK2 l D G T d) (Z : hg_S) (o : Nat) (p1 : Int32) (q : (hg_S × (Option Nat)) ⊕ hg_X) (hq : hm_PA_takeLocals T G Z o p1 = some q) : hg_C l ⟨"SignalEngine$Parser", "takeLocals", "(I)LSignalEngine$Node;"⟩ prog_9_method_18_code 7 (some (.object "SignalEngine$Node")) (d + 1 + 410) (26 * (d + 1) + 8987) D G [.ref o, .int p1] Z (Sum.elim (fun q => (.inl (some (va_rf q.2), q.1) : hg_O)) hg_ox q) := by
  refine hg_start (cv := fun q => (Sum.elim (fun q => (.inl (some (va_rf q.2), q.1) : hg_O)) hg_ox q)) hq ?_
  intro F hF h
  refine hg_enter (lv := [(0, va_rf (some o)), (1, .int p1)]) (by decide +kernel) (by simp [lg_sl, va_rf_cat, hg_cti, hg_ctr]) (by simp [lv_args, va_rf_cat, va_rf_some, hg_cti, hg_ctr]) ?_
  intro X hC hR
  have lab_91 : ∀ (S : hg_S) (x5 : Option Nat), dc_wp (hm_PA_takeLocals_L91 T G S o x5) F → hg_G X l (hg_rm (d + 1 + 410) (26 * (d + 1) + 8987) Z) D 7 S 91 [(0, va_rf (some o)), (5, va_rf x5)] [] := by
    intro S x5 h
    delta hm_PA_takeLocals_L91 at h
    refine hg_aload (pc := 91) (i := 5) (r := x5) hC 1 rfl (show decode prog_9_method_18_code 91 = .ok (.aload 5, 2) by decide +kernel) ?_
    exact hg_aret (pc := 93) (r := x5) hC hR (by first | exact Or.inl ⟨_, rfl⟩ | exact Or.inr ⟨_, rfl⟩) (hF _ (dc_some h)) (show decode prog_9_method_18_code 93 = .ok (.areturn, 1) by decide +kernel)
  have loop_57 : ∀ (x1 : Int32) (x3 : Int32) (q : hg_S × (Option Nat) × Int32), dc_wp (dc_it (hm_PA_takeLocals_s57 T G o x1 x3) q) (fun z => dc_wp ((fun (z : hg_S × (Option Nat)) => hm_PA_takeLocals_L91 T G z.1 o z.2) z) F) → hg_G X l (hg_rm (d + 1 + 410) (26 * (d + 1) + 8987) Z) D 7 q.1 57 [(0, va_rf (some o)), (1, .int x1), (3, .int x3), (5, va_rf q.2.1), (6, .int q.2.2)] [] := by
    intro x1 x3
    refine dc_loopF ?_
    intro F_57 hl_57 hr_57
    rintro ⟨S, x5, x6⟩ h
    have h : dc_wp (hm_PA_takeLocals_b57 T G S o x1 x3 x5 x6) F_57 := h
    delta hm_PA_takeLocals_b57 at h
    refine hg_iload (pc := 57) (i := 6) hC 4 rfl (show decode prog_9_method_18_code 57 = .ok (.iload 6, 2) by decide +kernel) ?_
    refine hg_iloadn (pc := 59) (j := 3) (i := 3) hC 2 rfl rfl (show decode prog_9_method_18_code 59 = .ok (.iload_n 3, 1) by decide +kernel) ?_
    refine hg_icmp_lt (pc := 60) (tgt := 91) hC (show decode prog_9_method_18_code 60 = .ok (.if_icmp .lt 31, 3) by decide +kernel) (by decide +kernel) h ?_ ?_
    · intro h
      have h : dc_wp (hm_PA_takeLocals_L91 T G S o x5) F := hr_57 (S, x5) (dc_some h)
      exact hg_sub [0, 3] rfl (lab_91 S x5 h)
    · intro h
      refine hg_aloadn (pc := 63) (j := 0) (i := 0) (r := (some o)) hC 0 rfl rfl (show decode prog_9_method_18_code 63 = .ok (.aload_n 0, 1) by decide +kernel) ?_
      refine hg_rgr (pc := 64) (r := (some o)) hC fl_SignalEngine_Parser_12 (show decode prog_9_method_18_code 64 = .ok (.getfield 12, 3) by decide +kernel) h ?_
      intro e1 h
      refine hg_bipush (pc := 67) (v := 10) hC (show decode prog_9_method_18_code 67 = .ok (.bipush 10, 2) by decide +kernel) (by decide +kernel) ?_
      refine hg_aload (pc := 69) (i := 5) (r := x5) hC 3 rfl (show decode prog_9_method_18_code 69 = .ok (.aload 5, 2) by decide +kernel) ?_
      refine hg_null (pc := 71) hC (show decode prog_9_method_18_code 71 = .ok (.aconst_null, 1) by decide +kernel) ?_
      refine hg_iloadn (pc := 72) (j := 1) (i := 1) hC 1 rfl rfl (show decode prog_9_method_18_code 72 = .ok (.iload_n 1, 1) by decide +kernel) ?_
      obtain ⟨b2, hb3, h⟩ := dc_bind h
      obtain ⟨hb3, hv4⟩ := hg_chk_of (C := R_DR) rfl hb3
      refine hg_kVr (pc := 73) (b := b2) (r := e1) (As := [.int 10, va_rf x5, va_rf none, .int x1]) (rest := []) (vo := fun q => q.2) (so := fun q => q.1) hC cw_SignalEngine_Parser_147 (fun q hq => hm_DR_join_ok l D G S b2 (10 : Int32) x5 (none : Option Nat) x1 q hq) (by show _ + 1 ≤ d + 1 + 410; omega) (by show _ ≤ 26 * (d + 1) + 8987; omega) hb3 hv4 rfl (Nat.le_of_ble_eq_true rfl) (show decode prog_9_method_18_code 73 = .ok (.invokevirtual 147, 3) by decide +kernel) h ?_
      intro q5 h
      refine hg_astore (pc := 76) (i := 5) (r := q5.2) (lv' := [(5, va_rf q5.2), (0, va_rf (some o)), (1, .int x1), (3, .int x3), (6, .int x6)]) hC (Nat.le_of_ble_eq_true rfl) rfl (show decode prog_9_method_18_code 76 = .ok (.astore 5, 2) by decide +kernel) ?_
      refine hg_aload (pc := 78) (i := 5) (r := q5.2) hC 0 rfl (show decode prog_9_method_18_code 78 = .ok (.aload 5, 2) by decide +kernel) ?_
      refine hg_iload (pc := 80) (i := 6) hC 4 rfl (show decode prog_9_method_18_code 80 = .ok (.iload 6, 2) by decide +kernel) ?_
      refine hg_rput (pc := 82) (r := q5.2) (v := .int x6) hC fp_SignalEngine_Parser_252 rfl rfl (show decode prog_9_method_18_code 82 = .ok (.putfield 252, 3) by decide +kernel) h ?_
      intro S6 h
      refine hg_iinc (pc := 85) (i := 6) (v := (x6 + (-1))) (lv' := [(6, .int (x6 + (-1))), (5, va_rf q5.2), (0, va_rf (some o)), (1, .int x1), (3, .int x3)]) hC 4 rfl (congrArg (fun z => x6 + z) (show Int32.ofInt (-1) = (-1 : Int32) by decide +kernel)) (Nat.le_of_ble_eq_true rfl) (by simp [va_rf_cat, hg_cti]) (show decode prog_9_method_18_code 85 = .ok (.iinc 6 (-1), 3) by decide +kernel) ?_
      refine hg_goto (pc := 88) (tgt := 57) hC (show decode prog_9_method_18_code 88 = .ok (.goto (-31), 3) by decide +kernel) (by decide +kernel) ?_
      exact hg_sub [2, 3, 4, 1, 0] rfl (hl_57 ((S6, q5.2, (x6 + (-1)))) (dc_some h))
  have lab_57 : ∀ (S : hg_S) (x1 : Int32) (x3 : Int32) (x5 : Option Nat) (x6 : Int32), dc_wp (hm_PA_takeLocals_L57 T G S o x1 x3 x5 x6) F → hg_G X l (hg_rm (d + 1 + 410) (26 * (d + 1) + 8987) Z) D 7 S 57 [(0, va_rf (some o)), (1, .int x1), (3, .int x3), (5, va_rf x5), (6, .int x6)] [] := fun S x1 x3 x5 x6 h => loop_57 x1 x3 (S, x5, x6) (dc_bind h)
  show hg_G X l (hg_rm (d + 1 + 410) (26 * (d + 1) + 8987) Z) D 7 Z 0 [(0, va_rf (some o)), (1, .int p1)] []
  have h : dc_wp (hm_PA_takeLocals T G Z o p1) F := h
  delta hm_PA_takeLocals at h
  refine hg_aloadn (pc := 0) (j := 0) (i := 0) (r := (some o)) hC 0 rfl rfl (show decode prog_9_method_18_code 0 = .ok (.aload_n 0, 1) by decide +kernel) ?_
  refine hg_rgr (pc := 1) (r := (some o)) hC fl_SignalEngine_Parser_30 (show decode prog_9_method_18_code 1 = .ok (.getfield 30, 3) by decide +kernel) h ?_
  intro e7 h
  refine hg_rgi (pc := 4) (r := e7) hC fl_SignalEngine_Parser_245 (show decode prog_9_method_18_code 4 = .ok (.getfield 245, 3) by decide +kernel) h ?_
  intro e8 h
  refine hg_istoren (pc := 7) (j := 2) (i := 2) (lv' := [(2, .int e8), (0, va_rf (some o)), (1, .int p1)]) hC rfl (Nat.le_of_ble_eq_true rfl) rfl (show decode prog_9_method_18_code 7 = .ok (.istore_n 2, 1) by decide +kernel) ?_
  refine hg_aloadn (pc := 8) (j := 0) (i := 0) (r := (some o)) hC 1 rfl rfl (show decode prog_9_method_18_code 8 = .ok (.aload_n 0, 1) by decide +kernel) ?_
  refine hg_rgr (pc := 9) (r := (some o)) hC fl_SignalEngine_Parser_30 (show decode prog_9_method_18_code 9 = .ok (.getfield 30, 3) by decide +kernel) h ?_
  intro e9 h
  refine hg_rgi (pc := 12) (r := e9) hC fl_SignalEngine_Parser_46 (show decode prog_9_method_18_code 12 = .ok (.getfield 46, 3) by decide +kernel) h ?_
  intro e10 h
  refine hg_istoren (pc := 15) (j := 3) (i := 3) (lv' := [(3, .int e10), (2, .int e8), (0, va_rf (some o)), (1, .int p1)]) hC rfl (Nat.le_of_ble_eq_true rfl) rfl (show decode prog_9_method_18_code 15 = .ok (.istore_n 3, 1) by decide +kernel) ?_
  refine hg_aloadn (pc := 16) (j := 0) (i := 0) (r := (some o)) hC 2 rfl rfl (show decode prog_9_method_18_code 16 = .ok (.aload_n 0, 1) by decide +kernel) ?_
  refine hg_iloadn (pc := 17) (j := 3) (i := 3) hC 0 rfl rfl (show decode prog_9_method_18_code 17 = .ok (.iload_n 3, 1) by decide +kernel) ?_
  obtain ⟨b11, hb12, h⟩ := dc_bind h
  obtain ⟨hb12, hv13⟩ := hg_chk_of (C := R_PA) rfl hb12
  refine hg_kVTv (pc := 18) (b := b11) (r := (some o)) (As := [.int e10]) (rest := []) (so := fun q => q) hC hR cw_SignalEngine_Parser_82 (fun q hq => hm_PA_takeNames_ok l hlt D G Z b11 e10 q hq) (by show _ + 1 ≤ d + 1 + 410; omega) (by show _ ≤ 26 * (d + 1) + 8987; omega) hb12 hv13 rfl (Nat.le_of_ble_eq_true rfl) (show decode prog_9_method_18_code 18 = .ok (.invokevirtual 82, 3) by decide +kernel) h (fun z h => hF (.inr z) (dc_some h)) ?_
  intro q14 h
  refine hg_aloadn (pc := 21) (j := 0) (i := 0) (r := (some o)) hC 2 rfl rfl (show decode prog_9_method_18_code 21 = .ok (.aload_n 0, 1) by decide +kernel) ?_
  refine hg_rgr (pc := 22) (r := (some o)) hC fl_SignalEngine_Parser_30 (show decode prog_9_method_18_code 22 = .ok (.getfield 30, 3) by decide +kernel) h ?_
  intro e15 h
  refine hg_rgi (pc := 25) (r := e15) hC fl_SignalEngine_Parser_46 (show decode prog_9_method_18_code 25 = .ok (.getfield 46, 3) by decide +kernel) h ?_
  intro e16 h
  refine hg_istore (pc := 28) (i := 4) (lv' := [(4, .int e16), (3, .int e10), (2, .int e8), (0, va_rf (some o)), (1, .int p1)]) hC (Nat.le_of_ble_eq_true rfl) rfl (show decode prog_9_method_18_code 28 = .ok (.istore 4, 2) by decide +kernel) ?_
  refine hg_aloadn (pc := 30) (j := 0) (i := 0) (r := (some o)) hC 3 rfl rfl (show decode prog_9_method_18_code 30 = .ok (.aload_n 0, 1) by decide +kernel) ?_
  refine hg_tok (pc := 31) (j := 0) hC (by decide) rfl w_470 (show decode prog_9_method_18_code 31 = .ok (.getstatic 74, 3) by decide +kernel) ?_
  obtain ⟨b17, hb18, h⟩ := dc_bind h
  obtain ⟨hb18, hv19⟩ := hg_chk_of (C := R_PA) rfl hb18
  refine hg_kVTv (pc := 34) (b := b17) (r := (some o)) (As := [va_rf (some (G.2.1 0))]) (rest := []) (so := fun q => q) hC hR cw_SignalEngine_Parser_88 (fun q hq => hm_PA_take_ok l hlt D G q14 b17 (some (G.2.1 0)) q hq) (by show _ + 1 ≤ d + 1 + 410; omega) (by show _ ≤ 26 * (d + 1) + 8987; omega) hb18 hv19 rfl (Nat.le_of_ble_eq_true rfl) (show decode prog_9_method_18_code 34 = .ok (.invokevirtual 88, 3) by decide +kernel) h (fun z h => hF (.inr z) (dc_some h)) ?_
  intro q20 h
  refine hg_aloadn (pc := 37) (j := 0) (i := 0) (r := (some o)) hC 3 rfl rfl (show decode prog_9_method_18_code 37 = .ok (.aload_n 0, 1) by decide +kernel) ?_
  obtain ⟨b21, hb22, h⟩ := dc_bind h
  obtain ⟨hb22, hv23⟩ := hg_chk_of (C := R_PA) rfl hb22
  refine hg_kVTr (pc := 38) (b := b21) (r := (some o)) (As := []) (rest := []) (vo := fun q => q.2) (so := fun q => q.1) hC hR cw_SignalEngine_Parser_95 (fun q hq => hT.1 q20 b21 q hq) (by show _ + 1 ≤ d + 1 + 410; omega) (by show _ ≤ 26 * (d + 1) + 8987; omega) hb22 hv23 rfl (Nat.le_of_ble_eq_true rfl) (show decode prog_9_method_18_code 38 = .ok (.invokevirtual 95, 3) by decide +kernel) h (fun z h => hF (.inr z) (dc_some h)) ?_
  intro q24 h
  refine hg_astore (pc := 41) (i := 5) (r := q24.2) (lv' := [(5, va_rf q24.2), (4, .int e16), (3, .int e10), (2, .int e8), (0, va_rf (some o)), (1, .int p1)]) hC (Nat.le_of_ble_eq_true rfl) rfl (show decode prog_9_method_18_code 41 = .ok (.astore 5, 2) by decide +kernel) ?_
  refine hg_aloadn (pc := 43) (j := 0) (i := 0) (r := (some o)) hC 4 rfl rfl (show decode prog_9_method_18_code 43 = .ok (.aload_n 0, 1) by decide +kernel) ?_
  refine hg_rgr (pc := 44) (r := (some o)) hC fl_SignalEngine_Parser_30 (show decode prog_9_method_18_code 44 = .ok (.getfield 30, 3) by decide +kernel) h ?_
  intro e25 h
  refine hg_iloadn (pc := 47) (j := 2) (i := 2) hC 3 rfl rfl (show decode prog_9_method_18_code 47 = .ok (.iload_n 2, 1) by decide +kernel) ?_
  refine hg_rput (pc := 48) (r := e25) (v := .int e8) hC fp_SignalEngine_Parser_245 rfl rfl (show decode prog_9_method_18_code 48 = .ok (.putfield 245, 3) by decide +kernel) h ?_
  intro S26 h
  refine hg_iload (pc := 51) (i := 4) hC 1 rfl (show decode prog_9_method_18_code 51 = .ok (.iload 4, 2) by decide +kernel) ?_
  refine hg_iconst (pc := 53) (v := 1) hC (show decode prog_9_method_18_code 53 = .ok (.iconst 1, 1) by decide +kernel) (by decide +kernel) ?_
  refine hg_isub (pc := 54) hC (show decode prog_9_method_18_code 54 = .ok (.isub, 1) by decide +kernel) ?_
  refine hg_letI h ?_
  intro v27 h
  refine hg_istore (pc := 55) (i := 6) (lv' := [(6, .int v27), (5, va_rf q24.2), (4, .int e16), (3, .int e10), (2, .int e8), (0, va_rf (some o)), (1, .int p1)]) hC (Nat.le_of_ble_eq_true rfl) (by simp [va_rf_cat, hg_cti]) (show decode prog_9_method_18_code 55 = .ok (.istore 6, 2) by decide +kernel) ?_
  exact hg_sub [5, 6, 3, 1, 0] rfl (lab_57 S26 p1 e10 q24.2 v27 h)
noncomputable def hm_PA_takeEvery (T : hm_T2) (G : hg_E) (S : hg_S) (o : Nat) (p1 : Int32) : Option ((hg_S × (Option Nat)) ⊕ hg_X) :=
  (hg_chk S (some o) 4).bind fun b1 => (hm_PA_takeEither_r G S b1).bind (Sum.elim (fun q4 => (hg_chk q4.1 (some o) 4).bind fun b5 => (hm_PA_take G q4.1 b5 (some (G.2.1 25))).bind (Sum.elim (fun q8 => (hg_gr q8 (some o) 4 3).bind fun e9 => (hg_chk q8 (some o) 4).bind fun b10 => (T.1 G q8 b10).bind (Sum.elim (fun q13 => (hg_chk q13.1 e9 6).bind fun b14 => (hm_DR_loopEach G q13.1 b14 q13.2 q4.2 p1).bind fun q17 => (hg_gr q17.1 (some o) 4 3).bind fun e18 => (hg_gr q17.1 (some o) 4 3).bind fun e19 => (hg_chk q17.1 e19 6).bind fun b20 => (hm_DR_await G q17.1 b20 q4.2 p1).bind fun q23 => (hg_chk q23.1 e18 6).bind fun b24 => (hm_DR_join G q23.1 b24 (5 : Int32) q23.2 q17.2 p1).bind fun q27 => some (.inl (q27.1, q27.2))) (fun z => some (Sum.inr z)))) (fun z => some (Sum.inr z)))) (fun z => some (Sum.inr z)))
set_option maxHeartbeats 4000000 in
set_option maxRecDepth 100000 in
/-- SignalEngine$Parser.takeEvery(I)LSignalEngine$Node; -/
theorem hm_PA_takeEvery_ok (l : Launch) (hlt : l.stackTraces = false) (D : va_G) (G : hg_E) (T : hm_T2) (d : Nat) (hT : hm_OK2 l D G T d) (Z : hg_S) (o : Nat) (p1 : Int32) (q : (hg_S × (Option Nat)) ⊕ hg_X) (hq : hm_PA_takeEvery T G Z o p1 = some q) : hg_C l ⟨"SignalEngine$Parser", "takeEvery", "(I)LSignalEngine$Node;"⟩ prog_9_method_19_code 4 (some (.object "SignalEngine$Node")) (d + 1 + 410) (26 * (d + 1) + 8987) D G [.ref o, .int p1] Z (Sum.elim (fun q => (.inl (some (va_rf q.2), q.1) : hg_O)) hg_ox q) := by
  refine hg_start (cv := fun q => (Sum.elim (fun q => (.inl (some (va_rf q.2), q.1) : hg_O)) hg_ox q)) hq ?_
  intro F hF h
  refine hg_enter (lv := [(0, va_rf (some o)), (1, .int p1)]) (by decide +kernel) (by simp [lg_sl, va_rf_cat, hg_cti, hg_ctr]) (by simp [lv_args, va_rf_cat, va_rf_some, hg_cti, hg_ctr]) ?_
  intro X hC hR
  show hg_G X l (hg_rm (d + 1 + 410) (26 * (d + 1) + 8987) Z) D 4 Z 0 [(0, va_rf (some o)), (1, .int p1)] []
  have h : dc_wp (hm_PA_takeEvery T G Z o p1) F := h
  delta hm_PA_takeEvery at h
  refine hg_aloadn (pc := 0) (j := 0) (i := 0) (r := (some o)) hC 0 rfl rfl (show decode prog_9_method_19_code 0 = .ok (.aload_n 0, 1) by decide +kernel) ?_
  obtain ⟨b1, hb2, h⟩ := dc_bind h
  obtain ⟨hb2, hv3⟩ := hg_chk_of (C := R_PA) rfl hb2
  refine hg_kVTi (pc := 1) (b := b1) (r := (some o)) (As := []) (rest := []) (vo := fun q => q.2) (so := fun q => q.1) hC hR cw_SignalEngine_Parser_194 (fun q hq => hm_PA_takeEither_r_ok l hlt D G Z b1 q hq) (by show _ + 1 ≤ d + 1 + 410; omega) (by show _ ≤ 26 * (d + 1) + 8987; omega) hb2 hv3 rfl (Nat.le_of_ble_eq_true rfl) (show decode prog_9_method_19_code 1 = .ok (.invokevirtual 194, 3) by decide +kernel) h (fun z h => hF (.inr z) (dc_some h)) ?_
  intro q4 h
  refine hg_istoren (pc := 4) (j := 2) (i := 2) (lv' := [(2, .int q4.2), (0, va_rf (some o)), (1, .int p1)]) hC rfl (Nat.le_of_ble_eq_true rfl) rfl (show decode prog_9_method_19_code 4 = .ok (.istore_n 2, 1) by decide +kernel) ?_
  refine hg_aloadn (pc := 5) (j := 0) (i := 0) (r := (some o)) hC 1 rfl rfl (show decode prog_9_method_19_code 5 = .ok (.aload_n 0, 1) by decide +kernel) ?_
  refine hg_tok (pc := 6) (j := 25) hC (by decide) rfl w_785 (show decode prog_9_method_19_code 6 = .ok (.getstatic 255, 3) by decide +kernel) ?_
  obtain ⟨b5, hb6, h⟩ := dc_bind h
  obtain ⟨hb6, hv7⟩ := hg_chk_of (C := R_PA) rfl hb6
  refine hg_kVTv (pc := 9) (b := b5) (r := (some o)) (As := [va_rf (some (G.2.1 25))]) (rest := []) (so := fun q => q) hC hR cw_SignalEngine_Parser_88 (fun q hq => hm_PA_take_ok l hlt D G q4.1 b5 (some (G.2.1 25)) q hq) (by show _ + 1 ≤ d + 1 + 410; omega) (by show _ ≤ 26 * (d + 1) + 8987; omega) hb6 hv7 rfl (Nat.le_of_ble_eq_true rfl) (show decode prog_9_method_19_code 9 = .ok (.invokevirtual 88, 3) by decide +kernel) h (fun z h => hF (.inr z) (dc_some h)) ?_
  intro q8 h
  refine hg_aloadn (pc := 12) (j := 0) (i := 0) (r := (some o)) hC 1 rfl rfl (show decode prog_9_method_19_code 12 = .ok (.aload_n 0, 1) by decide +kernel) ?_
  refine hg_rgr (pc := 13) (r := (some o)) hC fl_SignalEngine_Parser_12 (show decode prog_9_method_19_code 13 = .ok (.getfield 12, 3) by decide +kernel) h ?_
  intro e9 h
  refine hg_aloadn (pc := 16) (j := 0) (i := 0) (r := (some o)) hC 1 rfl rfl (show decode prog_9_method_19_code 16 = .ok (.aload_n 0, 1) by decide +kernel) ?_
  obtain ⟨b10, hb11, h⟩ := dc_bind h
  obtain ⟨hb11, hv12⟩ := hg_chk_of (C := R_PA) rfl hb11
  refine hg_kVTr (pc := 17) (b := b10) (r := (some o)) (As := []) (rest := [va_rf e9]) (vo := fun q => q.2) (so := fun q => q.1) hC hR cw_SignalEngine_Parser_95 (fun q hq => hT.1 q8 b10 q hq) (by show _ + 1 ≤ d + 1 + 410; omega) (by show _ ≤ 26 * (d + 1) + 8987; omega) hb11 hv12 rfl (by simp only [List.map, va_rf_cat]; exact Nat.le_of_ble_eq_true rfl) (show decode prog_9_method_19_code 17 = .ok (.invokevirtual 95, 3) by decide +kernel) h (fun z h => hF (.inr z) (dc_some h)) ?_
  intro q13 h
  refine hg_iloadn (pc := 20) (j := 2) (i := 2) hC 0 rfl rfl (show decode prog_9_method_19_code 20 = .ok (.iload_n 2, 1) by decide +kernel) ?_
  refine hg_iloadn (pc := 21) (j := 1) (i := 1) hC 2 rfl rfl (show decode prog_9_method_19_code 21 = .ok (.iload_n 1, 1) by decide +kernel) ?_
  obtain ⟨b14, hb15, h⟩ := dc_bind h
  obtain ⟨hb15, hv16⟩ := hg_chk_of (C := R_DR) rfl hb15
  refine hg_kVr (pc := 22) (b := b14) (r := e9) (As := [va_rf q13.2, .int q4.2, .int p1]) (rest := []) (vo := fun q => q.2) (so := fun q => q.1) hC cw_SignalEngine_Parser_241 (fun q hq => hm_DR_loopEach_ok l D G q13.1 b14 q13.2 q4.2 p1 q hq) (by show _ + 1 ≤ d + 1 + 410; omega) (by show _ ≤ 26 * (d + 1) + 8987; omega) hb15 hv16 rfl (Nat.le_of_ble_eq_true rfl) (show decode prog_9_method_19_code 22 = .ok (.invokevirtual 241, 3) by decide +kernel) h ?_
  intro q17 h
  refine hg_astoren (pc := 25) (j := 3) (i := 3) (r := q17.2) (lv' := [(3, va_rf q17.2), (2, .int q4.2), (0, va_rf (some o)), (1, .int p1)]) hC rfl (Nat.le_of_ble_eq_true rfl) rfl (show decode prog_9_method_19_code 25 = .ok (.astore_n 3, 1) by decide +kernel) ?_
  refine hg_aloadn (pc := 26) (j := 0) (i := 0) (r := (some o)) hC 2 rfl rfl (show decode prog_9_method_19_code 26 = .ok (.aload_n 0, 1) by decide +kernel) ?_
  refine hg_rgr (pc := 27) (r := (some o)) hC fl_SignalEngine_Parser_12 (show decode prog_9_method_19_code 27 = .ok (.getfield 12, 3) by decide +kernel) h ?_
  intro e18 h
  refine hg_iconst (pc := 30) (v := 5) hC (show decode prog_9_method_19_code 30 = .ok (.iconst 5, 1) by decide +kernel) (by decide +kernel) ?_
  refine hg_aloadn (pc := 31) (j := 0) (i := 0) (r := (some o)) hC 2 rfl rfl (show decode prog_9_method_19_code 31 = .ok (.aload_n 0, 1) by decide +kernel) ?_
  refine hg_rgr (pc := 32) (r := (some o)) hC fl_SignalEngine_Parser_12 (show decode prog_9_method_19_code 32 = .ok (.getfield 12, 3) by decide +kernel) h ?_
  intro e19 h
  refine hg_iloadn (pc := 35) (j := 2) (i := 2) hC 1 rfl rfl (show decode prog_9_method_19_code 35 = .ok (.iload_n 2, 1) by decide +kernel) ?_
  refine hg_iloadn (pc := 36) (j := 1) (i := 1) hC 3 rfl rfl (show decode prog_9_method_19_code 36 = .ok (.iload_n 1, 1) by decide +kernel) ?_
  obtain ⟨b20, hb21, h⟩ := dc_bind h
  obtain ⟨hb21, hv22⟩ := hg_chk_of (C := R_DR) rfl hb21
  refine hg_kVr (pc := 37) (b := b20) (r := e19) (As := [.int q4.2, .int p1]) (rest := [.int 5, va_rf e18]) (vo := fun q => q.2) (so := fun q => q.1) hC cw_SignalEngine_Parser_197 (fun q hq => hm_DR_await_ok l D G q17.1 b20 q4.2 p1 q hq) (by show _ + 1 ≤ d + 1 + 410; omega) (by show _ ≤ 26 * (d + 1) + 8987; omega) hb21 hv22 rfl (by simp only [List.map, va_rf_cat]; exact Nat.le_of_ble_eq_true rfl) (show decode prog_9_method_19_code 37 = .ok (.invokevirtual 197, 3) by decide +kernel) h ?_
  intro q23 h
  refine hg_aloadn (pc := 40) (j := 3) (i := 3) (r := q17.2) hC 0 rfl rfl (show decode prog_9_method_19_code 40 = .ok (.aload_n 3, 1) by decide +kernel) ?_
  refine hg_iloadn (pc := 41) (j := 1) (i := 1) hC 3 rfl rfl (show decode prog_9_method_19_code 41 = .ok (.iload_n 1, 1) by decide +kernel) ?_
  obtain ⟨b24, hb25, h⟩ := dc_bind h
  obtain ⟨hb25, hv26⟩ := hg_chk_of (C := R_DR) rfl hb25
  refine hg_kVr (pc := 42) (b := b24) (r := e18) (As := [.int 5, va_rf q23.2, va_rf q17.2, .int p1]) (rest := []) (vo := fun q => q.2) (so := fun q => q.1) hC cw_SignalEngine_Parser_147 (fun q hq => hm_DR_join_ok l D G q23.1 b24 (5 : Int32) q23.2 q17.2 p1 q hq) (by show _ + 1 ≤ d + 1 + 410; omega) (by show _ ≤ 26 * (d + 1) + 8987; omega) hb25 hv26 rfl (Nat.le_of_ble_eq_true rfl) (show decode prog_9_method_19_code 42 = .ok (.invokevirtual 147, 3) by decide +kernel) h ?_
  intro q27 h
  exact hg_aret (pc := 45) (r := q27.2) hC hR (by first | exact Or.inl ⟨_, rfl⟩ | exact Or.inr ⟨_, rfl⟩) (hF _ (dc_some h)) (show decode prog_9_method_19_code 45 = .ok (.areturn, 1) by decide +kernel)
noncomputable def hm_PA_takeGuarded_L106 (T : hm_T2) (G : hg_E) (S : hg_S) (o : Nat) (y0 : Option Nat) : Option ((hg_S × (Option Nat)) ⊕ hg_X) :=
  some (.inl (S, y0))
noncomputable def hm_PA_takeGuarded_L14 (T : hm_T2) (G : hg_E) (S : hg_S) (o : Nat) (x1 : Option Nat) (x2 : Int32) : Option ((hg_S × (Option Nat)) ⊕ hg_X) :=
  (hg_chk S (some o) 4).bind fun b1 => (T.1 G S b1).bind (Sum.elim (fun q4 => (hg_chk q4.1 (some o) 4).bind fun b5 => (hm_PA_take G q4.1 b5 (some (G.2.1 13))).bind (Sum.elim (fun q8 => (hg_chk q8 (some o) 4).bind fun b9 => (hm_PA_takeEither_r G q8 b9).bind (Sum.elim (fun q12 => if x1 = (some (G.2.1 23)) then ((hg_gr q12.1 (some o) 4 3).bind fun e13 => (hg_gr q12.1 (some o) 4 3).bind fun e14 => (hg_chk q12.1 e14 6).bind fun b15 => (hm_DR_watch G q12.1 b15 q12.2 x2).bind fun q18 => (hg_chk q18.1 e13 6).bind fun b19 => (hm_DR_abort G q18.1 b19 q4.2 q18.2 x2).bind fun q22 => some (.inl (q22.1, q22.2))) else ((hg_gr q12.1 (some o) 4 3).bind fun e23 => (hg_chk q12.1 e23 6).bind fun b24 => (hm_DR_tested G q12.1 b24 (4 : Int32) q12.2 q4.2 (none : Option Nat) x2).bind fun q27 => if x1 = (some (G.2.1 12)) then (hm_PA_takeGuarded_L106 T G q27.1 o q27.2) else ((hg_gr q27.1 (some o) 4 3).bind fun e28 => (hg_gr q27.1 (some o) 4 3).bind fun e29 => (hg_chk q27.1 e29 6).bind fun b30 => (hm_DR_watch G q27.1 b30 q12.2 x2).bind fun q33 => (hg_chk q33.1 e28 6).bind fun b34 => (hm_DR_abort G q33.1 b34 q27.2 q33.2 x2).bind fun q37 => hm_PA_takeGuarded_L106 T G q37.1 o q37.2))) (fun z => some (Sum.inr z)))) (fun z => some (Sum.inr z)))) (fun z => some (Sum.inr z)))
noncomputable def hm_PA_takeGuarded (T : hm_T2) (G : hg_E) (S : hg_S) (o : Nat) (p1 : Option Nat) (p2 : Int32) : Option ((hg_S × (Option Nat)) ⊕ hg_X) :=
  if p1 = (some (G.2.1 23)) then ((hg_chk S (some o) 4).bind fun b38 => (hm_PA_take G S b38 (some (G.2.1 22))).bind (Sum.elim (fun q41 => hm_PA_takeGuarded_L14 T G q41 o p1 p2) (fun z => some (Sum.inr z)))) else (hm_PA_takeGuarded_L14 T G S o p1 p2)
set_option maxHeartbeats 4000000 in
set_option maxRecDepth 100000 in
/-- SignalEngine$Parser.takeGuarded(LSignalEngine$Token;I)LSignalEngine$Node; -/
theorem hm_PA_takeGuarded_ok (l : Launch) (hlt : l.stackTraces = false) (D : va_G) (G : hg_E) (T : hm_T2) (d : Nat) (hT : hm_OK2 l D G T d) (Z : hg_S) (o : Nat) (p1 : Option Nat) (p2 : Int32) (q : (hg_S × (Option Nat)) ⊕ hg_X) (hq : hm_PA_takeGuarded T G Z o p1 p2 = some q) : hg_C l ⟨"SignalEngine$Parser", "takeGuarded", "(LSignalEngine$Token;I)LSignalEngine$Node;"⟩ prog_9_method_20_code 6 (some (.object "SignalEngine$Node")) (d + 1 + 410) (26 * (d + 1) + 8987) D G [.ref o, va_rf p1, .int p2] Z (Sum.elim (fun q => (.inl (some (va_rf q.2), q.1) : hg_O)) hg_ox q) := by
  refine hg_start (cv := fun q => (Sum.elim (fun q => (.inl (some (va_rf q.2), q.1) : hg_O)) hg_ox q)) hq ?_
  intro F hF h
  refine hg_enter (lv := [(0, va_rf (some o)), (1, va_rf p1), (2, .int p2)]) (by decide +kernel) (by simp [lg_sl, va_rf_cat, hg_cti, hg_ctr]) (by simp [lv_args, va_rf_cat, va_rf_some, hg_cti, hg_ctr]) ?_
  intro X hC hR
  have lab_106 : ∀ (S : hg_S) (y0 : Option Nat), dc_wp (hm_PA_takeGuarded_L106 T G S o y0) F → hg_G X l (hg_rm (d + 1 + 410) (26 * (d + 1) + 8987) Z) D 6 S 106 [(0, va_rf (some o))] [va_rf y0] := by
    intro S y0 h
    delta hm_PA_takeGuarded_L106 at h
    exact hg_aret (pc := 106) (r := y0) hC hR (by first | exact Or.inl ⟨_, rfl⟩ | exact Or.inr ⟨_, rfl⟩) (hF _ (dc_some h)) (show decode prog_9_method_20_code 106 = .ok (.areturn, 1) by decide +kernel)
  have lab_14 : ∀ (S : hg_S) (x1 : Option Nat) (x2 : Int32), dc_wp (hm_PA_takeGuarded_L14 T G S o x1 x2) F → hg_G X l (hg_rm (d + 1 + 410) (26 * (d + 1) + 8987) Z) D 6 S 14 [(0, va_rf (some o)), (1, va_rf x1), (2, .int x2)] [] := by
    intro S x1 x2 h
    delta hm_PA_takeGuarded_L14 at h
    refine hg_aloadn (pc := 14) (j := 0) (i := 0) (r := (some o)) hC 0 rfl rfl (show decode prog_9_method_20_code 14 = .ok (.aload_n 0, 1) by decide +kernel) ?_
    obtain ⟨b1, hb2, h⟩ := dc_bind h
    obtain ⟨hb2, hv3⟩ := hg_chk_of (C := R_PA) rfl hb2
    refine hg_kVTr (pc := 15) (b := b1) (r := (some o)) (As := []) (rest := []) (vo := fun q => q.2) (so := fun q => q.1) hC hR cw_SignalEngine_Parser_95 (fun q hq => hT.1 S b1 q hq) (by show _ + 1 ≤ d + 1 + 410; omega) (by show _ ≤ 26 * (d + 1) + 8987; omega) hb2 hv3 rfl (Nat.le_of_ble_eq_true rfl) (show decode prog_9_method_20_code 15 = .ok (.invokevirtual 95, 3) by decide +kernel) h (fun z h => hF (.inr z) (dc_some h)) ?_
    intro q4 h
    refine hg_astoren (pc := 18) (j := 3) (i := 3) (r := q4.2) (lv' := [(3, va_rf q4.2), (0, va_rf (some o)), (1, va_rf x1), (2, .int x2)]) hC rfl (Nat.le_of_ble_eq_true rfl) rfl (show decode prog_9_method_20_code 18 = .ok (.astore_n 3, 1) by decide +kernel) ?_
    refine hg_aloadn (pc := 19) (j := 0) (i := 0) (r := (some o)) hC 1 rfl rfl (show decode prog_9_method_20_code 19 = .ok (.aload_n 0, 1) by decide +kernel) ?_
    refine hg_tok (pc := 20) (j := 13) hC (by decide) rfl w_795 (show decode prog_9_method_20_code 20 = .ok (.getstatic 264, 3) by decide +kernel) ?_
    obtain ⟨b5, hb6, h⟩ := dc_bind h
    obtain ⟨hb6, hv7⟩ := hg_chk_of (C := R_PA) rfl hb6
    refine hg_kVTv (pc := 23) (b := b5) (r := (some o)) (As := [va_rf (some (G.2.1 13))]) (rest := []) (so := fun q => q) hC hR cw_SignalEngine_Parser_88 (fun q hq => hm_PA_take_ok l hlt D G q4.1 b5 (some (G.2.1 13)) q hq) (by show _ + 1 ≤ d + 1 + 410; omega) (by show _ ≤ 26 * (d + 1) + 8987; omega) hb6 hv7 rfl (Nat.le_of_ble_eq_true rfl) (show decode prog_9_method_20_code 23 = .ok (.invokevirtual 88, 3) by decide +kernel) h (fun z h => hF (.inr z) (dc_some h)) ?_
    intro q8 h
    refine hg_aloadn (pc := 26) (j := 0) (i := 0) (r := (some o)) hC 1 rfl rfl (show decode prog_9_method_20_code 26 = .ok (.aload_n 0, 1) by decide +kernel) ?_
    obtain ⟨b9, hb10, h⟩ := dc_bind h
    obtain ⟨hb10, hv11⟩ := hg_chk_of (C := R_PA) rfl hb10
    refine hg_kVTi (pc := 27) (b := b9) (r := (some o)) (As := []) (rest := []) (vo := fun q => q.2) (so := fun q => q.1) hC hR cw_SignalEngine_Parser_194 (fun q hq => hm_PA_takeEither_r_ok l hlt D G q8 b9 q hq) (by show _ + 1 ≤ d + 1 + 410; omega) (by show _ ≤ 26 * (d + 1) + 8987; omega) hb10 hv11 rfl (Nat.le_of_ble_eq_true rfl) (show decode prog_9_method_20_code 27 = .ok (.invokevirtual 194, 3) by decide +kernel) h (fun z h => hF (.inr z) (dc_some h)) ?_
    intro q12 h
    refine hg_istore (pc := 30) (i := 4) (lv' := [(4, .int q12.2), (3, va_rf q4.2), (0, va_rf (some o)), (1, va_rf x1), (2, .int x2)]) hC (Nat.le_of_ble_eq_true rfl) (by simp [va_rf_cat, hg_cti]) (show decode prog_9_method_20_code 30 = .ok (.istore 4, 2) by decide +kernel) ?_
    refine hg_aloadn (pc := 32) (j := 1) (i := 1) (r := x1) hC 3 rfl rfl (show decode prog_9_method_20_code 32 = .ok (.aload_n 1, 1) by decide +kernel) ?_
    refine hg_tok (pc := 33) (j := 23) hC (by decide) rfl w_791 (show decode prog_9_method_20_code 33 = .ok (.getstatic 258, 3) by decide +kernel) ?_
    refine hg_acmp_ne (pc := 36) (tgt := 59) (x := x1) (y := (some (G.2.1 23))) hC (show decode prog_9_method_20_code 36 = .ok (.if_acmp .ne 23, 3) by decide +kernel) (by decide +kernel) h ?_ ?_
    · intro h
      refine hg_aloadn (pc := 39) (j := 0) (i := 0) (r := (some o)) hC 2 rfl rfl (show decode prog_9_method_20_code 39 = .ok (.aload_n 0, 1) by decide +kernel) ?_
      refine hg_rgr (pc := 40) (r := (some o)) hC fl_SignalEngine_Parser_12 (show decode prog_9_method_20_code 40 = .ok (.getfield 12, 3) by decide +kernel) h ?_
      intro e13 h
      refine hg_aloadn (pc := 43) (j := 3) (i := 3) (r := q4.2) hC 1 rfl rfl (show decode prog_9_method_20_code 43 = .ok (.aload_n 3, 1) by decide +kernel) ?_
      refine hg_aloadn (pc := 44) (j := 0) (i := 0) (r := (some o)) hC 2 rfl rfl (show decode prog_9_method_20_code 44 = .ok (.aload_n 0, 1) by decide +kernel) ?_
      refine hg_rgr (pc := 45) (r := (some o)) hC fl_SignalEngine_Parser_12 (show decode prog_9_method_20_code 45 = .ok (.getfield 12, 3) by decide +kernel) h ?_
      intro e14 h
      refine hg_iload (pc := 48) (i := 4) hC 0 rfl (show decode prog_9_method_20_code 48 = .ok (.iload 4, 2) by decide +kernel) ?_
      refine hg_iloadn (pc := 50) (j := 2) (i := 2) hC 4 rfl rfl (show decode prog_9_method_20_code 50 = .ok (.iload_n 2, 1) by decide +kernel) ?_
      obtain ⟨b15, hb16, h⟩ := dc_bind h
      obtain ⟨hb16, hv17⟩ := hg_chk_of (C := R_DR) rfl hb16
      refine hg_kVr (pc := 51) (b := b15) (r := e14) (As := [.int q12.2, .int x2]) (rest := [va_rf q4.2, va_rf e13]) (vo := fun q => q.2) (so := fun q => q.1) hC cw_SignalEngine_Parser_267 (fun q hq => hm_DR_watch_ok l D G q12.1 b15 q12.2 x2 q hq) (by show _ + 1 ≤ d + 1 + 410; omega) (by show _ ≤ 26 * (d + 1) + 8987; omega) hb16 hv17 rfl (by simp only [List.map, va_rf_cat]; exact Nat.le_of_ble_eq_true rfl) (show decode prog_9_method_20_code 51 = .ok (.invokevirtual 267, 3) by decide +kernel) h ?_
      intro q18 h
      refine hg_iloadn (pc := 54) (j := 2) (i := 2) hC 4 rfl rfl (show decode prog_9_method_20_code 54 = .ok (.iload_n 2, 1) by decide +kernel) ?_
      obtain ⟨b19, hb20, h⟩ := dc_bind h
      obtain ⟨hb20, hv21⟩ := hg_chk_of (C := R_DR) rfl hb20
      refine hg_kVr (pc := 55) (b := b19) (r := e13) (As := [va_rf q4.2, va_rf q18.2, .int x2]) (rest := []) (vo := fun q => q.2) (so := fun q => q.1) hC cw_SignalEngine_Parser_270 (fun q hq => hm_DR_abort_ok l D G q18.1 b19 q4.2 q18.2 x2 q hq) (by show _ + 1 ≤ d + 1 + 410; omega) (by show _ ≤ 26 * (d + 1) + 8987; omega) hb20 hv21 rfl (Nat.le_of_ble_eq_true rfl) (show decode prog_9_method_20_code 55 = .ok (.invokevirtual 270, 3) by decide +kernel) h ?_
      intro q22 h
      exact hg_aret (pc := 58) (r := q22.2) hC hR (by first | exact Or.inl ⟨_, rfl⟩ | exact Or.inr ⟨_, rfl⟩) (hF _ (dc_some h)) (show decode prog_9_method_20_code 58 = .ok (.areturn, 1) by decide +kernel)
    · intro h
      refine hg_aloadn (pc := 59) (j := 0) (i := 0) (r := (some o)) hC 2 rfl rfl (show decode prog_9_method_20_code 59 = .ok (.aload_n 0, 1) by decide +kernel) ?_
      refine hg_rgr (pc := 60) (r := (some o)) hC fl_SignalEngine_Parser_12 (show decode prog_9_method_20_code 60 = .ok (.getfield 12, 3) by decide +kernel) h ?_
      intro e23 h
      refine hg_iconst (pc := 63) (v := 4) hC (show decode prog_9_method_20_code 63 = .ok (.iconst 4, 1) by decide +kernel) (by decide +kernel) ?_
      refine hg_iload (pc := 64) (i := 4) hC 0 rfl (show decode prog_9_method_20_code 64 = .ok (.iload 4, 2) by decide +kernel) ?_
      refine hg_aloadn (pc := 66) (j := 3) (i := 3) (r := q4.2) hC 1 rfl rfl (show decode prog_9_method_20_code 66 = .ok (.aload_n 3, 1) by decide +kernel) ?_
      refine hg_null (pc := 67) hC (show decode prog_9_method_20_code 67 = .ok (.aconst_null, 1) by decide +kernel) ?_
      refine hg_iloadn (pc := 68) (j := 2) (i := 2) hC 4 rfl rfl (show decode prog_9_method_20_code 68 = .ok (.iload_n 2, 1) by decide +kernel) ?_
      obtain ⟨b24, hb25, h⟩ := dc_bind h
      obtain ⟨hb25, hv26⟩ := hg_chk_of (C := R_DR) rfl hb25
      refine hg_kVr (pc := 69) (b := b24) (r := e23) (As := [.int 4, .int q12.2, va_rf q4.2, va_rf none, .int x2]) (rest := []) (vo := fun q => q.2) (so := fun q => q.1) hC cw_SignalEngine_Parser_234 (fun q hq => hm_DR_tested_ok l D G q12.1 b24 (4 : Int32) q12.2 q4.2 (none : Option Nat) x2 q hq) (by show _ + 1 ≤ d + 1 + 410; omega) (by show _ ≤ 26 * (d + 1) + 8987; omega) hb25 hv26 rfl (Nat.le_of_ble_eq_true rfl) (show decode prog_9_method_20_code 69 = .ok (.invokevirtual 234, 3) by decide +kernel) h ?_
      intro q27 h
      refine hg_astore (pc := 72) (i := 5) (r := q27.2) (lv' := [(5, va_rf q27.2), (4, .int q12.2), (3, va_rf q4.2), (0, va_rf (some o)), (1, va_rf x1), (2, .int x2)]) hC (Nat.le_of_ble_eq_true rfl) rfl (show decode prog_9_method_20_code 72 = .ok (.astore 5, 2) by decide +kernel) ?_
      refine hg_aloadn (pc := 74) (j := 1) (i := 1) (r := x1) hC 4 rfl rfl (show decode prog_9_method_20_code 74 = .ok (.aload_n 1, 1) by decide +kernel) ?_
      refine hg_tok (pc := 75) (j := 12) hC (by decide) rfl w_799 (show decode prog_9_method_20_code 75 = .ok (.getstatic 274, 3) by decide +kernel) ?_
      refine hg_acmp_ne (pc := 78) (tgt := 86) (x := x1) (y := (some (G.2.1 12))) hC (show decode prog_9_method_20_code 78 = .ok (.if_acmp .ne 8, 3) by decide +kernel) (by decide +kernel) h ?_ ?_
      · intro h
        refine hg_aload (pc := 81) (i := 5) (r := q27.2) hC 0 rfl (show decode prog_9_method_20_code 81 = .ok (.aload 5, 2) by decide +kernel) ?_
        refine hg_goto (pc := 83) (tgt := 106) hC (show decode prog_9_method_20_code 83 = .ok (.goto 23, 3) by decide +kernel) (by decide +kernel) ?_
        exact hg_sub [3] rfl (lab_106 q27.1 q27.2 h)
      · intro h
        refine hg_aloadn (pc := 86) (j := 0) (i := 0) (r := (some o)) hC 3 rfl rfl (show decode prog_9_method_20_code 86 = .ok (.aload_n 0, 1) by decide +kernel) ?_
        refine hg_rgr (pc := 87) (r := (some o)) hC fl_SignalEngine_Parser_12 (show decode prog_9_method_20_code 87 = .ok (.getfield 12, 3) by decide +kernel) h ?_
        intro e28 h
        refine hg_aload (pc := 90) (i := 5) (r := q27.2) hC 0 rfl (show decode prog_9_method_20_code 90 = .ok (.aload 5, 2) by decide +kernel) ?_
        refine hg_aloadn (pc := 92) (j := 0) (i := 0) (r := (some o)) hC 3 rfl rfl (show decode prog_9_method_20_code 92 = .ok (.aload_n 0, 1) by decide +kernel) ?_
        refine hg_rgr (pc := 93) (r := (some o)) hC fl_SignalEngine_Parser_12 (show decode prog_9_method_20_code 93 = .ok (.getfield 12, 3) by decide +kernel) h ?_
        intro e29 h
        refine hg_iload (pc := 96) (i := 4) hC 1 rfl (show decode prog_9_method_20_code 96 = .ok (.iload 4, 2) by decide +kernel) ?_
        refine hg_iloadn (pc := 98) (j := 2) (i := 2) hC 5 rfl rfl (show decode prog_9_method_20_code 98 = .ok (.iload_n 2, 1) by decide +kernel) ?_
        obtain ⟨b30, hb31, h⟩ := dc_bind h
        obtain ⟨hb31, hv32⟩ := hg_chk_of (C := R_DR) rfl hb31
        refine hg_kVr (pc := 99) (b := b30) (r := e29) (As := [.int q12.2, .int x2]) (rest := [va_rf q27.2, va_rf e28]) (vo := fun q => q.2) (so := fun q => q.1) hC cw_SignalEngine_Parser_267 (fun q hq => hm_DR_watch_ok l D G q27.1 b30 q12.2 x2 q hq) (by show _ + 1 ≤ d + 1 + 410; omega) (by show _ ≤ 26 * (d + 1) + 8987; omega) hb31 hv32 rfl (by simp only [List.map, va_rf_cat]; exact Nat.le_of_ble_eq_true rfl) (show decode prog_9_method_20_code 99 = .ok (.invokevirtual 267, 3) by decide +kernel) h ?_
        intro q33 h
        refine hg_iloadn (pc := 102) (j := 2) (i := 2) hC 5 rfl rfl (show decode prog_9_method_20_code 102 = .ok (.iload_n 2, 1) by decide +kernel) ?_
        obtain ⟨b34, hb35, h⟩ := dc_bind h
        obtain ⟨hb35, hv36⟩ := hg_chk_of (C := R_DR) rfl hb35
        refine hg_kVr (pc := 103) (b := b34) (r := e28) (As := [va_rf q27.2, va_rf q33.2, .int x2]) (rest := []) (vo := fun q => q.2) (so := fun q => q.1) hC cw_SignalEngine_Parser_270 (fun q hq => hm_DR_abort_ok l D G q33.1 b34 q27.2 q33.2 x2 q hq) (by show _ + 1 ≤ d + 1 + 410; omega) (by show _ ≤ 26 * (d + 1) + 8987; omega) hb35 hv36 rfl (Nat.le_of_ble_eq_true rfl) (show decode prog_9_method_20_code 103 = .ok (.invokevirtual 270, 3) by decide +kernel) h ?_
        intro q37 h
        exact hg_sub [3] rfl (lab_106 q37.1 q37.2 h)
  show hg_G X l (hg_rm (d + 1 + 410) (26 * (d + 1) + 8987) Z) D 6 Z 0 [(0, va_rf (some o)), (1, va_rf p1), (2, .int p2)] []
  have h : dc_wp (hm_PA_takeGuarded T G Z o p1 p2) F := h
  delta hm_PA_takeGuarded at h
  refine hg_aloadn (pc := 0) (j := 1) (i := 1) (r := p1) hC 1 rfl rfl (show decode prog_9_method_20_code 0 = .ok (.aload_n 1, 1) by decide +kernel) ?_
  refine hg_tok (pc := 1) (j := 23) hC (by decide) rfl w_791 (show decode prog_9_method_20_code 1 = .ok (.getstatic 258, 3) by decide +kernel) ?_
  refine hg_acmp_ne (pc := 4) (tgt := 14) (x := p1) (y := (some (G.2.1 23))) hC (show decode prog_9_method_20_code 4 = .ok (.if_acmp .ne 10, 3) by decide +kernel) (by decide +kernel) h ?_ ?_
  · intro h
    refine hg_aloadn (pc := 7) (j := 0) (i := 0) (r := (some o)) hC 0 rfl rfl (show decode prog_9_method_20_code 7 = .ok (.aload_n 0, 1) by decide +kernel) ?_
    refine hg_tok (pc := 8) (j := 22) hC (by decide) rfl w_793 (show decode prog_9_method_20_code 8 = .ok (.getstatic 261, 3) by decide +kernel) ?_
    obtain ⟨b38, hb39, h⟩ := dc_bind h
    obtain ⟨hb39, hv40⟩ := hg_chk_of (C := R_PA) rfl hb39
    refine hg_kVTv (pc := 11) (b := b38) (r := (some o)) (As := [va_rf (some (G.2.1 22))]) (rest := []) (so := fun q => q) hC hR cw_SignalEngine_Parser_88 (fun q hq => hm_PA_take_ok l hlt D G Z b38 (some (G.2.1 22)) q hq) (by show _ + 1 ≤ d + 1 + 410; omega) (by show _ ≤ 26 * (d + 1) + 8987; omega) hb39 hv40 rfl (Nat.le_of_ble_eq_true rfl) (show decode prog_9_method_20_code 11 = .ok (.invokevirtual 88, 3) by decide +kernel) h (fun z h => hF (.inr z) (dc_some h)) ?_
    intro q41 h
    exact lab_14 q41 p1 p2 h
  · intro h
    exact lab_14 Z p1 p2 h
noncomputable def hm_P2 : Nat → hm_T2
  | 0 => (fun _ _ _ => none, fun _ _ _ => none, fun _ _ _ => none, fun _ _ _ _ _ => none, fun _ _ _ _ => none, fun _ _ _ _ => none, fun _ _ _ _ => none, fun _ _ _ _ => none, fun _ _ _ _ => none, fun _ _ _ _ _ => none)
  | d + 1 => (hm_PA_takeBody (hm_P2 d), hm_PA_takeRow (hm_P2 d), hm_PA_takeStatement (hm_P2 d), hm_PA_takeRest (hm_P2 d), hm_PA_takePresent (hm_P2 d), hm_PA_takeLoop (hm_P2 d), hm_PA_takeTrap (hm_P2 d), hm_PA_takeLocals (hm_P2 d), hm_PA_takeEvery (hm_P2 d), hm_PA_takeGuarded (hm_P2 d))
theorem hm_P2_ok (l : Launch) (hlt : l.stackTraces = false) (D : va_G) (G : hg_E) : ∀ d : Nat, hm_OK2 l D G (hm_P2 d) d
  | 0 => ⟨fun _ _ _ h => (by cases h), fun _ _ _ h => (by cases h), fun _ _ _ h => (by cases h), fun _ _ _ _ _ h => (by cases h), fun _ _ _ _ h => (by cases h), fun _ _ _ _ h => (by cases h), fun _ _ _ _ h => (by cases h), fun _ _ _ _ h => (by cases h), fun _ _ _ _ h => (by cases h), fun _ _ _ _ _ h => (by cases h)⟩
  | d + 1 => ⟨hm_PA_takeBody_ok l hlt D G (hm_P2 d) d (hm_P2_ok l hlt D G d), hm_PA_takeRow_ok l hlt D G (hm_P2 d) d (hm_P2_ok l hlt D G d), hm_PA_takeStatement_ok l hlt D G (hm_P2 d) d (hm_P2_ok l hlt D G d), hm_PA_takeRest_ok l hlt D G (hm_P2 d) d (hm_P2_ok l hlt D G d), hm_PA_takePresent_ok l hlt D G (hm_P2 d) d (hm_P2_ok l hlt D G d), hm_PA_takeLoop_ok l hlt D G (hm_P2 d) d (hm_P2_ok l hlt D G d), hm_PA_takeTrap_ok l hlt D G (hm_P2 d) d (hm_P2_ok l hlt D G d), hm_PA_takeLocals_ok l hlt D G (hm_P2 d) d (hm_P2_ok l hlt D G d), hm_PA_takeEvery_ok l hlt D G (hm_P2 d) d (hm_P2_ok l hlt D G d), hm_PA_takeGuarded_ok l hlt D G (hm_P2 d) d (hm_P2_ok l hlt D G d)⟩
def hm_d2 : Nat := 400
noncomputable def hm_PA_takeBody_r (G : hg_E) (S : hg_S) (o : Nat) : Option ((hg_S × (Option Nat)) ⊕ hg_X) := (hm_P2 hm_d2).1 G S o
theorem hm_PA_takeBody_r_ok (l : Launch) (hlt : l.stackTraces = false) (D : va_G) (G : hg_E) (Z : hg_S) (o : Nat) (q : (hg_S × (Option Nat)) ⊕ hg_X) (hq : hm_PA_takeBody_r G Z o = some q) : hg_C l ⟨"SignalEngine$Parser", "takeBody", "()LSignalEngine$Node;"⟩ prog_9_method_10_code 3 (some (.object "SignalEngine$Node")) 810 19387 D G [.ref o] Z (Sum.elim (fun q => (.inl (some (va_rf q.2), q.1) : hg_O)) hg_ox q) :=
  (hm_P2_ok l hlt D G hm_d2).1 Z o q hq
noncomputable def hm_PA_takeRow_r (G : hg_E) (S : hg_S) (o : Nat) : Option ((hg_S × (Option Nat)) ⊕ hg_X) := (hm_P2 hm_d2).2.1 G S o
theorem hm_PA_takeRow_r_ok (l : Launch) (hlt : l.stackTraces = false) (D : va_G) (G : hg_E) (Z : hg_S) (o : Nat) (q : (hg_S × (Option Nat)) ⊕ hg_X) (hq : hm_PA_takeRow_r G Z o = some q) : hg_C l ⟨"SignalEngine$Parser", "takeRow", "()LSignalEngine$Node;"⟩ prog_9_method_11_code 3 (some (.object "SignalEngine$Node")) 810 19387 D G [.ref o] Z (Sum.elim (fun q => (.inl (some (va_rf q.2), q.1) : hg_O)) hg_ox q) :=
  (hm_P2_ok l hlt D G hm_d2).2.1 Z o q hq
noncomputable def hm_PA_takeStatement_r (G : hg_E) (S : hg_S) (o : Nat) : Option ((hg_S × (Option Nat)) ⊕ hg_X) := (hm_P2 hm_d2).2.2.1 G S o
theorem hm_PA_takeStatement_r_ok (l : Launch) (hlt : l.stackTraces = false) (D : va_G) (G : hg_E) (Z : hg_S) (o : Nat) (q : (hg_S × (Option Nat)) ⊕ hg_X) (hq : hm_PA_takeStatement_r G Z o = some q) : hg_C l ⟨"SignalEngine$Parser", "takeStatement", "()LSignalEngine$Node;"⟩ prog_9_method_12_code 4 (some (.object "SignalEngine$Node")) 810 19387 D G [.ref o] Z (Sum.elim (fun q => (.inl (some (va_rf q.2), q.1) : hg_O)) hg_ox q) :=
  (hm_P2_ok l hlt D G hm_d2).2.2.1 Z o q hq
noncomputable def hm_PA_takeRest_r (G : hg_E) (S : hg_S) (o : Nat) (p1 : Option Nat) (p2 : Int32) : Option ((hg_S × (Option Nat)) ⊕ hg_X) := (hm_P2 hm_d2).2.2.2.1 G S o p1 p2
theorem hm_PA_takeRest_r_ok (l : Launch) (hlt : l.stackTraces = false) (D : va_G) (G : hg_E) (Z : hg_S) (o : Nat) (p1 : Option Nat) (p2 : Int32) (q : (hg_S × (Option Nat)) ⊕ hg_X) (hq : hm_PA_takeRest_r G Z o p1 p2 = some q) : hg_C l ⟨"SignalEngine$Parser", "takeRest", "(LSignalEngine$Token;I)LSignalEngine$Node;"⟩ prog_9_method_13_code 3 (some (.object "SignalEngine$Node")) 810 19387 D G [.ref o, va_rf p1, .int p2] Z (Sum.elim (fun q => (.inl (some (va_rf q.2), q.1) : hg_O)) hg_ox q) :=
  (hm_P2_ok l hlt D G hm_d2).2.2.2.1 Z o p1 p2 q hq
noncomputable def hm_PA_takePresent_r (G : hg_E) (S : hg_S) (o : Nat) (p1 : Int32) : Option ((hg_S × (Option Nat)) ⊕ hg_X) := (hm_P2 hm_d2).2.2.2.2.1 G S o p1
theorem hm_PA_takePresent_r_ok (l : Launch) (hlt : l.stackTraces = false) (D : va_G) (G : hg_E) (Z : hg_S) (o : Nat) (p1 : Int32) (q : (hg_S × (Option Nat)) ⊕ hg_X) (hq : hm_PA_takePresent_r G Z o p1 = some q) : hg_C l ⟨"SignalEngine$Parser", "takePresent", "(I)LSignalEngine$Node;"⟩ prog_9_method_15_code 5 (some (.object "SignalEngine$Node")) 810 19387 D G [.ref o, .int p1] Z (Sum.elim (fun q => (.inl (some (va_rf q.2), q.1) : hg_O)) hg_ox q) :=
  (hm_P2_ok l hlt D G hm_d2).2.2.2.2.1 Z o p1 q hq
noncomputable def hm_PA_takeLoop_r (G : hg_E) (S : hg_S) (o : Nat) (p1 : Int32) : Option ((hg_S × (Option Nat)) ⊕ hg_X) := (hm_P2 hm_d2).2.2.2.2.2.1 G S o p1
theorem hm_PA_takeLoop_r_ok (l : Launch) (hlt : l.stackTraces = false) (D : va_G) (G : hg_E) (Z : hg_S) (o : Nat) (p1 : Int32) (q : (hg_S × (Option Nat)) ⊕ hg_X) (hq : hm_PA_takeLoop_r G Z o p1 = some q) : hg_C l ⟨"SignalEngine$Parser", "takeLoop", "(I)LSignalEngine$Node;"⟩ prog_9_method_16_code 3 (some (.object "SignalEngine$Node")) 810 19387 D G [.ref o, .int p1] Z (Sum.elim (fun q => (.inl (some (va_rf q.2), q.1) : hg_O)) hg_ox q) :=
  (hm_P2_ok l hlt D G hm_d2).2.2.2.2.2.1 Z o p1 q hq
noncomputable def hm_PA_takeTrap_r (G : hg_E) (S : hg_S) (o : Nat) (p1 : Int32) : Option ((hg_S × (Option Nat)) ⊕ hg_X) := (hm_P2 hm_d2).2.2.2.2.2.2.1 G S o p1
theorem hm_PA_takeTrap_r_ok (l : Launch) (hlt : l.stackTraces = false) (D : va_G) (G : hg_E) (Z : hg_S) (o : Nat) (p1 : Int32) (q : (hg_S × (Option Nat)) ⊕ hg_X) (hq : hm_PA_takeTrap_r G Z o p1 = some q) : hg_C l ⟨"SignalEngine$Parser", "takeTrap", "(I)LSignalEngine$Node;"⟩ prog_9_method_17_code 5 (some (.object "SignalEngine$Node")) 810 19387 D G [.ref o, .int p1] Z (Sum.elim (fun q => (.inl (some (va_rf q.2), q.1) : hg_O)) hg_ox q) :=
  (hm_P2_ok l hlt D G hm_d2).2.2.2.2.2.2.1 Z o p1 q hq
noncomputable def hm_PA_takeLocals_r (G : hg_E) (S : hg_S) (o : Nat) (p1 : Int32) : Option ((hg_S × (Option Nat)) ⊕ hg_X) := (hm_P2 hm_d2).2.2.2.2.2.2.2.1 G S o p1
theorem hm_PA_takeLocals_r_ok (l : Launch) (hlt : l.stackTraces = false) (D : va_G) (G : hg_E) (Z : hg_S) (o : Nat) (p1 : Int32) (q : (hg_S × (Option Nat)) ⊕ hg_X) (hq : hm_PA_takeLocals_r G Z o p1 = some q) : hg_C l ⟨"SignalEngine$Parser", "takeLocals", "(I)LSignalEngine$Node;"⟩ prog_9_method_18_code 7 (some (.object "SignalEngine$Node")) 810 19387 D G [.ref o, .int p1] Z (Sum.elim (fun q => (.inl (some (va_rf q.2), q.1) : hg_O)) hg_ox q) :=
  (hm_P2_ok l hlt D G hm_d2).2.2.2.2.2.2.2.1 Z o p1 q hq
noncomputable def hm_PA_takeEvery_r (G : hg_E) (S : hg_S) (o : Nat) (p1 : Int32) : Option ((hg_S × (Option Nat)) ⊕ hg_X) := (hm_P2 hm_d2).2.2.2.2.2.2.2.2.1 G S o p1
theorem hm_PA_takeEvery_r_ok (l : Launch) (hlt : l.stackTraces = false) (D : va_G) (G : hg_E) (Z : hg_S) (o : Nat) (p1 : Int32) (q : (hg_S × (Option Nat)) ⊕ hg_X) (hq : hm_PA_takeEvery_r G Z o p1 = some q) : hg_C l ⟨"SignalEngine$Parser", "takeEvery", "(I)LSignalEngine$Node;"⟩ prog_9_method_19_code 4 (some (.object "SignalEngine$Node")) 810 19387 D G [.ref o, .int p1] Z (Sum.elim (fun q => (.inl (some (va_rf q.2), q.1) : hg_O)) hg_ox q) :=
  (hm_P2_ok l hlt D G hm_d2).2.2.2.2.2.2.2.2.1 Z o p1 q hq
noncomputable def hm_PA_takeGuarded_r (G : hg_E) (S : hg_S) (o : Nat) (p1 : Option Nat) (p2 : Int32) : Option ((hg_S × (Option Nat)) ⊕ hg_X) := (hm_P2 hm_d2).2.2.2.2.2.2.2.2.2 G S o p1 p2
theorem hm_PA_takeGuarded_r_ok (l : Launch) (hlt : l.stackTraces = false) (D : va_G) (G : hg_E) (Z : hg_S) (o : Nat) (p1 : Option Nat) (p2 : Int32) (q : (hg_S × (Option Nat)) ⊕ hg_X) (hq : hm_PA_takeGuarded_r G Z o p1 p2 = some q) : hg_C l ⟨"SignalEngine$Parser", "takeGuarded", "(LSignalEngine$Token;I)LSignalEngine$Node;"⟩ prog_9_method_20_code 6 (some (.object "SignalEngine$Node")) 810 19387 D G [.ref o, va_rf p1, .int p2] Z (Sum.elim (fun q => (.inl (some (va_rf q.2), q.1) : hg_O)) hg_ox q) :=
  (hm_P2_ok l hlt D G hm_d2).2.2.2.2.2.2.2.2.2 Z o p1 p2 q hq
