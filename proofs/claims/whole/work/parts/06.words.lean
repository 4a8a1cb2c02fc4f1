/-! words that the walks use, each by its place; written by wip/gen -/
theorem w_1 : Cond.initialized "SignalEngine" ∈ tt := tt_of 1 (by decide +kernel) rfl
theorem w_2 : Cond.initialized "SignalEngineModel" ∈ tt := tt_of 2 (by decide +kernel) rfl
theorem w_44 : Cond.fieldLink "SignalEngine" 28 "SignalEngine" "fed" "Z" ∈ tt := tt_of 44 (by decide +kernel) rfl
theorem w_45 : Cond.fieldLink "SignalEngine" 52 "SignalEngine" "program" "LSignalEngine$Program;" ∈ tt := tt_of 45 (by decide +kernel) rfl
theorem w_49 : Cond.fieldLink "SignalEngine" 68 "SignalEngine" "held" "[Z" ∈ tt := tt_of 49 (by decide +kernel) rfl
theorem w_50 : Cond.fieldLink "SignalEngine" 78 "SignalEngine" "shown" "[I" ∈ tt := tt_of 50 (by decide +kernel) rfl
theorem w_54 : Cond.fieldLink "SignalEngine" 91 "SignalEngine" "explored" "Z" ∈ tt := tt_of 54 (by decide +kernel) rfl
theorem w_55 : Cond.fieldLink "SignalEngine" 94 "SignalEngine" "laid" "Z" ∈ tt := tt_of 55 (by decide +kernel) rfl
theorem w_1092 : Cond.methodLink "SignalEngine" 216 ⟨"SignalEngine", "together", "(II)I"⟩ ∈ tt := tt_of 1092 (by decide +kernel) rfl
theorem w_1093 : Cond.instanceMethod ⟨"SignalEngine", "together", "(II)I"⟩ ∈ tt := tt_of 1093 (by decide +kernel) rfl
theorem w_1094 : Cond.selects "SignalEngine" ⟨"SignalEngine", "together", "(II)I"⟩ ⟨"SignalEngine", "together", "(II)I"⟩ ∈ tt := tt_of 1094 (by decide +kernel) rfl
set_option maxRecDepth 100000 in
theorem w_1095 : Cond.code ⟨"SignalEngine", "together", "(II)I"⟩ prog_1_method_23_code 3 (Option.some Jvm.ClassFile.FieldType.int) ∈ tt := tt_of 1095 rfl rfl
theorem w_1562 : Cond.fieldLink "SignalEngineModel" 206 "SignalEngineModel" "thrown" "I" ∈ tt := tt_of 1562 (by decide +kernel) rfl
theorem w_1565 : Cond.fieldLink "SignalEngineModel" 213 "SignalEngineModel" "fed" "Z" ∈ tt := tt_of 1565 (by decide +kernel) rfl
theorem w_1603 : Cond.fieldLink "SignalEngineModel" 521 "SignalEngineModel" "there" "Z" ∈ tt := tt_of 1603 (by decide +kernel) rfl
theorem w_1604 : Cond.fieldLink "SignalEngineModel" 539 "SignalEngineModel" "nodes" "I" ∈ tt := tt_of 1604 (by decide +kernel) rfl
theorem w_1605 : Cond.fieldLink "SignalEngineModel" 501 "SignalEngineModel" "pieces" "I" ∈ tt := tt_of 1605 (by decide +kernel) rfl
theorem w_1606 : Cond.fieldLink "SignalEngineModel" 536 "SignalEngineModel" "signals" "I" ∈ tt := tt_of 1606 (by decide +kernel) rfl
theorem w_1607 : Cond.fieldLink "SignalEngineModel" 533 "SignalEngineModel" "ins" "I" ∈ tt := tt_of 1607 (by decide +kernel) rfl
theorem w_1608 : Cond.fieldLink "SignalEngineModel" 530 "SignalEngineModel" "outs" "I" ∈ tt := tt_of 1608 (by decide +kernel) rfl
theorem w_1609 : Cond.fieldLink "SignalEngineModel" 498 "SignalEngineModel" "pauses" "I" ∈ tt := tt_of 1609 (by decide +kernel) rfl
theorem w_1644 : Cond.fieldLink "SignalEngineModel" 545 "SignalEngineModel" "going" "I" ∈ tt := tt_of 1644 (by decide +kernel) rfl
theorem w_1647 : Cond.fieldLink "SignalEngineModel" 518 "SignalEngineModel" "explored" "Z" ∈ tt := tt_of 1647 (by decide +kernel) rfl
theorem w_1648 : Cond.fieldLink "SignalEngineModel" 515 "SignalEngineModel" "laid" "Z" ∈ tt := tt_of 1648 (by decide +kernel) rfl
theorem w_1649 : Cond.fieldLink "SignalEngineModel" 527 "SignalEngineModel" "states" "I" ∈ tt := tt_of 1649 (by decide +kernel) rfl
theorem w_1668 : Cond.fieldLink "SignalEngineModel" 524 "SignalEngineModel" "multiplexers" "I" ∈ tt := tt_of 1668 (by decide +kernel) rfl
theorem w_2152 : Cond.methodLink "SignalEngineModel" 615 ⟨"SignalEngineModel", "fails", "(ZZ)Z"⟩ ∈ tt := tt_of 2152 (by decide +kernel) rfl
theorem w_2154 : Cond.instanceMethod ⟨"SignalEngineModel", "fails", "(ZZ)Z"⟩ ∈ tt := tt_of 2154 (by decide +kernel) rfl
set_option maxRecDepth 100000 in
theorem w_2155 : Cond.code ⟨"SignalEngineModel", "fails", "(ZZ)Z"⟩ prog_15_method_3_code 3 (Option.some Jvm.ClassFile.FieldType.boolean) ∈ tt := tt_of 2155 rfl rfl
theorem w_2268 : Cond.methodLink "SignalEngineModel" 648 ⟨"SignalEngineModel", "placeOf", "(I)I"⟩ ∈ tt := tt_of 2268 (by decide +kernel) rfl
theorem w_2270 : Cond.instanceMethod ⟨"SignalEngineModel", "placeOf", "(I)I"⟩ ∈ tt := tt_of 2270 (by decide +kernel) rfl
set_option maxRecDepth 100000 in
theorem w_2271 : Cond.code ⟨"SignalEngineModel", "placeOf", "(I)I"⟩ prog_15_method_85_code 2 (Option.some Jvm.ClassFile.FieldType.int) ∈ tt := tt_of 2271 rfl rfl
theorem wp_126 : Cond.selects "SignalEngineModel" ⟨"SignalEngineModel", "fails", "(ZZ)Z"⟩ ⟨"SignalEngineModel", "fails", "(ZZ)Z"⟩ ∈ tt := tt_sel 126 (by decide +kernel) rfl
theorem wp_149 : Cond.selects "SignalEngineModel" ⟨"SignalEngineModel", "placeOf", "(I)I"⟩ ⟨"SignalEngineModel", "placeOf", "(I)I"⟩ ∈ tt := tt_sel 149 (by decide +kernel) rfl
theorem xin {ws : List Cond} (h : ws.all (fun w => decide (w ∈ tables_1) && (goodWord w || xn_is w)) = true) : ∀ w ∈ ws, w ∈ tt ∨ w ∈ nn := fun w hw => by
  have h1 := List.all_eq_true.mp h w hw
  simp only [Bool.and_eq_true, Bool.or_eq_true, decide_eq_true_eq] at h1
  rcases h1 with ⟨h1, h2 | h2⟩
  · exact Or.inl (List.mem_filter.mpr ⟨List.mem_append_right _ h1, h2⟩)
  · exact Or.inr (List.mem_filter.mpr ⟨h1, h2⟩)
set_option maxRecDepth 100000 in
theorem exA_SignalEngine_142_two : xc_two "SignalEngine" 142 "java/lang/IllegalStateException" ex_up := by unfold xc_two; decide +kernel
set_option maxRecDepth 100000 in
theorem exA_SignalEngine_142 : ∀ w ∈ xc_ws "SignalEngine" 140 142 "java/lang/IllegalStateException" ex_up, w ∈ tt ∨ w ∈ nn := xin (by decide +kernel)
