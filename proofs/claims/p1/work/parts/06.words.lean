/-! words that the walks use, each by its place; written by wip/gen -/
theorem w_1 : Cond.initialized "SignalEngine" ∈ tt := tt_of 1 (by decide +kernel) rfl
theorem w_44 : Cond.fieldLink "SignalEngine" 28 "SignalEngine" "fed" "Z" ∈ tt := tt_of 44 (by decide +kernel) rfl
theorem w_45 : Cond.fieldLink "SignalEngine" 52 "SignalEngine" "program" "LSignalEngine$Program;" ∈ tt := tt_of 45 (by decide +kernel) rfl
theorem w_49 : Cond.fieldLink "SignalEngine" 68 "SignalEngine" "held" "[Z" ∈ tt := tt_of 49 (by decide +kernel) rfl
theorem w_50 : Cond.fieldLink "SignalEngine" 78 "SignalEngine" "shown" "[I" ∈ tt := tt_of 50 (by decide +kernel) rfl
theorem w_54 : Cond.fieldLink "SignalEngine" 91 "SignalEngine" "explored" "Z" ∈ tt := tt_of 54 (by decide +kernel) rfl
theorem w_55 : Cond.fieldLink "SignalEngine" 94 "SignalEngine" "laid" "Z" ∈ tt := tt_of 55 (by decide +kernel) rfl
theorem w_1092 : Cond.methodLink "SignalEngine" 216 ⟨"SignalEngine", "together", "(II)I"⟩ ∈ tt := tt_of 1092 (by decide +kernel) rfl
theorem w_1093 : Cond.instanceMethod ⟨"SignalEngine", "together", "(II)I"⟩ ∈ tt := tt_of 1093 (by decide +kernel) rfl
theorem w_1094 : Cond.selects "SignalEngine" ⟨"SignalEngine", "together", "(II)I"⟩ ⟨"SignalEngine", "together", "(II)I"⟩ ∈ tt := tt_of 1094 (by decide +kernel) rfl
set_option maxRecDepth 100000 in
theorem w_1095 : Cond.code ⟨"SignalEngine", "together", "(II)I"⟩ prog_1_method_23_code 3 (Option.some Jvm.ClassFile.FieldType.int) ∈ tt := tt_of 1095 rfl rfl
theorem xin {ws : List Cond} (h : ws.all (fun w => decide (w ∈ tables_1) && (goodWord w || xn_is w)) = true) : ∀ w ∈ ws, w ∈ tt ∨ w ∈ nn := fun w hw => by
  have h1 := List.all_eq_true.mp h w hw
  simp only [Bool.and_eq_true, Bool.or_eq_true, decide_eq_true_eq] at h1
  rcases h1 with ⟨h1, h2 | h2⟩
  · exact Or.inl (List.mem_filter.mpr ⟨List.mem_append_right _ h1, h2⟩)
  · exact Or.inr (List.mem_filter.mpr ⟨h1, h2⟩)
set_option maxRecDepth 100000 in
theorem exA_SignalEngine_142_two : xc_two "SignalEngine" 142 "java/lang/IllegalStateException" ex_up := by unfold xc_two; decide +kernel
set_option maxRecDepth 100000 in
theorem exA_SignalEngine_142 : ∀ w ∈ xc_ws "SignalEngine" 140 142 "java/lang/IllegalStateException" ex_up, w ∈ tt ∨ w ∈ nn := xin (by decide +kernel)
