/-! words that the walks use, each by its place; written by wip/gen -/
theorem w_42 : Cond.fieldLink "SignalEngine" 9 "SignalEngine" "tape" "[B" ∈ tt := tt_of 42 (by decide +kernel) rfl
theorem w_43 : Cond.fieldLink "SignalEngine" 13 "SignalEngine" "length" "I" ∈ tt := tt_of 43 (by decide +kernel) rfl
theorem w_90 : Cond.constant "SignalEngine" 17 (32768 : Int32) ∈ tt := tt_of 90 (by decide +kernel) rfl
theorem w_107 : Cond.methodLink "SignalEngine" 24 ⟨"SignalEngine", "append", "(I)V"⟩ ∈ tt := tt_of 107 (by decide +kernel) rfl
theorem w_109 : Cond.instanceMethod ⟨"SignalEngine", "append", "(I)V"⟩ ∈ tt := tt_of 109 (by decide +kernel) rfl
set_option maxRecDepth 100000 in
theorem w_110 : Cond.code ⟨"SignalEngine", "append", "(I)V"⟩ prog_1_method_3_code 3 (Option.none : Option Jvm.ClassFile.FieldType) ∈ tt := tt_of 110 rfl rfl
theorem w_1148 : Cond.classLink "SignalEngineLaw" 13 "java/lang/IllegalStateException" ∈ tt := tt_of 1148 (by decide +kernel) rfl
theorem w_1149 : Cond.methodLink "SignalEngineLaw" 7 ⟨"SignalEngine", "restart", "()I"⟩ ∈ tt := tt_of 1149 (by decide +kernel) rfl
theorem w_1150 : Cond.instanceMethod ⟨"SignalEngine", "restart", "()I"⟩ ∈ tt := tt_of 1150 (by decide +kernel) rfl
theorem w_1151 : Cond.selects "SignalEngine" ⟨"SignalEngine", "restart", "()I"⟩ ⟨"SignalEngine", "restart", "()I"⟩ ∈ tt := tt_of 1151 (by decide +kernel) rfl
set_option maxRecDepth 100000 in
theorem w_1152 : Cond.code ⟨"SignalEngine", "restart", "()I"⟩ prog_1_method_10_code 2 (Option.some Jvm.ClassFile.FieldType.int) ∈ tt := tt_of 1152 rfl rfl
theorem w_1179 : Cond.methodLink "SignalEngineLaw" 15 ⟨"SignalEngine", "instant", "(I)I"⟩ ∈ tt := tt_of 1179 (by decide +kernel) rfl
theorem w_1180 : Cond.instanceMethod ⟨"SignalEngine", "instant", "(I)I"⟩ ∈ tt := tt_of 1180 (by decide +kernel) rfl
theorem w_1181 : Cond.selects "SignalEngine" ⟨"SignalEngine", "instant", "(I)I"⟩ ⟨"SignalEngine", "instant", "(I)I"⟩ ∈ tt := tt_of 1181 (by decide +kernel) rfl
set_option maxRecDepth 100000 in
theorem w_1182 : Cond.code ⟨"SignalEngine", "instant", "(I)I"⟩ prog_1_method_12_code 3 (Option.some Jvm.ClassFile.FieldType.int) ∈ tt := tt_of 1182 rfl rfl
theorem w_1299 : Cond.methodLink "SignalEngineLaw" 21 ⟨"SignalEngine", "go", "(I)V"⟩ ∈ tt := tt_of 1299 (by decide +kernel) rfl
theorem w_1300 : Cond.instanceMethod ⟨"SignalEngine", "go", "(I)V"⟩ ∈ tt := tt_of 1300 (by decide +kernel) rfl
theorem w_1301 : Cond.selects "SignalEngine" ⟨"SignalEngine", "go", "(I)V"⟩ ⟨"SignalEngine", "go", "(I)V"⟩ ∈ tt := tt_of 1301 (by decide +kernel) rfl
set_option maxRecDepth 100000 in
theorem w_1302 : Cond.code ⟨"SignalEngine", "go", "(I)V"⟩ prog_1_method_15_code 2 (Option.none : Option Jvm.ClassFile.FieldType) ∈ tt := tt_of 1302 rfl rfl
theorem w_1306 : Cond.methodLink "SignalEngineLaw" 25 ⟨"SignalEngine", "explore", "()I"⟩ ∈ tt := tt_of 1306 (by decide +kernel) rfl
theorem w_1307 : Cond.instanceMethod ⟨"SignalEngine", "explore", "()I"⟩ ∈ tt := tt_of 1307 (by decide +kernel) rfl
theorem w_1308 : Cond.selects "SignalEngine" ⟨"SignalEngine", "explore", "()I"⟩ ⟨"SignalEngine", "explore", "()I"⟩ ∈ tt := tt_of 1308 (by decide +kernel) rfl
set_option maxRecDepth 100000 in
theorem w_1309 : Cond.code ⟨"SignalEngine", "explore", "()I"⟩ prog_1_method_16_code 1 (Option.some Jvm.ClassFile.FieldType.int) ∈ tt := tt_of 1309 rfl rfl
theorem w_1422 : Cond.methodLink "SignalEngineLaw" 28 ⟨"SignalEngine", "next", "(II)I"⟩ ∈ tt := tt_of 1422 (by decide +kernel) rfl
theorem w_1423 : Cond.instanceMethod ⟨"SignalEngine", "next", "(II)I"⟩ ∈ tt := tt_of 1423 (by decide +kernel) rfl
theorem w_1424 : Cond.selects "SignalEngine" ⟨"SignalEngine", "next", "(II)I"⟩ ⟨"SignalEngine", "next", "(II)I"⟩ ∈ tt := tt_of 1424 (by decide +kernel) rfl
set_option maxRecDepth 100000 in
theorem w_1425 : Cond.code ⟨"SignalEngine", "next", "(II)I"⟩ prog_1_method_19_code 3 (Option.some Jvm.ClassFile.FieldType.int) ∈ tt := tt_of 1425 rfl rfl
theorem w_1434 : Cond.methodLink "SignalEngineLaw" 32 ⟨"SignalEngine", "shows", "(II)I"⟩ ∈ tt := tt_of 1434 (by decide +kernel) rfl
theorem w_1435 : Cond.instanceMethod ⟨"SignalEngine", "shows", "(II)I"⟩ ∈ tt := tt_of 1435 (by decide +kernel) rfl
theorem w_1436 : Cond.selects "SignalEngine" ⟨"SignalEngine", "shows", "(II)I"⟩ ⟨"SignalEngine", "shows", "(II)I"⟩ ∈ tt := tt_of 1436 (by decide +kernel) rfl
set_option maxRecDepth 100000 in
theorem w_1437 : Cond.code ⟨"SignalEngine", "shows", "(II)I"⟩ prog_1_method_20_code 3 (Option.some Jvm.ClassFile.FieldType.int) ∈ tt := tt_of 1437 rfl rfl
theorem w_1441 : Cond.methodLink "SignalEngineLaw" 35 ⟨"SignalEngine", "classes", "()I"⟩ ∈ tt := tt_of 1441 (by decide +kernel) rfl
theorem w_1442 : Cond.instanceMethod ⟨"SignalEngine", "classes", "()I"⟩ ∈ tt := tt_of 1442 (by decide +kernel) rfl
theorem w_1443 : Cond.selects "SignalEngine" ⟨"SignalEngine", "classes", "()I"⟩ ⟨"SignalEngine", "classes", "()I"⟩ ∈ tt := tt_of 1443 (by decide +kernel) rfl
set_option maxRecDepth 100000 in
theorem w_1444 : Cond.code ⟨"SignalEngine", "classes", "()I"⟩ prog_1_method_24_code 1 (Option.some Jvm.ClassFile.FieldType.int) ∈ tt := tt_of 1444 rfl rfl
theorem w_1448 : Cond.methodLink "SignalEngineLaw" 38 ⟨"SignalEngine", "lay", "()I"⟩ ∈ tt := tt_of 1448 (by decide +kernel) rfl
theorem w_1449 : Cond.instanceMethod ⟨"SignalEngine", "lay", "()I"⟩ ∈ tt := tt_of 1449 (by decide +kernel) rfl
theorem w_1450 : Cond.selects "SignalEngine" ⟨"SignalEngine", "lay", "()I"⟩ ⟨"SignalEngine", "lay", "()I"⟩ ∈ tt := tt_of 1450 (by decide +kernel) rfl
set_option maxRecDepth 100000 in
theorem w_1451 : Cond.code ⟨"SignalEngine", "lay", "()I"⟩ prog_1_method_26_code 1 (Option.some Jvm.ClassFile.FieldType.int) ∈ tt := tt_of 1451 rfl rfl
theorem w_1540 : Cond.methodLink "SignalEngineLaw" 41 ⟨"SignalEngine", "pass", "(I)J"⟩ ∈ tt := tt_of 1540 (by decide +kernel) rfl
theorem w_1541 : Cond.instanceMethod ⟨"SignalEngine", "pass", "(I)J"⟩ ∈ tt := tt_of 1541 (by decide +kernel) rfl
theorem w_1542 : Cond.selects "SignalEngine" ⟨"SignalEngine", "pass", "(I)J"⟩ ⟨"SignalEngine", "pass", "(I)J"⟩ ∈ tt := tt_of 1542 (by decide +kernel) rfl
set_option maxRecDepth 100000 in
theorem w_1543 : Cond.code ⟨"SignalEngine", "pass", "(I)J"⟩ prog_1_method_27_code 2 (Option.some Jvm.ClassFile.FieldType.long) ∈ tt := tt_of 1543 rfl rfl
theorem w_1558 : Cond.constant "SignalEngineModel" 9 (32768 : Int32) ∈ tt := tt_of 1558 (by decide +kernel) rfl
theorem w_1563 : Cond.fieldLink "SignalEngineModel" 10 "SignalEngineModel" "tape" "[B" ∈ tt := tt_of 1563 (by decide +kernel) rfl
theorem w_1564 : Cond.fieldLink "SignalEngineModel" 210 "SignalEngineModel" "taped" "I" ∈ tt := tt_of 1564 (by decide +kernel) rfl
theorem w_1610 : Cond.fieldLink "SignalEngineModel" 507 "SignalEngineModel" "weights" "I" ∈ tt := tt_of 1610 (by decide +kernel) rfl
theorem w_1611 : Cond.fieldLink "SignalEngineModel" 504 "SignalEngineModel" "traps" "I" ∈ tt := tt_of 1611 (by decide +kernel) rfl
theorem w_1645 : Cond.fieldLink "SignalEngineModel" 542 "SignalEngineModel" "reactions" "I" ∈ tt := tt_of 1645 (by decide +kernel) rfl
theorem wp_0 : Cond.selects "SignalEngine" ⟨"SignalEngine", "append", "(I)V"⟩ ⟨"SignalEngine", "append", "(I)V"⟩ ∈ tt := tt_sel 0 (by decide +kernel) rfl
theorem dsw_prog_15_method_110_code_8 : decode prog_15_method_110_code 8 = .ok (.tableswitch 271 0 15 #[80, 85, 90, 95, 100, 115, 120, 125, 130, 148, 153, 158, 163, 198, 214, 255], 80) := by decide +kernel
/-- count(what) on an object without a program -/
def cnt (w : Int32) : Int32 := if w < 0 then -1 else if w ≤ 15 then 0 else -1
theorem cnt_out {w : Int32} (h : w.toInt < 0 ∨ 15 < w.toInt) : -1 = cnt w := by
  unfold cnt
  by_cases h0 : w < 0
  · rw [if_pos h0]
  · rw [if_neg h0]
    by_cases h1 : w ≤ 15
    · exfalso
      simp only [Int32.lt_iff_toInt_lt, Int32.le_iff_toInt_le] at h0 h1
      have e0 : (0 : Int32).toInt = 0 := by decide
      have e1 : (15 : Int32).toInt = 15 := by decide
      omega
    · rw [if_neg h1]
