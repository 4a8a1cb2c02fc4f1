/-! words that the walks use, each by its place; written by wip/gen -/
theorem w_0 : Cond.initialized "SignalEngineLaw" ∈ tt := tt_of 0 (by decide +kernel) rfl
theorem w_34 : Cond.classLink "SignalEngineLaw" 8 "SignalEngine" ∈ tt := tt_of 34 (by decide +kernel) rfl
theorem w_35 : Cond.instantiable "SignalEngine" 14 ∈ tt := tt_of 35 (by decide +kernel) rfl
theorem w_36 : Cond.methodLink "SignalEngineLaw" 45 ⟨"SignalEngine", "<init>", "()V"⟩ ∈ tt := tt_of 36 (by decide +kernel) rfl
theorem w_37 : Cond.instanceMethod ⟨"SignalEngine", "<init>", "()V"⟩ ∈ tt := tt_of 37 (by decide +kernel) rfl
set_option maxRecDepth 100000 in
theorem w_38 : Cond.code ⟨"SignalEngine", "<init>", "()V"⟩ prog_1_method_1_code 1 (Option.none : Option Jvm.ClassFile.FieldType) ∈ tt := tt_of 38 rfl rfl
theorem w_86 : Cond.methodLink "SignalEngineLaw" 49 ⟨"SignalEngine", "feed", "(IIIII)I"⟩ ∈ tt := tt_of 86 (by decide +kernel) rfl
theorem w_87 : Cond.instanceMethod ⟨"SignalEngine", "feed", "(IIIII)I"⟩ ∈ tt := tt_of 87 (by decide +kernel) rfl
theorem w_88 : Cond.selects "SignalEngine" ⟨"SignalEngine", "feed", "(IIIII)I"⟩ ⟨"SignalEngine", "feed", "(IIIII)I"⟩ ∈ tt := tt_of 88 (by decide +kernel) rfl
set_option maxRecDepth 100000 in
theorem w_89 : Cond.code ⟨"SignalEngine", "feed", "(IIIII)I"⟩ prog_1_method_2_code 6 (Option.some Jvm.ClassFile.FieldType.int) ∈ tt := tt_of 89 rfl rfl
theorem w_111 : Cond.methodLink "SignalEngineLaw" 54 ⟨"SignalEngine", "end", "(I)I"⟩ ∈ tt := tt_of 111 (by decide +kernel) rfl
theorem w_112 : Cond.instanceMethod ⟨"SignalEngine", "end", "(I)I"⟩ ∈ tt := tt_of 112 (by decide +kernel) rfl
theorem w_113 : Cond.selects "SignalEngine" ⟨"SignalEngine", "end", "(I)I"⟩ ⟨"SignalEngine", "end", "(I)I"⟩ ∈ tt := tt_of 113 (by decide +kernel) rfl
set_option maxRecDepth 100000 in
theorem w_114 : Cond.code ⟨"SignalEngine", "end", "(I)I"⟩ prog_1_method_4_code 2 (Option.some Jvm.ClassFile.FieldType.int) ∈ tt := tt_of 114 rfl rfl
theorem w_115 : Cond.methodLink "SignalEngineLaw" 58 ⟨"SignalEngine", "read", "()I"⟩ ∈ tt := tt_of 115 (by decide +kernel) rfl
theorem w_116 : Cond.instanceMethod ⟨"SignalEngine", "read", "()I"⟩ ∈ tt := tt_of 116 (by decide +kernel) rfl
theorem w_117 : Cond.selects "SignalEngine" ⟨"SignalEngine", "read", "()I"⟩ ⟨"SignalEngine", "read", "()I"⟩ ∈ tt := tt_of 117 (by decide +kernel) rfl
set_option maxRecDepth 100000 in
theorem w_118 : Cond.code ⟨"SignalEngine", "read", "()I"⟩ prog_1_method_5_code 4 (Option.some Jvm.ClassFile.FieldType.int) ∈ tt := tt_of 118 rfl rfl
theorem w_547 : Cond.instantiable "SignalEngine$Node" 13 ∈ tt := tt_of 547 (by decide +kernel) rfl
theorem w_860 : Cond.instantiable "SignalEngine$Program" 17 ∈ tt := tt_of 860 (by decide +kernel) rfl
theorem w_975 : Cond.instantiable "SignalEngine$Reactor" 18 ∈ tt := tt_of 975 (by decide +kernel) rfl
theorem w_1044 : Cond.methodLink "SignalEngineLaw" 62 ⟨"SignalEngine", "node", "(II)I"⟩ ∈ tt := tt_of 1044 (by decide +kernel) rfl
theorem w_1045 : Cond.instanceMethod ⟨"SignalEngine", "node", "(II)I"⟩ ∈ tt := tt_of 1045 (by decide +kernel) rfl
theorem w_1046 : Cond.selects "SignalEngine" ⟨"SignalEngine", "node", "(II)I"⟩ ⟨"SignalEngine", "node", "(II)I"⟩ ∈ tt := tt_of 1046 (by decide +kernel) rfl
set_option maxRecDepth 100000 in
theorem w_1047 : Cond.code ⟨"SignalEngine", "node", "(II)I"⟩ prog_1_method_7_code 3 (Option.some Jvm.ClassFile.FieldType.int) ∈ tt := tt_of 1047 rfl rfl
theorem w_1048 : Cond.methodLink "SignalEngineLaw" 66 ⟨"SignalEngine", "piece", "(II)I"⟩ ∈ tt := tt_of 1048 (by decide +kernel) rfl
theorem w_1049 : Cond.instanceMethod ⟨"SignalEngine", "piece", "(II)I"⟩ ∈ tt := tt_of 1049 (by decide +kernel) rfl
theorem w_1050 : Cond.selects "SignalEngine" ⟨"SignalEngine", "piece", "(II)I"⟩ ⟨"SignalEngine", "piece", "(II)I"⟩ ∈ tt := tt_of 1050 (by decide +kernel) rfl
set_option maxRecDepth 100000 in
theorem w_1051 : Cond.code ⟨"SignalEngine", "piece", "(II)I"⟩ prog_1_method_8_code 3 (Option.some Jvm.ClassFile.FieldType.int) ∈ tt := tt_of 1051 rfl rfl
theorem w_1052 : Cond.methodLink "SignalEngineLaw" 70 ⟨"SignalEngine", "letter", "(II)I"⟩ ∈ tt := tt_of 1052 (by decide +kernel) rfl
theorem w_1053 : Cond.instanceMethod ⟨"SignalEngine", "letter", "(II)I"⟩ ∈ tt := tt_of 1053 (by decide +kernel) rfl
theorem w_1054 : Cond.selects "SignalEngine" ⟨"SignalEngine", "letter", "(II)I"⟩ ⟨"SignalEngine", "letter", "(II)I"⟩ ∈ tt := tt_of 1054 (by decide +kernel) rfl
set_option maxRecDepth 100000 in
theorem w_1055 : Cond.code ⟨"SignalEngine", "letter", "(II)I"⟩ prog_1_method_9_code 3 (Option.some Jvm.ClassFile.FieldType.int) ∈ tt := tt_of 1055 rfl rfl
theorem w_1060 : Cond.methodLink "SignalEngineLaw" 87 ⟨"SignalEngine", "status", "(I)I"⟩ ∈ tt := tt_of 1060 (by decide +kernel) rfl
theorem w_1061 : Cond.instanceMethod ⟨"SignalEngine", "status", "(I)I"⟩ ∈ tt := tt_of 1061 (by decide +kernel) rfl
theorem w_1062 : Cond.selects "SignalEngine" ⟨"SignalEngine", "status", "(I)I"⟩ ⟨"SignalEngine", "status", "(I)I"⟩ ∈ tt := tt_of 1062 (by decide +kernel) rfl
set_option maxRecDepth 100000 in
theorem w_1063 : Cond.code ⟨"SignalEngine", "status", "(I)I"⟩ prog_1_method_13_code 2 (Option.some Jvm.ClassFile.FieldType.int) ∈ tt := tt_of 1063 rfl rfl
theorem w_1064 : Cond.methodLink "SignalEngineLaw" 91 ⟨"SignalEngine", "selected", "(I)Z"⟩ ∈ tt := tt_of 1064 (by decide +kernel) rfl
theorem w_1065 : Cond.instanceMethod ⟨"SignalEngine", "selected", "(I)Z"⟩ ∈ tt := tt_of 1065 (by decide +kernel) rfl
theorem w_1066 : Cond.selects "SignalEngine" ⟨"SignalEngine", "selected", "(I)Z"⟩ ⟨"SignalEngine", "selected", "(I)Z"⟩ ∈ tt := tt_of 1066 (by decide +kernel) rfl
set_option maxRecDepth 100000 in
theorem w_1067 : Cond.code ⟨"SignalEngine", "selected", "(I)Z"⟩ prog_1_method_14_code 2 (Option.some Jvm.ClassFile.FieldType.boolean) ∈ tt := tt_of 1067 rfl rfl
theorem w_1068 : Cond.methodLink "SignalEngineLaw" 103 ⟨"SignalEngine", "distance", "(I)I"⟩ ∈ tt := tt_of 1068 (by decide +kernel) rfl
theorem w_1069 : Cond.instanceMethod ⟨"SignalEngine", "distance", "(I)I"⟩ ∈ tt := tt_of 1069 (by decide +kernel) rfl
theorem w_1070 : Cond.selects "SignalEngine" ⟨"SignalEngine", "distance", "(I)I"⟩ ⟨"SignalEngine", "distance", "(I)I"⟩ ∈ tt := tt_of 1070 (by decide +kernel) rfl
set_option maxRecDepth 100000 in
theorem w_1071 : Cond.code ⟨"SignalEngine", "distance", "(I)I"⟩ prog_1_method_17_code 2 (Option.some Jvm.ClassFile.FieldType.int) ∈ tt := tt_of 1071 rfl rfl
theorem w_1076 : Cond.methodLink "SignalEngineLaw" 107 ⟨"SignalEngine", "path", "(II)I"⟩ ∈ tt := tt_of 1076 (by decide +kernel) rfl
theorem w_1077 : Cond.instanceMethod ⟨"SignalEngine", "path", "(II)I"⟩ ∈ tt := tt_of 1077 (by decide +kernel) rfl
theorem w_1078 : Cond.selects "SignalEngine" ⟨"SignalEngine", "path", "(II)I"⟩ ⟨"SignalEngine", "path", "(II)I"⟩ ∈ tt := tt_of 1078 (by decide +kernel) rfl
set_option maxRecDepth 100000 in
theorem w_1079 : Cond.code ⟨"SignalEngine", "path", "(II)I"⟩ prog_1_method_18_code 3 (Option.some Jvm.ClassFile.FieldType.int) ∈ tt := tt_of 1079 rfl rfl
theorem w_1084 : Cond.methodLink "SignalEngineLaw" 118 ⟨"SignalEngine", "doubt", "(I)I"⟩ ∈ tt := tt_of 1084 (by decide +kernel) rfl
theorem w_1085 : Cond.instanceMethod ⟨"SignalEngine", "doubt", "(I)I"⟩ ∈ tt := tt_of 1085 (by decide +kernel) rfl
theorem w_1086 : Cond.selects "SignalEngine" ⟨"SignalEngine", "doubt", "(I)I"⟩ ⟨"SignalEngine", "doubt", "(I)I"⟩ ∈ tt := tt_of 1086 (by decide +kernel) rfl
set_option maxRecDepth 100000 in
theorem w_1087 : Cond.code ⟨"SignalEngine", "doubt", "(I)I"⟩ prog_1_method_21_code 2 (Option.some Jvm.ClassFile.FieldType.int) ∈ tt := tt_of 1087 rfl rfl
theorem w_1088 : Cond.methodLink "SignalEngineLaw" 122 ⟨"SignalEngine", "ever", "(I)I"⟩ ∈ tt := tt_of 1088 (by decide +kernel) rfl
theorem w_1089 : Cond.instanceMethod ⟨"SignalEngine", "ever", "(I)I"⟩ ∈ tt := tt_of 1089 (by decide +kernel) rfl
theorem w_1090 : Cond.selects "SignalEngine" ⟨"SignalEngine", "ever", "(I)I"⟩ ⟨"SignalEngine", "ever", "(I)I"⟩ ∈ tt := tt_of 1090 (by decide +kernel) rfl
set_option maxRecDepth 100000 in
theorem w_1091 : Cond.code ⟨"SignalEngine", "ever", "(I)I"⟩ prog_1_method_22_code 3 (Option.some Jvm.ClassFile.FieldType.int) ∈ tt := tt_of 1091 rfl rfl
theorem w_1107 : Cond.methodLink "SignalEngineLaw" 126 ⟨"SignalEngine", "together", "(II)I"⟩ ∈ tt := tt_of 1107 (by decide +kernel) rfl
theorem w_1108 : Cond.methodLink "SignalEngineLaw" 133 ⟨"SignalEngine", "alike", "(I)I"⟩ ∈ tt := tt_of 1108 (by decide +kernel) rfl
theorem w_1109 : Cond.instanceMethod ⟨"SignalEngine", "alike", "(I)I"⟩ ∈ tt := tt_of 1109 (by decide +kernel) rfl
theorem w_1110 : Cond.selects "SignalEngine" ⟨"SignalEngine", "alike", "(I)I"⟩ ⟨"SignalEngine", "alike", "(I)I"⟩ ∈ tt := tt_of 1110 (by decide +kernel) rfl
set_option maxRecDepth 100000 in
theorem w_1111 : Cond.code ⟨"SignalEngine", "alike", "(I)I"⟩ prog_1_method_25_code 2 (Option.some Jvm.ClassFile.FieldType.int) ∈ tt := tt_of 1111 rfl rfl
theorem w_1112 : Cond.methodLink "SignalEngineLaw" 143 ⟨"SignalEngine", "level", "(I)I"⟩ ∈ tt := tt_of 1112 (by decide +kernel) rfl
theorem w_1113 : Cond.instanceMethod ⟨"SignalEngine", "level", "(I)I"⟩ ∈ tt := tt_of 1113 (by decide +kernel) rfl
theorem w_1114 : Cond.selects "SignalEngine" ⟨"SignalEngine", "level", "(I)I"⟩ ⟨"SignalEngine", "level", "(I)I"⟩ ∈ tt := tt_of 1114 (by decide +kernel) rfl
set_option maxRecDepth 100000 in
theorem w_1115 : Cond.code ⟨"SignalEngine", "level", "(I)I"⟩ prog_1_method_28_code 2 (Option.some Jvm.ClassFile.FieldType.int) ∈ tt := tt_of 1115 rfl rfl
theorem w_1116 : Cond.methodLink "SignalEngineLaw" 147 ⟨"SignalEngine", "size", "(I)I"⟩ ∈ tt := tt_of 1116 (by decide +kernel) rfl
theorem w_1117 : Cond.instanceMethod ⟨"SignalEngine", "size", "(I)I"⟩ ∈ tt := tt_of 1117 (by decide +kernel) rfl
theorem w_1118 : Cond.selects "SignalEngine" ⟨"SignalEngine", "size", "(I)I"⟩ ⟨"SignalEngine", "size", "(I)I"⟩ ∈ tt := tt_of 1118 (by decide +kernel) rfl
set_option maxRecDepth 100000 in
theorem w_1119 : Cond.code ⟨"SignalEngine", "size", "(I)I"⟩ prog_1_method_29_code 2 (Option.some Jvm.ClassFile.FieldType.int) ∈ tt := tt_of 1119 rfl rfl
theorem w_1124 : Cond.methodLink "SignalEngineLaw" 151 ⟨"SignalEngine", "count", "(I)I"⟩ ∈ tt := tt_of 1124 (by decide +kernel) rfl
theorem w_1125 : Cond.instanceMethod ⟨"SignalEngine", "count", "(I)I"⟩ ∈ tt := tt_of 1125 (by decide +kernel) rfl
theorem w_1126 : Cond.selects "SignalEngine" ⟨"SignalEngine", "count", "(I)I"⟩ ⟨"SignalEngine", "count", "(I)I"⟩ ∈ tt := tt_of 1126 (by decide +kernel) rfl
set_option maxRecDepth 100000 in
theorem w_1127 : Cond.code ⟨"SignalEngine", "count", "(I)I"⟩ prog_1_method_30_code 2 (Option.some Jvm.ClassFile.FieldType.int) ∈ tt := tt_of 1127 rfl rfl
theorem w_1145 : Cond.methodLink "SignalEngineLaw" 74 ⟨"SignalEngineLaw", "restart", "(LSignalEngine;[J)I"⟩ ∈ tt := tt_of 1145 (by decide +kernel) rfl
theorem w_1146 : Cond.static ⟨"SignalEngineLaw", "restart", "(LSignalEngine;[J)I"⟩ ∈ tt := tt_of 1146 (by decide +kernel) rfl
set_option maxRecDepth 100000 in
theorem w_1147 : Cond.codeWith ⟨"SignalEngineLaw", "restart", "(LSignalEngine;[J)I"⟩ method_3_code 3 (Option.some Jvm.ClassFile.FieldType.int) [(0, 8, 11, 13)] ∈ tt := tt_of 1147 rfl rfl
theorem w_1175 : Cond.methodLink "SignalEngineLaw" 83 ⟨"SignalEngineLaw", "instant", "(LSignalEngine;I[J)I"⟩ ∈ tt := tt_of 1175 (by decide +kernel) rfl
theorem w_1176 : Cond.static ⟨"SignalEngineLaw", "instant", "(LSignalEngine;I[J)I"⟩ ∈ tt := tt_of 1176 (by decide +kernel) rfl
set_option maxRecDepth 100000 in
theorem w_1177 : Cond.codeWith ⟨"SignalEngineLaw", "instant", "(LSignalEngine;I[J)I"⟩ method_4_code 4 (Option.some Jvm.ClassFile.FieldType.int) [(0, 9, 12, 13), (0, 9, 15, 19)] ∈ tt := tt_of 1177 rfl rfl
theorem w_1296 : Cond.methodLink "SignalEngineLaw" 96 ⟨"SignalEngineLaw", "go", "(LSignalEngine;I)I"⟩ ∈ tt := tt_of 1296 (by decide +kernel) rfl
theorem w_1297 : Cond.static ⟨"SignalEngineLaw", "go", "(LSignalEngine;I)I"⟩ ∈ tt := tt_of 1297 (by decide +kernel) rfl
set_option maxRecDepth 100000 in
theorem w_1298 : Cond.codeWith ⟨"SignalEngineLaw", "go", "(LSignalEngine;I)I"⟩ method_5_code 3 (Option.some Jvm.ClassFile.FieldType.int) [(0, 5, 8, 13), (0, 5, 11, 19)] ∈ tt := tt_of 1298 rfl rfl
theorem w_1303 : Cond.methodLink "SignalEngineLaw" 100 ⟨"SignalEngineLaw", "explore", "(LSignalEngine;[J)I"⟩ ∈ tt := tt_of 1303 (by decide +kernel) rfl
theorem w_1304 : Cond.static ⟨"SignalEngineLaw", "explore", "(LSignalEngine;[J)I"⟩ ∈ tt := tt_of 1304 (by decide +kernel) rfl
set_option maxRecDepth 100000 in
theorem w_1305 : Cond.codeWith ⟨"SignalEngineLaw", "explore", "(LSignalEngine;[J)I"⟩ method_6_code 3 (Option.some Jvm.ClassFile.FieldType.int) [(0, 8, 11, 13)] ∈ tt := tt_of 1305 rfl rfl
theorem w_1315 : Cond.instantiable "SignalEngine$Atlas" 15 ∈ tt := tt_of 1315 (by decide +kernel) rfl
theorem w_1419 : Cond.methodLink "SignalEngineLaw" 111 ⟨"SignalEngineLaw", "next", "(LSignalEngine;II[J)I"⟩ ∈ tt := tt_of 1419 (by decide +kernel) rfl
theorem w_1420 : Cond.static ⟨"SignalEngineLaw", "next", "(LSignalEngine;II[J)I"⟩ ∈ tt := tt_of 1420 (by decide +kernel) rfl
set_option maxRecDepth 100000 in
theorem w_1421 : Cond.codeWith ⟨"SignalEngineLaw", "next", "(LSignalEngine;II[J)I"⟩ method_7_code 5 (Option.some Jvm.ClassFile.FieldType.int) [(0, 10, 13, 13)] ∈ tt := tt_of 1421 rfl rfl
theorem w_1431 : Cond.methodLink "SignalEngineLaw" 115 ⟨"SignalEngineLaw", "shows", "(LSignalEngine;II[J)I"⟩ ∈ tt := tt_of 1431 (by decide +kernel) rfl
theorem w_1432 : Cond.static ⟨"SignalEngineLaw", "shows", "(LSignalEngine;II[J)I"⟩ ∈ tt := tt_of 1432 (by decide +kernel) rfl
set_option maxRecDepth 100000 in
theorem w_1433 : Cond.codeWith ⟨"SignalEngineLaw", "shows", "(LSignalEngine;II[J)I"⟩ method_8_code 5 (Option.some Jvm.ClassFile.FieldType.int) [(0, 10, 13, 13)] ∈ tt := tt_of 1433 rfl rfl
theorem w_1438 : Cond.methodLink "SignalEngineLaw" 130 ⟨"SignalEngineLaw", "classes", "(LSignalEngine;[J)I"⟩ ∈ tt := tt_of 1438 (by decide +kernel) rfl
theorem w_1439 : Cond.static ⟨"SignalEngineLaw", "classes", "(LSignalEngine;[J)I"⟩ ∈ tt := tt_of 1439 (by decide +kernel) rfl
set_option maxRecDepth 100000 in
theorem w_1440 : Cond.codeWith ⟨"SignalEngineLaw", "classes", "(LSignalEngine;[J)I"⟩ method_9_code 3 (Option.some Jvm.ClassFile.FieldType.int) [(0, 8, 11, 13)] ∈ tt := tt_of 1440 rfl rfl
theorem w_1445 : Cond.methodLink "SignalEngineLaw" 137 ⟨"SignalEngineLaw", "lay", "(LSignalEngine;[J)I"⟩ ∈ tt := tt_of 1445 (by decide +kernel) rfl
theorem w_1446 : Cond.static ⟨"SignalEngineLaw", "lay", "(LSignalEngine;[J)I"⟩ ∈ tt := tt_of 1446 (by decide +kernel) rfl
set_option maxRecDepth 100000 in
theorem w_1447 : Cond.codeWith ⟨"SignalEngineLaw", "lay", "(LSignalEngine;[J)I"⟩ method_10_code 3 (Option.some Jvm.ClassFile.FieldType.int) [(0, 8, 11, 13)] ∈ tt := tt_of 1447 rfl rfl
theorem w_1453 : Cond.instantiable "SignalEngine$Net" 15 ∈ tt := tt_of 1453 (by decide +kernel) rfl
theorem w_1537 : Cond.methodLink "SignalEngineLaw" 140 ⟨"SignalEngineLaw", "pass", "(LSignalEngine;I[J)I"⟩ ∈ tt := tt_of 1537 (by decide +kernel) rfl
theorem w_1538 : Cond.static ⟨"SignalEngineLaw", "pass", "(LSignalEngine;I[J)I"⟩ ∈ tt := tt_of 1538 (by decide +kernel) rfl
set_option maxRecDepth 100000 in
theorem w_1539 : Cond.codeWith ⟨"SignalEngineLaw", "pass", "(LSignalEngine;I[J)I"⟩ method_11_code 4 (Option.some Jvm.ClassFile.FieldType.int) [(0, 8, 11, 13), (0, 8, 14, 19)] ∈ tt := tt_of 1539 rfl rfl
theorem w_1552 : Cond.classLink "SignalEngineLaw" 46 "SignalEngineModel" ∈ tt := tt_of 1552 (by decide +kernel) rfl
theorem w_1553 : Cond.instantiable "SignalEngineModel" 107 ∈ tt := tt_of 1553 (by decide +kernel) rfl
theorem w_1554 : Cond.methodLink "SignalEngineLaw" 48 ⟨"SignalEngineModel", "<init>", "()V"⟩ ∈ tt := tt_of 1554 (by decide +kernel) rfl
theorem w_1555 : Cond.instanceMethod ⟨"SignalEngineModel", "<init>", "()V"⟩ ∈ tt := tt_of 1555 (by decide +kernel) rfl
set_option maxRecDepth 100000 in
theorem w_1556 : Cond.code ⟨"SignalEngineModel", "<init>", "()V"⟩ prog_15_method_1_code 1 (Option.none : Option Jvm.ClassFile.FieldType) ∈ tt := tt_of 1556 rfl rfl
theorem w_1885 : Cond.methodLink "SignalEngineLaw" 80 ⟨"SignalEngineModel", "thrown", "()I"⟩ ∈ tt := tt_of 1885 (by decide +kernel) rfl
theorem w_1886 : Cond.instanceMethod ⟨"SignalEngineModel", "thrown", "()I"⟩ ∈ tt := tt_of 1886 (by decide +kernel) rfl
theorem w_1887 : Cond.selects "SignalEngineModel" ⟨"SignalEngineModel", "thrown", "()I"⟩ ⟨"SignalEngineModel", "thrown", "()I"⟩ ∈ tt := tt_of 1887 (by decide +kernel) rfl
set_option maxRecDepth 100000 in
theorem w_1888 : Cond.code ⟨"SignalEngineModel", "thrown", "()I"⟩ prog_15_method_2_code 1 (Option.some Jvm.ClassFile.FieldType.int) ∈ tt := tt_of 1888 rfl rfl
theorem w_1889 : Cond.methodLink "SignalEngineLaw" 53 ⟨"SignalEngineModel", "feed", "(IIIII)I"⟩ ∈ tt := tt_of 1889 (by decide +kernel) rfl
theorem w_1890 : Cond.instanceMethod ⟨"SignalEngineModel", "feed", "(IIIII)I"⟩ ∈ tt := tt_of 1890 (by decide +kernel) rfl
theorem w_1891 : Cond.selects "SignalEngineModel" ⟨"SignalEngineModel", "feed", "(IIIII)I"⟩ ⟨"SignalEngineModel", "feed", "(IIIII)I"⟩ ∈ tt := tt_of 1891 (by decide +kernel) rfl
set_option maxRecDepth 100000 in
theorem w_1892 : Cond.code ⟨"SignalEngineModel", "feed", "(IIIII)I"⟩ prog_15_method_4_code 8 (Option.some Jvm.ClassFile.FieldType.int) ∈ tt := tt_of 1892 rfl rfl
theorem w_1893 : Cond.methodLink "SignalEngineLaw" 57 ⟨"SignalEngineModel", "end", "(I)I"⟩ ∈ tt := tt_of 1893 (by decide +kernel) rfl
theorem w_1894 : Cond.instanceMethod ⟨"SignalEngineModel", "end", "(I)I"⟩ ∈ tt := tt_of 1894 (by decide +kernel) rfl
theorem w_1895 : Cond.selects "SignalEngineModel" ⟨"SignalEngineModel", "end", "(I)I"⟩ ⟨"SignalEngineModel", "end", "(I)I"⟩ ∈ tt := tt_of 1895 (by decide +kernel) rfl
set_option maxRecDepth 100000 in
theorem w_1896 : Cond.code ⟨"SignalEngineModel", "end", "(I)I"⟩ prog_15_method_5_code 2 (Option.some Jvm.ClassFile.FieldType.int) ∈ tt := tt_of 1896 rfl rfl
theorem w_1897 : Cond.methodLink "SignalEngineLaw" 61 ⟨"SignalEngineModel", "read", "()I"⟩ ∈ tt := tt_of 1897 (by decide +kernel) rfl
theorem w_1898 : Cond.instanceMethod ⟨"SignalEngineModel", "read", "()I"⟩ ∈ tt := tt_of 1898 (by decide +kernel) rfl
theorem w_1899 : Cond.selects "SignalEngineModel" ⟨"SignalEngineModel", "read", "()I"⟩ ⟨"SignalEngineModel", "read", "()I"⟩ ∈ tt := tt_of 1899 (by decide +kernel) rfl
set_option maxRecDepth 100000 in
theorem w_1900 : Cond.code ⟨"SignalEngineModel", "read", "()I"⟩ prog_15_method_53_code 2 (Option.some Jvm.ClassFile.FieldType.int) ∈ tt := tt_of 1900 rfl rfl
theorem w_2136 : Cond.methodLink "SignalEngineLaw" 65 ⟨"SignalEngineModel", "node", "(II)I"⟩ ∈ tt := tt_of 2136 (by decide +kernel) rfl
theorem w_2137 : Cond.instanceMethod ⟨"SignalEngineModel", "node", "(II)I"⟩ ∈ tt := tt_of 2137 (by decide +kernel) rfl
theorem w_2138 : Cond.selects "SignalEngineModel" ⟨"SignalEngineModel", "node", "(II)I"⟩ ⟨"SignalEngineModel", "node", "(II)I"⟩ ∈ tt := tt_of 2138 (by decide +kernel) rfl
set_option maxRecDepth 100000 in
theorem w_2139 : Cond.code ⟨"SignalEngineModel", "node", "(II)I"⟩ prog_15_method_60_code 3 (Option.some Jvm.ClassFile.FieldType.int) ∈ tt := tt_of 2139 rfl rfl
theorem w_2140 : Cond.methodLink "SignalEngineLaw" 69 ⟨"SignalEngineModel", "piece", "(II)I"⟩ ∈ tt := tt_of 2140 (by decide +kernel) rfl
theorem w_2141 : Cond.instanceMethod ⟨"SignalEngineModel", "piece", "(II)I"⟩ ∈ tt := tt_of 2141 (by decide +kernel) rfl
theorem w_2142 : Cond.selects "SignalEngineModel" ⟨"SignalEngineModel", "piece", "(II)I"⟩ ⟨"SignalEngineModel", "piece", "(II)I"⟩ ∈ tt := tt_of 2142 (by decide +kernel) rfl
set_option maxRecDepth 100000 in
theorem w_2143 : Cond.code ⟨"SignalEngineModel", "piece", "(II)I"⟩ prog_15_method_61_code 3 (Option.some Jvm.ClassFile.FieldType.int) ∈ tt := tt_of 2143 rfl rfl
theorem w_2144 : Cond.methodLink "SignalEngineLaw" 73 ⟨"SignalEngineModel", "letter", "(II)I"⟩ ∈ tt := tt_of 2144 (by decide +kernel) rfl
theorem w_2145 : Cond.instanceMethod ⟨"SignalEngineModel", "letter", "(II)I"⟩ ∈ tt := tt_of 2145 (by decide +kernel) rfl
theorem w_2146 : Cond.selects "SignalEngineModel" ⟨"SignalEngineModel", "letter", "(II)I"⟩ ⟨"SignalEngineModel", "letter", "(II)I"⟩ ∈ tt := tt_of 2146 (by decide +kernel) rfl
set_option maxRecDepth 100000 in
theorem w_2147 : Cond.code ⟨"SignalEngineModel", "letter", "(II)I"⟩ prog_15_method_62_code 3 (Option.some Jvm.ClassFile.FieldType.int) ∈ tt := tt_of 2147 rfl rfl
theorem w_2148 : Cond.methodLink "SignalEngineLaw" 79 ⟨"SignalEngineModel", "restart", "()I"⟩ ∈ tt := tt_of 2148 (by decide +kernel) rfl
theorem w_2149 : Cond.instanceMethod ⟨"SignalEngineModel", "restart", "()I"⟩ ∈ tt := tt_of 2149 (by decide +kernel) rfl
theorem w_2150 : Cond.selects "SignalEngineModel" ⟨"SignalEngineModel", "restart", "()I"⟩ ⟨"SignalEngineModel", "restart", "()I"⟩ ∈ tt := tt_of 2150 (by decide +kernel) rfl
set_option maxRecDepth 100000 in
theorem w_2151 : Cond.code ⟨"SignalEngineModel", "restart", "()I"⟩ prog_15_method_79_code 2 (Option.some Jvm.ClassFile.FieldType.int) ∈ tt := tt_of 2151 rfl rfl
theorem w_2164 : Cond.methodLink "SignalEngineLaw" 86 ⟨"SignalEngineModel", "instant", "(I)I"⟩ ∈ tt := tt_of 2164 (by decide +kernel) rfl
theorem w_2165 : Cond.instanceMethod ⟨"SignalEngineModel", "instant", "(I)I"⟩ ∈ tt := tt_of 2165 (by decide +kernel) rfl
theorem w_2166 : Cond.selects "SignalEngineModel" ⟨"SignalEngineModel", "instant", "(I)I"⟩ ⟨"SignalEngineModel", "instant", "(I)I"⟩ ∈ tt := tt_of 2166 (by decide +kernel) rfl
set_option maxRecDepth 100000 in
theorem w_2167 : Cond.code ⟨"SignalEngineModel", "instant", "(I)I"⟩ prog_15_method_81_code 5 (Option.some Jvm.ClassFile.FieldType.int) ∈ tt := tt_of 2167 rfl rfl
theorem w_2228 : Cond.methodLink "SignalEngineLaw" 90 ⟨"SignalEngineModel", "status", "(I)I"⟩ ∈ tt := tt_of 2228 (by decide +kernel) rfl
theorem w_2229 : Cond.instanceMethod ⟨"SignalEngineModel", "status", "(I)I"⟩ ∈ tt := tt_of 2229 (by decide +kernel) rfl
theorem w_2230 : Cond.selects "SignalEngineModel" ⟨"SignalEngineModel", "status", "(I)I"⟩ ⟨"SignalEngineModel", "status", "(I)I"⟩ ∈ tt := tt_of 2230 (by decide +kernel) rfl
set_option maxRecDepth 100000 in
theorem w_2231 : Cond.code ⟨"SignalEngineModel", "status", "(I)I"⟩ prog_15_method_82_code 2 (Option.some Jvm.ClassFile.FieldType.int) ∈ tt := tt_of 2231 rfl rfl
theorem w_2232 : Cond.methodLink "SignalEngineLaw" 95 ⟨"SignalEngineModel", "selected", "(I)Z"⟩ ∈ tt := tt_of 2232 (by decide +kernel) rfl
theorem w_2233 : Cond.instanceMethod ⟨"SignalEngineModel", "selected", "(I)Z"⟩ ∈ tt := tt_of 2233 (by decide +kernel) rfl
theorem w_2234 : Cond.selects "SignalEngineModel" ⟨"SignalEngineModel", "selected", "(I)Z"⟩ ⟨"SignalEngineModel", "selected", "(I)Z"⟩ ∈ tt := tt_of 2234 (by decide +kernel) rfl
set_option maxRecDepth 100000 in
theorem w_2235 : Cond.code ⟨"SignalEngineModel", "selected", "(I)Z"⟩ prog_15_method_83_code 2 (Option.some Jvm.ClassFile.FieldType.boolean) ∈ tt := tt_of 2235 rfl rfl
theorem w_2236 : Cond.methodLink "SignalEngineLaw" 99 ⟨"SignalEngineModel", "go", "(I)V"⟩ ∈ tt := tt_of 2236 (by decide +kernel) rfl
theorem w_2237 : Cond.instanceMethod ⟨"SignalEngineModel", "go", "(I)V"⟩ ∈ tt := tt_of 2237 (by decide +kernel) rfl
theorem w_2238 : Cond.selects "SignalEngineModel" ⟨"SignalEngineModel", "go", "(I)V"⟩ ⟨"SignalEngineModel", "go", "(I)V"⟩ ∈ tt := tt_of 2238 (by decide +kernel) rfl
set_option maxRecDepth 100000 in
theorem w_2239 : Cond.code ⟨"SignalEngineModel", "go", "(I)V"⟩ prog_15_method_86_code 2 (Option.none : Option Jvm.ClassFile.FieldType) ∈ tt := tt_of 2239 rfl rfl
theorem w_2244 : Cond.methodLink "SignalEngineLaw" 102 ⟨"SignalEngineModel", "explore", "()I"⟩ ∈ tt := tt_of 2244 (by decide +kernel) rfl
theorem w_2245 : Cond.instanceMethod ⟨"SignalEngineModel", "explore", "()I"⟩ ∈ tt := tt_of 2245 (by decide +kernel) rfl
theorem w_2246 : Cond.selects "SignalEngineModel" ⟨"SignalEngineModel", "explore", "()I"⟩ ⟨"SignalEngineModel", "explore", "()I"⟩ ∈ tt := tt_of 2246 (by decide +kernel) rfl
set_option maxRecDepth 100000 in
theorem w_2247 : Cond.code ⟨"SignalEngineModel", "explore", "()I"⟩ prog_15_method_88_code 7 (Option.some Jvm.ClassFile.FieldType.int) ∈ tt := tt_of 2247 rfl rfl
theorem w_2264 : Cond.methodLink "SignalEngineLaw" 106 ⟨"SignalEngineModel", "distance", "(I)I"⟩ ∈ tt := tt_of 2264 (by decide +kernel) rfl
theorem w_2265 : Cond.instanceMethod ⟨"SignalEngineModel", "distance", "(I)I"⟩ ∈ tt := tt_of 2265 (by decide +kernel) rfl
theorem w_2266 : Cond.selects "SignalEngineModel" ⟨"SignalEngineModel", "distance", "(I)I"⟩ ⟨"SignalEngineModel", "distance", "(I)I"⟩ ∈ tt := tt_of 2266 (by decide +kernel) rfl
set_option maxRecDepth 100000 in
theorem w_2267 : Cond.code ⟨"SignalEngineModel", "distance", "(I)I"⟩ prog_15_method_92_code 3 (Option.some Jvm.ClassFile.FieldType.int) ∈ tt := tt_of 2267 rfl rfl
theorem w_2272 : Cond.methodLink "SignalEngineLaw" 110 ⟨"SignalEngineModel", "path", "(II)I"⟩ ∈ tt := tt_of 2272 (by decide +kernel) rfl
theorem w_2273 : Cond.instanceMethod ⟨"SignalEngineModel", "path", "(II)I"⟩ ∈ tt := tt_of 2273 (by decide +kernel) rfl
theorem w_2274 : Cond.selects "SignalEngineModel" ⟨"SignalEngineModel", "path", "(II)I"⟩ ⟨"SignalEngineModel", "path", "(II)I"⟩ ∈ tt := tt_of 2274 (by decide +kernel) rfl
set_option maxRecDepth 100000 in
theorem w_2275 : Cond.code ⟨"SignalEngineModel", "path", "(II)I"⟩ prog_15_method_93_code 4 (Option.some Jvm.ClassFile.FieldType.int) ∈ tt := tt_of 2275 rfl rfl
theorem w_2276 : Cond.methodLink "SignalEngineLaw" 114 ⟨"SignalEngineModel", "next", "(II)I"⟩ ∈ tt := tt_of 2276 (by decide +kernel) rfl
theorem w_2277 : Cond.instanceMethod ⟨"SignalEngineModel", "next", "(II)I"⟩ ∈ tt := tt_of 2277 (by decide +kernel) rfl
theorem w_2278 : Cond.selects "SignalEngineModel" ⟨"SignalEngineModel", "next", "(II)I"⟩ ⟨"SignalEngineModel", "next", "(II)I"⟩ ∈ tt := tt_of 2278 (by decide +kernel) rfl
set_option maxRecDepth 100000 in
theorem w_2279 : Cond.code ⟨"SignalEngineModel", "next", "(II)I"⟩ prog_15_method_95_code 3 (Option.some Jvm.ClassFile.FieldType.int) ∈ tt := tt_of 2279 rfl rfl
theorem w_2284 : Cond.methodLink "SignalEngineLaw" 117 ⟨"SignalEngineModel", "shows", "(II)I"⟩ ∈ tt := tt_of 2284 (by decide +kernel) rfl
theorem w_2285 : Cond.instanceMethod ⟨"SignalEngineModel", "shows", "(II)I"⟩ ∈ tt := tt_of 2285 (by decide +kernel) rfl
theorem w_2286 : Cond.selects "SignalEngineModel" ⟨"SignalEngineModel", "shows", "(II)I"⟩ ⟨"SignalEngineModel", "shows", "(II)I"⟩ ∈ tt := tt_of 2286 (by decide +kernel) rfl
set_option maxRecDepth 100000 in
theorem w_2287 : Cond.code ⟨"SignalEngineModel", "shows", "(II)I"⟩ prog_15_method_96_code 3 (Option.some Jvm.ClassFile.FieldType.int) ∈ tt := tt_of 2287 rfl rfl
theorem w_2288 : Cond.methodLink "SignalEngineLaw" 121 ⟨"SignalEngineModel", "doubt", "(I)I"⟩ ∈ tt := tt_of 2288 (by decide +kernel) rfl
theorem w_2289 : Cond.instanceMethod ⟨"SignalEngineModel", "doubt", "(I)I"⟩ ∈ tt := tt_of 2289 (by decide +kernel) rfl
theorem w_2290 : Cond.selects "SignalEngineModel" ⟨"SignalEngineModel", "doubt", "(I)I"⟩ ⟨"SignalEngineModel", "doubt", "(I)I"⟩ ∈ tt := tt_of 2290 (by decide +kernel) rfl
set_option maxRecDepth 100000 in
theorem w_2291 : Cond.code ⟨"SignalEngineModel", "doubt", "(I)I"⟩ prog_15_method_97_code 8 (Option.some Jvm.ClassFile.FieldType.int) ∈ tt := tt_of 2291 rfl rfl
theorem w_2292 : Cond.methodLink "SignalEngineLaw" 125 ⟨"SignalEngineModel", "ever", "(I)I"⟩ ∈ tt := tt_of 2292 (by decide +kernel) rfl
theorem w_2293 : Cond.instanceMethod ⟨"SignalEngineModel", "ever", "(I)I"⟩ ∈ tt := tt_of 2293 (by decide +kernel) rfl
theorem w_2294 : Cond.selects "SignalEngineModel" ⟨"SignalEngineModel", "ever", "(I)I"⟩ ⟨"SignalEngineModel", "ever", "(I)I"⟩ ∈ tt := tt_of 2294 (by decide +kernel) rfl
set_option maxRecDepth 100000 in
theorem w_2295 : Cond.code ⟨"SignalEngineModel", "ever", "(I)I"⟩ prog_15_method_99_code 3 (Option.some Jvm.ClassFile.FieldType.int) ∈ tt := tt_of 2295 rfl rfl
theorem w_2300 : Cond.methodLink "SignalEngineLaw" 129 ⟨"SignalEngineModel", "together", "(II)I"⟩ ∈ tt := tt_of 2300 (by decide +kernel) rfl
theorem w_2301 : Cond.instanceMethod ⟨"SignalEngineModel", "together", "(II)I"⟩ ∈ tt := tt_of 2301 (by decide +kernel) rfl
theorem w_2302 : Cond.selects "SignalEngineModel" ⟨"SignalEngineModel", "together", "(II)I"⟩ ⟨"SignalEngineModel", "together", "(II)I"⟩ ∈ tt := tt_of 2302 (by decide +kernel) rfl
set_option maxRecDepth 100000 in
theorem w_2303 : Cond.code ⟨"SignalEngineModel", "together", "(II)I"⟩ prog_15_method_100_code 4 (Option.some Jvm.ClassFile.FieldType.int) ∈ tt := tt_of 2303 rfl rfl
theorem w_2304 : Cond.methodLink "SignalEngineLaw" 132 ⟨"SignalEngineModel", "classes", "()I"⟩ ∈ tt := tt_of 2304 (by decide +kernel) rfl
theorem w_2305 : Cond.instanceMethod ⟨"SignalEngineModel", "classes", "()I"⟩ ∈ tt := tt_of 2305 (by decide +kernel) rfl
theorem w_2306 : Cond.selects "SignalEngineModel" ⟨"SignalEngineModel", "classes", "()I"⟩ ⟨"SignalEngineModel", "classes", "()I"⟩ ∈ tt := tt_of 2306 (by decide +kernel) rfl
set_option maxRecDepth 100000 in
theorem w_2307 : Cond.code ⟨"SignalEngineModel", "classes", "()I"⟩ prog_15_method_102_code 3 (Option.some Jvm.ClassFile.FieldType.int) ∈ tt := tt_of 2307 rfl rfl
theorem w_2312 : Cond.methodLink "SignalEngineLaw" 136 ⟨"SignalEngineModel", "alike", "(I)I"⟩ ∈ tt := tt_of 2312 (by decide +kernel) rfl
theorem w_2313 : Cond.instanceMethod ⟨"SignalEngineModel", "alike", "(I)I"⟩ ∈ tt := tt_of 2313 (by decide +kernel) rfl
theorem w_2314 : Cond.selects "SignalEngineModel" ⟨"SignalEngineModel", "alike", "(I)I"⟩ ⟨"SignalEngineModel", "alike", "(I)I"⟩ ∈ tt := tt_of 2314 (by decide +kernel) rfl
set_option maxRecDepth 100000 in
theorem w_2315 : Cond.code ⟨"SignalEngineModel", "alike", "(I)I"⟩ prog_15_method_103_code 3 (Option.some Jvm.ClassFile.FieldType.int) ∈ tt := tt_of 2315 rfl rfl
theorem w_2316 : Cond.methodLink "SignalEngineLaw" 139 ⟨"SignalEngineModel", "lay", "()I"⟩ ∈ tt := tt_of 2316 (by decide +kernel) rfl
theorem w_2317 : Cond.instanceMethod ⟨"SignalEngineModel", "lay", "()I"⟩ ∈ tt := tt_of 2317 (by decide +kernel) rfl
theorem w_2318 : Cond.selects "SignalEngineModel" ⟨"SignalEngineModel", "lay", "()I"⟩ ⟨"SignalEngineModel", "lay", "()I"⟩ ∈ tt := tt_of 2318 (by decide +kernel) rfl
set_option maxRecDepth 100000 in
theorem w_2319 : Cond.code ⟨"SignalEngineModel", "lay", "()I"⟩ prog_15_method_106_code 6 (Option.some Jvm.ClassFile.FieldType.int) ∈ tt := tt_of 2319 rfl rfl
theorem w_2330 : Cond.methodLink "SignalEngineLaw" 142 ⟨"SignalEngineModel", "pass", "(I)J"⟩ ∈ tt := tt_of 2330 (by decide +kernel) rfl
theorem w_2331 : Cond.instanceMethod ⟨"SignalEngineModel", "pass", "(I)J"⟩ ∈ tt := tt_of 2331 (by decide +kernel) rfl
theorem w_2332 : Cond.selects "SignalEngineModel" ⟨"SignalEngineModel", "pass", "(I)J"⟩ ⟨"SignalEngineModel", "pass", "(I)J"⟩ ∈ tt := tt_of 2332 (by decide +kernel) rfl
set_option maxRecDepth 100000 in
theorem w_2333 : Cond.code ⟨"SignalEngineModel", "pass", "(I)J"⟩ prog_15_method_107_code 2 (Option.some Jvm.ClassFile.FieldType.long) ∈ tt := tt_of 2333 rfl rfl
theorem w_2334 : Cond.methodLink "SignalEngineLaw" 146 ⟨"SignalEngineModel", "level", "(I)I"⟩ ∈ tt := tt_of 2334 (by decide +kernel) rfl
theorem w_2335 : Cond.instanceMethod ⟨"SignalEngineModel", "level", "(I)I"⟩ ∈ tt := tt_of 2335 (by decide +kernel) rfl
theorem w_2336 : Cond.selects "SignalEngineModel" ⟨"SignalEngineModel", "level", "(I)I"⟩ ⟨"SignalEngineModel", "level", "(I)I"⟩ ∈ tt := tt_of 2336 (by decide +kernel) rfl
set_option maxRecDepth 100000 in
theorem w_2337 : Cond.code ⟨"SignalEngineModel", "level", "(I)I"⟩ prog_15_method_108_code 4 (Option.some Jvm.ClassFile.FieldType.int) ∈ tt := tt_of 2337 rfl rfl
theorem w_2338 : Cond.methodLink "SignalEngineLaw" 150 ⟨"SignalEngineModel", "size", "(I)I"⟩ ∈ tt := tt_of 2338 (by decide +kernel) rfl
theorem w_2339 : Cond.instanceMethod ⟨"SignalEngineModel", "size", "(I)I"⟩ ∈ tt := tt_of 2339 (by decide +kernel) rfl
theorem w_2340 : Cond.selects "SignalEngineModel" ⟨"SignalEngineModel", "size", "(I)I"⟩ ⟨"SignalEngineModel", "size", "(I)I"⟩ ∈ tt := tt_of 2340 (by decide +kernel) rfl
set_option maxRecDepth 100000 in
theorem w_2341 : Cond.code ⟨"SignalEngineModel", "size", "(I)I"⟩ prog_15_method_109_code 4 (Option.some Jvm.ClassFile.FieldType.int) ∈ tt := tt_of 2341 rfl rfl
theorem w_2342 : Cond.methodLink "SignalEngineLaw" 154 ⟨"SignalEngineModel", "count", "(I)I"⟩ ∈ tt := tt_of 2342 (by decide +kernel) rfl
theorem w_2343 : Cond.instanceMethod ⟨"SignalEngineModel", "count", "(I)I"⟩ ∈ tt := tt_of 2343 (by decide +kernel) rfl
theorem w_2344 : Cond.selects "SignalEngineModel" ⟨"SignalEngineModel", "count", "(I)I"⟩ ⟨"SignalEngineModel", "count", "(I)I"⟩ ∈ tt := tt_of 2344 (by decide +kernel) rfl
set_option maxRecDepth 100000 in
theorem w_2345 : Cond.code ⟨"SignalEngineModel", "count", "(I)I"⟩ prog_15_method_110_code 4 (Option.some Jvm.ClassFile.FieldType.int) ∈ tt := tt_of 2345 rfl rfl
theorem xl_off {l : Launch} (h : l.flags = flags0) : l.stackTraces = false := by
  unfold Launch.stackTraces
  rw [h]
  decide +kernel
theorem law_short : ∀ L : Nat, L < 6 → Int32.ofNat L - 6 < 0 := by decide +kernel
theorem dsw_law : decode code 40 = .ok (.tableswitch 1100 0 25 #[120, 193, 218, 231, 268, 305, 342, 386, 442, 467, 492, 528, 572, 597, 634, 702, 770, 795, 820, 857, 901, 926, 970, 1025, 1050, 1075], 120) := by decide +kernel

set_option maxHeartbeats 4000000 in
set_option maxRecDepth 100000 in
/-- the law's loop, behind its one call: no more calls, and true -/
theorem law_tail {p : Program} {l : Launch} {e : Env} {s : State} {m : MethodId} {below : List Frame} {meth : Method} {c : Code} {b : Nat} {xs : Nat → Int32} {H : Heap} {locs : List Loc} {ls : Array Slot} {k n : Nat} (C0 : lw_At p s m meth c b 6 xs) (hS : va_S (fun q : Nat => s.heap.size ≤ q) s.heap H locs) (hl : lv_has ls 8 [(4, .int 0), (0, .ref b)]) (hk : k ≤ 600002) (hn : n ≤ 7302232) : W p l e room_1 s m #[Value.ref b] below meth c H locs k n (lw_Z below #[Value.ref b] s) (F0 m 1140 ls []) := by
  obtain ⟨hx, hb, hr, hml, hown, hts, hX, hbl, hlocks, hgv⟩ := C0
  have hbA : ¬ (fun q : Nat => s.heap.size ≤ q) b := Nat.not_le.mpr hbl
  refine lv_iinc (v := 6) (lv' := [(4, .int 6), (0, .ref b)]) hx hb (show decode code 1140 = .ok (.iinc 4 6, 3) by decide +kernel) hl (k := 0) rfl (by decide +kernel) (by decide +kernel) rfl (fun ls hl => ?_)
  refine lv_goto (tgt := 23) hx hb (show decode code 1143 = .ok (.goto (-1120), 3) by decide +kernel) (by decide +kernel) ?_
  refine lv_iload hx hb (show decode code 23 = .ok (.iload 4, 2) by decide +kernel) (lv_at hl 0 rfl) ?_
  refine lv_aload_n hx hb (show decode code 25 = .ok (.aload_n 0, 1) by decide +kernel) rfl (lv_at hl 1 rfl) ?_
  refine va_slen hx hb hX hbl hbA hS (show decode code 26 = .ok (.arraylength, 1) by decide +kernel) ?_
  refine lv_bipush (v := 6) hx hb (show decode code 27 = .ok (.bipush 6, 2) by decide +kernel) (by decide +kernel) ?_
  refine lv_isub hx hb (show decode code 29 = .ok (.isub, 1) by decide +kernel) ?_
  refine lv_icmp_gt (tgt := 1146) hx hb (show decode code 30 = .ok (.if_icmp .gt 1116, 3) by decide +kernel) (by decide +kernel) (fun c1 => ?_) (fun c1 => absurd (by decide +kernel) c1)
  refine lv_iconst (v := 1) hx hb (show decode code 1146 = .ok (.iconst 1, 1) by decide +kernel) (by decide +kernel) ?_
  refine va_forget (fun q hq => hS.2.2 q hq) ?_
  refine W.widen (k := 600002) (n := 7302232) hk hn ?_
  exact lw_ret hx hb hr hlocks (show decode code 1147 = .ok (.ireturn, 1) by decide +kernel)
