/-! words that the walks use, each by its place; written by wip/gen -/
theorem w_0 : Cond.initialized "SignalEngineLaw" ∈ tt := tt_of 0 (by decide +kernel) rfl
theorem w_86 : Cond.methodLink "SignalEngineLaw" 49 ⟨"SignalEngine", "feed", "(IIIII)I"⟩ ∈ tt := tt_of 86 (by decide +kernel) rfl
theorem w_87 : Cond.instanceMethod ⟨"SignalEngine", "feed", "(IIIII)I"⟩ ∈ tt := tt_of 87 (by decide +kernel) rfl
theorem w_88 : Cond.selects "SignalEngine" ⟨"SignalEngine", "feed", "(IIIII)I"⟩ ⟨"SignalEngine", "feed", "(IIIII)I"⟩ ∈ tt := tt_of 88 (by decide +kernel) rfl
set_option maxRecDepth 100000 in
theorem w_89 : Cond.code ⟨"SignalEngine", "feed", "(IIIII)I"⟩ prog_1_method_2_code 6 (Option.some Jvm.ClassFile.FieldType.int) ∈ tt := tt_of 89 rfl rfl
theorem w_111 : Cond.methodLink "SignalEngineLaw" 54 ⟨"SignalEngine", "end", "(I)I"⟩ ∈ tt := tt_of 111 (by decide +kernel) rfl
theorem w_112 : Cond.instanceMethod ⟨"SignalEngine", "end", "(I)I"⟩ ∈ tt := tt_of 112 (by decide +kernel) rfl
theorem w_113 : Cond.selects "SignalEngine" ⟨"SignalEngine", "end", "(I)I"⟩ ⟨"SignalEngine", "end", "(I)I"⟩ ∈ tt := tt_of 113 (by decide +kernel) rfl
set_option maxRecDepth 100000 in
theorem w_114 : Cond.code ⟨"SignalEngine", "end", "(I)I"⟩ prog_1_method_4_code 2 (Option.some Jvm.ClassFile.FieldType.int) ∈ tt := tt_of 114 rfl rfl
theorem w_115 : Cond.methodLink "SignalEngineLaw" 58 ⟨"SignalEngine", "read", "()I"⟩ ∈ tt := tt_of 115 (by decide +kernel) rfl
theorem w_116 : Cond.instanceMethod ⟨"SignalEngine", "read", "()I"⟩ ∈ tt := tt_of 116 (by decide +kernel) rfl
theorem w_117 : Cond.selects "SignalEngine" ⟨"SignalEngine", "read", "()I"⟩ ⟨"SignalEngine", "read", "()I"⟩ ∈ tt := tt_of 117 (by decide +kernel) rfl
set_option maxRecDepth 100000 in
theorem w_118 : Cond.code ⟨"SignalEngine", "read", "()I"⟩ prog_1_method_5_code 4 (Option.some Jvm.ClassFile.FieldType.int) ∈ tt := tt_of 118 rfl rfl
theorem w_1044 : Cond.methodLink "SignalEngineLaw" 62 ⟨"SignalEngine", "node", "(II)I"⟩ ∈ tt := tt_of 1044 (by decide +kernel) rfl
theorem w_1045 : Cond.instanceMethod ⟨"SignalEngine", "node", "(II)I"⟩ ∈ tt := tt_of 1045 (by decide +kernel) rfl
theorem w_1046 : Cond.selects "SignalEngine" ⟨"SignalEngine", "node", "(II)I"⟩ ⟨"SignalEngine", "node", "(II)I"⟩ ∈ tt := tt_of 1046 (by decide +kernel) rfl
set_option maxRecDepth 100000 in
theorem w_1047 : Cond.code ⟨"SignalEngine", "node", "(II)I"⟩ prog_1_method_7_code 3 (Option.some Jvm.ClassFile.FieldType.int) ∈ tt := tt_of 1047 rfl rfl
theorem w_1048 : Cond.methodLink "SignalEngineLaw" 66 ⟨"SignalEngine", "piece", "(II)I"⟩ ∈ tt := tt_of 1048 (by decide +kernel) rfl
theorem w_1049 : Cond.instanceMethod ⟨"SignalEngine", "piece", "(II)I"⟩ ∈ tt := tt_of 1049 (by decide +kernel) rfl
theorem w_1050 : Cond.selects "SignalEngine" ⟨"SignalEngine", "piece", "(II)I"⟩ ⟨"SignalEngine", "piece", "(II)I"⟩ ∈ tt := tt_of 1050 (by decide +kernel) rfl
set_option maxRecDepth 100000 in
theorem w_1051 : Cond.code ⟨"SignalEngine", "piece", "(II)I"⟩ prog_1_method_8_code 3 (Option.some Jvm.ClassFile.FieldType.int) ∈ tt := tt_of 1051 rfl rfl
theorem w_1052 : Cond.methodLink "SignalEngineLaw" 70 ⟨"SignalEngine", "letter", "(II)I"⟩ ∈ tt := tt_of 1052 (by decide +kernel) rfl
theorem w_1053 : Cond.instanceMethod ⟨"SignalEngine", "letter", "(II)I"⟩ ∈ tt := tt_of 1053 (by decide +kernel) rfl
theorem w_1054 : Cond.selects "SignalEngine" ⟨"SignalEngine", "letter", "(II)I"⟩ ⟨"SignalEngine", "letter", "(II)I"⟩ ∈ tt := tt_of 1054 (by decide +kernel) rfl
set_option maxRecDepth 100000 in
theorem w_1055 : Cond.code ⟨"SignalEngine", "letter", "(II)I"⟩ prog_1_method_9_code 3 (Option.some Jvm.ClassFile.FieldType.int) ∈ tt := tt_of 1055 rfl rfl
theorem w_1060 : Cond.methodLink "SignalEngineLaw" 87 ⟨"SignalEngine", "status", "(I)I"⟩ ∈ tt := tt_of 1060 (by decide +kernel) rfl
theorem w_1061 : Cond.instanceMethod ⟨"SignalEngine", "status", "(I)I"⟩ ∈ tt := tt_of 1061 (by decide +kernel) rfl
theorem w_1062 : Cond.selects "SignalEngine" ⟨"SignalEngine", "status", "(I)I"⟩ ⟨"SignalEngine", "status", "(I)I"⟩ ∈ tt := tt_of 1062 (by decide +kernel) rfl
set_option maxRecDepth 100000 in
theorem w_1063 : Cond.code ⟨"SignalEngine", "status", "(I)I"⟩ prog_1_method_13_code 2 (Option.some Jvm.ClassFile.FieldType.int) ∈ tt := tt_of 1063 rfl rfl
theorem w_1064 : Cond.methodLink "SignalEngineLaw" 91 ⟨"SignalEngine", "selected", "(I)Z"⟩ ∈ tt := tt_of 1064 (by decide +kernel) rfl
theorem w_1068 : Cond.methodLink "SignalEngineLaw" 103 ⟨"SignalEngine", "distance", "(I)I"⟩ ∈ tt := tt_of 1068 (by decide +kernel) rfl
theorem w_1069 : Cond.instanceMethod ⟨"SignalEngine", "distance", "(I)I"⟩ ∈ tt := tt_of 1069 (by decide +kernel) rfl
theorem w_1070 : Cond.selects "SignalEngine" ⟨"SignalEngine", "distance", "(I)I"⟩ ⟨"SignalEngine", "distance", "(I)I"⟩ ∈ tt := tt_of 1070 (by decide +kernel) rfl
set_option maxRecDepth 100000 in
theorem w_1071 : Cond.code ⟨"SignalEngine", "distance", "(I)I"⟩ prog_1_method_17_code 2 (Option.some Jvm.ClassFile.FieldType.int) ∈ tt := tt_of 1071 rfl rfl
theorem w_1076 : Cond.methodLink "SignalEngineLaw" 107 ⟨"SignalEngine", "path", "(II)I"⟩ ∈ tt := tt_of 1076 (by decide +kernel) rfl
theorem w_1077 : Cond.instanceMethod ⟨"SignalEngine", "path", "(II)I"⟩ ∈ tt := tt_of 1077 (by decide +kernel) rfl
theorem w_1078 : Cond.selects "SignalEngine" ⟨"SignalEngine", "path", "(II)I"⟩ ⟨"SignalEngine", "path", "(II)I"⟩ ∈ tt := tt_of 1078 (by decide +kernel) rfl
set_option maxRecDepth 100000 in
theorem w_1079 : Cond.code ⟨"SignalEngine", "path", "(II)I"⟩ prog_1_method_18_code 3 (Option.some Jvm.ClassFile.FieldType.int) ∈ tt := tt_of 1079 rfl rfl
theorem w_1084 : Cond.methodLink "SignalEngineLaw" 118 ⟨"SignalEngine", "doubt", "(I)I"⟩ ∈ tt := tt_of 1084 (by decide +kernel) rfl
theorem w_1085 : Cond.instanceMethod ⟨"SignalEngine", "doubt", "(I)I"⟩ ∈ tt := tt_of 1085 (by decide +kernel) rfl
theorem w_1086 : Cond.selects "SignalEngine" ⟨"SignalEngine", "doubt", "(I)I"⟩ ⟨"SignalEngine", "doubt", "(I)I"⟩ ∈ tt := tt_of 1086 (by decide +kernel) rfl
set_option maxRecDepth 100000 in
theorem w_1087 : Cond.code ⟨"SignalEngine", "doubt", "(I)I"⟩ prog_1_method_21_code 2 (Option.some Jvm.ClassFile.FieldType.int) ∈ tt := tt_of 1087 rfl rfl
theorem w_1088 : Cond.methodLink "SignalEngineLaw" 122 ⟨"SignalEngine", "ever", "(I)I"⟩ ∈ tt := tt_of 1088 (by decide +kernel) rfl
theorem w_1089 : Cond.instanceMethod ⟨"SignalEngine", "ever", "(I)I"⟩ ∈ tt := tt_of 1089 (by decide +kernel) rfl
theorem w_1090 : Cond.selects "SignalEngine" ⟨"SignalEngine", "ever", "(I)I"⟩ ⟨"SignalEngine", "ever", "(I)I"⟩ ∈ tt := tt_of 1090 (by decide +kernel) rfl
set_option maxRecDepth 100000 in
theorem w_1091 : Cond.code ⟨"SignalEngine", "ever", "(I)I"⟩ prog_1_method_22_code 3 (Option.some Jvm.ClassFile.FieldType.int) ∈ tt := tt_of 1091 rfl rfl
theorem w_1107 : Cond.methodLink "SignalEngineLaw" 126 ⟨"SignalEngine", "together", "(II)I"⟩ ∈ tt := tt_of 1107 (by decide +kernel) rfl
theorem w_1108 : Cond.methodLink "SignalEngineLaw" 133 ⟨"SignalEngine", "alike", "(I)I"⟩ ∈ tt := tt_of 1108 (by decide +kernel) rfl
theorem w_1109 : Cond.instanceMethod ⟨"SignalEngine", "alike", "(I)I"⟩ ∈ tt := tt_of 1109 (by decide +kernel) rfl
theorem w_1110 : Cond.selects "SignalEngine" ⟨"SignalEngine", "alike", "(I)I"⟩ ⟨"SignalEngine", "alike", "(I)I"⟩ ∈ tt := tt_of 1110 (by decide +kernel) rfl
set_option maxRecDepth 100000 in
theorem w_1111 : Cond.code ⟨"SignalEngine", "alike", "(I)I"⟩ prog_1_method_25_code 2 (Option.some Jvm.ClassFile.FieldType.int) ∈ tt := tt_of 1111 rfl rfl
theorem w_1112 : Cond.methodLink "SignalEngineLaw" 143 ⟨"SignalEngine", "level", "(I)I"⟩ ∈ tt := tt_of 1112 (by decide +kernel) rfl
theorem w_1113 : Cond.instanceMethod ⟨"SignalEngine", "level", "(I)I"⟩ ∈ tt := tt_of 1113 (by decide +kernel) rfl
theorem w_1114 : Cond.selects "SignalEngine" ⟨"SignalEngine", "level", "(I)I"⟩ ⟨"SignalEngine", "level", "(I)I"⟩ ∈ tt := tt_of 1114 (by decide +kernel) rfl
set_option maxRecDepth 100000 in
theorem w_1115 : Cond.code ⟨"SignalEngine", "level", "(I)I"⟩ prog_1_method_28_code 2 (Option.some Jvm.ClassFile.FieldType.int) ∈ tt := tt_of 1115 rfl rfl
theorem w_1116 : Cond.methodLink "SignalEngineLaw" 147 ⟨"SignalEngine", "size", "(I)I"⟩ ∈ tt := tt_of 1116 (by decide +kernel) rfl
theorem w_1117 : Cond.instanceMethod ⟨"SignalEngine", "size", "(I)I"⟩ ∈ tt := tt_of 1117 (by decide +kernel) rfl
theorem w_1118 : Cond.selects "SignalEngine" ⟨"SignalEngine", "size", "(I)I"⟩ ⟨"SignalEngine", "size", "(I)I"⟩ ∈ tt := tt_of 1118 (by decide +kernel) rfl
set_option maxRecDepth 100000 in
theorem w_1119 : Cond.code ⟨"SignalEngine", "size", "(I)I"⟩ prog_1_method_29_code 2 (Option.some Jvm.ClassFile.FieldType.int) ∈ tt := tt_of 1119 rfl rfl
theorem w_1124 : Cond.methodLink "SignalEngineLaw" 151 ⟨"SignalEngine", "count", "(I)I"⟩ ∈ tt := tt_of 1124 (by decide +kernel) rfl
theorem w_1125 : Cond.instanceMethod ⟨"SignalEngine", "count", "(I)I"⟩ ∈ tt := tt_of 1125 (by decide +kernel) rfl
theorem w_1126 : Cond.selects "SignalEngine" ⟨"SignalEngine", "count", "(I)I"⟩ ⟨"SignalEngine", "count", "(I)I"⟩ ∈ tt := tt_of 1126 (by decide +kernel) rfl
set_option maxRecDepth 100000 in
theorem w_1127 : Cond.code ⟨"SignalEngine", "count", "(I)I"⟩ prog_1_method_30_code 2 (Option.some Jvm.ClassFile.FieldType.int) ∈ tt := tt_of 1127 rfl rfl
theorem w_1145 : Cond.methodLink "SignalEngineLaw" 74 ⟨"SignalEngineLaw", "restart", "(LSignalEngine;[J)I"⟩ ∈ tt := tt_of 1145 (by decide +kernel) rfl
theorem w_1146 : Cond.static ⟨"SignalEngineLaw", "restart", "(LSignalEngine;[J)I"⟩ ∈ tt := tt_of 1146 (by decide +kernel) rfl
set_option maxRecDepth 100000 in
theorem w_1147 : Cond.codeWith ⟨"SignalEngineLaw", "restart", "(LSignalEngine;[J)I"⟩ method_3_code 3 (Option.some Jvm.ClassFile.FieldType.int) [(0, 8, 11, 13)] ∈ tt := tt_of 1147 rfl rfl
theorem w_1175 : Cond.methodLink "SignalEngineLaw" 83 ⟨"SignalEngineLaw", "instant", "(LSignalEngine;I[J)I"⟩ ∈ tt := tt_of 1175 (by decide +kernel) rfl
theorem w_1176 : Cond.static ⟨"SignalEngineLaw", "instant", "(LSignalEngine;I[J)I"⟩ ∈ tt := tt_of 1176 (by decide +kernel) rfl
set_option maxRecDepth 100000 in
theorem w_1177 : Cond.codeWith ⟨"SignalEngineLaw", "instant", "(LSignalEngine;I[J)I"⟩ method_4_code 4 (Option.some Jvm.ClassFile.FieldType.int) [(0, 9, 12, 13), (0, 9, 15, 19)] ∈ tt := tt_of 1177 rfl rfl
theorem w_1178 : Cond.classLink "SignalEngineLaw" 19 "java/lang/IllegalArgumentException" ∈ tt := tt_of 1178 (by decide +kernel) rfl
theorem w_1296 : Cond.methodLink "SignalEngineLaw" 96 ⟨"SignalEngineLaw", "go", "(LSignalEngine;I)I"⟩ ∈ tt := tt_of 1296 (by decide +kernel) rfl
theorem w_1297 : Cond.static ⟨"SignalEngineLaw", "go", "(LSignalEngine;I)I"⟩ ∈ tt := tt_of 1297 (by decide +kernel) rfl
set_option maxRecDepth 100000 in
theorem w_1298 : Cond.codeWith ⟨"SignalEngineLaw", "go", "(LSignalEngine;I)I"⟩ method_5_code 3 (Option.some Jvm.ClassFile.FieldType.int) [(0, 5, 8, 13), (0, 5, 11, 19)] ∈ tt := tt_of 1298 rfl rfl
theorem w_1303 : Cond.methodLink "SignalEngineLaw" 100 ⟨"SignalEngineLaw", "explore", "(LSignalEngine;[J)I"⟩ ∈ tt := tt_of 1303 (by decide +kernel) rfl
theorem w_1304 : Cond.static ⟨"SignalEngineLaw", "explore", "(LSignalEngine;[J)I"⟩ ∈ tt := tt_of 1304 (by decide +kernel) rfl
set_option maxRecDepth 100000 in
theorem w_1305 : Cond.codeWith ⟨"SignalEngineLaw", "explore", "(LSignalEngine;[J)I"⟩ method_6_code 3 (Option.some Jvm.ClassFile.FieldType.int) [(0, 8, 11, 13)] ∈ tt := tt_of 1305 rfl rfl
theorem w_1419 : Cond.methodLink "SignalEngineLaw" 111 ⟨"SignalEngineLaw", "next", "(LSignalEngine;II[J)I"⟩ ∈ tt := tt_of 1419 (by decide +kernel) rfl
theorem w_1420 : Cond.static ⟨"SignalEngineLaw", "next", "(LSignalEngine;II[J)I"⟩ ∈ tt := tt_of 1420 (by decide +kernel) rfl
set_option maxRecDepth 100000 in
theorem w_1421 : Cond.codeWith ⟨"SignalEngineLaw", "next", "(LSignalEngine;II[J)I"⟩ method_7_code 5 (Option.some Jvm.ClassFile.FieldType.int) [(0, 10, 13, 13)] ∈ tt := tt_of 1421 rfl rfl
theorem w_1431 : Cond.methodLink "SignalEngineLaw" 115 ⟨"SignalEngineLaw", "shows", "(LSignalEngine;II[J)I"⟩ ∈ tt := tt_of 1431 (by decide +kernel) rfl
theorem w_1432 : Cond.static ⟨"SignalEngineLaw", "shows", "(LSignalEngine;II[J)I"⟩ ∈ tt := tt_of 1432 (by decide +kernel) rfl
set_option maxRecDepth 100000 in
theorem w_1433 : Cond.codeWith ⟨"SignalEngineLaw", "shows", "(LSignalEngine;II[J)I"⟩ method_8_code 5 (Option.some Jvm.ClassFile.FieldType.int) [(0, 10, 13, 13)] ∈ tt := tt_of 1433 rfl rfl
theorem w_1438 : Cond.methodLink "SignalEngineLaw" 130 ⟨"SignalEngineLaw", "classes", "(LSignalEngine;[J)I"⟩ ∈ tt := tt_of 1438 (by decide +kernel) rfl
theorem w_1439 : Cond.static ⟨"SignalEngineLaw", "classes", "(LSignalEngine;[J)I"⟩ ∈ tt := tt_of 1439 (by decide +kernel) rfl
set_option maxRecDepth 100000 in
theorem w_1440 : Cond.codeWith ⟨"SignalEngineLaw", "classes", "(LSignalEngine;[J)I"⟩ method_9_code 3 (Option.some Jvm.ClassFile.FieldType.int) [(0, 8, 11, 13)] ∈ tt := tt_of 1440 rfl rfl
theorem w_1445 : Cond.methodLink "SignalEngineLaw" 137 ⟨"SignalEngineLaw", "lay", "(LSignalEngine;[J)I"⟩ ∈ tt := tt_of 1445 (by decide +kernel) rfl
theorem w_1446 : Cond.static ⟨"SignalEngineLaw", "lay", "(LSignalEngine;[J)I"⟩ ∈ tt := tt_of 1446 (by decide +kernel) rfl
set_option maxRecDepth 100000 in
theorem w_1447 : Cond.codeWith ⟨"SignalEngineLaw", "lay", "(LSignalEngine;[J)I"⟩ method_10_code 3 (Option.some Jvm.ClassFile.FieldType.int) [(0, 8, 11, 13)] ∈ tt := tt_of 1447 rfl rfl
theorem w_1537 : Cond.methodLink "SignalEngineLaw" 140 ⟨"SignalEngineLaw", "pass", "(LSignalEngine;I[J)I"⟩ ∈ tt := tt_of 1537 (by decide +kernel) rfl
theorem w_1538 : Cond.static ⟨"SignalEngineLaw", "pass", "(LSignalEngine;I[J)I"⟩ ∈ tt := tt_of 1538 (by decide +kernel) rfl
set_option maxRecDepth 100000 in
theorem w_1539 : Cond.codeWith ⟨"SignalEngineLaw", "pass", "(LSignalEngine;I[J)I"⟩ method_11_code 4 (Option.some Jvm.ClassFile.FieldType.int) [(0, 8, 11, 13), (0, 8, 14, 19)] ∈ tt := tt_of 1539 rfl rfl
theorem w_1885 : Cond.methodLink "SignalEngineLaw" 80 ⟨"SignalEngineModel", "thrown", "()I"⟩ ∈ tt := tt_of 1885 (by decide +kernel) rfl
theorem w_1886 : Cond.instanceMethod ⟨"SignalEngineModel", "thrown", "()I"⟩ ∈ tt := tt_of 1886 (by decide +kernel) rfl
theorem w_1887 : Cond.selects "SignalEngineModel" ⟨"SignalEngineModel", "thrown", "()I"⟩ ⟨"SignalEngineModel", "thrown", "()I"⟩ ∈ tt := tt_of 1887 (by decide +kernel) rfl
set_option maxRecDepth 100000 in
theorem w_1888 : Cond.code ⟨"SignalEngineModel", "thrown", "()I"⟩ prog_15_method_2_code 1 (Option.some Jvm.ClassFile.FieldType.int) ∈ tt := tt_of 1888 rfl rfl
theorem w_1889 : Cond.methodLink "SignalEngineLaw" 53 ⟨"SignalEngineModel", "feed", "(IIIII)I"⟩ ∈ tt := tt_of 1889 (by decide +kernel) rfl
theorem w_1890 : Cond.instanceMethod ⟨"SignalEngineModel", "feed", "(IIIII)I"⟩ ∈ tt := tt_of 1890 (by decide +kernel) rfl
theorem w_1891 : Cond.selects "SignalEngineModel" ⟨"SignalEngineModel", "feed", "(IIIII)I"⟩ ⟨"SignalEngineModel", "feed", "(IIIII)I"⟩ ∈ tt := tt_of 1891 (by decide +kernel) rfl
set_option maxRecDepth 100000 in
theorem w_1892 : Cond.code ⟨"SignalEngineModel", "feed", "(IIIII)I"⟩ prog_15_method_4_code 8 (Option.some Jvm.ClassFile.FieldType.int) ∈ tt := tt_of 1892 rfl rfl
theorem w_1893 : Cond.methodLink "SignalEngineLaw" 57 ⟨"SignalEngineModel", "end", "(I)I"⟩ ∈ tt := tt_of 1893 (by decide +kernel) rfl
theorem w_1894 : Cond.instanceMethod ⟨"SignalEngineModel", "end", "(I)I"⟩ ∈ tt := tt_of 1894 (by decide +kernel) rfl
theorem w_1895 : Cond.selects "SignalEngineModel" ⟨"SignalEngineModel", "end", "(I)I"⟩ ⟨"SignalEngineModel", "end", "(I)I"⟩ ∈ tt := tt_of 1895 (by decide +kernel) rfl
set_option maxRecDepth 100000 in
theorem w_1896 : Cond.code ⟨"SignalEngineModel", "end", "(I)I"⟩ prog_15_method_5_code 2 (Option.some Jvm.ClassFile.FieldType.int) ∈ tt := tt_of 1896 rfl rfl
theorem w_1897 : Cond.methodLink "SignalEngineLaw" 61 ⟨"SignalEngineModel", "read", "()I"⟩ ∈ tt := tt_of 1897 (by decide +kernel) rfl
theorem w_1898 : Cond.instanceMethod ⟨"SignalEngineModel", "read", "()I"⟩ ∈ tt := tt_of 1898 (by decide +kernel) rfl
theorem w_1899 : Cond.selects "SignalEngineModel" ⟨"SignalEngineModel", "read", "()I"⟩ ⟨"SignalEngineModel", "read", "()I"⟩ ∈ tt := tt_of 1899 (by decide +kernel) rfl
set_option maxRecDepth 100000 in
theorem w_1900 : Cond.code ⟨"SignalEngineModel", "read", "()I"⟩ prog_15_method_53_code 2 (Option.some Jvm.ClassFile.FieldType.int) ∈ tt := tt_of 1900 rfl rfl
theorem w_2136 : Cond.methodLink "SignalEngineLaw" 65 ⟨"SignalEngineModel", "node", "(II)I"⟩ ∈ tt := tt_of 2136 (by decide +kernel) rfl
theorem w_2137 : Cond.instanceMethod ⟨"SignalEngineModel", "node", "(II)I"⟩ ∈ tt := tt_of 2137 (by decide +kernel) rfl
theorem w_2138 : Cond.selects "SignalEngineModel" ⟨"SignalEngineModel", "node", "(II)I"⟩ ⟨"SignalEngineModel", "node", "(II)I"⟩ ∈ tt := tt_of 2138 (by decide +kernel) rfl
set_option maxRecDepth 100000 in
theorem w_2139 : Cond.code ⟨"SignalEngineModel", "node", "(II)I"⟩ prog_15_method_60_code 3 (Option.some Jvm.ClassFile.FieldType.int) ∈ tt := tt_of 2139 rfl rfl
theorem w_2140 : Cond.methodLink "SignalEngineLaw" 69 ⟨"SignalEngineModel", "piece", "(II)I"⟩ ∈ tt := tt_of 2140 (by decide +kernel) rfl
theorem w_2141 : Cond.instanceMethod ⟨"SignalEngineModel", "piece", "(II)I"⟩ ∈ tt := tt_of 2141 (by decide +kernel) rfl
theorem w_2142 : Cond.selects "SignalEngineModel" ⟨"SignalEngineModel", "piece", "(II)I"⟩ ⟨"SignalEngineModel", "piece", "(II)I"⟩ ∈ tt := tt_of 2142 (by decide +kernel) rfl
set_option maxRecDepth 100000 in
theorem w_2143 : Cond.code ⟨"SignalEngineModel", "piece", "(II)I"⟩ prog_15_method_61_code 3 (Option.some Jvm.ClassFile.FieldType.int) ∈ tt := tt_of 2143 rfl rfl
theorem w_2144 : Cond.methodLink "SignalEngineLaw" 73 ⟨"SignalEngineModel", "letter", "(II)I"⟩ ∈ tt := tt_of 2144 (by decide +kernel) rfl
theorem w_2145 : Cond.instanceMethod ⟨"SignalEngineModel", "letter", "(II)I"⟩ ∈ tt := tt_of 2145 (by decide +kernel) rfl
theorem w_2146 : Cond.selects "SignalEngineModel" ⟨"SignalEngineModel", "letter", "(II)I"⟩ ⟨"SignalEngineModel", "letter", "(II)I"⟩ ∈ tt := tt_of 2146 (by decide +kernel) rfl
set_option maxRecDepth 100000 in
theorem w_2147 : Cond.code ⟨"SignalEngineModel", "letter", "(II)I"⟩ prog_15_method_62_code 3 (Option.some Jvm.ClassFile.FieldType.int) ∈ tt := tt_of 2147 rfl rfl
theorem w_2148 : Cond.methodLink "SignalEngineLaw" 79 ⟨"SignalEngineModel", "restart", "()I"⟩ ∈ tt := tt_of 2148 (by decide +kernel) rfl
theorem w_2149 : Cond.instanceMethod ⟨"SignalEngineModel", "restart", "()I"⟩ ∈ tt := tt_of 2149 (by decide +kernel) rfl
theorem w_2150 : Cond.selects "SignalEngineModel" ⟨"SignalEngineModel", "restart", "()I"⟩ ⟨"SignalEngineModel", "restart", "()I"⟩ ∈ tt := tt_of 2150 (by decide +kernel) rfl
set_option maxRecDepth 100000 in
theorem w_2151 : Cond.code ⟨"SignalEngineModel", "restart", "()I"⟩ prog_15_method_79_code 2 (Option.some Jvm.ClassFile.FieldType.int) ∈ tt := tt_of 2151 rfl rfl
theorem w_2164 : Cond.methodLink "SignalEngineLaw" 86 ⟨"SignalEngineModel", "instant", "(I)I"⟩ ∈ tt := tt_of 2164 (by decide +kernel) rfl
theorem w_2165 : Cond.instanceMethod ⟨"SignalEngineModel", "instant", "(I)I"⟩ ∈ tt := tt_of 2165 (by decide +kernel) rfl
theorem w_2166 : Cond.selects "SignalEngineModel" ⟨"SignalEngineModel", "instant", "(I)I"⟩ ⟨"SignalEngineModel", "instant", "(I)I"⟩ ∈ tt := tt_of 2166 (by decide +kernel) rfl
set_option maxRecDepth 100000 in
theorem w_2167 : Cond.code ⟨"SignalEngineModel", "instant", "(I)I"⟩ prog_15_method_81_code 5 (Option.some Jvm.ClassFile.FieldType.int) ∈ tt := tt_of 2167 rfl rfl
theorem w_2228 : Cond.methodLink "SignalEngineLaw" 90 ⟨"SignalEngineModel", "status", "(I)I"⟩ ∈ tt := tt_of 2228 (by decide +kernel) rfl
theorem w_2229 : Cond.instanceMethod ⟨"SignalEngineModel", "status", "(I)I"⟩ ∈ tt := tt_of 2229 (by decide +kernel) rfl
theorem w_2230 : Cond.selects "SignalEngineModel" ⟨"SignalEngineModel", "status", "(I)I"⟩ ⟨"SignalEngineModel", "status", "(I)I"⟩ ∈ tt := tt_of 2230 (by decide +kernel) rfl
set_option maxRecDepth 100000 in
theorem w_2231 : Cond.code ⟨"SignalEngineModel", "status", "(I)I"⟩ prog_15_method_82_code 2 (Option.some Jvm.ClassFile.FieldType.int) ∈ tt := tt_of 2231 rfl rfl
theorem w_2232 : Cond.methodLink "SignalEngineLaw" 95 ⟨"SignalEngineModel", "selected", "(I)Z"⟩ ∈ tt := tt_of 2232 (by decide +kernel) rfl
theorem w_2233 : Cond.instanceMethod ⟨"SignalEngineModel", "selected", "(I)Z"⟩ ∈ tt := tt_of 2233 (by decide +kernel) rfl
theorem w_2234 : Cond.selects "SignalEngineModel" ⟨"SignalEngineModel", "selected", "(I)Z"⟩ ⟨"SignalEngineModel", "selected", "(I)Z"⟩ ∈ tt := tt_of 2234 (by decide +kernel) rfl
set_option maxRecDepth 100000 in
theorem w_2235 : Cond.code ⟨"SignalEngineModel", "selected", "(I)Z"⟩ prog_15_method_83_code 2 (Option.some Jvm.ClassFile.FieldType.boolean) ∈ tt := tt_of 2235 rfl rfl
theorem w_2236 : Cond.methodLink "SignalEngineLaw" 99 ⟨"SignalEngineModel", "go", "(I)V"⟩ ∈ tt := tt_of 2236 (by decide +kernel) rfl
theorem w_2237 : Cond.instanceMethod ⟨"SignalEngineModel", "go", "(I)V"⟩ ∈ tt := tt_of 2237 (by decide +kernel) rfl
theorem w_2238 : Cond.selects "SignalEngineModel" ⟨"SignalEngineModel", "go", "(I)V"⟩ ⟨"SignalEngineModel", "go", "(I)V"⟩ ∈ tt := tt_of 2238 (by decide +kernel) rfl
set_option maxRecDepth 100000 in
theorem w_2239 : Cond.code ⟨"SignalEngineModel", "go", "(I)V"⟩ prog_15_method_86_code 2 (Option.none : Option Jvm.ClassFile.FieldType) ∈ tt := tt_of 2239 rfl rfl
theorem w_2244 : Cond.methodLink "SignalEngineLaw" 102 ⟨"SignalEngineModel", "explore", "()I"⟩ ∈ tt := tt_of 2244 (by decide +kernel) rfl
theorem w_2245 : Cond.instanceMethod ⟨"SignalEngineModel", "explore", "()I"⟩ ∈ tt := tt_of 2245 (by decide +kernel) rfl
theorem w_2246 : Cond.selects "SignalEngineModel" ⟨"SignalEngineModel", "explore", "()I"⟩ ⟨"SignalEngineModel", "explore", "()I"⟩ ∈ tt := tt_of 2246 (by decide +kernel) rfl
set_option maxRecDepth 100000 in
theorem w_2247 : Cond.code ⟨"SignalEngineModel", "explore", "()I"⟩ prog_15_method_88_code 7 (Option.some Jvm.ClassFile.FieldType.int) ∈ tt := tt_of 2247 rfl rfl
theorem w_2264 : Cond.methodLink "SignalEngineLaw" 106 ⟨"SignalEngineModel", "distance", "(I)I"⟩ ∈ tt := tt_of 2264 (by decide +kernel) rfl
theorem w_2265 : Cond.instanceMethod ⟨"SignalEngineModel", "distance", "(I)I"⟩ ∈ tt := tt_of 2265 (by decide +kernel) rfl
theorem w_2266 : Cond.selects "SignalEngineModel" ⟨"SignalEngineModel", "distance", "(I)I"⟩ ⟨"SignalEngineModel", "distance", "(I)I"⟩ ∈ tt := tt_of 2266 (by decide +kernel) rfl
set_option maxRecDepth 100000 in
theorem w_2267 : Cond.code ⟨"SignalEngineModel", "distance", "(I)I"⟩ prog_15_method_92_code 3 (Option.some Jvm.ClassFile.FieldType.int) ∈ tt := tt_of 2267 rfl rfl
theorem w_2272 : Cond.methodLink "SignalEngineLaw" 110 ⟨"SignalEngineModel", "path", "(II)I"⟩ ∈ tt := tt_of 2272 (by decide +kernel) rfl
theorem w_2273 : Cond.instanceMethod ⟨"SignalEngineModel", "path", "(II)I"⟩ ∈ tt := tt_of 2273 (by decide +kernel) rfl
theorem w_2274 : Cond.selects "SignalEngineModel" ⟨"SignalEngineModel", "path", "(II)I"⟩ ⟨"SignalEngineModel", "path", "(II)I"⟩ ∈ tt := tt_of 2274 (by decide +kernel) rfl
set_option maxRecDepth 100000 in
theorem w_2275 : Cond.code ⟨"SignalEngineModel", "path", "(II)I"⟩ prog_15_method_93_code 4 (Option.some Jvm.ClassFile.FieldType.int) ∈ tt := tt_of 2275 rfl rfl
theorem w_2276 : Cond.methodLink "SignalEngineLaw" 114 ⟨"SignalEngineModel", "next", "(II)I"⟩ ∈ tt := tt_of 2276 (by decide +kernel) rfl
theorem w_2277 : Cond.instanceMethod ⟨"SignalEngineModel", "next", "(II)I"⟩ ∈ tt := tt_of 2277 (by decide +kernel) rfl
theorem w_2278 : Cond.selects "SignalEngineModel" ⟨"SignalEngineModel", "next", "(II)I"⟩ ⟨"SignalEngineModel", "next", "(II)I"⟩ ∈ tt := tt_of 2278 (by decide +kernel) rfl
set_option maxRecDepth 100000 in
theorem w_2279 : Cond.code ⟨"SignalEngineModel", "next", "(II)I"⟩ prog_15_method_95_code 3 (Option.some Jvm.ClassFile.FieldType.int) ∈ tt := tt_of 2279 rfl rfl
theorem w_2284 : Cond.methodLink "SignalEngineLaw" 117 ⟨"SignalEngineModel", "shows", "(II)I"⟩ ∈ tt := tt_of 2284 (by decide +kernel) rfl
theorem w_2285 : Cond.instanceMethod ⟨"SignalEngineModel", "shows", "(II)I"⟩ ∈ tt := tt_of 2285 (by decide +kernel) rfl
theorem w_2286 : Cond.selects "SignalEngineModel" ⟨"SignalEngineModel", "shows", "(II)I"⟩ ⟨"SignalEngineModel", "shows", "(II)I"⟩ ∈ tt := tt_of 2286 (by decide +kernel) rfl
set_option maxRecDepth 100000 in
theorem w_2287 : Cond.code ⟨"SignalEngineModel", "shows", "(II)I"⟩ prog_15_method_96_code 3 (Option.some Jvm.ClassFile.FieldType.int) ∈ tt := tt_of 2287 rfl rfl
theorem w_2288 : Cond.methodLink "SignalEngineLaw" 121 ⟨"SignalEngineModel", "doubt", "(I)I"⟩ ∈ tt := tt_of 2288 (by decide +kernel) rfl
theorem w_2289 : Cond.instanceMethod ⟨"SignalEngineModel", "doubt", "(I)I"⟩ ∈ tt := tt_of 2289 (by decide +kernel) rfl
theorem w_2290 : Cond.selects "SignalEngineModel" ⟨"SignalEngineModel", "doubt", "(I)I"⟩ ⟨"SignalEngineModel", "doubt", "(I)I"⟩ ∈ tt := tt_of 2290 (by decide +kernel) rfl
set_option maxRecDepth 100000 in
theorem w_2291 : Cond.code ⟨"SignalEngineModel", "doubt", "(I)I"⟩ prog_15_method_97_code 8 (Option.some Jvm.ClassFile.FieldType.int) ∈ tt := tt_of 2291 rfl rfl
theorem w_2292 : Cond.methodLink "SignalEngineLaw" 125 ⟨"SignalEngineModel", "ever", "(I)I"⟩ ∈ tt := tt_of 2292 (by decide +kernel) rfl
theorem w_2293 : Cond.instanceMethod ⟨"SignalEngineModel", "ever", "(I)I"⟩ ∈ tt := tt_of 2293 (by decide +kernel) rfl
theorem w_2294 : Cond.selects "SignalEngineModel" ⟨"SignalEngineModel", "ever", "(I)I"⟩ ⟨"SignalEngineModel", "ever", "(I)I"⟩ ∈ tt := tt_of 2294 (by decide +kernel) rfl
set_option maxRecDepth 100000 in
theorem w_2295 : Cond.code ⟨"SignalEngineModel", "ever", "(I)I"⟩ prog_15_method_99_code 3 (Option.some Jvm.ClassFile.FieldType.int) ∈ tt := tt_of 2295 rfl rfl
theorem w_2300 : Cond.methodLink "SignalEngineLaw" 129 ⟨"SignalEngineModel", "together", "(II)I"⟩ ∈ tt := tt_of 2300 (by decide +kernel) rfl
theorem w_2301 : Cond.instanceMethod ⟨"SignalEngineModel", "together", "(II)I"⟩ ∈ tt := tt_of 2301 (by decide +kernel) rfl
theorem w_2302 : Cond.selects "SignalEngineModel" ⟨"SignalEngineModel", "together", "(II)I"⟩ ⟨"SignalEngineModel", "together", "(II)I"⟩ ∈ tt := tt_of 2302 (by decide +kernel) rfl
set_option maxRecDepth 100000 in
theorem w_2303 : Cond.code ⟨"SignalEngineModel", "together", "(II)I"⟩ prog_15_method_100_code 4 (Option.some Jvm.ClassFile.FieldType.int) ∈ tt := tt_of 2303 rfl rfl
theorem w_2304 : Cond.methodLink "SignalEngineLaw" 132 ⟨"SignalEngineModel", "classes", "()I"⟩ ∈ tt := tt_of 2304 (by decide +kernel) rfl
theorem w_2305 : Cond.instanceMethod ⟨"SignalEngineModel", "classes", "()I"⟩ ∈ tt := tt_of 2305 (by decide +kernel) rfl
theorem w_2306 : Cond.selects "SignalEngineModel" ⟨"SignalEngineModel", "classes", "()I"⟩ ⟨"SignalEngineModel", "classes", "()I"⟩ ∈ tt := tt_of 2306 (by decide +kernel) rfl
set_option maxRecDepth 100000 in
theorem w_2307 : Cond.code ⟨"SignalEngineModel", "classes", "()I"⟩ prog_15_method_102_code 3 (Option.some Jvm.ClassFile.FieldType.int) ∈ tt := tt_of 2307 rfl rfl
theorem w_2312 : Cond.methodLink "SignalEngineLaw" 136 ⟨"SignalEngineModel", "alike", "(I)I"⟩ ∈ tt := tt_of 2312 (by decide +kernel) rfl
theorem w_2313 : Cond.instanceMethod ⟨"SignalEngineModel", "alike", "(I)I"⟩ ∈ tt := tt_of 2313 (by decide +kernel) rfl
theorem w_2314 : Cond.selects "SignalEngineModel" ⟨"SignalEngineModel", "alike", "(I)I"⟩ ⟨"SignalEngineModel", "alike", "(I)I"⟩ ∈ tt := tt_of 2314 (by decide +kernel) rfl
set_option maxRecDepth 100000 in
theorem w_2315 : Cond.code ⟨"SignalEngineModel", "alike", "(I)I"⟩ prog_15_method_103_code 3 (Option.some Jvm.ClassFile.FieldType.int) ∈ tt := tt_of 2315 rfl rfl
theorem w_2316 : Cond.methodLink "SignalEngineLaw" 139 ⟨"SignalEngineModel", "lay", "()I"⟩ ∈ tt := tt_of 2316 (by decide +kernel) rfl
theorem w_2317 : Cond.instanceMethod ⟨"SignalEngineModel", "lay", "()I"⟩ ∈ tt := tt_of 2317 (by decide +kernel) rfl
theorem w_2318 : Cond.selects "SignalEngineModel" ⟨"SignalEngineModel", "lay", "()I"⟩ ⟨"SignalEngineModel", "lay", "()I"⟩ ∈ tt := tt_of 2318 (by decide +kernel) rfl
set_option maxRecDepth 100000 in
theorem w_2319 : Cond.code ⟨"SignalEngineModel", "lay", "()I"⟩ prog_15_method_106_code 6 (Option.some Jvm.ClassFile.FieldType.int) ∈ tt := tt_of 2319 rfl rfl
theorem w_2330 : Cond.methodLink "SignalEngineLaw" 142 ⟨"SignalEngineModel", "pass", "(I)J"⟩ ∈ tt := tt_of 2330 (by decide +kernel) rfl
theorem w_2331 : Cond.instanceMethod ⟨"SignalEngineModel", "pass", "(I)J"⟩ ∈ tt := tt_of 2331 (by decide +kernel) rfl
theorem w_2332 : Cond.selects "SignalEngineModel" ⟨"SignalEngineModel", "pass", "(I)J"⟩ ⟨"SignalEngineModel", "pass", "(I)J"⟩ ∈ tt := tt_of 2332 (by decide +kernel) rfl
set_option maxRecDepth 100000 in
theorem w_2333 : Cond.code ⟨"SignalEngineModel", "pass", "(I)J"⟩ prog_15_method_107_code 2 (Option.some Jvm.ClassFile.FieldType.long) ∈ tt := tt_of 2333 rfl rfl
theorem w_2334 : Cond.methodLink "SignalEngineLaw" 146 ⟨"SignalEngineModel", "level", "(I)I"⟩ ∈ tt := tt_of 2334 (by decide +kernel) rfl
theorem w_2335 : Cond.instanceMethod ⟨"SignalEngineModel", "level", "(I)I"⟩ ∈ tt := tt_of 2335 (by decide +kernel) rfl
theorem w_2336 : Cond.selects "SignalEngineModel" ⟨"SignalEngineModel", "level", "(I)I"⟩ ⟨"SignalEngineModel", "level", "(I)I"⟩ ∈ tt := tt_of 2336 (by decide +kernel) rfl
set_option maxRecDepth 100000 in
theorem w_2337 : Cond.code ⟨"SignalEngineModel", "level", "(I)I"⟩ prog_15_method_108_code 4 (Option.some Jvm.ClassFile.FieldType.int) ∈ tt := tt_of 2337 rfl rfl
theorem w_2338 : Cond.methodLink "SignalEngineLaw" 150 ⟨"SignalEngineModel", "size", "(I)I"⟩ ∈ tt := tt_of 2338 (by decide +kernel) rfl
theorem w_2339 : Cond.instanceMethod ⟨"SignalEngineModel", "size", "(I)I"⟩ ∈ tt := tt_of 2339 (by decide +kernel) rfl
theorem w_2340 : Cond.selects "SignalEngineModel" ⟨"SignalEngineModel", "size", "(I)I"⟩ ⟨"SignalEngineModel", "size", "(I)I"⟩ ∈ tt := tt_of 2340 (by decide +kernel) rfl
set_option maxRecDepth 100000 in
theorem w_2341 : Cond.code ⟨"SignalEngineModel", "size", "(I)I"⟩ prog_15_method_109_code 4 (Option.some Jvm.ClassFile.FieldType.int) ∈ tt := tt_of 2341 rfl rfl
theorem w_2342 : Cond.methodLink "SignalEngineLaw" 154 ⟨"SignalEngineModel", "count", "(I)I"⟩ ∈ tt := tt_of 2342 (by decide +kernel) rfl
theorem w_2343 : Cond.instanceMethod ⟨"SignalEngineModel", "count", "(I)I"⟩ ∈ tt := tt_of 2343 (by decide +kernel) rfl
theorem w_2344 : Cond.selects "SignalEngineModel" ⟨"SignalEngineModel", "count", "(I)I"⟩ ⟨"SignalEngineModel", "count", "(I)I"⟩ ∈ tt := tt_of 2344 (by decide +kernel) rfl
set_option maxRecDepth 100000 in
theorem w_2345 : Cond.code ⟨"SignalEngineModel", "count", "(I)I"⟩ prog_15_method_110_code 4 (Option.some Jvm.ClassFile.FieldType.int) ∈ tt := tt_of 2345 rfl rfl
theorem cw_SignalEngineLaw_7 : dc_VW "SignalEngineLaw" 7 ⟨"SignalEngine", "restart", "()I"⟩ prog_1_method_10_code 2 (some (.int)) 0 := ⟨w_1152, w_1, w_1149, w_1150, w_1151, by decide +kernel, by decide +kernel, by decide +kernel⟩
theorem cw_SignalEngineLaw_15 : dc_VW "SignalEngineLaw" 15 ⟨"SignalEngine", "instant", "(I)I"⟩ prog_1_method_12_code 3 (some (.int)) 1 := ⟨w_1182, w_1, w_1179, w_1180, w_1181, by decide +kernel, by decide +kernel, by decide +kernel⟩
theorem cw_SignalEngineLaw_21 : dc_VW "SignalEngineLaw" 21 ⟨"SignalEngine", "go", "(I)V"⟩ prog_1_method_15_code 2 none 1 := ⟨w_1302, w_1, w_1299, w_1300, w_1301, by decide +kernel, by decide +kernel, by decide +kernel⟩
theorem cw_SignalEngineLaw_25 : dc_VW "SignalEngineLaw" 25 ⟨"SignalEngine", "explore", "()I"⟩ prog_1_method_16_code 1 (some (.int)) 0 := ⟨w_1309, w_1, w_1306, w_1307, w_1308, by decide +kernel, by decide +kernel, by decide +kernel⟩
theorem cw_SignalEngineLaw_28 : dc_VW "SignalEngineLaw" 28 ⟨"SignalEngine", "next", "(II)I"⟩ prog_1_method_19_code 3 (some (.int)) 2 := ⟨w_1425, w_1, w_1422, w_1423, w_1424, by decide +kernel, by decide +kernel, by decide +kernel⟩
theorem cw_SignalEngineLaw_32 : dc_VW "SignalEngineLaw" 32 ⟨"SignalEngine", "shows", "(II)I"⟩ prog_1_method_20_code 3 (some (.int)) 2 := ⟨w_1437, w_1, w_1434, w_1435, w_1436, by decide +kernel, by decide +kernel, by decide +kernel⟩
theorem cw_SignalEngineLaw_35 : dc_VW "SignalEngineLaw" 35 ⟨"SignalEngine", "classes", "()I"⟩ prog_1_method_24_code 1 (some (.int)) 0 := ⟨w_1444, w_1, w_1441, w_1442, w_1443, by decide +kernel, by decide +kernel, by decide +kernel⟩
theorem cw_SignalEngineLaw_38 : dc_VW "SignalEngineLaw" 38 ⟨"SignalEngine", "lay", "()I"⟩ prog_1_method_26_code 1 (some (.int)) 0 := ⟨w_1451, w_1, w_1448, w_1449, w_1450, by decide +kernel, by decide +kernel, by decide +kernel⟩
theorem cw_SignalEngineLaw_41 : dc_VW "SignalEngineLaw" 41 ⟨"SignalEngine", "pass", "(I)J"⟩ prog_1_method_27_code 2 (some (.long)) 1 := ⟨w_1543, w_1, w_1540, w_1541, w_1542, by decide +kernel, by decide +kernel, by decide +kernel⟩
theorem cw_SignalEngineLaw_49 : dc_VW "SignalEngineLaw" 49 ⟨"SignalEngine", "feed", "(IIIII)I"⟩ prog_1_method_2_code 6 (some (.int)) 5 := ⟨w_89, w_1, w_86, w_87, w_88, by decide +kernel, by decide +kernel, by decide +kernel⟩
theorem cw_SignalEngineLaw_53 : dc_VW "SignalEngineLaw" 53 ⟨"SignalEngineModel", "feed", "(IIIII)I"⟩ prog_15_method_4_code 8 (some (.int)) 5 := ⟨w_1892, w_2, w_1889, w_1890, w_1891, by decide +kernel, by decide +kernel, by decide +kernel⟩
theorem cw_SignalEngineLaw_54 : dc_VW "SignalEngineLaw" 54 ⟨"SignalEngine", "end", "(I)I"⟩ prog_1_method_4_code 2 (some (.int)) 1 := ⟨w_114, w_1, w_111, w_112, w_113, by decide +kernel, by decide +kernel, by decide +kernel⟩
theorem cw_SignalEngineLaw_57 : dc_VW "SignalEngineLaw" 57 ⟨"SignalEngineModel", "end", "(I)I"⟩ prog_15_method_5_code 2 (some (.int)) 1 := ⟨w_1896, w_2, w_1893, w_1894, w_1895, by decide +kernel, by decide +kernel, by decide +kernel⟩
theorem cw_SignalEngineLaw_58 : dc_VW "SignalEngineLaw" 58 ⟨"SignalEngine", "read", "()I"⟩ prog_1_method_5_code 4 (some (.int)) 0 := ⟨w_118, w_1, w_115, w_116, w_117, by decide +kernel, by decide +kernel, by decide +kernel⟩
theorem cw_SignalEngineLaw_61 : dc_VW "SignalEngineLaw" 61 ⟨"SignalEngineModel", "read", "()I"⟩ prog_15_method_53_code 2 (some (.int)) 0 := ⟨w_1900, w_2, w_1897, w_1898, w_1899, by decide +kernel, by decide +kernel, by decide +kernel⟩
theorem cw_SignalEngineLaw_62 : dc_VW "SignalEngineLaw" 62 ⟨"SignalEngine", "node", "(II)I"⟩ prog_1_method_7_code 3 (some (.int)) 2 := ⟨w_1047, w_1, w_1044, w_1045, w_1046, by decide +kernel, by decide +kernel, by decide +kernel⟩
theorem cw_SignalEngineLaw_65 : dc_VW "SignalEngineLaw" 65 ⟨"SignalEngineModel", "node", "(II)I"⟩ prog_15_method_60_code 3 (some (.int)) 2 := ⟨w_2139, w_2, w_2136, w_2137, w_2138, by decide +kernel, by decide +kernel, by decide +kernel⟩
theorem cw_SignalEngineLaw_66 : dc_VW "SignalEngineLaw" 66 ⟨"SignalEngine", "piece", "(II)I"⟩ prog_1_method_8_code 3 (some (.int)) 2 := ⟨w_1051, w_1, w_1048, w_1049, w_1050, by decide +kernel, by decide +kernel, by decide +kernel⟩
theorem cw_SignalEngineLaw_69 : dc_VW "SignalEngineLaw" 69 ⟨"SignalEngineModel", "piece", "(II)I"⟩ prog_15_method_61_code 3 (some (.int)) 2 := ⟨w_2143, w_2, w_2140, w_2141, w_2142, by decide +kernel, by decide +kernel, by decide +kernel⟩
theorem cw_SignalEngineLaw_70 : dc_VW "SignalEngineLaw" 70 ⟨"SignalEngine", "letter", "(II)I"⟩ prog_1_method_9_code 3 (some (.int)) 2 := ⟨w_1055, w_1, w_1052, w_1053, w_1054, by decide +kernel, by decide +kernel, by decide +kernel⟩
theorem cw_SignalEngineLaw_73 : dc_VW "SignalEngineLaw" 73 ⟨"SignalEngineModel", "letter", "(II)I"⟩ prog_15_method_62_code 3 (some (.int)) 2 := ⟨w_2147, w_2, w_2144, w_2145, w_2146, by decide +kernel, by decide +kernel, by decide +kernel⟩
theorem cl_74 : hl_SHW "SignalEngineLaw" 74 ⟨"SignalEngineLaw", "restart", "(LSignalEngine;[J)I"⟩ method_3_code 3 (some (.int)) [(0, 8, 11, 13)] 2 := ⟨w_1147, w_0, w_1145, w_1146, by decide +kernel, by decide +kernel, by decide +kernel⟩
theorem cw_SignalEngineLaw_79 : dc_VW "SignalEngineLaw" 79 ⟨"SignalEngineModel", "restart", "()I"⟩ prog_15_method_79_code 2 (some (.int)) 0 := ⟨w_2151, w_2, w_2148, w_2149, w_2150, by decide +kernel, by decide +kernel, by decide +kernel⟩
theorem cw_SignalEngineLaw_80 : dc_VW "SignalEngineLaw" 80 ⟨"SignalEngineModel", "thrown", "()I"⟩ prog_15_method_2_code 1 (some (.int)) 0 := ⟨w_1888, w_2, w_1885, w_1886, w_1887, by decide +kernel, by decide +kernel, by decide +kernel⟩
theorem cl_83 : hl_SHW "SignalEngineLaw" 83 ⟨"SignalEngineLaw", "instant", "(LSignalEngine;I[J)I"⟩ method_4_code 4 (some (.int)) [(0, 9, 12, 13), (0, 9, 15, 19)] 3 := ⟨w_1177, w_0, w_1175, w_1176, by decide +kernel, by decide +kernel, by decide +kernel⟩
theorem cw_SignalEngineLaw_86 : dc_VW "SignalEngineLaw" 86 ⟨"SignalEngineModel", "instant", "(I)I"⟩ prog_15_method_81_code 5 (some (.int)) 1 := ⟨w_2167, w_2, w_2164, w_2165, w_2166, by decide +kernel, by decide +kernel, by decide +kernel⟩
theorem cw_SignalEngineLaw_87 : dc_VW "SignalEngineLaw" 87 ⟨"SignalEngine", "status", "(I)I"⟩ prog_1_method_13_code 2 (some (.int)) 1 := ⟨w_1063, w_1, w_1060, w_1061, w_1062, by decide +kernel, by decide +kernel, by decide +kernel⟩
theorem cw_SignalEngineLaw_90 : dc_VW "SignalEngineLaw" 90 ⟨"SignalEngineModel", "status", "(I)I"⟩ prog_15_method_82_code 2 (some (.int)) 1 := ⟨w_2231, w_2, w_2228, w_2229, w_2230, by decide +kernel, by decide +kernel, by decide +kernel⟩
theorem cw_SignalEngineLaw_91 : dc_VW "SignalEngineLaw" 91 ⟨"SignalEngine", "selected", "(I)Z"⟩ prog_1_method_14_code 2 (some (.boolean)) 1 := ⟨w_1067, w_1, w_1064, w_1065, w_1066, by decide +kernel, by decide +kernel, by decide +kernel⟩
theorem cw_SignalEngineLaw_95 : dc_VW "SignalEngineLaw" 95 ⟨"SignalEngineModel", "selected", "(I)Z"⟩ prog_15_method_83_code 2 (some (.boolean)) 1 := ⟨w_2235, w_2, w_2232, w_2233, w_2234, by decide +kernel, by decide +kernel, by decide +kernel⟩
theorem cl_96 : hl_SHW "SignalEngineLaw" 96 ⟨"SignalEngineLaw", "go", "(LSignalEngine;I)I"⟩ method_5_code 3 (some (.int)) [(0, 5, 8, 13), (0, 5, 11, 19)] 2 := ⟨w_1298, w_0, w_1296, w_1297, by decide +kernel, by decide +kernel, by decide +kernel⟩
theorem cw_SignalEngineLaw_99 : dc_VW "SignalEngineLaw" 99 ⟨"SignalEngineModel", "go", "(I)V"⟩ prog_15_method_86_code 2 none 1 := ⟨w_2239, w_2, w_2236, w_2237, w_2238, by decide +kernel, by decide +kernel, by decide +kernel⟩
theorem cl_100 : hl_SHW "SignalEngineLaw" 100 ⟨"SignalEngineLaw", "explore", "(LSignalEngine;[J)I"⟩ method_6_code 3 (some (.int)) [(0, 8, 11, 13)] 2 := ⟨w_1305, w_0, w_1303, w_1304, by decide +kernel, by decide +kernel, by decide +kernel⟩
theorem cw_SignalEngineLaw_102 : dc_VW "SignalEngineLaw" 102 ⟨"SignalEngineModel", "explore", "()I"⟩ prog_15_method_88_code 7 (some (.int)) 0 := ⟨w_2247, w_2, w_2244, w_2245, w_2246, by decide +kernel, by decide +kernel, by decide +kernel⟩
theorem cw_SignalEngineLaw_103 : dc_VW "SignalEngineLaw" 103 ⟨"SignalEngine", "distance", "(I)I"⟩ prog_1_method_17_code 2 (some (.int)) 1 := ⟨w_1071, w_1, w_1068, w_1069, w_1070, by decide +kernel, by decide +kernel, by decide +kernel⟩
theorem cw_SignalEngineLaw_106 : dc_VW "SignalEngineLaw" 106 ⟨"SignalEngineModel", "distance", "(I)I"⟩ prog_15_method_92_code 3 (some (.int)) 1 := ⟨w_2267, w_2, w_2264, w_2265, w_2266, by decide +kernel, by decide +kernel, by decide +kernel⟩
theorem cw_SignalEngineLaw_107 : dc_VW "SignalEngineLaw" 107 ⟨"SignalEngine", "path", "(II)I"⟩ prog_1_method_18_code 3 (some (.int)) 2 := ⟨w_1079, w_1, w_1076, w_1077, w_1078, by decide +kernel, by decide +kernel, by decide +kernel⟩
theorem cw_SignalEngineLaw_110 : dc_VW "SignalEngineLaw" 110 ⟨"SignalEngineModel", "path", "(II)I"⟩ prog_15_method_93_code 4 (some (.int)) 2 := ⟨w_2275, w_2, w_2272, w_2273, w_2274, by decide +kernel, by decide +kernel, by decide +kernel⟩
theorem cl_111 : hl_SHW "SignalEngineLaw" 111 ⟨"SignalEngineLaw", "next", "(LSignalEngine;II[J)I"⟩ method_7_code 5 (some (.int)) [(0, 10, 13, 13)] 4 := ⟨w_1421, w_0, w_1419, w_1420, by decide +kernel, by decide +kernel, by decide +kernel⟩
theorem cw_SignalEngineLaw_114 : dc_VW "SignalEngineLaw" 114 ⟨"SignalEngineModel", "next", "(II)I"⟩ prog_15_method_95_code 3 (some (.int)) 2 := ⟨w_2279, w_2, w_2276, w_2277, w_2278, by decide +kernel, by decide +kernel, by decide +kernel⟩
theorem cl_115 : hl_SHW "SignalEngineLaw" 115 ⟨"SignalEngineLaw", "shows", "(LSignalEngine;II[J)I"⟩ method_8_code 5 (some (.int)) [(0, 10, 13, 13)] 4 := ⟨w_1433, w_0, w_1431, w_1432, by decide +kernel, by decide +kernel, by decide +kernel⟩
theorem cw_SignalEngineLaw_117 : dc_VW "SignalEngineLaw" 117 ⟨"SignalEngineModel", "shows", "(II)I"⟩ prog_15_method_96_code 3 (some (.int)) 2 := ⟨w_2287, w_2, w_2284, w_2285, w_2286, by decide +kernel, by decide +kernel, by decide +kernel⟩
theorem cw_SignalEngineLaw_118 : dc_VW "SignalEngineLaw" 118 ⟨"SignalEngine", "doubt", "(I)I"⟩ prog_1_method_21_code 2 (some (.int)) 1 := ⟨w_1087, w_1, w_1084, w_1085, w_1086, by decide +kernel, by decide +kernel, by decide +kernel⟩
theorem cw_SignalEngineLaw_121 : dc_VW "SignalEngineLaw" 121 ⟨"SignalEngineModel", "doubt", "(I)I"⟩ prog_15_method_97_code 8 (some (.int)) 1 := ⟨w_2291, w_2, w_2288, w_2289, w_2290, by decide +kernel, by decide +kernel, by decide +kernel⟩
theorem cw_SignalEngineLaw_122 : dc_VW "SignalEngineLaw" 122 ⟨"SignalEngine", "ever", "(I)I"⟩ prog_1_method_22_code 3 (some (.int)) 1 := ⟨w_1091, w_1, w_1088, w_1089, w_1090, by decide +kernel, by decide +kernel, by decide +kernel⟩
theorem cw_SignalEngineLaw_125 : dc_VW "SignalEngineLaw" 125 ⟨"SignalEngineModel", "ever", "(I)I"⟩ prog_15_method_99_code 3 (some (.int)) 1 := ⟨w_2295, w_2, w_2292, w_2293, w_2294, by decide +kernel, by decide +kernel, by decide +kernel⟩
theorem cw_SignalEngineLaw_126 : dc_VW "SignalEngineLaw" 126 ⟨"SignalEngine", "together", "(II)I"⟩ prog_1_method_23_code 3 (some (.int)) 2 := ⟨w_1095, w_1, w_1107, w_1093, w_1094, by decide +kernel, by decide +kernel, by decide +kernel⟩
theorem cw_SignalEngineLaw_129 : dc_VW "SignalEngineLaw" 129 ⟨"SignalEngineModel", "together", "(II)I"⟩ prog_15_method_100_code 4 (some (.int)) 2 := ⟨w_2303, w_2, w_2300, w_2301, w_2302, by decide +kernel, by decide +kernel, by decide +kernel⟩
theorem cl_130 : hl_SHW "SignalEngineLaw" 130 ⟨"SignalEngineLaw", "classes", "(LSignalEngine;[J)I"⟩ method_9_code 3 (some (.int)) [(0, 8, 11, 13)] 2 := ⟨w_1440, w_0, w_1438, w_1439, by decide +kernel, by decide +kernel, by decide +kernel⟩
theorem cw_SignalEngineLaw_132 : dc_VW "SignalEngineLaw" 132 ⟨"SignalEngineModel", "classes", "()I"⟩ prog_15_method_102_code 3 (some (.int)) 0 := ⟨w_2307, w_2, w_2304, w_2305, w_2306, by decide +kernel, by decide +kernel, by decide +kernel⟩
theorem cw_SignalEngineLaw_133 : dc_VW "SignalEngineLaw" 133 ⟨"SignalEngine", "alike", "(I)I"⟩ prog_1_method_25_code 2 (some (.int)) 1 := ⟨w_1111, w_1, w_1108, w_1109, w_1110, by decide +kernel, by decide +kernel, by decide +kernel⟩
theorem cw_SignalEngineLaw_136 : dc_VW "SignalEngineLaw" 136 ⟨"SignalEngineModel", "alike", "(I)I"⟩ prog_15_method_103_code 3 (some (.int)) 1 := ⟨w_2315, w_2, w_2312, w_2313, w_2314, by decide +kernel, by decide +kernel, by decide +kernel⟩
theorem cl_137 : hl_SHW "SignalEngineLaw" 137 ⟨"SignalEngineLaw", "lay", "(LSignalEngine;[J)I"⟩ method_10_code 3 (some (.int)) [(0, 8, 11, 13)] 2 := ⟨w_1447, w_0, w_1445, w_1446, by decide +kernel, by decide +kernel, by decide +kernel⟩
theorem cw_SignalEngineLaw_139 : dc_VW "SignalEngineLaw" 139 ⟨"SignalEngineModel", "lay", "()I"⟩ prog_15_method_106_code 6 (some (.int)) 0 := ⟨w_2319, w_2, w_2316, w_2317, w_2318, by decide +kernel, by decide +kernel, by decide +kernel⟩
theorem cl_140 : hl_SHW "SignalEngineLaw" 140 ⟨"SignalEngineLaw", "pass", "(LSignalEngine;I[J)I"⟩ method_11_code 4 (some (.int)) [(0, 8, 11, 13), (0, 8, 14, 19)] 3 := ⟨w_1539, w_0, w_1537, w_1538, by decide +kernel, by decide +kernel, by decide +kernel⟩
theorem cw_SignalEngineLaw_142 : dc_VW "SignalEngineLaw" 142 ⟨"SignalEngineModel", "pass", "(I)J"⟩ prog_15_method_107_code 2 (some (.long)) 1 := ⟨w_2333, w_2, w_2330, w_2331, w_2332, by decide +kernel, by decide +kernel, by decide +kernel⟩
theorem cw_SignalEngineLaw_143 : dc_VW "SignalEngineLaw" 143 ⟨"SignalEngine", "level", "(I)I"⟩ prog_1_method_28_code 2 (some (.int)) 1 := ⟨w_1115, w_1, w_1112, w_1113, w_1114, by decide +kernel, by decide +kernel, by decide +kernel⟩
theorem cw_SignalEngineLaw_146 : dc_VW "SignalEngineLaw" 146 ⟨"SignalEngineModel", "level", "(I)I"⟩ prog_15_method_108_code 4 (some (.int)) 1 := ⟨w_2337, w_2, w_2334, w_2335, w_2336, by decide +kernel, by decide +kernel, by decide +kernel⟩
theorem cw_SignalEngineLaw_147 : dc_VW "SignalEngineLaw" 147 ⟨"SignalEngine", "size", "(I)I"⟩ prog_1_method_29_code 2 (some (.int)) 1 := ⟨w_1119, w_1, w_1116, w_1117, w_1118, by decide +kernel, by decide +kernel, by decide +kernel⟩
theorem cw_SignalEngineLaw_150 : dc_VW "SignalEngineLaw" 150 ⟨"SignalEngineModel", "size", "(I)I"⟩ prog_15_method_109_code 4 (some (.int)) 1 := ⟨w_2341, w_2, w_2338, w_2339, w_2340, by decide +kernel, by decide +kernel, by decide +kernel⟩
theorem cw_SignalEngineLaw_151 : dc_VW "SignalEngineLaw" 151 ⟨"SignalEngine", "count", "(I)I"⟩ prog_1_method_30_code 2 (some (.int)) 1 := ⟨w_1127, w_1, w_1124, w_1125, w_1126, by decide +kernel, by decide +kernel, by decide +kernel⟩
theorem cw_SignalEngineLaw_154 : dc_VW "SignalEngineLaw" 154 ⟨"SignalEngineModel", "count", "(I)I"⟩ prog_15_method_110_code 4 (some (.int)) 1 := ⟨w_2345, w_2, w_2342, w_2343, w_2344, by decide +kernel, by decide +kernel, by decide +kernel⟩
theorem hg_lcmp {X : dc_X} {l : Launch} {R : Room} {D : va_G} {G : hg_E} {cc : ByteArray} {nL pc : Nat} {own : String} {S : hg_S} {lv : List (Nat × Value)} {st : List Value} (hC : hg_K X D G cc nL own) {x y : Int64} (d : decode cc pc = .ok (.lcmp, 1)) (kk : hg_G X l R D nL S (pc + 1) lv (.int (dc_cmp x y) :: st)) : hg_G X l R D nL S pc lv (.long y :: .long x :: st) := by
  obtain ⟨p, e, s, m, args, below, meth, c, Q, A⟩ := X
  obtain ⟨hx, hb, hml, hown, hts, hK, hE, hA⟩ := hC
  have e1 : lg_cmp x y = dc_cmp x y := by
    unfold dc_cmp lg_cmp
    by_cases h1 : x = y
    · subst h1; simp [Int64.lt_irrefl]
    · by_cases h2 : x < y
      · simp [h1, h2, Int64.lt_asymm h2]
      · have h3 : y < x := by
          rcases Int64.lt_or_eq_of_le (Int64.not_lt.mp h2) with h | h
          · exact h
          · exact absurd h.symm h1
        simp [h1, h2, h3]
  exact fun H locs ls hh hl => W.lcmp hx hb d (by rw [e1]; exact kk H locs ls hh hl)
