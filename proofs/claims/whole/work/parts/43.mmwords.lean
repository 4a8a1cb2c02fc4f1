/-! words that the walks use, each by its place; written by wip/gen -/
theorem w_633 : Cond.static ⟨"java/lang/Math", "max", "(II)I"⟩ ∈ tt := tt_of 633 (by decide +kernel) rfl
set_option maxRecDepth 100000 in
theorem w_634 : Cond.code ⟨"java/lang/Math", "max", "(II)I"⟩ prog_24_method_65_code 2 (Option.some Jvm.ClassFile.FieldType.int) ∈ tt := tt_of 634 rfl rfl
theorem w_1921 : Cond.methodLink "SignalEngineModel" 217 ⟨"SignalEngineModel", "isLetter", "(I)Z"⟩ ∈ tt := tt_of 1921 (by decide +kernel) rfl
theorem w_1922 : Cond.static ⟨"SignalEngineModel", "isLetter", "(I)Z"⟩ ∈ tt := tt_of 1922 (by decide +kernel) rfl
set_option maxRecDepth 100000 in
theorem w_1923 : Cond.code ⟨"SignalEngineModel", "isLetter", "(I)Z"⟩ prog_15_method_7_code 1 (Option.some Jvm.ClassFile.FieldType.boolean) ∈ tt := tt_of 1923 rfl rfl
theorem w_1924 : Cond.methodLink "SignalEngineModel" 247 ⟨"SignalEngineModel", "isPlain", "(I)Z"⟩ ∈ tt := tt_of 1924 (by decide +kernel) rfl
theorem w_1925 : Cond.static ⟨"SignalEngineModel", "isPlain", "(I)Z"⟩ ∈ tt := tt_of 1925 (by decide +kernel) rfl
set_option maxRecDepth 100000 in
theorem w_1926 : Cond.code ⟨"SignalEngineModel", "isPlain", "(I)Z"⟩ prog_15_method_8_code 1 (Option.some Jvm.ClassFile.FieldType.boolean) ∈ tt := tt_of 1926 rfl rfl
theorem w_1928 : Cond.constantLong "SignalEngineModel" 252 (256 : Int64) ∈ tt := tt_of 1928 (by decide +kernel) rfl
theorem w_1938 : Cond.methodLink "SignalEngineModel" 482 ⟨"SignalEngineModel", "list", "(I)V"⟩ ∈ tt := tt_of 1938 (by decide +kernel) rfl
theorem w_1940 : Cond.instanceMethod ⟨"SignalEngineModel", "list", "(I)V"⟩ ∈ tt := tt_of 1940 (by decide +kernel) rfl
set_option maxRecDepth 100000 in
theorem w_1941 : Cond.code ⟨"SignalEngineModel", "list", "(I)V"⟩ prog_15_method_21_code 3 (Option.none : Option Jvm.ClassFile.FieldType) ∈ tt := tt_of 1941 rfl rfl
theorem w_1942 : Cond.methodLink "SignalEngineModel" 337 ⟨"SignalEngineModel", "isName", "()Z"⟩ ∈ tt := tt_of 1942 (by decide +kernel) rfl
theorem w_1944 : Cond.instanceMethod ⟨"SignalEngineModel", "isName", "()Z"⟩ ∈ tt := tt_of 1944 (by decide +kernel) rfl
set_option maxRecDepth 100000 in
theorem w_1945 : Cond.code ⟨"SignalEngineModel", "isName", "()Z"⟩ prog_15_method_17_code 1 (Option.some Jvm.ClassFile.FieldType.boolean) ∈ tt := tt_of 1945 rfl rfl
theorem w_1975 : Cond.methodLink "SignalEngineModel" 340 ⟨"SignalEngineModel", "signal", "(I)I"⟩ ∈ tt := tt_of 1975 (by decide +kernel) rfl
theorem w_1977 : Cond.instanceMethod ⟨"SignalEngineModel", "signal", "(I)I"⟩ ∈ tt := tt_of 1977 (by decide +kernel) rfl
set_option maxRecDepth 100000 in
theorem w_1978 : Cond.code ⟨"SignalEngineModel", "signal", "(I)I"⟩ prog_15_method_19_code 4 (Option.some Jvm.ClassFile.FieldType.int) ∈ tt := tt_of 1978 rfl rfl
theorem w_1979 : Cond.methodLink "SignalEngineModel" 330 ⟨"SignalEngineModel", "same", "(IIII)Z"⟩ ∈ tt := tt_of 1979 (by decide +kernel) rfl
theorem w_1981 : Cond.instanceMethod ⟨"SignalEngineModel", "same", "(IIII)Z"⟩ ∈ tt := tt_of 1981 (by decide +kernel) rfl
set_option maxRecDepth 100000 in
theorem w_1982 : Cond.code ⟨"SignalEngineModel", "same", "(IIII)Z"⟩ prog_15_method_18_code 7 (Option.some Jvm.ClassFile.FieldType.boolean) ∈ tt := tt_of 1982 rfl rfl
theorem w_2003 : Cond.methodLink "SignalEngineModel" 402 ⟨"SignalEngineModel", "begins", "(J)Z"⟩ ∈ tt := tt_of 2003 (by decide +kernel) rfl
theorem w_2004 : Cond.static ⟨"SignalEngineModel", "begins", "(J)Z"⟩ ∈ tt := tt_of 2004 (by decide +kernel) rfl
set_option maxRecDepth 100000 in
theorem w_2005 : Cond.code ⟨"SignalEngineModel", "begins", "(J)Z"⟩ prog_15_method_35_code 2 (Option.some Jvm.ClassFile.FieldType.boolean) ∈ tt := tt_of 2005 rfl rfl
theorem w_2006 : Cond.methodLink "SignalEngineModel" 370 ⟨"SignalEngineModel", "deeper", "()V"⟩ ∈ tt := tt_of 2006 (by decide +kernel) rfl
theorem w_2008 : Cond.instanceMethod ⟨"SignalEngineModel", "deeper", "()V"⟩ ∈ tt := tt_of 2008 (by decide +kernel) rfl
set_option maxRecDepth 100000 in
theorem w_2009 : Cond.code ⟨"SignalEngineModel", "deeper", "()V"⟩ prog_15_method_20_code 1 (Option.none : Option Jvm.ClassFile.FieldType) ∈ tt := tt_of 2009 rfl rfl
theorem w_2010 : Cond.methodLink "SignalEngineModel" 405 ⟨"SignalEngineModel", "closed", "()I"⟩ ∈ tt := tt_of 2010 (by decide +kernel) rfl
theorem w_2012 : Cond.instanceMethod ⟨"SignalEngineModel", "closed", "()I"⟩ ∈ tt := tt_of 2012 (by decide +kernel) rfl
set_option maxRecDepth 100000 in
theorem w_2013 : Cond.code ⟨"SignalEngineModel", "closed", "()I"⟩ prog_15_method_37_code 2 (Option.some Jvm.ClassFile.FieldType.int) ∈ tt := tt_of 2013 rfl rfl
theorem w_2014 : Cond.methodLink "SignalEngineModel" 408 ⟨"SignalEngineModel", "present", "(I)I"⟩ ∈ tt := tt_of 2014 (by decide +kernel) rfl
theorem w_2016 : Cond.instanceMethod ⟨"SignalEngineModel", "present", "(I)I"⟩ ∈ tt := tt_of 2016 (by decide +kernel) rfl
set_option maxRecDepth 100000 in
theorem w_2017 : Cond.code ⟨"SignalEngineModel", "present", "(I)I"⟩ prog_15_method_44_code 6 (Option.some Jvm.ClassFile.FieldType.int) ∈ tt := tt_of 2017 rfl rfl
theorem w_2018 : Cond.methodLink "SignalEngineModel" 373 ⟨"SignalEngineModel", "asked", "()I"⟩ ∈ tt := tt_of 2018 (by decide +kernel) rfl
theorem w_2020 : Cond.instanceMethod ⟨"SignalEngineModel", "asked", "()I"⟩ ∈ tt := tt_of 2020 (by decide +kernel) rfl
set_option maxRecDepth 100000 in
theorem w_2021 : Cond.code ⟨"SignalEngineModel", "asked", "()I"⟩ prog_15_method_23_code 2 (Option.some Jvm.ClassFile.FieldType.int) ∈ tt := tt_of 2021 rfl rfl
theorem w_2022 : Cond.methodLink "SignalEngineModel" 355 ⟨"SignalEngineModel", "clause", "()I"⟩ ∈ tt := tt_of 2022 (by decide +kernel) rfl
theorem w_2024 : Cond.instanceMethod ⟨"SignalEngineModel", "clause", "()I"⟩ ∈ tt := tt_of 2024 (by decide +kernel) rfl
set_option maxRecDepth 100000 in
theorem w_2025 : Cond.code ⟨"SignalEngineModel", "clause", "()I"⟩ prog_15_method_24_code 2 (Option.some Jvm.ClassFile.FieldType.int) ∈ tt := tt_of 2025 rfl rfl
theorem w_2026 : Cond.methodLink "SignalEngineModel" 363 ⟨"SignalEngineModel", "part", "()I"⟩ ∈ tt := tt_of 2026 (by decide +kernel) rfl
theorem w_2028 : Cond.instanceMethod ⟨"SignalEngineModel", "part", "()I"⟩ ∈ tt := tt_of 2028 (by decide +kernel) rfl
set_option maxRecDepth 100000 in
theorem w_2029 : Cond.code ⟨"SignalEngineModel", "part", "()I"⟩ prog_15_method_25_code 3 (Option.some Jvm.ClassFile.FieldType.int) ∈ tt := tt_of 2029 rfl rfl
theorem w_2030 : Cond.methodLink "SignalEngineModel" 366 ⟨"SignalEngineModel", "named", "(Z)I"⟩ ∈ tt := tt_of 2030 (by decide +kernel) rfl
theorem w_2032 : Cond.instanceMethod ⟨"SignalEngineModel", "named", "(Z)I"⟩ ∈ tt := tt_of 2032 (by decide +kernel) rfl
set_option maxRecDepth 100000 in
theorem w_2033 : Cond.code ⟨"SignalEngineModel", "named", "(Z)I"⟩ prog_15_method_26_code 3 (Option.some Jvm.ClassFile.FieldType.int) ∈ tt := tt_of 2033 rfl rfl
theorem w_2034 : Cond.methodLink "SignalEngineModel" 359 ⟨"SignalEngineModel", "piece", "(III)I"⟩ ∈ tt := tt_of 2034 (by decide +kernel) rfl
theorem w_2036 : Cond.instanceMethod ⟨"SignalEngineModel", "piece", "(III)I"⟩ ∈ tt := tt_of 2036 (by decide +kernel) rfl
set_option maxRecDepth 100000 in
theorem w_2037 : Cond.code ⟨"SignalEngineModel", "piece", "(III)I"⟩ prog_15_method_22_code 4 (Option.some Jvm.ClassFile.FieldType.int) ∈ tt := tt_of 2037 rfl rfl
theorem w_2038 : Cond.methodLink "SignalEngineModel" 468 ⟨"SignalEngineModel", "mustWord", "(J)V"⟩ ∈ tt := tt_of 2038 (by decide +kernel) rfl
theorem w_2040 : Cond.instanceMethod ⟨"SignalEngineModel", "mustWord", "(J)V"⟩ ∈ tt := tt_of 2040 (by decide +kernel) rfl
set_option maxRecDepth 100000 in
theorem w_2041 : Cond.code ⟨"SignalEngineModel", "mustWord", "(J)V"⟩ prog_15_method_15_code 3 (Option.none : Option Jvm.ClassFile.FieldType) ∈ tt := tt_of 2041 rfl rfl
theorem w_2042 : Cond.methodLink "SignalEngineModel" 437 ⟨"SignalEngineModel", "leaf", "(III)I"⟩ ∈ tt := tt_of 2042 (by decide +kernel) rfl
theorem w_2044 : Cond.instanceMethod ⟨"SignalEngineModel", "leaf", "(III)I"⟩ ∈ tt := tt_of 2044 (by decide +kernel) rfl
set_option maxRecDepth 100000 in
theorem w_2045 : Cond.code ⟨"SignalEngineModel", "leaf", "(III)I"⟩ prog_15_method_28_code 4 (Option.some Jvm.ClassFile.FieldType.int) ∈ tt := tt_of 2045 rfl rfl
theorem w_2046 : Cond.methodLink "SignalEngineModel" 382 ⟨"SignalEngineModel", "node", "(IIIIII)I"⟩ ∈ tt := tt_of 2046 (by decide +kernel) rfl
theorem w_2048 : Cond.instanceMethod ⟨"SignalEngineModel", "node", "(IIIIII)I"⟩ ∈ tt := tt_of 2048 (by decide +kernel) rfl
set_option maxRecDepth 100000 in
theorem w_2049 : Cond.code ⟨"SignalEngineModel", "node", "(IIIIII)I"⟩ prog_15_method_27_code 7 (Option.some Jvm.ClassFile.FieldType.int) ∈ tt := tt_of 2049 rfl rfl
theorem w_2050 : Cond.methodLink "SignalEngineModel" 411 ⟨"SignalEngineModel", "suspend", "(I)I"⟩ ∈ tt := tt_of 2050 (by decide +kernel) rfl
theorem w_2052 : Cond.instanceMethod ⟨"SignalEngineModel", "suspend", "(I)I"⟩ ∈ tt := tt_of 2052 (by decide +kernel) rfl
set_option maxRecDepth 100000 in
theorem w_2053 : Cond.code ⟨"SignalEngineModel", "suspend", "(I)I"⟩ prog_15_method_45_code 5 (Option.some Jvm.ClassFile.FieldType.int) ∈ tt := tt_of 2053 rfl rfl
theorem w_2054 : Cond.methodLink "SignalEngineModel" 414 ⟨"SignalEngineModel", "loop", "(II)I"⟩ ∈ tt := tt_of 2054 (by decide +kernel) rfl
theorem w_2056 : Cond.instanceMethod ⟨"SignalEngineModel", "loop", "(II)I"⟩ ∈ tt := tt_of 2056 (by decide +kernel) rfl
set_option maxRecDepth 100000 in
theorem w_2057 : Cond.code ⟨"SignalEngineModel", "loop", "(II)I"⟩ prog_15_method_46_code 6 (Option.some Jvm.ClassFile.FieldType.int) ∈ tt := tt_of 2057 rfl rfl
theorem w_2058 : Cond.methodLink "SignalEngineModel" 478 ⟨"SignalEngineModel", "again", "(IIII)I"⟩ ∈ tt := tt_of 2058 (by decide +kernel) rfl
theorem w_2060 : Cond.instanceMethod ⟨"SignalEngineModel", "again", "(IIII)I"⟩ ∈ tt := tt_of 2060 (by decide +kernel) rfl
set_option maxRecDepth 100000 in
theorem w_2061 : Cond.code ⟨"SignalEngineModel", "again", "(IIII)I"⟩ prog_15_method_42_code 6 (Option.some Jvm.ClassFile.FieldType.int) ∈ tt := tt_of 2061 rfl rfl
theorem w_2062 : Cond.methodLink "SignalEngineModel" 440 ⟨"SignalEngineModel", "halt", "(I)I"⟩ ∈ tt := tt_of 2062 (by decide +kernel) rfl
theorem w_2064 : Cond.instanceMethod ⟨"SignalEngineModel", "halt", "(I)I"⟩ ∈ tt := tt_of 2064 (by decide +kernel) rfl
set_option maxRecDepth 100000 in
theorem w_2065 : Cond.code ⟨"SignalEngineModel", "halt", "(I)I"⟩ prog_15_method_38_code 2 (Option.some Jvm.ClassFile.FieldType.int) ∈ tt := tt_of 2065 rfl rfl
theorem w_2066 : Cond.methodLink "SignalEngineModel" 399 ⟨"SignalEngineModel", "then", "(II)I"⟩ ∈ tt := tt_of 2066 (by decide +kernel) rfl
theorem w_2067 : Cond.static ⟨"SignalEngineModel", "then", "(II)I"⟩ ∈ tt := tt_of 2067 (by decide +kernel) rfl
set_option maxRecDepth 100000 in
theorem w_2068 : Cond.code ⟨"SignalEngineModel", "then", "(II)I"⟩ prog_15_method_30_code 2 (Option.some Jvm.ClassFile.FieldType.int) ∈ tt := tt_of 2068 rfl rfl
theorem w_2069 : Cond.methodLink "SignalEngineModel" 461 ⟨"SignalEngineModel", "aborted", "(IIIZI)I"⟩ ∈ tt := tt_of 2069 (by decide +kernel) rfl
theorem w_2071 : Cond.instanceMethod ⟨"SignalEngineModel", "aborted", "(IIIZI)I"⟩ ∈ tt := tt_of 2071 (by decide +kernel) rfl
set_option maxRecDepth 100000 in
theorem w_2072 : Cond.code ⟨"SignalEngineModel", "aborted", "(IIIZI)I"⟩ prog_15_method_41_code 9 (Option.some Jvm.ClassFile.FieldType.int) ∈ tt := tt_of 2072 rfl rfl
theorem w_2073 : Cond.methodLink "SignalEngineModel" 392 ⟨"SignalEngineModel", "pairs", "(II)I"⟩ ∈ tt := tt_of 2073 (by decide +kernel) rfl
theorem w_2074 : Cond.static ⟨"SignalEngineModel", "pairs", "(II)I"⟩ ∈ tt := tt_of 2074 (by decide +kernel) rfl
set_option maxRecDepth 100000 in
theorem w_2075 : Cond.code ⟨"SignalEngineModel", "pairs", "(II)I"⟩ prog_15_method_29_code 5 (Option.some Jvm.ClassFile.FieldType.int) ∈ tt := tt_of 2075 rfl rfl
theorem w_2076 : Cond.methodLink "SignalEngineModel" 458 ⟨"SignalEngineModel", "caught", "(I)I"⟩ ∈ tt := tt_of 2076 (by decide +kernel) rfl
theorem w_2077 : Cond.static ⟨"SignalEngineModel", "caught", "(I)I"⟩ ∈ tt := tt_of 2077 (by decide +kernel) rfl
set_option maxRecDepth 100000 in
theorem w_2078 : Cond.code ⟨"SignalEngineModel", "caught", "(I)I"⟩ prog_15_method_31_code 1 (Option.some Jvm.ClassFile.FieldType.int) ∈ tt := tt_of 2078 rfl rfl
theorem w_2079 : Cond.methodLink "SignalEngineModel" 455 ⟨"SignalEngineModel", "waiting", "(III)I"⟩ ∈ tt := tt_of 2079 (by decide +kernel) rfl
theorem w_2081 : Cond.instanceMethod ⟨"SignalEngineModel", "waiting", "(III)I"⟩ ∈ tt := tt_of 2081 (by decide +kernel) rfl
set_option maxRecDepth 100000 in
theorem w_2082 : Cond.code ⟨"SignalEngineModel", "waiting", "(III)I"⟩ prog_15_method_39_code 7 (Option.some Jvm.ClassFile.FieldType.int) ∈ tt := tt_of 2082 rfl rfl
theorem w_2083 : Cond.methodLink "SignalEngineModel" 417 ⟨"SignalEngineModel", "trap", "(I)I"⟩ ∈ tt := tt_of 2083 (by decide +kernel) rfl
theorem w_2085 : Cond.instanceMethod ⟨"SignalEngineModel", "trap", "(I)I"⟩ ∈ tt := tt_of 2085 (by decide +kernel) rfl
set_option maxRecDepth 100000 in
theorem w_2086 : Cond.code ⟨"SignalEngineModel", "trap", "(I)I"⟩ prog_15_method_47_code 4 (Option.some Jvm.ClassFile.FieldType.int) ∈ tt := tt_of 2086 rfl rfl
theorem w_2087 : Cond.methodLink "SignalEngineModel" 420 ⟨"SignalEngineModel", "locals", "(I)I"⟩ ∈ tt := tt_of 2087 (by decide +kernel) rfl
theorem w_2089 : Cond.instanceMethod ⟨"SignalEngineModel", "locals", "(I)I"⟩ ∈ tt := tt_of 2089 (by decide +kernel) rfl
set_option maxRecDepth 100000 in
theorem w_2090 : Cond.code ⟨"SignalEngineModel", "locals", "(I)I"⟩ prog_15_method_48_code 7 (Option.some Jvm.ClassFile.FieldType.int) ∈ tt := tt_of 2090 rfl rfl
theorem w_2091 : Cond.methodLink "SignalEngineModel" 423 ⟨"SignalEngineModel", "abort", "(IZ)I"⟩ ∈ tt := tt_of 2091 (by decide +kernel) rfl
theorem w_2093 : Cond.instanceMethod ⟨"SignalEngineModel", "abort", "(IZ)I"⟩ ∈ tt := tt_of 2093 (by decide +kernel) rfl
set_option maxRecDepth 100000 in
theorem w_2094 : Cond.code ⟨"SignalEngineModel", "abort", "(IZ)I"⟩ prog_15_method_49_code 6 (Option.some Jvm.ClassFile.FieldType.int) ∈ tt := tt_of 2094 rfl rfl
theorem w_2095 : Cond.methodLink "SignalEngineModel" 427 ⟨"SignalEngineModel", "weak", "(I)I"⟩ ∈ tt := tt_of 2095 (by decide +kernel) rfl
theorem w_2097 : Cond.instanceMethod ⟨"SignalEngineModel", "weak", "(I)I"⟩ ∈ tt := tt_of 2097 (by decide +kernel) rfl
set_option maxRecDepth 100000 in
theorem w_2098 : Cond.code ⟨"SignalEngineModel", "weak", "(I)I"⟩ prog_15_method_50_code 2 (Option.some Jvm.ClassFile.FieldType.int) ∈ tt := tt_of 2098 rfl rfl
theorem w_2099 : Cond.methodLink "SignalEngineModel" 430 ⟨"SignalEngineModel", "every", "(I)I"⟩ ∈ tt := tt_of 2099 (by decide +kernel) rfl
theorem w_2101 : Cond.instanceMethod ⟨"SignalEngineModel", "every", "(I)I"⟩ ∈ tt := tt_of 2101 (by decide +kernel) rfl
set_option maxRecDepth 100000 in
theorem w_2102 : Cond.code ⟨"SignalEngineModel", "every", "(I)I"⟩ prog_15_method_51_code 7 (Option.some Jvm.ClassFile.FieldType.int) ∈ tt := tt_of 2102 rfl rfl
theorem w_2103 : Cond.methodLink "SignalEngineModel" 446 ⟨"SignalEngineModel", "await", "(II)I"⟩ ∈ tt := tt_of 2103 (by decide +kernel) rfl
theorem w_2105 : Cond.instanceMethod ⟨"SignalEngineModel", "await", "(II)I"⟩ ∈ tt := tt_of 2105 (by decide +kernel) rfl
set_option maxRecDepth 100000 in
theorem w_2106 : Cond.code ⟨"SignalEngineModel", "await", "(II)I"⟩ prog_15_method_40_code 4 (Option.some Jvm.ClassFile.FieldType.int) ∈ tt := tt_of 2106 rfl rfl
theorem w_2107 : Cond.methodLink "SignalEngineModel" 433 ⟨"SignalEngineModel", "simple", "(JI)I"⟩ ∈ tt := tt_of 2107 (by decide +kernel) rfl
theorem w_2109 : Cond.instanceMethod ⟨"SignalEngineModel", "simple", "(JI)I"⟩ ∈ tt := tt_of 2109 (by decide +kernel) rfl
set_option maxRecDepth 100000 in
theorem w_2110 : Cond.code ⟨"SignalEngineModel", "simple", "(JI)I"⟩ prog_15_method_36_code 5 (Option.some Jvm.ClassFile.FieldType.int) ∈ tt := tt_of 2110 rfl rfl
theorem w_2111 : Cond.methodLink "SignalEngineModel" 443 ⟨"SignalEngineModel", "exit", "(I)I"⟩ ∈ tt := tt_of 2111 (by decide +kernel) rfl
theorem w_2113 : Cond.instanceMethod ⟨"SignalEngineModel", "exit", "(I)I"⟩ ∈ tt := tt_of 2113 (by decide +kernel) rfl
set_option maxRecDepth 100000 in
theorem w_2114 : Cond.code ⟨"SignalEngineModel", "exit", "(I)I"⟩ prog_15_method_43_code 3 (Option.some Jvm.ClassFile.FieldType.int) ∈ tt := tt_of 2114 rfl rfl
theorem w_2115 : Cond.methodLink "SignalEngineModel" 495 ⟨"SignalEngineModel", "lay", "(I)V"⟩ ∈ tt := tt_of 2115 (by decide +kernel) rfl
theorem w_2117 : Cond.instanceMethod ⟨"SignalEngineModel", "lay", "(I)V"⟩ ∈ tt := tt_of 2117 (by decide +kernel) rfl
set_option maxRecDepth 100000 in
theorem w_2118 : Cond.code ⟨"SignalEngineModel", "lay", "(I)V"⟩ prog_15_method_55_code 7 (Option.none : Option Jvm.ClassFile.FieldType) ∈ tt := tt_of 2118 rfl rfl
theorem w_2119 : Cond.methodLink "SignalEngineModel" 548 ⟨"SignalEngineModel", "ask", "(I)I"⟩ ∈ tt := tt_of 2119 (by decide +kernel) rfl
theorem w_2121 : Cond.instanceMethod ⟨"SignalEngineModel", "ask", "(I)I"⟩ ∈ tt := tt_of 2121 (by decide +kernel) rfl
set_option maxRecDepth 100000 in
theorem w_2122 : Cond.code ⟨"SignalEngineModel", "ask", "(I)I"⟩ prog_15_method_57_code 8 (Option.some Jvm.ClassFile.FieldType.int) ∈ tt := tt_of 2122 rfl rfl
theorem w_2123 : Cond.methodLink "SignalEngineModel" 551 ⟨"SignalEngineModel", "around", "(I)I"⟩ ∈ tt := tt_of 2123 (by decide +kernel) rfl
theorem w_2125 : Cond.instanceMethod ⟨"SignalEngineModel", "around", "(I)I"⟩ ∈ tt := tt_of 2125 (by decide +kernel) rfl
set_option maxRecDepth 100000 in
theorem w_2126 : Cond.code ⟨"SignalEngineModel", "around", "(I)I"⟩ prog_15_method_56_code 4 (Option.some Jvm.ClassFile.FieldType.int) ∈ tt := tt_of 2126 rfl rfl
theorem w_2127 : Cond.methodLink "SignalEngineModel" 554 ⟨"java/lang/Math", "max", "(II)I"⟩ ∈ tt := tt_of 2127 (by decide +kernel) rfl
theorem w_2128 : Cond.methodLink "SignalEngineModel" 559 ⟨"SignalEngineModel", "code", "(I)V"⟩ ∈ tt := tt_of 2128 (by decide +kernel) rfl
theorem w_2130 : Cond.instanceMethod ⟨"SignalEngineModel", "code", "(I)V"⟩ ∈ tt := tt_of 2130 (by decide +kernel) rfl
set_option maxRecDepth 100000 in
theorem w_2131 : Cond.code ⟨"SignalEngineModel", "code", "(I)V"⟩ prog_15_method_58_code 6 (Option.none : Option Jvm.ClassFile.FieldType) ∈ tt := tt_of 2131 rfl rfl
theorem w_2132 : Cond.methodLink "SignalEngineModel" 510 ⟨"SignalEngineModel", "settle", "()V"⟩ ∈ tt := tt_of 2132 (by decide +kernel) rfl
theorem w_2134 : Cond.instanceMethod ⟨"SignalEngineModel", "settle", "()V"⟩ ∈ tt := tt_of 2134 (by decide +kernel) rfl
set_option maxRecDepth 100000 in
theorem w_2135 : Cond.code ⟨"SignalEngineModel", "settle", "()V"⟩ prog_15_method_59_code 3 (Option.none : Option Jvm.ClassFile.FieldType) ∈ tt := tt_of 2135 rfl rfl
theorem w_2156 : Cond.methodLink "SignalEngineModel" 619 ⟨"SignalEngineModel", "rest", "()V"⟩ ∈ tt := tt_of 2156 (by decide +kernel) rfl
theorem w_2158 : Cond.instanceMethod ⟨"SignalEngineModel", "rest", "()V"⟩ ∈ tt := tt_of 2158 (by decide +kernel) rfl
set_option maxRecDepth 100000 in
theorem w_2159 : Cond.code ⟨"SignalEngineModel", "rest", "()V"⟩ prog_15_method_77_code 2 (Option.none : Option Jvm.ClassFile.FieldType) ∈ tt := tt_of 2159 rfl rfl
theorem w_2160 : Cond.methodLink "SignalEngineModel" 622 ⟨"SignalEngineModel", "place", "(I)V"⟩ ∈ tt := tt_of 2160 (by decide +kernel) rfl
theorem w_2162 : Cond.instanceMethod ⟨"SignalEngineModel", "place", "(I)V"⟩ ∈ tt := tt_of 2162 (by decide +kernel) rfl
set_option maxRecDepth 100000 in
theorem w_2163 : Cond.code ⟨"SignalEngineModel", "place", "(I)V"⟩ prog_15_method_78_code 3 (Option.none : Option Jvm.ClassFile.FieldType) ∈ tt := tt_of 2163 rfl rfl
theorem w_2168 : Cond.methodLink "SignalEngineModel" 625 ⟨"SignalEngineModel", "isInput", "(I)Z"⟩ ∈ tt := tt_of 2168 (by decide +kernel) rfl
theorem w_2170 : Cond.instanceMethod ⟨"SignalEngineModel", "isInput", "(I)Z"⟩ ∈ tt := tt_of 2170 (by decide +kernel) rfl
set_option maxRecDepth 100000 in
theorem w_2171 : Cond.code ⟨"SignalEngineModel", "isInput", "(I)Z"⟩ prog_15_method_80_code 2 (Option.some Jvm.ClassFile.FieldType.boolean) ∈ tt := tt_of 2171 rfl rfl
theorem w_2172 : Cond.methodLink "SignalEngineModel" 628 ⟨"SignalEngineModel", "react", "(I)I"⟩ ∈ tt := tt_of 2172 (by decide +kernel) rfl
theorem w_2174 : Cond.instanceMethod ⟨"SignalEngineModel", "react", "(I)I"⟩ ∈ tt := tt_of 2174 (by decide +kernel) rfl
set_option maxRecDepth 100000 in
theorem w_2175 : Cond.code ⟨"SignalEngineModel", "react", "(I)I"⟩ prog_15_method_76_code 5 (Option.some Jvm.ClassFile.FieldType.int) ∈ tt := tt_of 2175 rfl rfl
theorem w_2176 : Cond.methodLink "SignalEngineModel" 591 ⟨"SignalEngineModel", "run", "(IZZ)V"⟩ ∈ tt := tt_of 2176 (by decide +kernel) rfl
theorem w_2178 : Cond.instanceMethod ⟨"SignalEngineModel", "run", "(IZZ)V"⟩ ∈ tt := tt_of 2178 (by decide +kernel) rfl
set_option maxRecDepth 100000 in
theorem w_2179 : Cond.code ⟨"SignalEngineModel", "run", "(IZZ)V"⟩ prog_15_method_66_code 5 (Option.none : Option Jvm.ClassFile.FieldType) ∈ tt := tt_of 2179 rfl rfl
theorem w_2180 : Cond.methodLink "SignalEngineModel" 576 ⟨"SignalEngineModel", "simple", "(IZ)V"⟩ ∈ tt := tt_of 2180 (by decide +kernel) rfl
theorem w_2182 : Cond.instanceMethod ⟨"SignalEngineModel", "simple", "(IZ)V"⟩ ∈ tt := tt_of 2182 (by decide +kernel) rfl
set_option maxRecDepth 100000 in
theorem w_2183 : Cond.code ⟨"SignalEngineModel", "simple", "(IZ)V"⟩ prog_15_method_67_code 4 (Option.none : Option Jvm.ClassFile.FieldType) ∈ tt := tt_of 2183 rfl rfl
theorem w_2184 : Cond.methodLink "SignalEngineModel" 579 ⟨"SignalEngineModel", "outcome", "(II)V"⟩ ∈ tt := tt_of 2184 (by decide +kernel) rfl
theorem w_2186 : Cond.instanceMethod ⟨"SignalEngineModel", "outcome", "(II)V"⟩ ∈ tt := tt_of 2186 (by decide +kernel) rfl
set_option maxRecDepth 100000 in
theorem w_2187 : Cond.code ⟨"SignalEngineModel", "outcome", "(II)V"⟩ prog_15_method_63_code 3 (Option.none : Option Jvm.ClassFile.FieldType) ∈ tt := tt_of 2187 rfl rfl
theorem w_2188 : Cond.methodLink "SignalEngineModel" 582 ⟨"SignalEngineModel", "present", "(IZZ)V"⟩ ∈ tt := tt_of 2188 (by decide +kernel) rfl
theorem w_2190 : Cond.instanceMethod ⟨"SignalEngineModel", "present", "(IZZ)V"⟩ ∈ tt := tt_of 2190 (by decide +kernel) rfl
set_option maxRecDepth 100000 in
theorem w_2191 : Cond.code ⟨"SignalEngineModel", "present", "(IZZ)V"⟩ prog_15_method_68_code 6 (Option.none : Option Jvm.ClassFile.FieldType) ∈ tt := tt_of 2191 rfl rfl
theorem w_2192 : Cond.methodLink "SignalEngineModel" 604 ⟨"SignalEngineModel", "has", "(I)Z"⟩ ∈ tt := tt_of 2192 (by decide +kernel) rfl
theorem w_2194 : Cond.instanceMethod ⟨"SignalEngineModel", "has", "(I)Z"⟩ ∈ tt := tt_of 2194 (by decide +kernel) rfl
set_option maxRecDepth 100000 in
theorem w_2195 : Cond.code ⟨"SignalEngineModel", "has", "(I)Z"⟩ prog_15_method_64_code 2 (Option.some Jvm.ClassFile.FieldType.boolean) ∈ tt := tt_of 2195 rfl rfl
theorem w_2196 : Cond.methodLink "SignalEngineModel" 607 ⟨"SignalEngineModel", "truth", "(I)I"⟩ ∈ tt := tt_of 2196 (by decide +kernel) rfl
theorem w_2198 : Cond.instanceMethod ⟨"SignalEngineModel", "truth", "(I)I"⟩ ∈ tt := tt_of 2198 (by decide +kernel) rfl
set_option maxRecDepth 100000 in
theorem w_2199 : Cond.code ⟨"SignalEngineModel", "truth", "(I)I"⟩ prog_15_method_65_code 7 (Option.some Jvm.ClassFile.FieldType.int) ∈ tt := tt_of 2199 rfl rfl
theorem w_2200 : Cond.methodLink "SignalEngineModel" 585 ⟨"SignalEngineModel", "suspended", "(IZZ)V"⟩ ∈ tt := tt_of 2200 (by decide +kernel) rfl
theorem w_2202 : Cond.instanceMethod ⟨"SignalEngineModel", "suspended", "(IZZ)V"⟩ ∈ tt := tt_of 2202 (by decide +kernel) rfl
set_option maxRecDepth 100000 in
theorem w_2203 : Cond.code ⟨"SignalEngineModel", "suspended", "(IZZ)V"⟩ prog_15_method_69_code 6 (Option.none : Option Jvm.ClassFile.FieldType) ∈ tt := tt_of 2203 rfl rfl
theorem w_2204 : Cond.methodLink "SignalEngineModel" 588 ⟨"SignalEngineModel", "sequence", "(IZZ)V"⟩ ∈ tt := tt_of 2204 (by decide +kernel) rfl
theorem w_2206 : Cond.instanceMethod ⟨"SignalEngineModel", "sequence", "(IZZ)V"⟩ ∈ tt := tt_of 2206 (by decide +kernel) rfl
set_option maxRecDepth 100000 in
theorem w_2207 : Cond.code ⟨"SignalEngineModel", "sequence", "(IZZ)V"⟩ prog_15_method_71_code 5 (Option.none : Option Jvm.ClassFile.FieldType) ∈ tt := tt_of 2207 rfl rfl
theorem w_2208 : Cond.methodLink "SignalEngineModel" 594 ⟨"SignalEngineModel", "behind", "(IIZZ)V"⟩ ∈ tt := tt_of 2208 (by decide +kernel) rfl
theorem w_2210 : Cond.instanceMethod ⟨"SignalEngineModel", "behind", "(IIZZ)V"⟩ ∈ tt := tt_of 2210 (by decide +kernel) rfl
set_option maxRecDepth 100000 in
theorem w_2211 : Cond.code ⟨"SignalEngineModel", "behind", "(IIZZ)V"⟩ prog_15_method_70_code 9 (Option.none : Option Jvm.ClassFile.FieldType) ∈ tt := tt_of 2211 rfl rfl
theorem w_2212 : Cond.methodLink "SignalEngineModel" 598 ⟨"SignalEngineModel", "both", "(IZZ)V"⟩ ∈ tt := tt_of 2212 (by decide +kernel) rfl
theorem w_2214 : Cond.instanceMethod ⟨"SignalEngineModel", "both", "(IZZ)V"⟩ ∈ tt := tt_of 2214 (by decide +kernel) rfl
set_option maxRecDepth 100000 in
theorem w_2215 : Cond.code ⟨"SignalEngineModel", "both", "(IZZ)V"⟩ prog_15_method_73_code 7 (Option.none : Option Jvm.ClassFile.FieldType) ∈ tt := tt_of 2215 rfl rfl
theorem w_2216 : Cond.methodLink "SignalEngineModel" 609 ⟨"SignalEngineModel", "side", "(IZZ)V"⟩ ∈ tt := tt_of 2216 (by decide +kernel) rfl
theorem w_2218 : Cond.instanceMethod ⟨"SignalEngineModel", "side", "(IZZ)V"⟩ ∈ tt := tt_of 2218 (by decide +kernel) rfl
set_option maxRecDepth 100000 in
theorem w_2219 : Cond.code ⟨"SignalEngineModel", "side", "(IZZ)V"⟩ prog_15_method_72_code 4 (Option.none : Option Jvm.ClassFile.FieldType) ∈ tt := tt_of 2219 rfl rfl
theorem w_2220 : Cond.methodLink "SignalEngineModel" 601 ⟨"SignalEngineModel", "trapped", "(IZZ)V"⟩ ∈ tt := tt_of 2220 (by decide +kernel) rfl
theorem w_2222 : Cond.instanceMethod ⟨"SignalEngineModel", "trapped", "(IZZ)V"⟩ ∈ tt := tt_of 2222 (by decide +kernel) rfl
set_option maxRecDepth 100000 in
theorem w_2223 : Cond.code ⟨"SignalEngineModel", "trapped", "(IZZ)V"⟩ prog_15_method_74_code 5 (Option.none : Option Jvm.ClassFile.FieldType) ∈ tt := tt_of 2223 rfl rfl
theorem w_2224 : Cond.methodLink "SignalEngineModel" 612 ⟨"SignalEngineModel", "learns", "()Z"⟩ ∈ tt := tt_of 2224 (by decide +kernel) rfl
theorem w_2226 : Cond.instanceMethod ⟨"SignalEngineModel", "learns", "()Z"⟩ ∈ tt := tt_of 2226 (by decide +kernel) rfl
set_option maxRecDepth 100000 in
theorem w_2227 : Cond.code ⟨"SignalEngineModel", "learns", "()Z"⟩ prog_15_method_75_code 3 (Option.some Jvm.ClassFile.FieldType.boolean) ∈ tt := tt_of 2227 rfl rfl
theorem w_2240 : Cond.methodLink "SignalEngineModel" 631 ⟨"SignalEngineModel", "find", "(I)I"⟩ ∈ tt := tt_of 2240 (by decide +kernel) rfl
theorem w_2242 : Cond.instanceMethod ⟨"SignalEngineModel", "find", "(I)I"⟩ ∈ tt := tt_of 2242 (by decide +kernel) rfl
set_option maxRecDepth 100000 in
theorem w_2243 : Cond.code ⟨"SignalEngineModel", "find", "(I)I"⟩ prog_15_method_84_code 3 (Option.some Jvm.ClassFile.FieldType.int) ∈ tt := tt_of 2243 rfl rfl
theorem w_2248 : Cond.methodLink "SignalEngineModel" 634 ⟨"SignalEngineModel", "meet", "(III)V"⟩ ∈ tt := tt_of 2248 (by decide +kernel) rfl
theorem w_2250 : Cond.instanceMethod ⟨"SignalEngineModel", "meet", "(III)V"⟩ ∈ tt := tt_of 2250 (by decide +kernel) rfl
set_option maxRecDepth 100000 in
theorem w_2251 : Cond.code ⟨"SignalEngineModel", "meet", "(III)V"⟩ prog_15_method_87_code 4 (Option.none : Option Jvm.ClassFile.FieldType) ∈ tt := tt_of 2251 rfl rfl
theorem w_2252 : Cond.methodLink "SignalEngineModel" 638 ⟨"SignalEngineModel", "markPairs", "()V"⟩ ∈ tt := tt_of 2252 (by decide +kernel) rfl
theorem w_2254 : Cond.instanceMethod ⟨"SignalEngineModel", "markPairs", "()V"⟩ ∈ tt := tt_of 2254 (by decide +kernel) rfl
set_option maxRecDepth 100000 in
theorem w_2255 : Cond.code ⟨"SignalEngineModel", "markPairs", "()V"⟩ prog_15_method_89_code 7 (Option.none : Option Jvm.ClassFile.FieldType) ∈ tt := tt_of 2255 rfl rfl
theorem w_2256 : Cond.methodLink "SignalEngineModel" 641 ⟨"SignalEngineModel", "differ", "(II)Z"⟩ ∈ tt := tt_of 2256 (by decide +kernel) rfl
theorem w_2258 : Cond.instanceMethod ⟨"SignalEngineModel", "differ", "(II)Z"⟩ ∈ tt := tt_of 2258 (by decide +kernel) rfl
set_option maxRecDepth 100000 in
theorem w_2259 : Cond.code ⟨"SignalEngineModel", "differ", "(II)Z"⟩ prog_15_method_91_code 6 (Option.some Jvm.ClassFile.FieldType.boolean) ∈ tt := tt_of 2259 rfl rfl
theorem w_2260 : Cond.methodLink "SignalEngineModel" 645 ⟨"SignalEngineModel", "ahead", "()V"⟩ ∈ tt := tt_of 2260 (by decide +kernel) rfl
theorem w_2262 : Cond.instanceMethod ⟨"SignalEngineModel", "ahead", "()V"⟩ ∈ tt := tt_of 2262 (by decide +kernel) rfl
set_option maxRecDepth 100000 in
theorem w_2263 : Cond.code ⟨"SignalEngineModel", "ahead", "()V"⟩ prog_15_method_90_code 5 (Option.none : Option Jvm.ClassFile.FieldType) ∈ tt := tt_of 2263 rfl rfl
theorem w_2280 : Cond.methodLink "SignalEngineModel" 651 ⟨"SignalEngineModel", "told", "(II[I)I"⟩ ∈ tt := tt_of 2280 (by decide +kernel) rfl
theorem w_2282 : Cond.instanceMethod ⟨"SignalEngineModel", "told", "(II[I)I"⟩ ∈ tt := tt_of 2282 (by decide +kernel) rfl
set_option maxRecDepth 100000 in
theorem w_2283 : Cond.code ⟨"SignalEngineModel", "told", "(II[I)I"⟩ prog_15_method_94_code 5 (Option.some Jvm.ClassFile.FieldType.int) ∈ tt := tt_of 2283 rfl rfl
theorem w_2296 : Cond.methodLink "SignalEngineModel" 655 ⟨"SignalEngineModel", "reactions", "(I)I"⟩ ∈ tt := tt_of 2296 (by decide +kernel) rfl
theorem w_2298 : Cond.instanceMethod ⟨"SignalEngineModel", "reactions", "(I)I"⟩ ∈ tt := tt_of 2298 (by decide +kernel) rfl
set_option maxRecDepth 100000 in
theorem w_2299 : Cond.code ⟨"SignalEngineModel", "reactions", "(I)I"⟩ prog_15_method_98_code 5 (Option.some Jvm.ClassFile.FieldType.int) ∈ tt := tt_of 2299 rfl rfl
theorem w_2308 : Cond.methodLink "SignalEngineModel" 657 ⟨"SignalEngineModel", "leastAlike", "(I)I"⟩ ∈ tt := tt_of 2308 (by decide +kernel) rfl
theorem w_2310 : Cond.instanceMethod ⟨"SignalEngineModel", "leastAlike", "(I)I"⟩ ∈ tt := tt_of 2310 (by decide +kernel) rfl
set_option maxRecDepth 100000 in
theorem w_2311 : Cond.code ⟨"SignalEngineModel", "leastAlike", "(I)I"⟩ prog_15_method_101_code 4 (Option.some Jvm.ClassFile.FieldType.int) ∈ tt := tt_of 2311 rfl rfl
theorem w_2320 : Cond.methodLink "SignalEngineModel" 662 ⟨"SignalEngineModel", "tables", "()V"⟩ ∈ tt := tt_of 2320 (by decide +kernel) rfl
theorem w_2322 : Cond.instanceMethod ⟨"SignalEngineModel", "tables", "()V"⟩ ∈ tt := tt_of 2322 (by decide +kernel) rfl
set_option maxRecDepth 100000 in
theorem w_2323 : Cond.code ⟨"SignalEngineModel", "tables", "()V"⟩ prog_15_method_104_code 9 (Option.none : Option Jvm.ClassFile.FieldType) ∈ tt := tt_of 2323 rfl rfl
theorem w_2324 : Cond.methodLink "SignalEngineModel" 665 ⟨"SignalEngineModel", "multiplexer", "(III)I"⟩ ∈ tt := tt_of 2324 (by decide +kernel) rfl
theorem w_2326 : Cond.instanceMethod ⟨"SignalEngineModel", "multiplexer", "(III)I"⟩ ∈ tt := tt_of 2326 (by decide +kernel) rfl
set_option maxRecDepth 100000 in
theorem w_2327 : Cond.code ⟨"SignalEngineModel", "multiplexer", "(III)I"⟩ prog_15_method_105_code 6 (Option.some Jvm.ClassFile.FieldType.int) ∈ tt := tt_of 2327 rfl rfl
theorem w_2328 : Cond.constant "SignalEngineModel" 660 (40503 : Int32) ∈ tt := tt_of 2328 (by decide +kernel) rfl
theorem w_2329 : Cond.constant "SignalEngineModel" 661 (2147483647 : Int32) ∈ tt := tt_of 2329 (by decide +kernel) rfl
theorem w_2346 : Cond.methodLink "SignalEngineModel" 668 ⟨"SignalEngineModel", "reactsOnAll", "(I)Z"⟩ ∈ tt := tt_of 2346 (by decide +kernel) rfl
theorem w_2348 : Cond.instanceMethod ⟨"SignalEngineModel", "reactsOnAll", "(I)Z"⟩ ∈ tt := tt_of 2348 (by decide +kernel) rfl
set_option maxRecDepth 100000 in
theorem w_2349 : Cond.code ⟨"SignalEngineModel", "reactsOnAll", "(I)Z"⟩ prog_15_method_111_code 4 (Option.some Jvm.ClassFile.FieldType.boolean) ∈ tt := tt_of 2349 rfl rfl
theorem wp_100 : Cond.selects "SignalEngineModel" ⟨"SignalEngineModel", "clause", "()I"⟩ ⟨"SignalEngineModel", "clause", "()I"⟩ ∈ tt := tt_sel 100 (by decide +kernel) rfl
theorem wp_101 : Cond.selects "SignalEngineModel" ⟨"SignalEngineModel", "part", "()I"⟩ ⟨"SignalEngineModel", "part", "()I"⟩ ∈ tt := tt_sel 101 (by decide +kernel) rfl
theorem wp_102 : Cond.selects "SignalEngineModel" ⟨"SignalEngineModel", "named", "(Z)I"⟩ ⟨"SignalEngineModel", "named", "(Z)I"⟩ ∈ tt := tt_sel 102 (by decide +kernel) rfl
theorem wp_103 : Cond.selects "SignalEngineModel" ⟨"SignalEngineModel", "piece", "(III)I"⟩ ⟨"SignalEngineModel", "piece", "(III)I"⟩ ∈ tt := tt_sel 103 (by decide +kernel) rfl
theorem wp_104 : Cond.selects "SignalEngineModel" ⟨"SignalEngineModel", "mustWord", "(J)V"⟩ ⟨"SignalEngineModel", "mustWord", "(J)V"⟩ ∈ tt := tt_sel 104 (by decide +kernel) rfl
theorem wp_105 : Cond.selects "SignalEngineModel" ⟨"SignalEngineModel", "leaf", "(III)I"⟩ ⟨"SignalEngineModel", "leaf", "(III)I"⟩ ∈ tt := tt_sel 105 (by decide +kernel) rfl
theorem wp_106 : Cond.selects "SignalEngineModel" ⟨"SignalEngineModel", "node", "(IIIIII)I"⟩ ⟨"SignalEngineModel", "node", "(IIIIII)I"⟩ ∈ tt := tt_sel 106 (by decide +kernel) rfl
theorem wp_107 : Cond.selects "SignalEngineModel" ⟨"SignalEngineModel", "suspend", "(I)I"⟩ ⟨"SignalEngineModel", "suspend", "(I)I"⟩ ∈ tt := tt_sel 107 (by decide +kernel) rfl
theorem wp_108 : Cond.selects "SignalEngineModel" ⟨"SignalEngineModel", "loop", "(II)I"⟩ ⟨"SignalEngineModel", "loop", "(II)I"⟩ ∈ tt := tt_sel 108 (by decide +kernel) rfl
theorem wp_109 : Cond.selects "SignalEngineModel" ⟨"SignalEngineModel", "again", "(IIII)I"⟩ ⟨"SignalEngineModel", "again", "(IIII)I"⟩ ∈ tt := tt_sel 109 (by decide +kernel) rfl
theorem wp_110 : Cond.selects "SignalEngineModel" ⟨"SignalEngineModel", "halt", "(I)I"⟩ ⟨"SignalEngineModel", "halt", "(I)I"⟩ ∈ tt := tt_sel 110 (by decide +kernel) rfl
theorem wp_111 : Cond.selects "SignalEngineModel" ⟨"SignalEngineModel", "aborted", "(IIIZI)I"⟩ ⟨"SignalEngineModel", "aborted", "(IIIZI)I"⟩ ∈ tt := tt_sel 111 (by decide +kernel) rfl
theorem wp_112 : Cond.selects "SignalEngineModel" ⟨"SignalEngineModel", "waiting", "(III)I"⟩ ⟨"SignalEngineModel", "waiting", "(III)I"⟩ ∈ tt := tt_sel 112 (by decide +kernel) rfl
theorem wp_113 : Cond.selects "SignalEngineModel" ⟨"SignalEngineModel", "trap", "(I)I"⟩ ⟨"SignalEngineModel", "trap", "(I)I"⟩ ∈ tt := tt_sel 113 (by decide +kernel) rfl
theorem wp_114 : Cond.selects "SignalEngineModel" ⟨"SignalEngineModel", "locals", "(I)I"⟩ ⟨"SignalEngineModel", "locals", "(I)I"⟩ ∈ tt := tt_sel 114 (by decide +kernel) rfl
theorem wp_115 : Cond.selects "SignalEngineModel" ⟨"SignalEngineModel", "abort", "(IZ)I"⟩ ⟨"SignalEngineModel", "abort", "(IZ)I"⟩ ∈ tt := tt_sel 115 (by decide +kernel) rfl
theorem wp_116 : Cond.selects "SignalEngineModel" ⟨"SignalEngineModel", "weak", "(I)I"⟩ ⟨"SignalEngineModel", "weak", "(I)I"⟩ ∈ tt := tt_sel 116 (by decide +kernel) rfl
theorem wp_117 : Cond.selects "SignalEngineModel" ⟨"SignalEngineModel", "every", "(I)I"⟩ ⟨"SignalEngineModel", "every", "(I)I"⟩ ∈ tt := tt_sel 117 (by decide +kernel) rfl
theorem wp_118 : Cond.selects "SignalEngineModel" ⟨"SignalEngineModel", "await", "(II)I"⟩ ⟨"SignalEngineModel", "await", "(II)I"⟩ ∈ tt := tt_sel 118 (by decide +kernel) rfl
theorem wp_119 : Cond.selects "SignalEngineModel" ⟨"SignalEngineModel", "simple", "(JI)I"⟩ ⟨"SignalEngineModel", "simple", "(JI)I"⟩ ∈ tt := tt_sel 119 (by decide +kernel) rfl
theorem wp_120 : Cond.selects "SignalEngineModel" ⟨"SignalEngineModel", "exit", "(I)I"⟩ ⟨"SignalEngineModel", "exit", "(I)I"⟩ ∈ tt := tt_sel 120 (by decide +kernel) rfl
theorem wp_121 : Cond.selects "SignalEngineModel" ⟨"SignalEngineModel", "lay", "(I)V"⟩ ⟨"SignalEngineModel", "lay", "(I)V"⟩ ∈ tt := tt_sel 121 (by decide +kernel) rfl
theorem wp_122 : Cond.selects "SignalEngineModel" ⟨"SignalEngineModel", "ask", "(I)I"⟩ ⟨"SignalEngineModel", "ask", "(I)I"⟩ ∈ tt := tt_sel 122 (by decide +kernel) rfl
theorem wp_123 : Cond.selects "SignalEngineModel" ⟨"SignalEngineModel", "around", "(I)I"⟩ ⟨"SignalEngineModel", "around", "(I)I"⟩ ∈ tt := tt_sel 123 (by decide +kernel) rfl
theorem wp_124 : Cond.selects "SignalEngineModel" ⟨"SignalEngineModel", "code", "(I)V"⟩ ⟨"SignalEngineModel", "code", "(I)V"⟩ ∈ tt := tt_sel 124 (by decide +kernel) rfl
theorem wp_125 : Cond.selects "SignalEngineModel" ⟨"SignalEngineModel", "settle", "()V"⟩ ⟨"SignalEngineModel", "settle", "()V"⟩ ∈ tt := tt_sel 125 (by decide +kernel) rfl
theorem wp_127 : Cond.selects "SignalEngineModel" ⟨"SignalEngineModel", "rest", "()V"⟩ ⟨"SignalEngineModel", "rest", "()V"⟩ ∈ tt := tt_sel 127 (by decide +kernel) rfl
theorem wp_128 : Cond.selects "SignalEngineModel" ⟨"SignalEngineModel", "place", "(I)V"⟩ ⟨"SignalEngineModel", "place", "(I)V"⟩ ∈ tt := tt_sel 128 (by decide +kernel) rfl
theorem wp_129 : Cond.selects "SignalEngineModel" ⟨"SignalEngineModel", "isInput", "(I)Z"⟩ ⟨"SignalEngineModel", "isInput", "(I)Z"⟩ ∈ tt := tt_sel 129 (by decide +kernel) rfl
theorem wp_130 : Cond.selects "SignalEngineModel" ⟨"SignalEngineModel", "react", "(I)I"⟩ ⟨"SignalEngineModel", "react", "(I)I"⟩ ∈ tt := tt_sel 130 (by decide +kernel) rfl
theorem wp_131 : Cond.selects "SignalEngineModel" ⟨"SignalEngineModel", "run", "(IZZ)V"⟩ ⟨"SignalEngineModel", "run", "(IZZ)V"⟩ ∈ tt := tt_sel 131 (by decide +kernel) rfl
theorem wp_132 : Cond.selects "SignalEngineModel" ⟨"SignalEngineModel", "simple", "(IZ)V"⟩ ⟨"SignalEngineModel", "simple", "(IZ)V"⟩ ∈ tt := tt_sel 132 (by decide +kernel) rfl
theorem wp_133 : Cond.selects "SignalEngineModel" ⟨"SignalEngineModel", "outcome", "(II)V"⟩ ⟨"SignalEngineModel", "outcome", "(II)V"⟩ ∈ tt := tt_sel 133 (by decide +kernel) rfl
theorem wp_134 : Cond.selects "SignalEngineModel" ⟨"SignalEngineModel", "present", "(IZZ)V"⟩ ⟨"SignalEngineModel", "present", "(IZZ)V"⟩ ∈ tt := tt_sel 134 (by decide +kernel) rfl
theorem wp_135 : Cond.selects "SignalEngineModel" ⟨"SignalEngineModel", "has", "(I)Z"⟩ ⟨"SignalEngineModel", "has", "(I)Z"⟩ ∈ tt := tt_sel 135 (by decide +kernel) rfl
theorem wp_136 : Cond.selects "SignalEngineModel" ⟨"SignalEngineModel", "truth", "(I)I"⟩ ⟨"SignalEngineModel", "truth", "(I)I"⟩ ∈ tt := tt_sel 136 (by decide +kernel) rfl
theorem wp_137 : Cond.selects "SignalEngineModel" ⟨"SignalEngineModel", "suspended", "(IZZ)V"⟩ ⟨"SignalEngineModel", "suspended", "(IZZ)V"⟩ ∈ tt := tt_sel 137 (by decide +kernel) rfl
theorem wp_138 : Cond.selects "SignalEngineModel" ⟨"SignalEngineModel", "sequence", "(IZZ)V"⟩ ⟨"SignalEngineModel", "sequence", "(IZZ)V"⟩ ∈ tt := tt_sel 138 (by decide +kernel) rfl
theorem wp_139 : Cond.selects "SignalEngineModel" ⟨"SignalEngineModel", "behind", "(IIZZ)V"⟩ ⟨"SignalEngineModel", "behind", "(IIZZ)V"⟩ ∈ tt := tt_sel 139 (by decide +kernel) rfl
theorem wp_140 : Cond.selects "SignalEngineModel" ⟨"SignalEngineModel", "both", "(IZZ)V"⟩ ⟨"SignalEngineModel", "both", "(IZZ)V"⟩ ∈ tt := tt_sel 140 (by decide +kernel) rfl
theorem wp_141 : Cond.selects "SignalEngineModel" ⟨"SignalEngineModel", "side", "(IZZ)V"⟩ ⟨"SignalEngineModel", "side", "(IZZ)V"⟩ ∈ tt := tt_sel 141 (by decide +kernel) rfl
theorem wp_142 : Cond.selects "SignalEngineModel" ⟨"SignalEngineModel", "trapped", "(IZZ)V"⟩ ⟨"SignalEngineModel", "trapped", "(IZZ)V"⟩ ∈ tt := tt_sel 142 (by decide +kernel) rfl
theorem wp_143 : Cond.selects "SignalEngineModel" ⟨"SignalEngineModel", "learns", "()Z"⟩ ⟨"SignalEngineModel", "learns", "()Z"⟩ ∈ tt := tt_sel 143 (by decide +kernel) rfl
theorem wp_144 : Cond.selects "SignalEngineModel" ⟨"SignalEngineModel", "find", "(I)I"⟩ ⟨"SignalEngineModel", "find", "(I)I"⟩ ∈ tt := tt_sel 144 (by decide +kernel) rfl
theorem wp_145 : Cond.selects "SignalEngineModel" ⟨"SignalEngineModel", "meet", "(III)V"⟩ ⟨"SignalEngineModel", "meet", "(III)V"⟩ ∈ tt := tt_sel 145 (by decide +kernel) rfl
theorem wp_146 : Cond.selects "SignalEngineModel" ⟨"SignalEngineModel", "markPairs", "()V"⟩ ⟨"SignalEngineModel", "markPairs", "()V"⟩ ∈ tt := tt_sel 146 (by decide +kernel) rfl
theorem wp_147 : Cond.selects "SignalEngineModel" ⟨"SignalEngineModel", "differ", "(II)Z"⟩ ⟨"SignalEngineModel", "differ", "(II)Z"⟩ ∈ tt := tt_sel 147 (by decide +kernel) rfl
theorem wp_148 : Cond.selects "SignalEngineModel" ⟨"SignalEngineModel", "ahead", "()V"⟩ ⟨"SignalEngineModel", "ahead", "()V"⟩ ∈ tt := tt_sel 148 (by decide +kernel) rfl
theorem wp_150 : Cond.selects "SignalEngineModel" ⟨"SignalEngineModel", "told", "(II[I)I"⟩ ⟨"SignalEngineModel", "told", "(II[I)I"⟩ ∈ tt := tt_sel 150 (by decide +kernel) rfl
theorem wp_151 : Cond.selects "SignalEngineModel" ⟨"SignalEngineModel", "reactions", "(I)I"⟩ ⟨"SignalEngineModel", "reactions", "(I)I"⟩ ∈ tt := tt_sel 151 (by decide +kernel) rfl
theorem wp_152 : Cond.selects "SignalEngineModel" ⟨"SignalEngineModel", "leastAlike", "(I)I"⟩ ⟨"SignalEngineModel", "leastAlike", "(I)I"⟩ ∈ tt := tt_sel 152 (by decide +kernel) rfl
theorem wp_153 : Cond.selects "SignalEngineModel" ⟨"SignalEngineModel", "tables", "()V"⟩ ⟨"SignalEngineModel", "tables", "()V"⟩ ∈ tt := tt_sel 153 (by decide +kernel) rfl
theorem wp_154 : Cond.selects "SignalEngineModel" ⟨"SignalEngineModel", "multiplexer", "(III)I"⟩ ⟨"SignalEngineModel", "multiplexer", "(III)I"⟩ ∈ tt := tt_sel 154 (by decide +kernel) rfl
theorem wp_155 : Cond.selects "SignalEngineModel" ⟨"SignalEngineModel", "reactsOnAll", "(I)Z"⟩ ⟨"SignalEngineModel", "reactsOnAll", "(I)Z"⟩ ∈ tt := tt_sel 155 (by decide +kernel) rfl
theorem wp_86 : Cond.selects "SignalEngineModel" ⟨"SignalEngineModel", "list", "(I)V"⟩ ⟨"SignalEngineModel", "list", "(I)V"⟩ ∈ tt := tt_sel 86 (by decide +kernel) rfl
theorem wp_87 : Cond.selects "SignalEngineModel" ⟨"SignalEngineModel", "isName", "()Z"⟩ ⟨"SignalEngineModel", "isName", "()Z"⟩ ∈ tt := tt_sel 87 (by decide +kernel) rfl
theorem wp_89 : Cond.selects "SignalEngineModel" ⟨"SignalEngineModel", "signal", "(I)I"⟩ ⟨"SignalEngineModel", "signal", "(I)I"⟩ ∈ tt := tt_sel 89 (by decide +kernel) rfl
theorem wp_90 : Cond.selects "SignalEngineModel" ⟨"SignalEngineModel", "same", "(IIII)Z"⟩ ⟨"SignalEngineModel", "same", "(IIII)Z"⟩ ∈ tt := tt_sel 90 (by decide +kernel) rfl
theorem wp_96 : Cond.selects "SignalEngineModel" ⟨"SignalEngineModel", "deeper", "()V"⟩ ⟨"SignalEngineModel", "deeper", "()V"⟩ ∈ tt := tt_sel 96 (by decide +kernel) rfl
theorem wp_97 : Cond.selects "SignalEngineModel" ⟨"SignalEngineModel", "closed", "()I"⟩ ⟨"SignalEngineModel", "closed", "()I"⟩ ∈ tt := tt_sel 97 (by decide +kernel) rfl
theorem wp_98 : Cond.selects "SignalEngineModel" ⟨"SignalEngineModel", "present", "(I)I"⟩ ⟨"SignalEngineModel", "present", "(I)I"⟩ ∈ tt := tt_sel 98 (by decide +kernel) rfl
theorem wp_99 : Cond.selects "SignalEngineModel" ⟨"SignalEngineModel", "asked", "()I"⟩ ⟨"SignalEngineModel", "asked", "()I"⟩ ∈ tt := tt_sel 99 (by decide +kernel) rfl
theorem vs_isLetter_217 : dc_SW "SignalEngineModel" 217 ⟨"SignalEngineModel", "isLetter", "(I)Z"⟩ prog_15_method_7_code 1 (some (.boolean)) 1 := ⟨w_1923, w_2, w_1921, w_1922, by decide +kernel, by decide +kernel, by decide +kernel⟩
theorem vw_letter_I_227 : dc_VW "SignalEngineModel" 227 ⟨"SignalEngineModel", "letter", "(I)I"⟩ prog_15_method_6_code 2 (some (.int)) 1 := ⟨w_1920, w_2, w_1917, w_1919, wp_83, by decide +kernel, by decide +kernel, by decide +kernel⟩
theorem vs_isPlain_247 : dc_SW "SignalEngineModel" 247 ⟨"SignalEngineModel", "isPlain", "(I)Z"⟩ prog_15_method_8_code 1 (some (.boolean)) 1 := ⟨w_1926, w_2, w_1924, w_1925, by decide +kernel, by decide +kernel, by decide +kernel⟩
theorem vw_isWord_254 : dc_VW "SignalEngineModel" 254 ⟨"SignalEngineModel", "isWord", "(J)Z"⟩ prog_15_method_11_code 3 (some (.boolean)) 1 := ⟨w_1937, w_2, w_1934, w_1936, wp_85, by decide +kernel, by decide +kernel, by decide +kernel⟩
theorem vw_advance_258 : dc_VW "SignalEngineModel" 258 ⟨"SignalEngineModel", "advance", "()V"⟩ prog_15_method_10_code 3 none 0 := ⟨w_1916, w_2, w_1913, w_1915, wp_82, by decide +kernel, by decide +kernel, by decide +kernel⟩
theorem vw_isKept_323 : dc_VW "SignalEngineModel" 323 ⟨"SignalEngineModel", "isKept", "()Z"⟩ prog_15_method_16_code 1 (some (.boolean)) 0 := ⟨w_1949, w_2, w_1946, w_1948, wp_88, by decide +kernel, by decide +kernel, by decide +kernel⟩
theorem vw_same_330 : dc_VW "SignalEngineModel" 330 ⟨"SignalEngineModel", "same", "(IIII)Z"⟩ prog_15_method_18_code 7 (some (.boolean)) 4 := ⟨w_1982, w_2, w_1979, w_1981, wp_90, by decide +kernel, by decide +kernel, by decide +kernel⟩
theorem vw_isSign_261 : dc_VW "SignalEngineModel" 261 ⟨"SignalEngineModel", "isSign", "(I)Z"⟩ prog_15_method_12_code 2 (some (.boolean)) 1 := ⟨w_1990, w_2, w_1987, w_1989, wp_92, by decide +kernel, by decide +kernel, by decide +kernel⟩
theorem vw_meetsSign_346 : dc_VW "SignalEngineModel" 346 ⟨"SignalEngineModel", "meetsSign", "(I)Z"⟩ prog_15_method_14_code 2 (some (.boolean)) 1 := ⟨w_1986, w_2, w_1983, w_1985, wp_91, by decide +kernel, by decide +kernel, by decide +kernel⟩
theorem vw_isName_337 : dc_VW "SignalEngineModel" 337 ⟨"SignalEngineModel", "isName", "()Z"⟩ prog_15_method_17_code 1 (some (.boolean)) 0 := ⟨w_1945, w_2, w_1942, w_1944, wp_87, by decide +kernel, by decide +kernel, by decide +kernel⟩
theorem vw_fail_267 : dc_VW "SignalEngineModel" 267 ⟨"SignalEngineModel", "fail", "(II)V"⟩ prog_15_method_9_code 3 none 2 := ⟨w_1912, w_2, w_1909, w_1911, wp_81, by decide +kernel, by decide +kernel, by decide +kernel⟩
theorem vw_signal_340 : dc_VW "SignalEngineModel" 340 ⟨"SignalEngineModel", "signal", "(I)I"⟩ prog_15_method_19_code 4 (some (.int)) 1 := ⟨w_1978, w_2, w_1975, w_1977, wp_89, by decide +kernel, by decide +kernel, by decide +kernel⟩
theorem vw_meetsWord_264 : dc_VW "SignalEngineModel" 264 ⟨"SignalEngineModel", "meetsWord", "(J)Z"⟩ prog_15_method_13_code 3 (some (.boolean)) 1 := ⟨w_1933, w_2, w_1930, w_1932, wp_84, by decide +kernel, by decide +kernel, by decide +kernel⟩
theorem vw_clause_355 : dc_VW "SignalEngineModel" 355 ⟨"SignalEngineModel", "clause", "()I"⟩ prog_15_method_24_code 2 (some (.int)) 0 := ⟨w_2025, w_2, w_2022, w_2024, wp_100, by decide +kernel, by decide +kernel, by decide +kernel⟩
theorem vw_piece_III_359 : dc_VW "SignalEngineModel" 359 ⟨"SignalEngineModel", "piece", "(III)I"⟩ prog_15_method_22_code 4 (some (.int)) 3 := ⟨w_2037, w_2, w_2034, w_2036, wp_103, by decide +kernel, by decide +kernel, by decide +kernel⟩
theorem vw_part_363 : dc_VW "SignalEngineModel" 363 ⟨"SignalEngineModel", "part", "()I"⟩ prog_15_method_25_code 3 (some (.int)) 0 := ⟨w_2029, w_2, w_2026, w_2028, wp_101, by decide +kernel, by decide +kernel, by decide +kernel⟩
theorem vw_deeper_370 : dc_VW "SignalEngineModel" 370 ⟨"SignalEngineModel", "deeper", "()V"⟩ prog_15_method_20_code 1 none 0 := ⟨w_2009, w_2, w_2006, w_2008, wp_96, by decide +kernel, by decide +kernel, by decide +kernel⟩
theorem vw_asked_373 : dc_VW "SignalEngineModel" 373 ⟨"SignalEngineModel", "asked", "()I"⟩ prog_15_method_23_code 2 (some (.int)) 0 := ⟨w_2021, w_2, w_2018, w_2020, wp_99, by decide +kernel, by decide +kernel, by decide +kernel⟩
theorem vw_named_366 : dc_VW "SignalEngineModel" 366 ⟨"SignalEngineModel", "named", "(Z)I"⟩ prog_15_method_26_code 3 (some (.int)) 1 := ⟨w_2033, w_2, w_2030, w_2032, wp_102, by decide +kernel, by decide +kernel, by decide +kernel⟩
theorem vw_node_IIIIII_382 : dc_VW "SignalEngineModel" 382 ⟨"SignalEngineModel", "node", "(IIIIII)I"⟩ prog_15_method_27_code 7 (some (.int)) 6 := ⟨w_2049, w_2, w_2046, w_2048, wp_106, by decide +kernel, by decide +kernel, by decide +kernel⟩
theorem vw_leaf_437 : dc_VW "SignalEngineModel" 437 ⟨"SignalEngineModel", "leaf", "(III)I"⟩ prog_15_method_28_code 4 (some (.int)) 3 := ⟨w_2045, w_2, w_2042, w_2044, wp_105, by decide +kernel, by decide +kernel, by decide +kernel⟩
theorem vw_waiting_455 : dc_VW "SignalEngineModel" 455 ⟨"SignalEngineModel", "waiting", "(III)I"⟩ prog_15_method_39_code 7 (some (.int)) 3 := ⟨w_2082, w_2, w_2079, w_2081, wp_112, by decide +kernel, by decide +kernel, by decide +kernel⟩
theorem vs_pairs_392 : dc_SW "SignalEngineModel" 392 ⟨"SignalEngineModel", "pairs", "(II)I"⟩ prog_15_method_29_code 5 (some (.int)) 2 := ⟨w_2075, w_2, w_2073, w_2074, by decide +kernel, by decide +kernel, by decide +kernel⟩
theorem vs_caught_458 : dc_SW "SignalEngineModel" 458 ⟨"SignalEngineModel", "caught", "(I)I"⟩ prog_15_method_31_code 1 (some (.int)) 1 := ⟨w_2078, w_2, w_2076, w_2077, by decide +kernel, by decide +kernel, by decide +kernel⟩
theorem vw_halt_440 : dc_VW "SignalEngineModel" 440 ⟨"SignalEngineModel", "halt", "(I)I"⟩ prog_15_method_38_code 2 (some (.int)) 1 := ⟨w_2065, w_2, w_2062, w_2064, wp_110, by decide +kernel, by decide +kernel, by decide +kernel⟩
theorem vs_then_399 : dc_SW "SignalEngineModel" 399 ⟨"SignalEngineModel", "then", "(II)I"⟩ prog_15_method_30_code 2 (some (.int)) 2 := ⟨w_2068, w_2, w_2066, w_2067, by decide +kernel, by decide +kernel, by decide +kernel⟩
theorem vw_aborted_461 : dc_VW "SignalEngineModel" 461 ⟨"SignalEngineModel", "aborted", "(IIIZI)I"⟩ prog_15_method_41_code 9 (some (.int)) 5 := ⟨w_2072, w_2, w_2069, w_2071, wp_111, by decide +kernel, by decide +kernel, by decide +kernel⟩
theorem vw_exit_443 : dc_VW "SignalEngineModel" 443 ⟨"SignalEngineModel", "exit", "(I)I"⟩ prog_15_method_43_code 3 (some (.int)) 1 := ⟨w_2114, w_2, w_2111, w_2113, wp_120, by decide +kernel, by decide +kernel, by decide +kernel⟩
theorem vw_await_446 : dc_VW "SignalEngineModel" 446 ⟨"SignalEngineModel", "await", "(II)I"⟩ prog_15_method_40_code 4 (some (.int)) 2 := ⟨w_2106, w_2, w_2103, w_2105, wp_118, by decide +kernel, by decide +kernel, by decide +kernel⟩
theorem vw_row_386 : dc_VW "SignalEngineModel" 386 ⟨"SignalEngineModel", "row", "()I"⟩ prog_15_method_33_code 4 (some (.int)) 0 := ⟨w_1998, w_2, w_1995, w_1997, wp_94, by decide +kernel, by decide +kernel, by decide +kernel⟩
theorem vw_statement_396 : dc_VW "SignalEngineModel" 396 ⟨"SignalEngineModel", "statement", "()I"⟩ prog_15_method_34_code 7 (some (.int)) 0 := ⟨w_2002, w_2, w_1999, w_2001, wp_95, by decide +kernel, by decide +kernel, by decide +kernel⟩
theorem vw_present_I_408 : dc_VW "SignalEngineModel" 408 ⟨"SignalEngineModel", "present", "(I)I"⟩ prog_15_method_44_code 6 (some (.int)) 1 := ⟨w_2017, w_2, w_2014, w_2016, wp_98, by decide +kernel, by decide +kernel, by decide +kernel⟩
theorem vw_suspend_411 : dc_VW "SignalEngineModel" 411 ⟨"SignalEngineModel", "suspend", "(I)I"⟩ prog_15_method_45_code 5 (some (.int)) 1 := ⟨w_2053, w_2, w_2050, w_2052, wp_107, by decide +kernel, by decide +kernel, by decide +kernel⟩
theorem vw_loop_414 : dc_VW "SignalEngineModel" 414 ⟨"SignalEngineModel", "loop", "(II)I"⟩ prog_15_method_46_code 6 (some (.int)) 2 := ⟨w_2057, w_2, w_2054, w_2056, wp_108, by decide +kernel, by decide +kernel, by decide +kernel⟩
theorem vw_trap_417 : dc_VW "SignalEngineModel" 417 ⟨"SignalEngineModel", "trap", "(I)I"⟩ prog_15_method_47_code 4 (some (.int)) 1 := ⟨w_2086, w_2, w_2083, w_2085, wp_113, by decide +kernel, by decide +kernel, by decide +kernel⟩
theorem vw_locals_420 : dc_VW "SignalEngineModel" 420 ⟨"SignalEngineModel", "locals", "(I)I"⟩ prog_15_method_48_code 7 (some (.int)) 1 := ⟨w_2090, w_2, w_2087, w_2089, wp_114, by decide +kernel, by decide +kernel, by decide +kernel⟩
theorem vw_abort_423 : dc_VW "SignalEngineModel" 423 ⟨"SignalEngineModel", "abort", "(IZ)I"⟩ prog_15_method_49_code 6 (some (.int)) 2 := ⟨w_2094, w_2, w_2091, w_2093, wp_115, by decide +kernel, by decide +kernel, by decide +kernel⟩
theorem vw_weak_427 : dc_VW "SignalEngineModel" 427 ⟨"SignalEngineModel", "weak", "(I)I"⟩ prog_15_method_50_code 2 (some (.int)) 1 := ⟨w_2098, w_2, w_2095, w_2097, wp_116, by decide +kernel, by decide +kernel, by decide +kernel⟩
theorem vw_every_430 : dc_VW "SignalEngineModel" 430 ⟨"SignalEngineModel", "every", "(I)I"⟩ prog_15_method_51_code 7 (some (.int)) 1 := ⟨w_2102, w_2, w_2099, w_2101, wp_117, by decide +kernel, by decide +kernel, by decide +kernel⟩
theorem vw_simple_JI_433 : dc_VW "SignalEngineModel" 433 ⟨"SignalEngineModel", "simple", "(JI)I"⟩ prog_15_method_36_code 5 (some (.int)) 2 := ⟨w_2110, w_2, w_2107, w_2109, wp_119, by decide +kernel, by decide +kernel, by decide +kernel⟩
theorem vw_closed_405 : dc_VW "SignalEngineModel" 405 ⟨"SignalEngineModel", "closed", "()I"⟩ prog_15_method_37_code 2 (some (.int)) 0 := ⟨w_2013, w_2, w_2010, w_2012, wp_97, by decide +kernel, by decide +kernel, by decide +kernel⟩
theorem vs_begins_402 : dc_SW "SignalEngineModel" 402 ⟨"SignalEngineModel", "begins", "(J)Z"⟩ prog_15_method_35_code 2 (some (.boolean)) 1 := ⟨w_2005, w_2, w_2003, w_2004, by decide +kernel, by decide +kernel, by decide +kernel⟩
theorem vw_body_449 : dc_VW "SignalEngineModel" 449 ⟨"SignalEngineModel", "body", "()I"⟩ prog_15_method_32_code 4 (some (.int)) 0 := ⟨w_1994, w_2, w_1991, w_1993, wp_93, by decide +kernel, by decide +kernel, by decide +kernel⟩
theorem vw_mustWord_468 : dc_VW "SignalEngineModel" 468 ⟨"SignalEngineModel", "mustWord", "(J)V"⟩ prog_15_method_15_code 3 none 1 := ⟨w_2041, w_2, w_2038, w_2040, wp_104, by decide +kernel, by decide +kernel, by decide +kernel⟩
theorem vw_again_478 : dc_VW "SignalEngineModel" 478 ⟨"SignalEngineModel", "again", "(IIII)I"⟩ prog_15_method_42_code 6 (some (.int)) 4 := ⟨w_2061, w_2, w_2058, w_2060, wp_109, by decide +kernel, by decide +kernel, by decide +kernel⟩
theorem vw_list_482 : dc_VW "SignalEngineModel" 482 ⟨"SignalEngineModel", "list", "(I)V"⟩ prog_15_method_21_code 3 none 1 := ⟨w_1941, w_2, w_1938, w_1940, wp_86, by decide +kernel, by decide +kernel, by decide +kernel⟩
theorem vw_code_559 : dc_VW "SignalEngineModel" 559 ⟨"SignalEngineModel", "code", "(I)V"⟩ prog_15_method_58_code 6 none 1 := ⟨w_2131, w_2, w_2128, w_2130, wp_124, by decide +kernel, by decide +kernel, by decide +kernel⟩
theorem vw_around_551 : dc_VW "SignalEngineModel" 551 ⟨"SignalEngineModel", "around", "(I)I"⟩ prog_15_method_56_code 4 (some (.int)) 1 := ⟨w_2126, w_2, w_2123, w_2125, wp_123, by decide +kernel, by decide +kernel, by decide +kernel⟩
theorem vw_ask_548 : dc_VW "SignalEngineModel" 548 ⟨"SignalEngineModel", "ask", "(I)I"⟩ prog_15_method_57_code 8 (some (.int)) 1 := ⟨w_2122, w_2, w_2119, w_2121, wp_122, by decide +kernel, by decide +kernel, by decide +kernel⟩
theorem vw_forget_489 : dc_VW "SignalEngineModel" 489 ⟨"SignalEngineModel", "forget", "()V"⟩ prog_15_method_54_code 2 none 0 := ⟨w_1904, w_2, w_1901, w_1903, wp_79, by decide +kernel, by decide +kernel, by decide +kernel⟩
theorem vw_settle_510 : dc_VW "SignalEngineModel" 510 ⟨"SignalEngineModel", "settle", "()V"⟩ prog_15_method_59_code 3 none 0 := ⟨w_2135, w_2, w_2132, w_2134, wp_125, by decide +kernel, by decide +kernel, by decide +kernel⟩
theorem vw_lay_I_495 : dc_VW "SignalEngineModel" 495 ⟨"SignalEngineModel", "lay", "(I)V"⟩ prog_15_method_55_code 7 none 1 := ⟨w_2118, w_2, w_2115, w_2117, wp_121, by decide +kernel, by decide +kernel, by decide +kernel⟩
theorem vw_program_492 : dc_VW "SignalEngineModel" 492 ⟨"SignalEngineModel", "program", "()I"⟩ prog_15_method_52_code 3 (some (.int)) 0 := ⟨w_1908, w_2, w_1905, w_1907, wp_80, by decide +kernel, by decide +kernel, by decide +kernel⟩
theorem vw_fails_615 : dc_VW "SignalEngineModel" 615 ⟨"SignalEngineModel", "fails", "(ZZ)Z"⟩ prog_15_method_3_code 3 (some (.boolean)) 2 := ⟨w_2155, w_2, w_2152, w_2154, wp_126, by decide +kernel, by decide +kernel, by decide +kernel⟩
theorem vw_rest_619 : dc_VW "SignalEngineModel" 619 ⟨"SignalEngineModel", "rest", "()V"⟩ prog_15_method_77_code 2 none 0 := ⟨w_2159, w_2, w_2156, w_2158, wp_127, by decide +kernel, by decide +kernel, by decide +kernel⟩
theorem vw_place_622 : dc_VW "SignalEngineModel" 622 ⟨"SignalEngineModel", "place", "(I)V"⟩ prog_15_method_78_code 3 none 1 := ⟨w_2163, w_2, w_2160, w_2162, wp_128, by decide +kernel, by decide +kernel, by decide +kernel⟩
theorem vw_outcome_579 : dc_VW "SignalEngineModel" 579 ⟨"SignalEngineModel", "outcome", "(II)V"⟩ prog_15_method_63_code 3 none 2 := ⟨w_2187, w_2, w_2184, w_2186, wp_133, by decide +kernel, by decide +kernel, by decide +kernel⟩
theorem vw_simple_IZ_576 : dc_VW "SignalEngineModel" 576 ⟨"SignalEngineModel", "simple", "(IZ)V"⟩ prog_15_method_67_code 4 none 2 := ⟨w_2183, w_2, w_2180, w_2182, wp_132, by decide +kernel, by decide +kernel, by decide +kernel⟩
theorem vw_present_IZZ_582 : dc_VW "SignalEngineModel" 582 ⟨"SignalEngineModel", "present", "(IZZ)V"⟩ prog_15_method_68_code 6 none 3 := ⟨w_2191, w_2, w_2188, w_2190, wp_134, by decide +kernel, by decide +kernel, by decide +kernel⟩
theorem vw_suspended_585 : dc_VW "SignalEngineModel" 585 ⟨"SignalEngineModel", "suspended", "(IZZ)V"⟩ prog_15_method_69_code 6 none 3 := ⟨w_2203, w_2, w_2200, w_2202, wp_137, by decide +kernel, by decide +kernel, by decide +kernel⟩
theorem vw_sequence_588 : dc_VW "SignalEngineModel" 588 ⟨"SignalEngineModel", "sequence", "(IZZ)V"⟩ prog_15_method_71_code 5 none 3 := ⟨w_2207, w_2, w_2204, w_2206, wp_138, by decide +kernel, by decide +kernel, by decide +kernel⟩
theorem vw_run_591 : dc_VW "SignalEngineModel" 591 ⟨"SignalEngineModel", "run", "(IZZ)V"⟩ prog_15_method_66_code 5 none 3 := ⟨w_2179, w_2, w_2176, w_2178, wp_131, by decide +kernel, by decide +kernel, by decide +kernel⟩
theorem vw_behind_594 : dc_VW "SignalEngineModel" 594 ⟨"SignalEngineModel", "behind", "(IIZZ)V"⟩ prog_15_method_70_code 9 none 4 := ⟨w_2211, w_2, w_2208, w_2210, wp_139, by decide +kernel, by decide +kernel, by decide +kernel⟩
theorem vw_both_598 : dc_VW "SignalEngineModel" 598 ⟨"SignalEngineModel", "both", "(IZZ)V"⟩ prog_15_method_73_code 7 none 3 := ⟨w_2215, w_2, w_2212, w_2214, wp_140, by decide +kernel, by decide +kernel, by decide +kernel⟩
theorem vw_trapped_601 : dc_VW "SignalEngineModel" 601 ⟨"SignalEngineModel", "trapped", "(IZZ)V"⟩ prog_15_method_74_code 5 none 3 := ⟨w_2223, w_2, w_2220, w_2222, wp_142, by decide +kernel, by decide +kernel, by decide +kernel⟩
theorem vw_has_604 : dc_VW "SignalEngineModel" 604 ⟨"SignalEngineModel", "has", "(I)Z"⟩ prog_15_method_64_code 2 (some (.boolean)) 1 := ⟨w_2195, w_2, w_2192, w_2194, wp_135, by decide +kernel, by decide +kernel, by decide +kernel⟩
theorem vw_truth_607 : dc_VW "SignalEngineModel" 607 ⟨"SignalEngineModel", "truth", "(I)I"⟩ prog_15_method_65_code 7 (some (.int)) 1 := ⟨w_2199, w_2, w_2196, w_2198, wp_136, by decide +kernel, by decide +kernel, by decide +kernel⟩
theorem vw_side_609 : dc_VW "SignalEngineModel" 609 ⟨"SignalEngineModel", "side", "(IZZ)V"⟩ prog_15_method_72_code 4 none 3 := ⟨w_2219, w_2, w_2216, w_2218, wp_141, by decide +kernel, by decide +kernel, by decide +kernel⟩
theorem vw_learns_612 : dc_VW "SignalEngineModel" 612 ⟨"SignalEngineModel", "learns", "()Z"⟩ prog_15_method_75_code 3 (some (.boolean)) 0 := ⟨w_2227, w_2, w_2224, w_2226, wp_143, by decide +kernel, by decide +kernel, by decide +kernel⟩
theorem vw_react_628 : dc_VW "SignalEngineModel" 628 ⟨"SignalEngineModel", "react", "(I)I"⟩ prog_15_method_76_code 5 (some (.int)) 1 := ⟨w_2175, w_2, w_2172, w_2174, wp_130, by decide +kernel, by decide +kernel, by decide +kernel⟩
theorem vw_isInput_625 : dc_VW "SignalEngineModel" 625 ⟨"SignalEngineModel", "isInput", "(I)Z"⟩ prog_15_method_80_code 2 (some (.boolean)) 1 := ⟨w_2171, w_2, w_2168, w_2170, wp_129, by decide +kernel, by decide +kernel, by decide +kernel⟩
theorem vw_find_631 : dc_VW "SignalEngineModel" 631 ⟨"SignalEngineModel", "find", "(I)I"⟩ prog_15_method_84_code 3 (some (.int)) 1 := ⟨w_2243, w_2, w_2240, w_2242, wp_144, by decide +kernel, by decide +kernel, by decide +kernel⟩
theorem vw_ahead_645 : dc_VW "SignalEngineModel" 645 ⟨"SignalEngineModel", "ahead", "()V"⟩ prog_15_method_90_code 5 none 0 := ⟨w_2263, w_2, w_2260, w_2262, wp_148, by decide +kernel, by decide +kernel, by decide +kernel⟩
theorem vw_differ_641 : dc_VW "SignalEngineModel" 641 ⟨"SignalEngineModel", "differ", "(II)Z"⟩ prog_15_method_91_code 6 (some (.boolean)) 2 := ⟨w_2259, w_2, w_2256, w_2258, wp_147, by decide +kernel, by decide +kernel, by decide +kernel⟩
theorem vw_markPairs_638 : dc_VW "SignalEngineModel" 638 ⟨"SignalEngineModel", "markPairs", "()V"⟩ prog_15_method_89_code 7 none 0 := ⟨w_2255, w_2, w_2252, w_2254, wp_146, by decide +kernel, by decide +kernel, by decide +kernel⟩
theorem vw_meet_634 : dc_VW "SignalEngineModel" 634 ⟨"SignalEngineModel", "meet", "(III)V"⟩ prog_15_method_87_code 4 none 3 := ⟨w_2251, w_2, w_2248, w_2250, wp_145, by decide +kernel, by decide +kernel, by decide +kernel⟩
theorem vw_placeOf_648 : dc_VW "SignalEngineModel" 648 ⟨"SignalEngineModel", "placeOf", "(I)I"⟩ prog_15_method_85_code 2 (some (.int)) 1 := ⟨w_2271, w_2, w_2268, w_2270, wp_149, by decide +kernel, by decide +kernel, by decide +kernel⟩
theorem vw_told_651 : dc_VW "SignalEngineModel" 651 ⟨"SignalEngineModel", "told", "(II[I)I"⟩ prog_15_method_94_code 5 (some (.int)) 3 := ⟨w_2283, w_2, w_2280, w_2282, wp_150, by decide +kernel, by decide +kernel, by decide +kernel⟩
theorem vw_reactions_655 : dc_VW "SignalEngineModel" 655 ⟨"SignalEngineModel", "reactions", "(I)I"⟩ prog_15_method_98_code 5 (some (.int)) 1 := ⟨w_2299, w_2, w_2296, w_2298, wp_151, by decide +kernel, by decide +kernel, by decide +kernel⟩
theorem vw_leastAlike_657 : dc_VW "SignalEngineModel" 657 ⟨"SignalEngineModel", "leastAlike", "(I)I"⟩ prog_15_method_101_code 4 (some (.int)) 1 := ⟨w_2311, w_2, w_2308, w_2310, wp_152, by decide +kernel, by decide +kernel, by decide +kernel⟩
theorem vw_multiplexer_665 : dc_VW "SignalEngineModel" 665 ⟨"SignalEngineModel", "multiplexer", "(III)I"⟩ prog_15_method_105_code 6 (some (.int)) 3 := ⟨w_2327, w_2, w_2324, w_2326, wp_154, by decide +kernel, by decide +kernel, by decide +kernel⟩
theorem vw_tables_662 : dc_VW "SignalEngineModel" 662 ⟨"SignalEngineModel", "tables", "()V"⟩ prog_15_method_104_code 9 none 0 := ⟨w_2323, w_2, w_2320, w_2322, wp_153, by decide +kernel, by decide +kernel, by decide +kernel⟩
theorem vw_reactsOnAll_668 : dc_VW "SignalEngineModel" 668 ⟨"SignalEngineModel", "reactsOnAll", "(I)Z"⟩ prog_15_method_111_code 4 (some (.boolean)) 1 := ⟨w_2349, w_2, w_2346, w_2348, wp_155, by decide +kernel, by decide +kernel, by decide +kernel⟩
theorem dsw_prog_15_method_58_code_115 : decode prog_15_method_58_code 115 = .ok (.tableswitch 200 0 9 #[53, 63, 53, 147, 200, 159, 200, 173, 187, 73], 53) := by decide +kernel
theorem dsw_prog_15_method_60_code_20 : decode prog_15_method_60_code 20 = .ok (.tableswitch 93 0 6 #[44, 51, 58, 65, 72, 79, 86], 44) := by decide +kernel
theorem dsw_prog_15_method_66_code_115 : decode prog_15_method_66_code 115 = .ok (.tableswitch 173 0 9 #[53, 63, 53, 94, 105, 116, 127, 162, 173, 53], 53) := by decide +kernel
