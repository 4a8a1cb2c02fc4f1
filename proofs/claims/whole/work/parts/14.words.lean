/-! words that the walks use, each by its place; written by wip/gen -/
theorem w_1566 : Cond.fieldLink "SignalEngineModel" 224 "SignalEngineModel" "at" "I" ∈ tt := tt_of 1566 (by decide +kernel) rfl
theorem w_1567 : Cond.fieldLink "SignalEngineModel" 231 "SignalEngineModel" "line" "I" ∈ tt := tt_of 1567 (by decide +kernel) rfl
theorem w_1568 : Cond.fieldLink "SignalEngineModel" 240 "SignalEngineModel" "sort" "I" ∈ tt := tt_of 1568 (by decide +kernel) rfl
theorem w_1569 : Cond.fieldLink "SignalEngineModel" 234 "SignalEngineModel" "from" "I" ∈ tt := tt_of 1569 (by decide +kernel) rfl
theorem w_1570 : Cond.fieldLink "SignalEngineModel" 237 "SignalEngineModel" "lineOf" "I" ∈ tt := tt_of 1570 (by decide +kernel) rfl
theorem w_1571 : Cond.fieldLink "SignalEngineModel" 243 "SignalEngineModel" "word" "J" ∈ tt := tt_of 1571 (by decide +kernel) rfl
theorem w_1572 : Cond.fieldLink "SignalEngineModel" 221 "SignalEngineModel" "fault" "I" ∈ tt := tt_of 1572 (by decide +kernel) rfl
theorem w_1573 : Cond.fieldLink "SignalEngineModel" 334 "SignalEngineModel" "open" "I" ∈ tt := tt_of 1573 (by decide +kernel) rfl
theorem w_1574 : Cond.fieldLink "SignalEngineModel" 352 "SignalEngineModel" "great" "Z" ∈ tt := tt_of 1574 (by decide +kernel) rfl
theorem w_1575 : Cond.fieldLink "SignalEngineModel" 472 "SignalEngineModel" "turnsAt" "I" ∈ tt := tt_of 1575 (by decide +kernel) rfl
theorem w_1577 : Cond.fieldLink "SignalEngineModel" 343 "SignalEngineModel" "names" "I" ∈ tt := tt_of 1577 (by decide +kernel) rfl
theorem w_1578 : Cond.fieldLink "SignalEngineModel" 376 "SignalEngineModel" "inputs" "I" ∈ tt := tt_of 1578 (by decide +kernel) rfl
theorem w_1579 : Cond.fieldLink "SignalEngineModel" 486 "SignalEngineModel" "outputs" "I" ∈ tt := tt_of 1579 (by decide +kernel) rfl
theorem w_1580 : Cond.fieldLink "SignalEngineModel" 327 "SignalEngineModel" "scopes" "I" ∈ tt := tt_of 1580 (by decide +kernel) rfl
theorem w_1581 : Cond.fieldLink "SignalEngineModel" 465 "SignalEngineModel" "trapScopes" "I" ∈ tt := tt_of 1581 (by decide +kernel) rfl
theorem w_1582 : Cond.fieldLink "SignalEngineModel" 452 "SignalEngineModel" "serials" "I" ∈ tt := tt_of 1582 (by decide +kernel) rfl
theorem w_1589 : Cond.fieldLink "SignalEngineModel" 379 "SignalEngineModel" "built" "I" ∈ tt := tt_of 1589 (by decide +kernel) rfl
theorem w_1590 : Cond.fieldLink "SignalEngineModel" 349 "SignalEngineModel" "pieced" "I" ∈ tt := tt_of 1590 (by decide +kernel) rfl
theorem w_1591 : Cond.fieldLink "SignalEngineModel" 389 "SignalEngineModel" "codes" "I" ∈ tt := tt_of 1591 (by decide +kernel) rfl
theorem w_1636 : Cond.fieldLink "SignalEngineModel" 136 "SignalEngineModel" "selected" "[Z" ∈ tt := tt_of 1636 (by decide +kernel) rfl
theorem w_1639 : Cond.fieldLink "SignalEngineModel" 513 "SignalEngineModel" "begins" "Z" ∈ tt := tt_of 1639 (by decide +kernel) rfl
theorem w_1646 : Cond.fieldLink "SignalEngineModel" 145 "SignalEngineModel" "shown" "[I" ∈ tt := tt_of 1646 (by decide +kernel) rfl
theorem w_1901 : Cond.methodLink "SignalEngineModel" 489 ⟨"SignalEngineModel", "forget", "()V"⟩ ∈ tt := tt_of 1901 (by decide +kernel) rfl
theorem w_1903 : Cond.instanceMethod ⟨"SignalEngineModel", "forget", "()V"⟩ ∈ tt := tt_of 1903 (by decide +kernel) rfl
set_option maxRecDepth 100000 in
theorem w_1904 : Cond.code ⟨"SignalEngineModel", "forget", "()V"⟩ prog_15_method_54_code 2 (Option.none : Option Jvm.ClassFile.FieldType) ∈ tt := tt_of 1904 rfl rfl
theorem w_1905 : Cond.methodLink "SignalEngineModel" 492 ⟨"SignalEngineModel", "program", "()I"⟩ ∈ tt := tt_of 1905 (by decide +kernel) rfl
theorem w_1907 : Cond.instanceMethod ⟨"SignalEngineModel", "program", "()I"⟩ ∈ tt := tt_of 1907 (by decide +kernel) rfl
set_option maxRecDepth 100000 in
theorem w_1908 : Cond.code ⟨"SignalEngineModel", "program", "()I"⟩ prog_15_method_52_code 3 (Option.some Jvm.ClassFile.FieldType.int) ∈ tt := tt_of 1908 rfl rfl
theorem w_1909 : Cond.methodLink "SignalEngineModel" 267 ⟨"SignalEngineModel", "fail", "(II)V"⟩ ∈ tt := tt_of 1909 (by decide +kernel) rfl
theorem w_1911 : Cond.instanceMethod ⟨"SignalEngineModel", "fail", "(II)V"⟩ ∈ tt := tt_of 1911 (by decide +kernel) rfl
set_option maxRecDepth 100000 in
theorem w_1912 : Cond.code ⟨"SignalEngineModel", "fail", "(II)V"⟩ prog_15_method_9_code 3 (Option.none : Option Jvm.ClassFile.FieldType) ∈ tt := tt_of 1912 rfl rfl
theorem w_1913 : Cond.methodLink "SignalEngineModel" 258 ⟨"SignalEngineModel", "advance", "()V"⟩ ∈ tt := tt_of 1913 (by decide +kernel) rfl
theorem w_1915 : Cond.instanceMethod ⟨"SignalEngineModel", "advance", "()V"⟩ ∈ tt := tt_of 1915 (by decide +kernel) rfl
set_option maxRecDepth 100000 in
theorem w_1916 : Cond.code ⟨"SignalEngineModel", "advance", "()V"⟩ prog_15_method_10_code 3 (Option.none : Option Jvm.ClassFile.FieldType) ∈ tt := tt_of 1916 rfl rfl
theorem w_1917 : Cond.methodLink "SignalEngineModel" 227 ⟨"SignalEngineModel", "letter", "(I)I"⟩ ∈ tt := tt_of 1917 (by decide +kernel) rfl
theorem w_1919 : Cond.instanceMethod ⟨"SignalEngineModel", "letter", "(I)I"⟩ ∈ tt := tt_of 1919 (by decide +kernel) rfl
set_option maxRecDepth 100000 in
theorem w_1920 : Cond.code ⟨"SignalEngineModel", "letter", "(I)I"⟩ prog_15_method_6_code 2 (Option.some Jvm.ClassFile.FieldType.int) ∈ tt := tt_of 1920 rfl rfl
theorem w_1927 : Cond.constantLong "SignalEngineModel" 250 (-1 : Int64) ∈ tt := tt_of 1927 (by decide +kernel) rfl
theorem w_1929 : Cond.constantLong "SignalEngineModel" 271 (26990 : Int64) ∈ tt := tt_of 1929 (by decide +kernel) rfl
theorem w_1930 : Cond.methodLink "SignalEngineModel" 264 ⟨"SignalEngineModel", "meetsWord", "(J)Z"⟩ ∈ tt := tt_of 1930 (by decide +kernel) rfl
theorem w_1932 : Cond.instanceMethod ⟨"SignalEngineModel", "meetsWord", "(J)Z"⟩ ∈ tt := tt_of 1932 (by decide +kernel) rfl
set_option maxRecDepth 100000 in
theorem w_1933 : Cond.code ⟨"SignalEngineModel", "meetsWord", "(J)Z"⟩ prog_15_method_13_code 3 (Option.some Jvm.ClassFile.FieldType.boolean) ∈ tt := tt_of 1933 rfl rfl
theorem w_1934 : Cond.methodLink "SignalEngineModel" 254 ⟨"SignalEngineModel", "isWord", "(J)Z"⟩ ∈ tt := tt_of 1934 (by decide +kernel) rfl
theorem w_1936 : Cond.instanceMethod ⟨"SignalEngineModel", "isWord", "(J)Z"⟩ ∈ tt := tt_of 1936 (by decide +kernel) rfl
set_option maxRecDepth 100000 in
theorem w_1937 : Cond.code ⟨"SignalEngineModel", "isWord", "(J)Z"⟩ prog_15_method_11_code 3 (Option.some Jvm.ClassFile.FieldType.boolean) ∈ tt := tt_of 1937 rfl rfl
theorem w_1946 : Cond.methodLink "SignalEngineModel" 323 ⟨"SignalEngineModel", "isKept", "()Z"⟩ ∈ tt := tt_of 1946 (by decide +kernel) rfl
theorem w_1948 : Cond.instanceMethod ⟨"SignalEngineModel", "isKept", "()Z"⟩ ∈ tt := tt_of 1948 (by decide +kernel) rfl
set_option maxRecDepth 100000 in
theorem w_1949 : Cond.code ⟨"SignalEngineModel", "isKept", "()Z"⟩ prog_15_method_16_code 1 (Option.some Jvm.ClassFile.FieldType.boolean) ∈ tt := tt_of 1949 rfl rfl
theorem w_1950 : Cond.constantLong "SignalEngineModel" 273 (7304564 : Int64) ∈ tt := tt_of 1950 (by decide +kernel) rfl
theorem w_1951 : Cond.constantLong "SignalEngineModel" 275 (31084793196801639 : Int64) ∈ tt := tt_of 1951 (by decide +kernel) rfl
theorem w_1952 : Cond.constantLong "SignalEngineModel" 277 (482671424357 : Int64) ∈ tt := tt_of 1952 (by decide +kernel) rfl
theorem w_1953 : Cond.constantLong "SignalEngineModel" 279 (1751215220 : Int64) ∈ tt := tt_of 1953 (by decide +kernel) rfl
theorem w_1954 : Cond.constantLong "SignalEngineModel" 281 (1701669236 : Int64) ∈ tt := tt_of 1954 (by decide +kernel) rfl
theorem w_1955 : Cond.constantLong "SignalEngineModel" 283 (32498761055955310 : Int64) ∈ tt := tt_of 1955 (by decide +kernel) rfl
theorem w_1956 : Cond.constantLong "SignalEngineModel" 285 (1702390132 : Int64) ∈ tt := tt_of 1956 (by decide +kernel) rfl
theorem w_1957 : Cond.constantLong "SignalEngineModel" 287 (31650977444884084 : Int64) ∈ tt := tt_of 1957 (by decide +kernel) rfl
theorem w_1958 : Cond.constantLong "SignalEngineModel" 289 (1952998766 : Int64) ∈ tt := tt_of 1958 (by decide +kernel) rfl
theorem w_1959 : Cond.constantLong "SignalEngineModel" 291 (1701606245 : Int64) ∈ tt := tt_of 1959 (by decide +kernel) rfl
theorem w_1960 : Cond.constantLong "SignalEngineModel" 293 (6647396 : Int64) ∈ tt := tt_of 1960 (by decide +kernel) rfl
theorem w_1961 : Cond.constantLong "SignalEngineModel" 295 (32498760989109860 : Int64) ∈ tt := tt_of 1961 (by decide +kernel) rfl
theorem w_1962 : Cond.constantLong "SignalEngineModel" 297 (2003330414 : Int64) ∈ tt := tt_of 1962 (by decide +kernel) rfl
theorem w_1963 : Cond.constantLong "SignalEngineModel" 299 (1819242352 : Int64) ∈ tt := tt_of 1963 (by decide +kernel) rfl
theorem w_1964 : Cond.constantLong "SignalEngineModel" 301 (1700881256 : Int64) ∈ tt := tt_of 1964 (by decide +kernel) rfl
theorem w_1965 : Cond.constantLong "SignalEngineModel" 303 (1953653104 : Int64) ∈ tt := tt_of 1965 (by decide +kernel) rfl
theorem w_1966 : Cond.constantLong "SignalEngineModel" 305 (126896544047468 : Int64) ∈ tt := tt_of 1966 (by decide +kernel) rfl
theorem w_1967 : Cond.constantLong "SignalEngineModel" 307 (7237492 : Int64) ∈ tt := tt_of 1967 (by decide +kernel) rfl
theorem w_1968 : Cond.constantLong "SignalEngineModel" 309 (6385252 : Int64) ∈ tt := tt_of 1968 (by decide +kernel) rfl
theorem w_1969 : Cond.constantLong "SignalEngineModel" 311 (28530 : Int64) ∈ tt := tt_of 1969 (by decide +kernel) rfl
theorem w_1970 : Cond.constantLong "SignalEngineModel" 313 (418614700404 : Int64) ∈ tt := tt_of 1970 (by decide +kernel) rfl
theorem w_1971 : Cond.constantLong "SignalEngineModel" 315 (418263298676 : Int64) ∈ tt := tt_of 1971 (by decide +kernel) rfl
theorem w_1972 : Cond.constantLong "SignalEngineModel" 317 (2003132779 : Int64) ∈ tt := tt_of 1972 (by decide +kernel) rfl
theorem w_1973 : Cond.constantLong "SignalEngineModel" 319 (435778056825 : Int64) ∈ tt := tt_of 1973 (by decide +kernel) rfl
theorem w_1974 : Cond.constantLong "SignalEngineModel" 321 (25711 : Int64) ∈ tt := tt_of 1974 (by decide +kernel) rfl
theorem w_1983 : Cond.methodLink "SignalEngineModel" 346 ⟨"SignalEngineModel", "meetsSign", "(I)Z"⟩ ∈ tt := tt_of 1983 (by decide +kernel) rfl
theorem w_1985 : Cond.instanceMethod ⟨"SignalEngineModel", "meetsSign", "(I)Z"⟩ ∈ tt := tt_of 1985 (by decide +kernel) rfl
set_option maxRecDepth 100000 in
theorem w_1986 : Cond.code ⟨"SignalEngineModel", "meetsSign", "(I)Z"⟩ prog_15_method_14_code 2 (Option.some Jvm.ClassFile.FieldType.boolean) ∈ tt := tt_of 1986 rfl rfl
theorem w_1987 : Cond.methodLink "SignalEngineModel" 261 ⟨"SignalEngineModel", "isSign", "(I)Z"⟩ ∈ tt := tt_of 1987 (by decide +kernel) rfl
theorem w_1989 : Cond.instanceMethod ⟨"SignalEngineModel", "isSign", "(I)Z"⟩ ∈ tt := tt_of 1989 (by decide +kernel) rfl
set_option maxRecDepth 100000 in
theorem w_1990 : Cond.code ⟨"SignalEngineModel", "isSign", "(I)Z"⟩ prog_15_method_12_code 2 (Option.some Jvm.ClassFile.FieldType.boolean) ∈ tt := tt_of 1990 rfl rfl
theorem w_1991 : Cond.methodLink "SignalEngineModel" 449 ⟨"SignalEngineModel", "body", "()I"⟩ ∈ tt := tt_of 1991 (by decide +kernel) rfl
theorem w_1993 : Cond.instanceMethod ⟨"SignalEngineModel", "body", "()I"⟩ ∈ tt := tt_of 1993 (by decide +kernel) rfl
set_option maxRecDepth 100000 in
theorem w_1994 : Cond.code ⟨"SignalEngineModel", "body", "()I"⟩ prog_15_method_32_code 4 (Option.some Jvm.ClassFile.FieldType.int) ∈ tt := tt_of 1994 rfl rfl
theorem w_1995 : Cond.methodLink "SignalEngineModel" 386 ⟨"SignalEngineModel", "row", "()I"⟩ ∈ tt := tt_of 1995 (by decide +kernel) rfl
theorem w_1997 : Cond.instanceMethod ⟨"SignalEngineModel", "row", "()I"⟩ ∈ tt := tt_of 1997 (by decide +kernel) rfl
set_option maxRecDepth 100000 in
theorem w_1998 : Cond.code ⟨"SignalEngineModel", "row", "()I"⟩ prog_15_method_33_code 4 (Option.some Jvm.ClassFile.FieldType.int) ∈ tt := tt_of 1998 rfl rfl
theorem w_1999 : Cond.methodLink "SignalEngineModel" 396 ⟨"SignalEngineModel", "statement", "()I"⟩ ∈ tt := tt_of 1999 (by decide +kernel) rfl
theorem w_2001 : Cond.instanceMethod ⟨"SignalEngineModel", "statement", "()I"⟩ ∈ tt := tt_of 2001 (by decide +kernel) rfl
set_option maxRecDepth 100000 in
theorem w_2002 : Cond.code ⟨"SignalEngineModel", "statement", "()I"⟩ prog_15_method_34_code 7 (Option.some Jvm.ClassFile.FieldType.int) ∈ tt := tt_of 2002 rfl rfl
theorem wp_79 : Cond.selects "SignalEngineModel" ⟨"SignalEngineModel", "forget", "()V"⟩ ⟨"SignalEngineModel", "forget", "()V"⟩ ∈ tt := tt_sel 79 (by decide +kernel) rfl
theorem wp_80 : Cond.selects "SignalEngineModel" ⟨"SignalEngineModel", "program", "()I"⟩ ⟨"SignalEngineModel", "program", "()I"⟩ ∈ tt := tt_sel 80 (by decide +kernel) rfl
theorem wp_81 : Cond.selects "SignalEngineModel" ⟨"SignalEngineModel", "fail", "(II)V"⟩ ⟨"SignalEngineModel", "fail", "(II)V"⟩ ∈ tt := tt_sel 81 (by decide +kernel) rfl
theorem wp_82 : Cond.selects "SignalEngineModel" ⟨"SignalEngineModel", "advance", "()V"⟩ ⟨"SignalEngineModel", "advance", "()V"⟩ ∈ tt := tt_sel 82 (by decide +kernel) rfl
theorem wp_83 : Cond.selects "SignalEngineModel" ⟨"SignalEngineModel", "letter", "(I)I"⟩ ⟨"SignalEngineModel", "letter", "(I)I"⟩ ∈ tt := tt_sel 83 (by decide +kernel) rfl
theorem wp_84 : Cond.selects "SignalEngineModel" ⟨"SignalEngineModel", "meetsWord", "(J)Z"⟩ ⟨"SignalEngineModel", "meetsWord", "(J)Z"⟩ ∈ tt := tt_sel 84 (by decide +kernel) rfl
theorem wp_85 : Cond.selects "SignalEngineModel" ⟨"SignalEngineModel", "isWord", "(J)Z"⟩ ⟨"SignalEngineModel", "isWord", "(J)Z"⟩ ∈ tt := tt_sel 85 (by decide +kernel) rfl
theorem wp_88 : Cond.selects "SignalEngineModel" ⟨"SignalEngineModel", "isKept", "()Z"⟩ ⟨"SignalEngineModel", "isKept", "()Z"⟩ ∈ tt := tt_sel 88 (by decide +kernel) rfl
theorem wp_91 : Cond.selects "SignalEngineModel" ⟨"SignalEngineModel", "meetsSign", "(I)Z"⟩ ⟨"SignalEngineModel", "meetsSign", "(I)Z"⟩ ∈ tt := tt_sel 91 (by decide +kernel) rfl
theorem wp_92 : Cond.selects "SignalEngineModel" ⟨"SignalEngineModel", "isSign", "(I)Z"⟩ ⟨"SignalEngineModel", "isSign", "(I)Z"⟩ ∈ tt := tt_sel 92 (by decide +kernel) rfl
theorem wp_93 : Cond.selects "SignalEngineModel" ⟨"SignalEngineModel", "body", "()I"⟩ ⟨"SignalEngineModel", "body", "()I"⟩ ∈ tt := tt_sel 93 (by decide +kernel) rfl
theorem wp_94 : Cond.selects "SignalEngineModel" ⟨"SignalEngineModel", "row", "()I"⟩ ⟨"SignalEngineModel", "row", "()I"⟩ ∈ tt := tt_sel 94 (by decide +kernel) rfl
theorem wp_95 : Cond.selects "SignalEngineModel" ⟨"SignalEngineModel", "statement", "()I"⟩ ⟨"SignalEngineModel", "statement", "()I"⟩ ∈ tt := tt_sel 95 (by decide +kernel) rfl
