/-! words that the walks use, each by its place; written by wip/gen -/
theorem w_13 : Cond.initialized "java/lang/Enum" ∈ tt := tt_of 13 (by decide +kernel) rfl
theorem w_20 : Cond.initialized "java/lang/String" ∈ tt := tt_of 20 (by decide +kernel) rfl
theorem w_21 : Cond.initialized "java/lang/StringLatin1" ∈ tt := tt_of 21 (by decide +kernel) rfl
theorem w_22 : Cond.initialized "jdk/internal/util/Preconditions" ∈ tt := tt_of 22 (by decide +kernel) rfl
theorem w_25 : Cond.initialized "SignalEngine$Node" ∈ tt := tt_of 25 (by decide +kernel) rfl
theorem w_26 : Cond.initialized "jdk/internal/util/ArraysSupport" ∈ tt := tt_of 26 (by decide +kernel) rfl
theorem w_27 : Cond.initialized "java/util/Objects" ∈ tt := tt_of 27 (by decide +kernel) rfl
theorem w_94 : Cond.methodLink "java/util/Arrays" 310 ⟨"[B", "clone", "()Ljava/lang/Object;"⟩ ∈ tt := tt_of 94 (by decide +kernel) rfl
theorem w_95 : Cond.sameMethod "[B" "java/lang/Object" "clone" "()Ljava/lang/Object;" ∈ tt := tt_of 95 (by decide +kernel) rfl
theorem w_96 : Cond.native ⟨"java/lang/Object", "clone", "()Ljava/lang/Object;"⟩ ∈ tt := tt_of 96 (by decide +kernel) rfl
theorem w_97 : Cond.instanceMethod ⟨"java/lang/Object", "clone", "()Ljava/lang/Object;"⟩ ∈ tt := tt_of 97 (by decide +kernel) rfl
theorem w_98 : Cond.selects "[B" ⟨"[B", "clone", "()Ljava/lang/Object;"⟩ ⟨"java/lang/Object", "clone", "()Ljava/lang/Object;"⟩ ∈ tt := tt_of 98 (by decide +kernel) rfl
theorem w_100 : Cond.classLink "java/util/Arrays" 311 "[B" ∈ tt := tt_of 100 (by decide +kernel) rfl
theorem w_150 : Cond.fieldLink "java/util/ArrayList" 48 "java/util/ArrayList" "size" "I" ∈ tt := tt_of 150 (by decide +kernel) rfl
theorem w_152 : Cond.fieldLink "java/util/ArrayList" 63 "java/util/ArrayList" "modCount" "I" ∈ tt := tt_of 152 (by decide +kernel) rfl
theorem w_153 : Cond.sameField "java/util/ArrayList" "java/util/AbstractList" "modCount" "I" ∈ tt := tt_of 153 (by decide +kernel) rfl
theorem w_325 : Cond.methodLink "SignalEngine$Lexer" 36 ⟨"SignalEngine$Lexer", "require", "(Z)V"⟩ ∈ tt := tt_of 325 (by decide +kernel) rfl
theorem w_403 : Cond.methodLink "SignalEngine$Lexer" 52 ⟨"SignalEngine$Lexer", "isInWord", "(I)Z"⟩ ∈ tt := tt_of 403 (by decide +kernel) rfl
theorem w_404 : Cond.static ⟨"SignalEngine$Lexer", "isInWord", "(I)Z"⟩ ∈ tt := tt_of 404 (by decide +kernel) rfl
set_option maxRecDepth 100000 in
theorem w_405 : Cond.code ⟨"SignalEngine$Lexer", "isInWord", "(I)Z"⟩ prog_5_method_7_code 1 (Option.some Jvm.ClassFile.FieldType.boolean) ∈ tt := tt_of 405 rfl rfl
theorem w_406 : Cond.methodLink "SignalEngine$Lexer" 56 ⟨"SignalEngine$Lexer", "startsBars", "()Z"⟩ ∈ tt := tt_of 406 (by decide +kernel) rfl
theorem w_408 : Cond.instanceMethod ⟨"SignalEngine$Lexer", "startsBars", "()Z"⟩ ∈ tt := tt_of 408 (by decide +kernel) rfl
set_option maxRecDepth 100000 in
theorem w_409 : Cond.code ⟨"SignalEngine$Lexer", "startsBars", "()Z"⟩ prog_5_method_9_code 1 (Option.some Jvm.ClassFile.FieldType.boolean) ∈ tt := tt_of 409 rfl rfl
theorem w_410 : Cond.methodLink "SignalEngine$Lexer" 60 ⟨"SignalEngine$Lexer", "isName", "()Z"⟩ ∈ tt := tt_of 410 (by decide +kernel) rfl
theorem w_412 : Cond.instanceMethod ⟨"SignalEngine$Lexer", "isName", "()Z"⟩ ∈ tt := tt_of 412 (by decide +kernel) rfl
set_option maxRecDepth 100000 in
theorem w_413 : Cond.code ⟨"SignalEngine$Lexer", "isName", "()Z"⟩ prog_5_method_8_code 1 (Option.some Jvm.ClassFile.FieldType.boolean) ∈ tt := tt_of 413 rfl rfl
theorem w_414 : Cond.fieldLink "SignalEngine$Lexer" 63 "SignalEngine$Token" "NAME" "LSignalEngine$Token;" ∈ tt := tt_of 414 (by decide +kernel) rfl
theorem w_416 : Cond.methodLink "SignalEngine$Lexer" 66 ⟨"SignalEngine$Lexer", "known", "(LSignalEngine$Token;)LSignalEngine$Token;"⟩ ∈ tt := tt_of 416 (by decide +kernel) rfl
theorem w_418 : Cond.instanceMethod ⟨"SignalEngine$Lexer", "known", "(LSignalEngine$Token;)LSignalEngine$Token;"⟩ ∈ tt := tt_of 418 (by decide +kernel) rfl
set_option maxRecDepth 100000 in
theorem w_419 : Cond.code ⟨"SignalEngine$Lexer", "known", "(LSignalEngine$Token;)LSignalEngine$Token;"⟩ prog_5_method_10_code 5 (Option.some (Jvm.ClassFile.FieldType.object "SignalEngine$Token")) ∈ tt := tt_of 419 rfl rfl
theorem w_420 : Cond.fieldLink "SignalEngine$Lexer" 70 "SignalEngine$Lexer" "TOKENS" "[LSignalEngine$Token;" ∈ tt := tt_of 420 (by decide +kernel) rfl
theorem w_422 : Cond.methodLink "SignalEngine$Lexer" 77 ⟨"java/lang/String", "length", "()I"⟩ ∈ tt := tt_of 422 (by decide +kernel) rfl
theorem w_423 : Cond.instanceMethod ⟨"java/lang/String", "length", "()I"⟩ ∈ tt := tt_of 423 (by decide +kernel) rfl
theorem w_424 : Cond.selects "java/lang/String" ⟨"java/lang/String", "length", "()I"⟩ ⟨"java/lang/String", "length", "()I"⟩ ∈ tt := tt_of 424 (by decide +kernel) rfl
set_option maxRecDepth 100000 in
theorem w_425 : Cond.code ⟨"java/lang/String", "length", "()I"⟩ prog_26_method_54_code 1 (Option.some Jvm.ClassFile.FieldType.int) ∈ tt := tt_of 425 rfl rfl
theorem w_426 : Cond.methodLink "java/lang/String" 335 ⟨"java/lang/String", "coder", "()B"⟩ ∈ tt := tt_of 426 (by decide +kernel) rfl
theorem w_427 : Cond.instanceMethod ⟨"java/lang/String", "coder", "()B"⟩ ∈ tt := tt_of 427 (by decide +kernel) rfl
theorem w_428 : Cond.selects "java/lang/String" ⟨"java/lang/String", "coder", "()B"⟩ ⟨"java/lang/String", "coder", "()B"⟩ ∈ tt := tt_of 428 (by decide +kernel) rfl
set_option maxRecDepth 100000 in
theorem w_429 : Cond.code ⟨"java/lang/String", "coder", "()B"⟩ prog_26_method_152_code 1 (Option.some Jvm.ClassFile.FieldType.byte) ∈ tt := tt_of 429 rfl rfl
theorem w_430 : Cond.fieldLink "java/lang/String" 38 "java/lang/String" "COMPACT_STRINGS" "Z" ∈ tt := tt_of 430 (by decide +kernel) rfl
theorem w_432 : Cond.methodLink "SignalEngine$Lexer" 83 ⟨"java/lang/String", "charAt", "(I)C"⟩ ∈ tt := tt_of 432 (by decide +kernel) rfl
theorem w_433 : Cond.instanceMethod ⟨"java/lang/String", "charAt", "(I)C"⟩ ∈ tt := tt_of 433 (by decide +kernel) rfl
theorem w_434 : Cond.selects "java/lang/String" ⟨"java/lang/String", "charAt", "(I)C"⟩ ⟨"java/lang/String", "charAt", "(I)C"⟩ ∈ tt := tt_of 434 (by decide +kernel) rfl
set_option maxRecDepth 100000 in
theorem w_435 : Cond.code ⟨"java/lang/String", "charAt", "(I)C"⟩ prog_26_method_56_code 2 (Option.some Jvm.ClassFile.FieldType.char) ∈ tt := tt_of 435 rfl rfl
theorem w_436 : Cond.methodLink "java/lang/String" 492 ⟨"java/lang/String", "isLatin1", "()Z"⟩ ∈ tt := tt_of 436 (by decide +kernel) rfl
theorem w_437 : Cond.instanceMethod ⟨"java/lang/String", "isLatin1", "()Z"⟩ ∈ tt := tt_of 437 (by decide +kernel) rfl
theorem w_438 : Cond.selects "java/lang/String" ⟨"java/lang/String", "isLatin1", "()Z"⟩ ⟨"java/lang/String", "isLatin1", "()Z"⟩ ∈ tt := tt_of 438 (by decide +kernel) rfl
set_option maxRecDepth 100000 in
theorem w_439 : Cond.code ⟨"java/lang/String", "isLatin1", "()Z"⟩ prog_26_method_154_code 1 (Option.some Jvm.ClassFile.FieldType.boolean) ∈ tt := tt_of 439 rfl rfl
theorem w_440 : Cond.methodLink "java/lang/String" 495 ⟨"java/lang/StringLatin1", "charAt", "([BI)C"⟩ ∈ tt := tt_of 440 (by decide +kernel) rfl
theorem w_441 : Cond.static ⟨"java/lang/StringLatin1", "charAt", "([BI)C"⟩ ∈ tt := tt_of 441 (by decide +kernel) rfl
set_option maxRecDepth 100000 in
theorem w_442 : Cond.code ⟨"java/lang/StringLatin1", "charAt", "([BI)C"⟩ prog_27_method_2_code 2 (Option.some Jvm.ClassFile.FieldType.char) ∈ tt := tt_of 442 rfl rfl
theorem w_443 : Cond.methodLink "java/lang/StringLatin1" 9 ⟨"java/lang/String", "checkIndex", "(II)V"⟩ ∈ tt := tt_of 443 (by decide +kernel) rfl
theorem w_444 : Cond.static ⟨"java/lang/String", "checkIndex", "(II)V"⟩ ∈ tt := tt_of 444 (by decide +kernel) rfl
set_option maxRecDepth 100000 in
theorem w_445 : Cond.code ⟨"java/lang/String", "checkIndex", "(II)V"⟩ prog_26_method_155_code 2 (Option.none : Option Jvm.ClassFile.FieldType) ∈ tt := tt_of 445 rfl rfl
theorem w_446 : Cond.fieldLink "java/lang/String" 1053 "jdk/internal/util/Preconditions" "SIOOBE_FORMATTER" "Ljava/util/function/BiFunction;" ∈ tt := tt_of 446 (by decide +kernel) rfl
theorem w_448 : Cond.methodLink "java/lang/String" 1059 ⟨"jdk/internal/util/Preconditions", "checkIndex", "(IILjava/util/function/BiFunction;)I"⟩ ∈ tt := tt_of 448 (by decide +kernel) rfl
theorem w_449 : Cond.static ⟨"jdk/internal/util/Preconditions", "checkIndex", "(IILjava/util/function/BiFunction;)I"⟩ ∈ tt := tt_of 449 (by decide +kernel) rfl
set_option maxRecDepth 100000 in
theorem w_450 : Cond.code ⟨"jdk/internal/util/Preconditions", "checkIndex", "(IILjava/util/function/BiFunction;)I"⟩ prog_41_method_11_code 3 (Option.some Jvm.ClassFile.FieldType.int) ∈ tt := tt_of 450 rfl rfl
theorem w_472 : Cond.methodLink "SignalEngine$Parser" 79 ⟨"SignalEngine$Lexer", "advance", "()V"⟩ ∈ tt := tt_of 472 (by decide +kernel) rfl
theorem w_473 : Cond.methodLink "SignalEngine$Parser" 82 ⟨"SignalEngine$Parser", "takeNames", "(I)V"⟩ ∈ tt := tt_of 473 (by decide +kernel) rfl
theorem w_475 : Cond.instanceMethod ⟨"SignalEngine$Parser", "takeNames", "(I)V"⟩ ∈ tt := tt_of 475 (by decide +kernel) rfl
set_option maxRecDepth 100000 in
theorem w_476 : Cond.code ⟨"SignalEngine$Parser", "takeNames", "(I)V"⟩ prog_9_method_7_code 4 (Option.none : Option Jvm.ClassFile.FieldType) ∈ tt := tt_of 476 rfl rfl
theorem w_477 : Cond.fieldLink "SignalEngine$Parser" 110 "SignalEngine$Token" "NAME" "LSignalEngine$Token;" ∈ tt := tt_of 477 (by decide +kernel) rfl
theorem w_479 : Cond.methodLink "SignalEngine$Parser" 113 ⟨"SignalEngine$Names", "hasSince", "(ILSignalEngine$Lexer;)Z"⟩ ∈ tt := tt_of 479 (by decide +kernel) rfl
theorem w_480 : Cond.instanceMethod ⟨"SignalEngine$Names", "hasSince", "(ILSignalEngine$Lexer;)Z"⟩ ∈ tt := tt_of 480 (by decide +kernel) rfl
theorem w_481 : Cond.selects "SignalEngine$Names" ⟨"SignalEngine$Names", "hasSince", "(ILSignalEngine$Lexer;)Z"⟩ ⟨"SignalEngine$Names", "hasSince", "(ILSignalEngine$Lexer;)Z"⟩ ∈ tt := tt_of 481 (by decide +kernel) rfl
set_option maxRecDepth 100000 in
theorem w_482 : Cond.code ⟨"SignalEngine$Names", "hasSince", "(ILSignalEngine$Lexer;)Z"⟩ prog_6_method_4_code 4 (Option.some Jvm.ClassFile.FieldType.boolean) ∈ tt := tt_of 482 rfl rfl
theorem w_488 : Cond.methodLink "SignalEngine$Parser" 120 ⟨"SignalEngine$Names", "bring", "(LSignalEngine$Lexer;)I"⟩ ∈ tt := tt_of 488 (by decide +kernel) rfl
theorem w_489 : Cond.instanceMethod ⟨"SignalEngine$Names", "bring", "(LSignalEngine$Lexer;)I"⟩ ∈ tt := tt_of 489 (by decide +kernel) rfl
theorem w_490 : Cond.selects "SignalEngine$Names" ⟨"SignalEngine$Names", "bring", "(LSignalEngine$Lexer;)I"⟩ ⟨"SignalEngine$Names", "bring", "(LSignalEngine$Lexer;)I"⟩ ∈ tt := tt_of 490 (by decide +kernel) rfl
set_option maxRecDepth 100000 in
theorem w_491 : Cond.code ⟨"SignalEngine$Names", "bring", "(LSignalEngine$Lexer;)I"⟩ prog_6_method_2_code 2 (Option.some Jvm.ClassFile.FieldType.int) ∈ tt := tt_of 491 rfl rfl
theorem w_500 : Cond.fieldLink "SignalEngine$Parser" 124 "SignalEngine$Token" "COMMA" "LSignalEngine$Token;" ∈ tt := tt_of 500 (by decide +kernel) rfl
theorem w_502 : Cond.methodLink "SignalEngine$Parser" 127 ⟨"SignalEngine$Parser", "skip", "(LSignalEngine$Token;)Z"⟩ ∈ tt := tt_of 502 (by decide +kernel) rfl
theorem w_504 : Cond.instanceMethod ⟨"SignalEngine$Parser", "skip", "(LSignalEngine$Token;)Z"⟩ ∈ tt := tt_of 504 (by decide +kernel) rfl
set_option maxRecDepth 100000 in
theorem w_505 : Cond.code ⟨"SignalEngine$Parser", "skip", "(LSignalEngine$Token;)Z"⟩ prog_9_method_6_code 3 (Option.some Jvm.ClassFile.FieldType.boolean) ∈ tt := tt_of 505 rfl rfl
theorem w_506 : Cond.fieldLink "SignalEngine$Parser" 85 "SignalEngine$Token" "SEMICOLON" "LSignalEngine$Token;" ∈ tt := tt_of 506 (by decide +kernel) rfl
theorem w_508 : Cond.methodLink "SignalEngine$Parser" 88 ⟨"SignalEngine$Parser", "take", "(LSignalEngine$Token;)V"⟩ ∈ tt := tt_of 508 (by decide +kernel) rfl
theorem w_510 : Cond.instanceMethod ⟨"SignalEngine$Parser", "take", "(LSignalEngine$Token;)V"⟩ ∈ tt := tt_of 510 (by decide +kernel) rfl
set_option maxRecDepth 100000 in
theorem w_511 : Cond.code ⟨"SignalEngine$Parser", "take", "(LSignalEngine$Token;)V"⟩ prog_9_method_5_code 2 (Option.none : Option Jvm.ClassFile.FieldType) ∈ tt := tt_of 511 rfl rfl
theorem w_526 : Cond.methodLink "SignalEngine$Parser" 159 ⟨"SignalEngine$Parser", "enter", "()V"⟩ ∈ tt := tt_of 526 (by decide +kernel) rfl
theorem w_528 : Cond.instanceMethod ⟨"SignalEngine$Parser", "enter", "()V"⟩ ∈ tt := tt_of 528 (by decide +kernel) rfl
set_option maxRecDepth 100000 in
theorem w_529 : Cond.code ⟨"SignalEngine$Parser", "enter", "()V"⟩ prog_9_method_9_code 1 (Option.none : Option Jvm.ClassFile.FieldType) ∈ tt := tt_of 529 rfl rfl
theorem w_530 : Cond.methodLink "SignalEngine$Parser" 162 ⟨"SignalEngine$Parser", "takeRest", "(LSignalEngine$Token;I)LSignalEngine$Node;"⟩ ∈ tt := tt_of 530 (by decide +kernel) rfl
theorem w_532 : Cond.instanceMethod ⟨"SignalEngine$Parser", "takeRest", "(LSignalEngine$Token;I)LSignalEngine$Node;"⟩ ∈ tt := tt_of 532 (by decide +kernel) rfl
set_option maxRecDepth 100000 in
theorem w_533 : Cond.code ⟨"SignalEngine$Parser", "takeRest", "(LSignalEngine$Token;I)LSignalEngine$Node;"⟩ prog_9_method_13_code 3 (Option.some (Jvm.ClassFile.FieldType.object "SignalEngine$Node")) ∈ tt := tt_of 533 rfl rfl
theorem w_534 : Cond.fieldLink "SignalEngine$Parser" 166 "SignalEngine$1" "$SwitchMap$SignalEngine$Token" "[I" ∈ tt := tt_of 534 (by decide +kernel) rfl
theorem w_536 : Cond.methodLink "SignalEngine$Parser" 172 ⟨"SignalEngine$Token", "ordinal", "()I"⟩ ∈ tt := tt_of 536 (by decide +kernel) rfl
theorem w_537 : Cond.sameMethod "SignalEngine$Token" "java/lang/Enum" "ordinal" "()I" ∈ tt := tt_of 537 (by decide +kernel) rfl
theorem w_539 : Cond.selects "SignalEngine$Token" ⟨"SignalEngine$Token", "ordinal", "()I"⟩ ⟨"java/lang/Enum", "ordinal", "()I"⟩ ∈ tt := tt_of 539 (by decide +kernel) rfl
theorem w_540 : Cond.instanceMethod ⟨"java/lang/Enum", "ordinal", "()I"⟩ ∈ tt := tt_of 540 (by decide +kernel) rfl
set_option maxRecDepth 100000 in
theorem w_541 : Cond.code ⟨"java/lang/Enum", "ordinal", "()I"⟩ prog_18_method_2_code 1 (Option.some Jvm.ClassFile.FieldType.int) ∈ tt := tt_of 541 rfl rfl
theorem w_542 : Cond.methodLink "SignalEngine$Parser" 175 ⟨"SignalEngine$Draft", "leaf", "(III)LSignalEngine$Node;"⟩ ∈ tt := tt_of 542 (by decide +kernel) rfl
theorem w_543 : Cond.instanceMethod ⟨"SignalEngine$Draft", "leaf", "(III)LSignalEngine$Node;"⟩ ∈ tt := tt_of 543 (by decide +kernel) rfl
theorem w_544 : Cond.selects "SignalEngine$Draft" ⟨"SignalEngine$Draft", "leaf", "(III)LSignalEngine$Node;"⟩ ⟨"SignalEngine$Draft", "leaf", "(III)LSignalEngine$Node;"⟩ ∈ tt := tt_of 544 (by decide +kernel) rfl
set_option maxRecDepth 100000 in
theorem w_545 : Cond.code ⟨"SignalEngine$Draft", "leaf", "(III)LSignalEngine$Node;"⟩ prog_4_method_3_code 5 (Option.some (Jvm.ClassFile.FieldType.object "SignalEngine$Node")) ∈ tt := tt_of 545 rfl rfl
theorem w_546 : Cond.classLink "SignalEngine$Draft" 27 "SignalEngine$Node" ∈ tt := tt_of 546 (by decide +kernel) rfl
theorem w_547 : Cond.instantiable "SignalEngine$Node" 13 ∈ tt := tt_of 547 (by decide +kernel) rfl
theorem w_548 : Cond.methodLink "SignalEngine$Draft" 29 ⟨"SignalEngine$Node", "<init>", "(IILSignalEngine$Node;LSignalEngine$Node;)V"⟩ ∈ tt := tt_of 548 (by decide +kernel) rfl
theorem w_549 : Cond.instanceMethod ⟨"SignalEngine$Node", "<init>", "(IILSignalEngine$Node;LSignalEngine$Node;)V"⟩ ∈ tt := tt_of 549 (by decide +kernel) rfl
set_option maxRecDepth 100000 in
theorem w_550 : Cond.code ⟨"SignalEngine$Node", "<init>", "(IILSignalEngine$Node;LSignalEngine$Node;)V"⟩ prog_8_method_1_code 5 (Option.none : Option Jvm.ClassFile.FieldType) ∈ tt := tt_of 550 rfl rfl
theorem w_613 : Cond.methodLink "SignalEngine$Draft" 32 ⟨"java/util/ArrayList", "add", "(Ljava/lang/Object;)Z"⟩ ∈ tt := tt_of 613 (by decide +kernel) rfl
theorem w_614 : Cond.instanceMethod ⟨"java/util/ArrayList", "add", "(Ljava/lang/Object;)Z"⟩ ∈ tt := tt_of 614 (by decide +kernel) rfl
theorem w_615 : Cond.selects "java/util/ArrayList" ⟨"java/util/ArrayList", "add", "(Ljava/lang/Object;)Z"⟩ ⟨"java/util/ArrayList", "add", "(Ljava/lang/Object;)Z"⟩ ∈ tt := tt_of 615 (by decide +kernel) rfl
set_option maxRecDepth 100000 in
theorem w_616 : Cond.code ⟨"java/util/ArrayList", "add", "(Ljava/lang/Object;)Z"⟩ prog_33_method_25_code 2 (Option.some Jvm.ClassFile.FieldType.boolean) ∈ tt := tt_of 616 rfl rfl
theorem w_617 : Cond.methodLink "java/util/ArrayList" 131 ⟨"java/util/ArrayList", "add", "(Ljava/lang/Object;[Ljava/lang/Object;I)V"⟩ ∈ tt := tt_of 617 (by decide +kernel) rfl
theorem w_619 : Cond.instanceMethod ⟨"java/util/ArrayList", "add", "(Ljava/lang/Object;[Ljava/lang/Object;I)V"⟩ ∈ tt := tt_of 619 (by decide +kernel) rfl
set_option maxRecDepth 100000 in
theorem w_620 : Cond.code ⟨"java/util/ArrayList", "add", "(Ljava/lang/Object;[Ljava/lang/Object;I)V"⟩ prog_33_method_24_code 4 (Option.none : Option Jvm.ClassFile.FieldType) ∈ tt := tt_of 620 rfl rfl
theorem w_621 : Cond.methodLink "java/util/ArrayList" 129 ⟨"java/util/ArrayList", "grow", "()[Ljava/lang/Object;"⟩ ∈ tt := tt_of 621 (by decide +kernel) rfl
theorem w_623 : Cond.instanceMethod ⟨"java/util/ArrayList", "grow", "()[Ljava/lang/Object;"⟩ ∈ tt := tt_of 623 (by decide +kernel) rfl
set_option maxRecDepth 100000 in
theorem w_624 : Cond.code ⟨"java/util/ArrayList", "grow", "()[Ljava/lang/Object;"⟩ prog_33_method_7_code 1 (Option.some (Jvm.ClassFile.FieldType.array (Jvm.ClassFile.FieldType.object "java/lang/Object"))) ∈ tt := tt_of 624 rfl rfl
theorem w_625 : Cond.methodLink "java/util/ArrayList" 69 ⟨"java/util/ArrayList", "grow", "(I)[Ljava/lang/Object;"⟩ ∈ tt := tt_of 625 (by decide +kernel) rfl
theorem w_627 : Cond.instanceMethod ⟨"java/util/ArrayList", "grow", "(I)[Ljava/lang/Object;"⟩ ∈ tt := tt_of 627 (by decide +kernel) rfl
set_option maxRecDepth 100000 in
theorem w_628 : Cond.code ⟨"java/util/ArrayList", "grow", "(I)[Ljava/lang/Object;"⟩ prog_33_method_6_code 4 (Option.some (Jvm.ClassFile.FieldType.array (Jvm.ClassFile.FieldType.object "java/lang/Object"))) ∈ tt := tt_of 628 rfl rfl
theorem w_629 : Cond.methodLink "java/util/ArrayList" 73 ⟨"jdk/internal/util/ArraysSupport", "newLength", "(III)I"⟩ ∈ tt := tt_of 629 (by decide +kernel) rfl
theorem w_630 : Cond.static ⟨"jdk/internal/util/ArraysSupport", "newLength", "(III)I"⟩ ∈ tt := tt_of 630 (by decide +kernel) rfl
set_option maxRecDepth 100000 in
theorem w_631 : Cond.code ⟨"jdk/internal/util/ArraysSupport", "newLength", "(III)I"⟩ prog_40_method_27_code 4 (Option.some Jvm.ClassFile.FieldType.int) ∈ tt := tt_of 631 rfl rfl
theorem w_632 : Cond.methodLink "jdk/internal/util/ArraysSupport" 194 ⟨"java/lang/Math", "max", "(II)I"⟩ ∈ tt := tt_of 632 (by decide +kernel) rfl
theorem w_635 : Cond.constant "jdk/internal/util/ArraysSupport" 200 (2147483639 : Int32) ∈ tt := tt_of 635 (by decide +kernel) rfl
theorem w_639 : Cond.methodLink "java/util/ArrayList" 66 ⟨"java/util/Arrays", "copyOf", "([Ljava/lang/Object;I)[Ljava/lang/Object;"⟩ ∈ tt := tt_of 639 (by decide +kernel) rfl
theorem w_640 : Cond.static ⟨"java/util/Arrays", "copyOf", "([Ljava/lang/Object;I)[Ljava/lang/Object;"⟩ ∈ tt := tt_of 640 (by decide +kernel) rfl
set_option maxRecDepth 100000 in
theorem w_641 : Cond.code ⟨"java/util/Arrays", "copyOf", "([Ljava/lang/Object;I)[Ljava/lang/Object;"⟩ prog_34_method_119_code 2 (Option.some (Jvm.ClassFile.FieldType.array (Jvm.ClassFile.FieldType.object "java/lang/Object"))) ∈ tt := tt_of 641 rfl rfl
theorem w_642 : Cond.methodLink "java/util/Arrays" 86 ⟨"java/lang/Object", "getClass", "()Ljava/lang/Class;"⟩ ∈ tt := tt_of 642 (by decide +kernel) rfl
theorem w_643 : Cond.instanceMethod ⟨"java/lang/Object", "getClass", "()Ljava/lang/Class;"⟩ ∈ tt := tt_of 643 (by decide +kernel) rfl
theorem w_661 : Cond.native ⟨"java/lang/Object", "getClass", "()Ljava/lang/Class;"⟩ ∈ tt := tt_of 661 (by decide +kernel) rfl
theorem w_662 : Cond.methodLink "java/util/Arrays" 300 ⟨"java/util/Arrays", "copyOf", "([Ljava/lang/Object;ILjava/lang/Class;)[Ljava/lang/Object;"⟩ ∈ tt := tt_of 662 (by decide +kernel) rfl
theorem w_663 : Cond.static ⟨"java/util/Arrays", "copyOf", "([Ljava/lang/Object;ILjava/lang/Class;)[Ljava/lang/Object;"⟩ ∈ tt := tt_of 663 (by decide +kernel) rfl
set_option maxRecDepth 100000 in
theorem w_664 : Cond.code ⟨"java/util/Arrays", "copyOf", "([Ljava/lang/Object;ILjava/lang/Class;)[Ljava/lang/Object;"⟩ prog_34_method_120_code 4 (Option.some (Jvm.ClassFile.FieldType.array (Jvm.ClassFile.FieldType.object "java/lang/Object"))) ∈ tt := tt_of 664 rfl rfl
theorem w_665 : Cond.classLink "java/util/Arrays" 110 "[Ljava/lang/Object;" ∈ tt := tt_of 665 (by decide +kernel) rfl
theorem w_667 : Cond.classLink "java/util/Arrays" 2 "java/lang/Object" ∈ tt := tt_of 667 (by decide +kernel) rfl
theorem w_668 : Cond.methodLink "java/util/ArrayList" 79 ⟨"java/lang/Math", "max", "(II)I"⟩ ∈ tt := tt_of 668 (by decide +kernel) rfl
theorem w_669 : Cond.classLink "java/util/ArrayList" 7 "java/lang/Object" ∈ tt := tt_of 669 (by decide +kernel) rfl
theorem w_670 : Cond.methodLink "SignalEngine$Parser" 179 ⟨"SignalEngine$Draft", "halt", "(I)LSignalEngine$Node;"⟩ ∈ tt := tt_of 670 (by decide +kernel) rfl
theorem w_671 : Cond.instanceMethod ⟨"SignalEngine$Draft", "halt", "(I)LSignalEngine$Node;"⟩ ∈ tt := tt_of 671 (by decide +kernel) rfl
theorem w_672 : Cond.selects "SignalEngine$Draft" ⟨"SignalEngine$Draft", "halt", "(I)LSignalEngine$Node;"⟩ ⟨"SignalEngine$Draft", "halt", "(I)LSignalEngine$Node;"⟩ ∈ tt := tt_of 672 (by decide +kernel) rfl
set_option maxRecDepth 100000 in
theorem w_673 : Cond.code ⟨"SignalEngine$Draft", "halt", "(I)LSignalEngine$Node;"⟩ prog_4_method_7_code 2 (Option.some (Jvm.ClassFile.FieldType.object "SignalEngine$Node")) ∈ tt := tt_of 673 rfl rfl
theorem w_674 : Cond.methodLink "SignalEngine$Draft" 50 ⟨"SignalEngine$Draft", "leaf", "(III)LSignalEngine$Node;"⟩ ∈ tt := tt_of 674 (by decide +kernel) rfl
theorem w_675 : Cond.methodLink "SignalEngine$Draft" 40 ⟨"SignalEngine$Draft", "join", "(ILSignalEngine$Node;LSignalEngine$Node;I)LSignalEngine$Node;"⟩ ∈ tt := tt_of 675 (by decide +kernel) rfl
theorem w_676 : Cond.instanceMethod ⟨"SignalEngine$Draft", "join", "(ILSignalEngine$Node;LSignalEngine$Node;I)LSignalEngine$Node;"⟩ ∈ tt := tt_of 676 (by decide +kernel) rfl
theorem w_677 : Cond.selects "SignalEngine$Draft" ⟨"SignalEngine$Draft", "join", "(ILSignalEngine$Node;LSignalEngine$Node;I)LSignalEngine$Node;"⟩ ⟨"SignalEngine$Draft", "join", "(ILSignalEngine$Node;LSignalEngine$Node;I)LSignalEngine$Node;"⟩ ∈ tt := tt_of 677 (by decide +kernel) rfl
set_option maxRecDepth 100000 in
theorem w_678 : Cond.code ⟨"SignalEngine$Draft", "join", "(ILSignalEngine$Node;LSignalEngine$Node;I)LSignalEngine$Node;"⟩ prog_4_method_2_code 6 (Option.some (Jvm.ClassFile.FieldType.object "SignalEngine$Node")) ∈ tt := tt_of 678 rfl rfl
theorem w_679 : Cond.methodLink "SignalEngine$Parser" 183 ⟨"SignalEngine$Parser", "takeUse", "(LSignalEngine$Names;I)I"⟩ ∈ tt := tt_of 679 (by decide +kernel) rfl
theorem w_681 : Cond.instanceMethod ⟨"SignalEngine$Parser", "takeUse", "(LSignalEngine$Names;I)I"⟩ ∈ tt := tt_of 681 (by decide +kernel) rfl
set_option maxRecDepth 100000 in
theorem w_682 : Cond.code ⟨"SignalEngine$Parser", "takeUse", "(LSignalEngine$Names;I)I"⟩ prog_9_method_8_code 4 (Option.some Jvm.ClassFile.FieldType.int) ∈ tt := tt_of 682 rfl rfl
theorem w_683 : Cond.methodLink "SignalEngine$Parser" 131 ⟨"SignalEngine$Names", "find", "(LSignalEngine$Lexer;)I"⟩ ∈ tt := tt_of 683 (by decide +kernel) rfl
theorem w_684 : Cond.instanceMethod ⟨"SignalEngine$Names", "find", "(LSignalEngine$Lexer;)I"⟩ ∈ tt := tt_of 684 (by decide +kernel) rfl
theorem w_685 : Cond.selects "SignalEngine$Names" ⟨"SignalEngine$Names", "find", "(LSignalEngine$Lexer;)I"⟩ ⟨"SignalEngine$Names", "find", "(LSignalEngine$Lexer;)I"⟩ ∈ tt := tt_of 685 (by decide +kernel) rfl
set_option maxRecDepth 100000 in
theorem w_686 : Cond.code ⟨"SignalEngine$Names", "find", "(LSignalEngine$Lexer;)I"⟩ prog_6_method_3_code 3 (Option.some Jvm.ClassFile.FieldType.int) ∈ tt := tt_of 686 rfl rfl
theorem w_687 : Cond.methodLink "SignalEngine$Parser" 187 ⟨"SignalEngine$Draft", "sustain", "(II)LSignalEngine$Node;"⟩ ∈ tt := tt_of 687 (by decide +kernel) rfl
theorem w_688 : Cond.instanceMethod ⟨"SignalEngine$Draft", "sustain", "(II)LSignalEngine$Node;"⟩ ∈ tt := tt_of 688 (by decide +kernel) rfl
theorem w_689 : Cond.selects "SignalEngine$Draft" ⟨"SignalEngine$Draft", "sustain", "(II)LSignalEngine$Node;"⟩ ⟨"SignalEngine$Draft", "sustain", "(II)LSignalEngine$Node;"⟩ ∈ tt := tt_of 689 (by decide +kernel) rfl
set_option maxRecDepth 100000 in
theorem w_690 : Cond.code ⟨"SignalEngine$Draft", "sustain", "(II)LSignalEngine$Node;"⟩ prog_4_method_8_code 4 (Option.some (Jvm.ClassFile.FieldType.object "SignalEngine$Node")) ∈ tt := tt_of 690 rfl rfl
theorem w_691 : Cond.methodLink "SignalEngine$Parser" 191 ⟨"SignalEngine$Draft", "exit", "(II)LSignalEngine$Node;"⟩ ∈ tt := tt_of 691 (by decide +kernel) rfl
theorem w_692 : Cond.instanceMethod ⟨"SignalEngine$Draft", "exit", "(II)LSignalEngine$Node;"⟩ ∈ tt := tt_of 692 (by decide +kernel) rfl
theorem w_693 : Cond.selects "SignalEngine$Draft" ⟨"SignalEngine$Draft", "exit", "(II)LSignalEngine$Node;"⟩ ⟨"SignalEngine$Draft", "exit", "(II)LSignalEngine$Node;"⟩ ∈ tt := tt_of 693 (by decide +kernel) rfl
set_option maxRecDepth 100000 in
theorem w_694 : Cond.code ⟨"SignalEngine$Draft", "exit", "(II)LSignalEngine$Node;"⟩ prog_4_method_6_code 4 (Option.some (Jvm.ClassFile.FieldType.object "SignalEngine$Node")) ∈ tt := tt_of 694 rfl rfl
theorem w_695 : Cond.methodLink "SignalEngine$Parser" 194 ⟨"SignalEngine$Parser", "takeEither", "()I"⟩ ∈ tt := tt_of 695 (by decide +kernel) rfl
theorem w_697 : Cond.instanceMethod ⟨"SignalEngine$Parser", "takeEither", "()I"⟩ ∈ tt := tt_of 697 (by decide +kernel) rfl
set_option maxRecDepth 100000 in
theorem w_698 : Cond.code ⟨"SignalEngine$Parser", "takeEither", "()I"⟩ prog_9_method_21_code 3 (Option.some Jvm.ClassFile.FieldType.int) ∈ tt := tt_of 698 rfl rfl
theorem w_699 : Cond.methodLink "SignalEngine$Parser" 277 ⟨"SignalEngine$Parser", "takeClause", "()I"⟩ ∈ tt := tt_of 699 (by decide +kernel) rfl
theorem w_701 : Cond.instanceMethod ⟨"SignalEngine$Parser", "takeClause", "()I"⟩ ∈ tt := tt_of 701 (by decide +kernel) rfl
set_option maxRecDepth 100000 in
theorem w_702 : Cond.code ⟨"SignalEngine$Parser", "takeClause", "()I"⟩ prog_9_method_22_code 3 (Option.some Jvm.ClassFile.FieldType.int) ∈ tt := tt_of 702 rfl rfl
theorem w_703 : Cond.methodLink "SignalEngine$Parser" 293 ⟨"SignalEngine$Parser", "takePart", "()I"⟩ ∈ tt := tt_of 703 (by decide +kernel) rfl
theorem w_705 : Cond.instanceMethod ⟨"SignalEngine$Parser", "takePart", "()I"⟩ ∈ tt := tt_of 705 (by decide +kernel) rfl
set_option maxRecDepth 100000 in
theorem w_706 : Cond.code ⟨"SignalEngine$Parser", "takePart", "()I"⟩ prog_9_method_23_code 2 (Option.some Jvm.ClassFile.FieldType.int) ∈ tt := tt_of 706 rfl rfl
theorem w_707 : Cond.fieldLink "SignalEngine$Parser" 299 "SignalEngine$Token" "NOT" "LSignalEngine$Token;" ∈ tt := tt_of 707 (by decide +kernel) rfl
theorem w_709 : Cond.fieldLink "SignalEngine$Parser" 302 "SignalEngine$Token" "OPEN" "LSignalEngine$Token;" ∈ tt := tt_of 709 (by decide +kernel) rfl
theorem w_711 : Cond.methodLink "SignalEngine$Parser" 287 ⟨"SignalEngine$Pieces", "add", "(III)I"⟩ ∈ tt := tt_of 711 (by decide +kernel) rfl
theorem w_712 : Cond.instanceMethod ⟨"SignalEngine$Pieces", "add", "(III)I"⟩ ∈ tt := tt_of 712 (by decide +kernel) rfl
theorem w_713 : Cond.selects "SignalEngine$Pieces" ⟨"SignalEngine$Pieces", "add", "(III)I"⟩ ⟨"SignalEngine$Pieces", "add", "(III)I"⟩ ∈ tt := tt_of 713 (by decide +kernel) rfl
set_option maxRecDepth 100000 in
theorem w_714 : Cond.code ⟨"SignalEngine$Pieces", "add", "(III)I"⟩ prog_10_method_2_code 4 (Option.some Jvm.ClassFile.FieldType.int) ∈ tt := tt_of 714 rfl rfl
theorem w_720 : Cond.fieldLink "SignalEngine$Parser" 225 "SignalEngine$Token" "CLOSE" "LSignalEngine$Token;" ∈ tt := tt_of 720 (by decide +kernel) rfl
theorem w_722 : Cond.fieldLink "SignalEngine$Parser" 296 "SignalEngine$Token" "AND" "LSignalEngine$Token;" ∈ tt := tt_of 722 (by decide +kernel) rfl
theorem w_724 : Cond.fieldLink "SignalEngine$Parser" 280 "SignalEngine$Token" "OR" "LSignalEngine$Token;" ∈ tt := tt_of 724 (by decide +kernel) rfl
theorem w_726 : Cond.methodLink "SignalEngine$Parser" 197 ⟨"SignalEngine$Draft", "await", "(II)LSignalEngine$Node;"⟩ ∈ tt := tt_of 726 (by decide +kernel) rfl
theorem w_727 : Cond.instanceMethod ⟨"SignalEngine$Draft", "await", "(II)LSignalEngine$Node;"⟩ ∈ tt := tt_of 727 (by decide +kernel) rfl
theorem w_728 : Cond.selects "SignalEngine$Draft" ⟨"SignalEngine$Draft", "await", "(II)LSignalEngine$Node;"⟩ ⟨"SignalEngine$Draft", "await", "(II)LSignalEngine$Node;"⟩ ∈ tt := tt_of 728 (by decide +kernel) rfl
set_option maxRecDepth 100000 in
theorem w_729 : Cond.code ⟨"SignalEngine$Draft", "await", "(II)LSignalEngine$Node;"⟩ prog_4_method_10_code 3 (Option.some (Jvm.ClassFile.FieldType.object "SignalEngine$Node")) ∈ tt := tt_of 729 rfl rfl
theorem w_730 : Cond.methodLink "SignalEngine$Draft" 54 ⟨"SignalEngine$Draft", "watch", "(II)LSignalEngine$Node;"⟩ ∈ tt := tt_of 730 (by decide +kernel) rfl
theorem w_731 : Cond.instanceMethod ⟨"SignalEngine$Draft", "watch", "(II)LSignalEngine$Node;"⟩ ∈ tt := tt_of 731 (by decide +kernel) rfl
theorem w_732 : Cond.selects "SignalEngine$Draft" ⟨"SignalEngine$Draft", "watch", "(II)LSignalEngine$Node;"⟩ ⟨"SignalEngine$Draft", "watch", "(II)LSignalEngine$Node;"⟩ ∈ tt := tt_of 732 (by decide +kernel) rfl
set_option maxRecDepth 100000 in
theorem w_733 : Cond.code ⟨"SignalEngine$Draft", "watch", "(II)LSignalEngine$Node;"⟩ prog_4_method_9_code 6 (Option.some (Jvm.ClassFile.FieldType.object "SignalEngine$Node")) ∈ tt := tt_of 733 rfl rfl
theorem w_734 : Cond.fieldLink "SignalEngine$Parser" 200 "SignalEngine$Token" "END" "LSignalEngine$Token;" ∈ tt := tt_of 734 (by decide +kernel) rfl
theorem w_736 : Cond.methodLink "SignalEngine$Parser" 203 ⟨"SignalEngine$Parser", "takePresent", "(I)LSignalEngine$Node;"⟩ ∈ tt := tt_of 736 (by decide +kernel) rfl
theorem w_738 : Cond.instanceMethod ⟨"SignalEngine$Parser", "takePresent", "(I)LSignalEngine$Node;"⟩ ∈ tt := tt_of 738 (by decide +kernel) rfl
set_option maxRecDepth 100000 in
theorem w_739 : Cond.code ⟨"SignalEngine$Parser", "takePresent", "(I)LSignalEngine$Node;"⟩ prog_9_method_15_code 5 (Option.some (Jvm.ClassFile.FieldType.object "SignalEngine$Node")) ∈ tt := tt_of 739 rfl rfl
theorem w_740 : Cond.fieldLink "SignalEngine$Parser" 228 "SignalEngine$Token" "THEN" "LSignalEngine$Token;" ∈ tt := tt_of 740 (by decide +kernel) rfl
theorem w_742 : Cond.fieldLink "SignalEngine$Parser" 231 "SignalEngine$Token" "ELSE" "LSignalEngine$Token;" ∈ tt := tt_of 742 (by decide +kernel) rfl
theorem w_744 : Cond.methodLink "SignalEngine$Parser" 234 ⟨"SignalEngine$Draft", "tested", "(IILSignalEngine$Node;LSignalEngine$Node;I)LSignalEngine$Node;"⟩ ∈ tt := tt_of 744 (by decide +kernel) rfl
theorem w_745 : Cond.instanceMethod ⟨"SignalEngine$Draft", "tested", "(IILSignalEngine$Node;LSignalEngine$Node;I)LSignalEngine$Node;"⟩ ∈ tt := tt_of 745 (by decide +kernel) rfl
theorem w_746 : Cond.selects "SignalEngine$Draft" ⟨"SignalEngine$Draft", "tested", "(IILSignalEngine$Node;LSignalEngine$Node;I)LSignalEngine$Node;"⟩ ⟨"SignalEngine$Draft", "tested", "(IILSignalEngine$Node;LSignalEngine$Node;I)LSignalEngine$Node;"⟩ ∈ tt := tt_of 746 (by decide +kernel) rfl
set_option maxRecDepth 100000 in
theorem w_747 : Cond.code ⟨"SignalEngine$Draft", "tested", "(IILSignalEngine$Node;LSignalEngine$Node;I)LSignalEngine$Node;"⟩ prog_4_method_4_code 7 (Option.some (Jvm.ClassFile.FieldType.object "SignalEngine$Node")) ∈ tt := tt_of 747 rfl rfl
theorem w_748 : Cond.methodLink "SignalEngine$Parser" 206 ⟨"SignalEngine$Parser", "closedBy", "(LSignalEngine$Token;LSignalEngine$Node;)LSignalEngine$Node;"⟩ ∈ tt := tt_of 748 (by decide +kernel) rfl
theorem w_750 : Cond.instanceMethod ⟨"SignalEngine$Parser", "closedBy", "(LSignalEngine$Token;LSignalEngine$Node;)LSignalEngine$Node;"⟩ ∈ tt := tt_of 750 (by decide +kernel) rfl
set_option maxRecDepth 100000 in
theorem w_751 : Cond.code ⟨"SignalEngine$Parser", "closedBy", "(LSignalEngine$Token;LSignalEngine$Node;)LSignalEngine$Node;"⟩ prog_9_method_14_code 3 (Option.some (Jvm.ClassFile.FieldType.object "SignalEngine$Node")) ∈ tt := tt_of 751 rfl rfl
theorem w_752 : Cond.methodLink "SignalEngine$Parser" 210 ⟨"SignalEngine$Parser", "takeLoop", "(I)LSignalEngine$Node;"⟩ ∈ tt := tt_of 752 (by decide +kernel) rfl
theorem w_754 : Cond.instanceMethod ⟨"SignalEngine$Parser", "takeLoop", "(I)LSignalEngine$Node;"⟩ ∈ tt := tt_of 754 (by decide +kernel) rfl
set_option maxRecDepth 100000 in
theorem w_755 : Cond.code ⟨"SignalEngine$Parser", "takeLoop", "(I)LSignalEngine$Node;"⟩ prog_9_method_16_code 3 (Option.some (Jvm.ClassFile.FieldType.object "SignalEngine$Node")) ∈ tt := tt_of 755 rfl rfl
theorem w_756 : Cond.fieldLink "SignalEngine$Parser" 238 "SignalEngine$Token" "EACH" "LSignalEngine$Token;" ∈ tt := tt_of 756 (by decide +kernel) rfl
theorem w_758 : Cond.methodLink "SignalEngine$Parser" 241 ⟨"SignalEngine$Draft", "loopEach", "(LSignalEngine$Node;II)LSignalEngine$Node;"⟩ ∈ tt := tt_of 758 (by decide +kernel) rfl
theorem w_759 : Cond.instanceMethod ⟨"SignalEngine$Draft", "loopEach", "(LSignalEngine$Node;II)LSignalEngine$Node;"⟩ ∈ tt := tt_of 759 (by decide +kernel) rfl
theorem w_760 : Cond.selects "SignalEngine$Draft" ⟨"SignalEngine$Draft", "loopEach", "(LSignalEngine$Node;II)LSignalEngine$Node;"⟩ ⟨"SignalEngine$Draft", "loopEach", "(LSignalEngine$Node;II)LSignalEngine$Node;"⟩ ∈ tt := tt_of 760 (by decide +kernel) rfl
set_option maxRecDepth 100000 in
theorem w_761 : Cond.code ⟨"SignalEngine$Draft", "loopEach", "(LSignalEngine$Node;II)LSignalEngine$Node;"⟩ prog_4_method_12_code 6 (Option.some (Jvm.ClassFile.FieldType.object "SignalEngine$Node")) ∈ tt := tt_of 761 rfl rfl
theorem w_762 : Cond.methodLink "SignalEngine$Draft" 58 ⟨"SignalEngine$Draft", "halt", "(I)LSignalEngine$Node;"⟩ ∈ tt := tt_of 762 (by decide +kernel) rfl
theorem w_763 : Cond.methodLink "SignalEngine$Draft" 62 ⟨"SignalEngine$Draft", "tested", "(IILSignalEngine$Node;LSignalEngine$Node;I)LSignalEngine$Node;"⟩ ∈ tt := tt_of 763 (by decide +kernel) rfl
theorem w_764 : Cond.methodLink "SignalEngine$Draft" 66 ⟨"SignalEngine$Draft", "abort", "(LSignalEngine$Node;LSignalEngine$Node;I)LSignalEngine$Node;"⟩ ∈ tt := tt_of 764 (by decide +kernel) rfl
theorem w_765 : Cond.instanceMethod ⟨"SignalEngine$Draft", "abort", "(LSignalEngine$Node;LSignalEngine$Node;I)LSignalEngine$Node;"⟩ ∈ tt := tt_of 765 (by decide +kernel) rfl
theorem w_766 : Cond.selects "SignalEngine$Draft" ⟨"SignalEngine$Draft", "abort", "(LSignalEngine$Node;LSignalEngine$Node;I)LSignalEngine$Node;"⟩ ⟨"SignalEngine$Draft", "abort", "(LSignalEngine$Node;LSignalEngine$Node;I)LSignalEngine$Node;"⟩ ∈ tt := tt_of 766 (by decide +kernel) rfl
set_option maxRecDepth 100000 in
theorem w_767 : Cond.code ⟨"SignalEngine$Draft", "abort", "(LSignalEngine$Node;LSignalEngine$Node;I)LSignalEngine$Node;"⟩ prog_4_method_11_code 5 (Option.some (Jvm.ClassFile.FieldType.object "SignalEngine$Node")) ∈ tt := tt_of 767 rfl rfl
theorem w_768 : Cond.methodLink "SignalEngine$Parser" 147 ⟨"SignalEngine$Draft", "join", "(ILSignalEngine$Node;LSignalEngine$Node;I)LSignalEngine$Node;"⟩ ∈ tt := tt_of 768 (by decide +kernel) rfl
theorem w_769 : Cond.methodLink "SignalEngine$Parser" 213 ⟨"SignalEngine$Parser", "takeTrap", "(I)LSignalEngine$Node;"⟩ ∈ tt := tt_of 769 (by decide +kernel) rfl
theorem w_771 : Cond.instanceMethod ⟨"SignalEngine$Parser", "takeTrap", "(I)LSignalEngine$Node;"⟩ ∈ tt := tt_of 771 (by decide +kernel) rfl
set_option maxRecDepth 100000 in
theorem w_772 : Cond.code ⟨"SignalEngine$Parser", "takeTrap", "(I)LSignalEngine$Node;"⟩ prog_9_method_17_code 5 (Option.some (Jvm.ClassFile.FieldType.object "SignalEngine$Node")) ∈ tt := tt_of 772 rfl rfl
theorem w_773 : Cond.methodLink "SignalEngine$Parser" 248 ⟨"SignalEngine$Draft", "trap", "(ILSignalEngine$Node;I)LSignalEngine$Node;"⟩ ∈ tt := tt_of 773 (by decide +kernel) rfl
theorem w_774 : Cond.instanceMethod ⟨"SignalEngine$Draft", "trap", "(ILSignalEngine$Node;I)LSignalEngine$Node;"⟩ ∈ tt := tt_of 774 (by decide +kernel) rfl
theorem w_775 : Cond.selects "SignalEngine$Draft" ⟨"SignalEngine$Draft", "trap", "(ILSignalEngine$Node;I)LSignalEngine$Node;"⟩ ⟨"SignalEngine$Draft", "trap", "(ILSignalEngine$Node;I)LSignalEngine$Node;"⟩ ∈ tt := tt_of 775 (by decide +kernel) rfl
set_option maxRecDepth 100000 in
theorem w_776 : Cond.code ⟨"SignalEngine$Draft", "trap", "(ILSignalEngine$Node;I)LSignalEngine$Node;"⟩ prog_4_method_5_code 5 (Option.some (Jvm.ClassFile.FieldType.object "SignalEngine$Node")) ∈ tt := tt_of 776 rfl rfl
theorem w_777 : Cond.methodLink "SignalEngine$Parser" 216 ⟨"SignalEngine$Parser", "takeLocals", "(I)LSignalEngine$Node;"⟩ ∈ tt := tt_of 777 (by decide +kernel) rfl
theorem w_779 : Cond.instanceMethod ⟨"SignalEngine$Parser", "takeLocals", "(I)LSignalEngine$Node;"⟩ ∈ tt := tt_of 779 (by decide +kernel) rfl
set_option maxRecDepth 100000 in
theorem w_780 : Cond.code ⟨"SignalEngine$Parser", "takeLocals", "(I)LSignalEngine$Node;"⟩ prog_9_method_18_code 7 (Option.some (Jvm.ClassFile.FieldType.object "SignalEngine$Node")) ∈ tt := tt_of 780 rfl rfl
theorem w_781 : Cond.methodLink "SignalEngine$Parser" 219 ⟨"SignalEngine$Parser", "takeEvery", "(I)LSignalEngine$Node;"⟩ ∈ tt := tt_of 781 (by decide +kernel) rfl
theorem w_783 : Cond.instanceMethod ⟨"SignalEngine$Parser", "takeEvery", "(I)LSignalEngine$Node;"⟩ ∈ tt := tt_of 783 (by decide +kernel) rfl
set_option maxRecDepth 100000 in
theorem w_784 : Cond.code ⟨"SignalEngine$Parser", "takeEvery", "(I)LSignalEngine$Node;"⟩ prog_9_method_19_code 4 (Option.some (Jvm.ClassFile.FieldType.object "SignalEngine$Node")) ∈ tt := tt_of 784 rfl rfl
theorem w_785 : Cond.fieldLink "SignalEngine$Parser" 255 "SignalEngine$Token" "DO" "LSignalEngine$Token;" ∈ tt := tt_of 785 (by decide +kernel) rfl
theorem w_787 : Cond.methodLink "SignalEngine$Parser" 222 ⟨"SignalEngine$Parser", "takeGuarded", "(LSignalEngine$Token;I)LSignalEngine$Node;"⟩ ∈ tt := tt_of 787 (by decide +kernel) rfl
theorem w_789 : Cond.instanceMethod ⟨"SignalEngine$Parser", "takeGuarded", "(LSignalEngine$Token;I)LSignalEngine$Node;"⟩ ∈ tt := tt_of 789 (by decide +kernel) rfl
set_option maxRecDepth 100000 in
theorem w_790 : Cond.code ⟨"SignalEngine$Parser", "takeGuarded", "(LSignalEngine$Token;I)LSignalEngine$Node;"⟩ prog_9_method_20_code 6 (Option.some (Jvm.ClassFile.FieldType.object "SignalEngine$Node")) ∈ tt := tt_of 790 rfl rfl
theorem w_791 : Cond.fieldLink "SignalEngine$Parser" 258 "SignalEngine$Token" "WEAK" "LSignalEngine$Token;" ∈ tt := tt_of 791 (by decide +kernel) rfl
theorem w_793 : Cond.fieldLink "SignalEngine$Parser" 261 "SignalEngine$Token" "ABORT" "LSignalEngine$Token;" ∈ tt := tt_of 793 (by decide +kernel) rfl
theorem w_795 : Cond.fieldLink "SignalEngine$Parser" 264 "SignalEngine$Token" "WHEN" "LSignalEngine$Token;" ∈ tt := tt_of 795 (by decide +kernel) rfl
theorem w_797 : Cond.methodLink "SignalEngine$Parser" 267 ⟨"SignalEngine$Draft", "watch", "(II)LSignalEngine$Node;"⟩ ∈ tt := tt_of 797 (by decide +kernel) rfl
theorem w_798 : Cond.methodLink "SignalEngine$Parser" 270 ⟨"SignalEngine$Draft", "abort", "(LSignalEngine$Node;LSignalEngine$Node;I)LSignalEngine$Node;"⟩ ∈ tt := tt_of 798 (by decide +kernel) rfl
theorem w_799 : Cond.fieldLink "SignalEngine$Parser" 274 "SignalEngine$Token" "SUSPEND" "LSignalEngine$Token;" ∈ tt := tt_of 799 (by decide +kernel) rfl
theorem w_801 : Cond.fieldLink "SignalEngine$Parser" 139 "SignalEngine$Token" "BARS" "LSignalEngine$Token;" ∈ tt := tt_of 801 (by decide +kernel) rfl
theorem w_803 : Cond.fieldLink "SignalEngine$Parser" 99 "SignalEngine$Token" "STOP" "LSignalEngine$Token;" ∈ tt := tt_of 803 (by decide +kernel) rfl
theorem w_804 : Cond.methodLink "SignalEngine" 44 ⟨"SignalEngine$Parser", "judge", "()I"⟩ ∈ tt := tt_of 804 (by decide +kernel) rfl
theorem w_805 : Cond.instanceMethod ⟨"SignalEngine$Parser", "judge", "()I"⟩ ∈ tt := tt_of 805 (by decide +kernel) rfl
theorem w_806 : Cond.selects "SignalEngine$Parser" ⟨"SignalEngine$Parser", "judge", "()I"⟩ ⟨"SignalEngine$Parser", "judge", "()I"⟩ ∈ tt := tt_of 806 (by decide +kernel) rfl
set_option maxRecDepth 100000 in
theorem w_807 : Cond.code ⟨"SignalEngine$Parser", "judge", "()I"⟩ prog_9_method_3_code 3 (Option.some Jvm.ClassFile.FieldType.int) ∈ tt := tt_of 807 rfl rfl
theorem w_808 : Cond.methodLink "SignalEngine$Parser" 49 ⟨"SignalEngine$Draft", "settle", "(I)V"⟩ ∈ tt := tt_of 808 (by decide +kernel) rfl
theorem w_809 : Cond.instanceMethod ⟨"SignalEngine$Draft", "settle", "(I)V"⟩ ∈ tt := tt_of 809 (by decide +kernel) rfl
theorem w_810 : Cond.selects "SignalEngine$Draft" ⟨"SignalEngine$Draft", "settle", "(I)V"⟩ ⟨"SignalEngine$Draft", "settle", "(I)V"⟩ ∈ tt := tt_of 810 (by decide +kernel) rfl
set_option maxRecDepth 100000 in
theorem w_811 : Cond.code ⟨"SignalEngine$Draft", "settle", "(I)V"⟩ prog_4_method_13_code 5 (Option.none : Option Jvm.ClassFile.FieldType) ∈ tt := tt_of 811 rfl rfl
theorem w_812 : Cond.methodLink "SignalEngine$Draft" 70 ⟨"java/util/ArrayList", "size", "()I"⟩ ∈ tt := tt_of 812 (by decide +kernel) rfl
theorem w_813 : Cond.instanceMethod ⟨"java/util/ArrayList", "size", "()I"⟩ ∈ tt := tt_of 813 (by decide +kernel) rfl
theorem w_814 : Cond.selects "java/util/ArrayList" ⟨"java/util/ArrayList", "size", "()I"⟩ ⟨"java/util/ArrayList", "size", "()I"⟩ ∈ tt := tt_of 814 (by decide +kernel) rfl
set_option maxRecDepth 100000 in
theorem w_815 : Cond.code ⟨"java/util/ArrayList", "size", "()I"⟩ prog_33_method_8_code 1 (Option.some Jvm.ClassFile.FieldType.int) ∈ tt := tt_of 815 rfl rfl
theorem w_816 : Cond.methodLink "SignalEngine$Draft" 74 ⟨"java/util/ArrayList", "get", "(I)Ljava/lang/Object;"⟩ ∈ tt := tt_of 816 (by decide +kernel) rfl
theorem w_817 : Cond.instanceMethod ⟨"java/util/ArrayList", "get", "(I)Ljava/lang/Object;"⟩ ∈ tt := tt_of 817 (by decide +kernel) rfl
theorem w_818 : Cond.selects "java/util/ArrayList" ⟨"java/util/ArrayList", "get", "(I)Ljava/lang/Object;"⟩ ⟨"java/util/ArrayList", "get", "(I)Ljava/lang/Object;"⟩ ∈ tt := tt_of 818 (by decide +kernel) rfl
set_option maxRecDepth 100000 in
theorem w_819 : Cond.code ⟨"java/util/ArrayList", "get", "(I)Ljava/lang/Object;"⟩ prog_33_method_20_code 2 (Option.some (Jvm.ClassFile.FieldType.object "java/lang/Object")) ∈ tt := tt_of 819 rfl rfl
theorem w_820 : Cond.methodLink "java/util/ArrayList" 118 ⟨"java/util/Objects", "checkIndex", "(II)I"⟩ ∈ tt := tt_of 820 (by decide +kernel) rfl
theorem w_821 : Cond.static ⟨"java/util/Objects", "checkIndex", "(II)I"⟩ ∈ tt := tt_of 821 (by decide +kernel) rfl
set_option maxRecDepth 100000 in
theorem w_822 : Cond.code ⟨"java/util/Objects", "checkIndex", "(II)I"⟩ prog_37_method_17_code 2 (Option.some Jvm.ClassFile.FieldType.int) ∈ tt := tt_of 822 rfl rfl
theorem w_823 : Cond.methodLink "java/util/Objects" 105 ⟨"jdk/internal/util/Preconditions", "checkIndex", "(IILjava/util/function/BiFunction;)I"⟩ ∈ tt := tt_of 823 (by decide +kernel) rfl
theorem w_824 : Cond.methodLink "java/util/ArrayList" 123 ⟨"java/util/ArrayList", "elementData", "(I)Ljava/lang/Object;"⟩ ∈ tt := tt_of 824 (by decide +kernel) rfl
theorem w_825 : Cond.instanceMethod ⟨"java/util/ArrayList", "elementData", "(I)Ljava/lang/Object;"⟩ ∈ tt := tt_of 825 (by decide +kernel) rfl
theorem w_826 : Cond.selects "java/util/ArrayList" ⟨"java/util/ArrayList", "elementData", "(I)Ljava/lang/Object;"⟩ ⟨"java/util/ArrayList", "elementData", "(I)Ljava/lang/Object;"⟩ ∈ tt := tt_of 826 (by decide +kernel) rfl
set_option maxRecDepth 100000 in
theorem w_827 : Cond.code ⟨"java/util/ArrayList", "elementData", "(I)Ljava/lang/Object;"⟩ prog_33_method_18_code 2 (Option.some (Jvm.ClassFile.FieldType.object "java/lang/Object")) ∈ tt := tt_of 827 rfl rfl
theorem w_831 : Cond.methodLink "SignalEngine$Draft" 92 ⟨"SignalEngine$Draft", "spread", "(LSignalEngine$Node;[I)V"⟩ ∈ tt := tt_of 831 (by decide +kernel) rfl
theorem w_833 : Cond.instanceMethod ⟨"SignalEngine$Draft", "spread", "(LSignalEngine$Node;[I)V"⟩ ∈ tt := tt_of 833 (by decide +kernel) rfl
set_option maxRecDepth 100000 in
theorem w_834 : Cond.code ⟨"SignalEngine$Draft", "spread", "(LSignalEngine$Node;[I)V"⟩ prog_4_method_15_code 4 (Option.none : Option Jvm.ClassFile.FieldType) ∈ tt := tt_of 834 rfl rfl
theorem w_839 : Cond.methodLink "SignalEngine$Draft" 96 ⟨"SignalEngine$Draft", "codesOf", "(LSignalEngine$Node;)I"⟩ ∈ tt := tt_of 839 (by decide +kernel) rfl
theorem w_840 : Cond.static ⟨"SignalEngine$Draft", "codesOf", "(LSignalEngine$Node;)I"⟩ ∈ tt := tt_of 840 (by decide +kernel) rfl
set_option maxRecDepth 100000 in
theorem w_841 : Cond.code ⟨"SignalEngine$Draft", "codesOf", "(LSignalEngine$Node;)I"⟩ prog_4_method_17_code 3 (Option.some Jvm.ClassFile.FieldType.int) ∈ tt := tt_of 841 rfl rfl
theorem w_851 : Cond.methodLink "SignalEngine$Parser" 53 ⟨"SignalEngine$Draft", "lineOfEmptyLoop", "()I"⟩ ∈ tt := tt_of 851 (by decide +kernel) rfl
theorem w_852 : Cond.instanceMethod ⟨"SignalEngine$Draft", "lineOfEmptyLoop", "()I"⟩ ∈ tt := tt_of 852 (by decide +kernel) rfl
theorem w_853 : Cond.selects "SignalEngine$Draft" ⟨"SignalEngine$Draft", "lineOfEmptyLoop", "()I"⟩ ⟨"SignalEngine$Draft", "lineOfEmptyLoop", "()I"⟩ ∈ tt := tt_of 853 (by decide +kernel) rfl
set_option maxRecDepth 100000 in
theorem w_854 : Cond.code ⟨"SignalEngine$Draft", "lineOfEmptyLoop", "()I"⟩ prog_4_method_18_code 5 (Option.some Jvm.ClassFile.FieldType.int) ∈ tt := tt_of 854 rfl rfl
theorem w_855 : Cond.methodLink "SignalEngine$Parser" 63 ⟨"SignalEngine$Draft", "isLarge", "()Z"⟩ ∈ tt := tt_of 855 (by decide +kernel) rfl
theorem w_856 : Cond.instanceMethod ⟨"SignalEngine$Draft", "isLarge", "()Z"⟩ ∈ tt := tt_of 856 (by decide +kernel) rfl
theorem w_857 : Cond.selects "SignalEngine$Draft" ⟨"SignalEngine$Draft", "isLarge", "()Z"⟩ ⟨"SignalEngine$Draft", "isLarge", "()Z"⟩ ∈ tt := tt_of 857 (by decide +kernel) rfl
set_option maxRecDepth 100000 in
theorem w_858 : Cond.code ⟨"SignalEngine$Draft", "isLarge", "()Z"⟩ prog_4_method_19_code 1 (Option.some Jvm.ClassFile.FieldType.boolean) ∈ tt := tt_of 858 rfl rfl
theorem w_859 : Cond.classLink "SignalEngine" 47 "SignalEngine$Program" ∈ tt := tt_of 859 (by decide +kernel) rfl
theorem w_860 : Cond.instantiable "SignalEngine$Program" 17 ∈ tt := tt_of 860 (by decide +kernel) rfl
theorem w_861 : Cond.methodLink "SignalEngine" 49 ⟨"SignalEngine$Program", "<init>", "(LSignalEngine$Parser;)V"⟩ ∈ tt := tt_of 861 (by decide +kernel) rfl
theorem w_862 : Cond.instanceMethod ⟨"SignalEngine$Program", "<init>", "(LSignalEngine$Parser;)V"⟩ ∈ tt := tt_of 862 (by decide +kernel) rfl
set_option maxRecDepth 100000 in
theorem w_863 : Cond.code ⟨"SignalEngine$Program", "<init>", "(LSignalEngine$Parser;)V"⟩ prog_11_method_1_code 7 (Option.none : Option Jvm.ClassFile.FieldType) ∈ tt := tt_of 863 rfl rfl
theorem w_864 : Cond.methodLink "SignalEngine$Program" 3 ⟨"java/lang/Object", "<init>", "()V"⟩ ∈ tt := tt_of 864 (by decide +kernel) rfl
theorem w_865 : Cond.methodLink "SignalEngine$Program" 21 ⟨"java/util/ArrayList", "size", "()I"⟩ ∈ tt := tt_of 865 (by decide +kernel) rfl
theorem w_866 : Cond.classLink "SignalEngine$Program" 57 "SignalEngine$Pieces" ∈ tt := tt_of 866 (by decide +kernel) rfl
theorem w_867 : Cond.methodLink "SignalEngine$Program" 62 ⟨"SignalEngine$Pieces", "<init>", "(I)V"⟩ ∈ tt := tt_of 867 (by decide +kernel) rfl
theorem w_868 : Cond.methodLink "SignalEngine$Program" 100 ⟨"java/util/ArrayList", "get", "(I)Ljava/lang/Object;"⟩ ∈ tt := tt_of 868 (by decide +kernel) rfl
theorem w_869 : Cond.classLink "SignalEngine$Program" 104 "SignalEngine$Node" ∈ tt := tt_of 869 (by decide +kernel) rfl
theorem w_870 : Cond.methodLink "SignalEngine$Program" 106 ⟨"SignalEngine$Program", "copy", "(LSignalEngine$Node;)V"⟩ ∈ tt := tt_of 870 (by decide +kernel) rfl
theorem w_872 : Cond.instanceMethod ⟨"SignalEngine$Program", "copy", "(LSignalEngine$Node;)V"⟩ ∈ tt := tt_of 872 (by decide +kernel) rfl
set_option maxRecDepth 100000 in
theorem w_873 : Cond.code ⟨"SignalEngine$Program", "copy", "(LSignalEngine$Node;)V"⟩ prog_11_method_2_code 3 (Option.none : Option Jvm.ClassFile.FieldType) ∈ tt := tt_of 873 rfl rfl
theorem w_874 : Cond.methodLink "SignalEngine$Program" 117 ⟨"SignalEngine$Program", "giveNumbers", "([ILSignalEngine$Pieces;)V"⟩ ∈ tt := tt_of 874 (by decide +kernel) rfl
theorem w_876 : Cond.instanceMethod ⟨"SignalEngine$Program", "giveNumbers", "([ILSignalEngine$Pieces;)V"⟩ ∈ tt := tt_of 876 (by decide +kernel) rfl
set_option maxRecDepth 100000 in
theorem w_877 : Cond.code ⟨"SignalEngine$Program", "giveNumbers", "([ILSignalEngine$Pieces;)V"⟩ prog_11_method_3_code 5 (Option.none : Option Jvm.ClassFile.FieldType) ∈ tt := tt_of 877 rfl rfl
theorem w_886 : Cond.methodLink "SignalEngine$Program" 121 ⟨"SignalEngine$Program", "boundPauses", "()V"⟩ ∈ tt := tt_of 886 (by decide +kernel) rfl
theorem w_888 : Cond.instanceMethod ⟨"SignalEngine$Program", "boundPauses", "()V"⟩ ∈ tt := tt_of 888 (by decide +kernel) rfl
set_option maxRecDepth 100000 in
theorem w_889 : Cond.code ⟨"SignalEngine$Program", "boundPauses", "()V"⟩ prog_11_method_4_code 2 (Option.none : Option Jvm.ClassFile.FieldType) ∈ tt := tt_of 889 rfl rfl
theorem w_974 : Cond.classLink "SignalEngine" 56 "SignalEngine$Reactor" ∈ tt := tt_of 974 (by decide +kernel) rfl
theorem w_975 : Cond.instantiable "SignalEngine$Reactor" 18 ∈ tt := tt_of 975 (by decide +kernel) rfl
theorem w_976 : Cond.methodLink "SignalEngine" 58 ⟨"SignalEngine$Reactor", "<init>", "(LSignalEngine$Program;)V"⟩ ∈ tt := tt_of 976 (by decide +kernel) rfl
theorem w_977 : Cond.instanceMethod ⟨"SignalEngine$Reactor", "<init>", "(LSignalEngine$Program;)V"⟩ ∈ tt := tt_of 977 (by decide +kernel) rfl
set_option maxRecDepth 100000 in
theorem w_978 : Cond.code ⟨"SignalEngine$Reactor", "<init>", "(LSignalEngine$Program;)V"⟩ prog_12_method_1_code 4 (Option.none : Option Jvm.ClassFile.FieldType) ∈ tt := tt_of 978 rfl rfl
theorem w_2353 : Cond.selects "[Ljava/lang/Object;" ⟨"java/lang/Object", "getClass", "()Ljava/lang/Class;"⟩ ⟨"java/lang/Object", "getClass", "()Ljava/lang/Class;"⟩ ∈ tt := tt_of 2353 (by decide +kernel) rfl
theorem w_2369 : Cond.fieldLink "java/lang/String" 9 "java/lang/String" "value" "[B" ∈ tt := tt_of 2369 (by decide +kernel) rfl
theorem w_2370 : Cond.fieldLink "java/lang/String" 15 "java/lang/String" "coder" "B" ∈ tt := tt_of 2370 (by decide +kernel) rfl
theorem w_2372 : Cond.fieldLink "java/lang/Enum" 7 "java/lang/Enum" "ordinal" "I" ∈ tt := tt_of 2372 (by decide +kernel) rfl
theorem wp_10 : Cond.selects "SignalEngine$Parser" ⟨"SignalEngine$Parser", "skip", "(LSignalEngine$Token;)Z"⟩ ⟨"SignalEngine$Parser", "skip", "(LSignalEngine$Token;)Z"⟩ ∈ tt := tt_sel 10 (by decide +kernel) rfl
theorem wp_11 : Cond.selects "SignalEngine$Parser" ⟨"SignalEngine$Parser", "take", "(LSignalEngine$Token;)V"⟩ ⟨"SignalEngine$Parser", "take", "(LSignalEngine$Token;)V"⟩ ∈ tt := tt_sel 11 (by decide +kernel) rfl
theorem wp_15 : Cond.selects "SignalEngine$Parser" ⟨"SignalEngine$Parser", "enter", "()V"⟩ ⟨"SignalEngine$Parser", "enter", "()V"⟩ ∈ tt := tt_sel 15 (by decide +kernel) rfl
theorem wp_16 : Cond.selects "SignalEngine$Parser" ⟨"SignalEngine$Parser", "takeRest", "(LSignalEngine$Token;I)LSignalEngine$Node;"⟩ ⟨"SignalEngine$Parser", "takeRest", "(LSignalEngine$Token;I)LSignalEngine$Node;"⟩ ∈ tt := tt_sel 16 (by decide +kernel) rfl
theorem wp_17 : Cond.selects "java/util/ArrayList" ⟨"java/util/ArrayList", "add", "(Ljava/lang/Object;[Ljava/lang/Object;I)V"⟩ ⟨"java/util/ArrayList", "add", "(Ljava/lang/Object;[Ljava/lang/Object;I)V"⟩ ∈ tt := tt_sel 17 (by decide +kernel) rfl
theorem wp_18 : Cond.selects "java/util/ArrayList" ⟨"java/util/ArrayList", "grow", "()[Ljava/lang/Object;"⟩ ⟨"java/util/ArrayList", "grow", "()[Ljava/lang/Object;"⟩ ∈ tt := tt_sel 18 (by decide +kernel) rfl
theorem wp_19 : Cond.selects "java/util/ArrayList" ⟨"java/util/ArrayList", "grow", "(I)[Ljava/lang/Object;"⟩ ⟨"java/util/ArrayList", "grow", "(I)[Ljava/lang/Object;"⟩ ∈ tt := tt_sel 19 (by decide +kernel) rfl
theorem wp_20 : Cond.selects "SignalEngine$Parser" ⟨"SignalEngine$Parser", "takeUse", "(LSignalEngine$Names;I)I"⟩ ⟨"SignalEngine$Parser", "takeUse", "(LSignalEngine$Names;I)I"⟩ ∈ tt := tt_sel 20 (by decide +kernel) rfl
theorem wp_21 : Cond.selects "SignalEngine$Parser" ⟨"SignalEngine$Parser", "takeEither", "()I"⟩ ⟨"SignalEngine$Parser", "takeEither", "()I"⟩ ∈ tt := tt_sel 21 (by decide +kernel) rfl
theorem wp_22 : Cond.selects "SignalEngine$Parser" ⟨"SignalEngine$Parser", "takeClause", "()I"⟩ ⟨"SignalEngine$Parser", "takeClause", "()I"⟩ ∈ tt := tt_sel 22 (by decide +kernel) rfl
theorem wp_23 : Cond.selects "SignalEngine$Parser" ⟨"SignalEngine$Parser", "takePart", "()I"⟩ ⟨"SignalEngine$Parser", "takePart", "()I"⟩ ∈ tt := tt_sel 23 (by decide +kernel) rfl
theorem wp_25 : Cond.selects "SignalEngine$Parser" ⟨"SignalEngine$Parser", "takePresent", "(I)LSignalEngine$Node;"⟩ ⟨"SignalEngine$Parser", "takePresent", "(I)LSignalEngine$Node;"⟩ ∈ tt := tt_sel 25 (by decide +kernel) rfl
theorem wp_26 : Cond.selects "SignalEngine$Parser" ⟨"SignalEngine$Parser", "closedBy", "(LSignalEngine$Token;LSignalEngine$Node;)LSignalEngine$Node;"⟩ ⟨"SignalEngine$Parser", "closedBy", "(LSignalEngine$Token;LSignalEngine$Node;)LSignalEngine$Node;"⟩ ∈ tt := tt_sel 26 (by decide +kernel) rfl
theorem wp_27 : Cond.selects "SignalEngine$Parser" ⟨"SignalEngine$Parser", "takeLoop", "(I)LSignalEngine$Node;"⟩ ⟨"SignalEngine$Parser", "takeLoop", "(I)LSignalEngine$Node;"⟩ ∈ tt := tt_sel 27 (by decide +kernel) rfl
theorem wp_28 : Cond.selects "SignalEngine$Parser" ⟨"SignalEngine$Parser", "takeTrap", "(I)LSignalEngine$Node;"⟩ ⟨"SignalEngine$Parser", "takeTrap", "(I)LSignalEngine$Node;"⟩ ∈ tt := tt_sel 28 (by decide +kernel) rfl
theorem wp_29 : Cond.selects "SignalEngine$Parser" ⟨"SignalEngine$Parser", "takeLocals", "(I)LSignalEngine$Node;"⟩ ⟨"SignalEngine$Parser", "takeLocals", "(I)LSignalEngine$Node;"⟩ ∈ tt := tt_sel 29 (by decide +kernel) rfl
theorem wp_30 : Cond.selects "SignalEngine$Parser" ⟨"SignalEngine$Parser", "takeEvery", "(I)LSignalEngine$Node;"⟩ ⟨"SignalEngine$Parser", "takeEvery", "(I)LSignalEngine$Node;"⟩ ∈ tt := tt_sel 30 (by decide +kernel) rfl
theorem wp_31 : Cond.selects "SignalEngine$Parser" ⟨"SignalEngine$Parser", "takeGuarded", "(LSignalEngine$Token;I)LSignalEngine$Node;"⟩ ⟨"SignalEngine$Parser", "takeGuarded", "(LSignalEngine$Token;I)LSignalEngine$Node;"⟩ ∈ tt := tt_sel 31 (by decide +kernel) rfl
theorem wp_32 : Cond.selects "SignalEngine$Draft" ⟨"SignalEngine$Draft", "spread", "(LSignalEngine$Node;[I)V"⟩ ⟨"SignalEngine$Draft", "spread", "(LSignalEngine$Node;[I)V"⟩ ∈ tt := tt_sel 32 (by decide +kernel) rfl
theorem wp_33 : Cond.selects "SignalEngine$Program" ⟨"SignalEngine$Program", "copy", "(LSignalEngine$Node;)V"⟩ ⟨"SignalEngine$Program", "copy", "(LSignalEngine$Node;)V"⟩ ∈ tt := tt_sel 33 (by decide +kernel) rfl
theorem wp_34 : Cond.selects "SignalEngine$Program" ⟨"SignalEngine$Program", "giveNumbers", "([ILSignalEngine$Pieces;)V"⟩ ⟨"SignalEngine$Program", "giveNumbers", "([ILSignalEngine$Pieces;)V"⟩ ∈ tt := tt_sel 34 (by decide +kernel) rfl
theorem wp_36 : Cond.selects "SignalEngine$Program" ⟨"SignalEngine$Program", "boundPauses", "()V"⟩ ⟨"SignalEngine$Program", "boundPauses", "()V"⟩ ∈ tt := tt_sel 36 (by decide +kernel) rfl
theorem wp_5 : Cond.selects "SignalEngine$Lexer" ⟨"SignalEngine$Lexer", "startsBars", "()Z"⟩ ⟨"SignalEngine$Lexer", "startsBars", "()Z"⟩ ∈ tt := tt_sel 5 (by decide +kernel) rfl
theorem wp_6 : Cond.selects "SignalEngine$Lexer" ⟨"SignalEngine$Lexer", "isName", "()Z"⟩ ⟨"SignalEngine$Lexer", "isName", "()Z"⟩ ∈ tt := tt_sel 6 (by decide +kernel) rfl
theorem wp_7 : Cond.selects "SignalEngine$Lexer" ⟨"SignalEngine$Lexer", "known", "(LSignalEngine$Token;)LSignalEngine$Token;"⟩ ⟨"SignalEngine$Lexer", "known", "(LSignalEngine$Token;)LSignalEngine$Token;"⟩ ∈ tt := tt_sel 7 (by decide +kernel) rfl
theorem wp_8 : Cond.selects "SignalEngine$Parser" ⟨"SignalEngine$Parser", "takeNames", "(I)V"⟩ ⟨"SignalEngine$Parser", "takeNames", "(I)V"⟩ ∈ tt := tt_sel 8 (by decide +kernel) rfl
theorem wn_99 : Cond.castable "[B" "java/lang/Cloneable" ∈ nn := nn_of 99 (by decide +kernel) rfl
theorem wn_198 : Cond.fieldLinkNest "SignalEngine$Program" 15 "SignalEngine$Draft" "nodes" "Ljava/util/ArrayList;" "SignalEngine" ∈ nn := nn_of 198 (by decide +kernel) rfl
theorem wn_201 : Cond.fieldLinkNest "SignalEngine$Program" 116 "SignalEngine$Draft" "pieces" "LSignalEngine$Pieces;" "SignalEngine" ∈ nn := nn_of 201 (by decide +kernel) rfl
theorem wn_202 : Cond.fieldLinkNest "SignalEngine$Parser" 283 "SignalEngine$Draft" "pieces" "LSignalEngine$Pieces;" "SignalEngine" ∈ nn := nn_of 202 (by decide +kernel) rfl
theorem wn_203 : Cond.fieldLinkNest "SignalEngine$Program" 49 "SignalEngine$Draft" "weights" "I" "SignalEngine" ∈ nn := nn_of 203 (by decide +kernel) rfl
theorem wn_205 : Cond.fieldLinkNest "SignalEngine$Program" 45 "SignalEngine$Draft" "pauses" "I" "SignalEngine" ∈ nn := nn_of 205 (by decide +kernel) rfl
theorem wn_207 : Cond.fieldLinkNest "SignalEngine$Program" 59 "SignalEngine$Draft" "tests" "I" "SignalEngine" ∈ nn := nn_of 207 (by decide +kernel) rfl
theorem wn_209 : Cond.fieldLinkNest "SignalEngine$Program" 53 "SignalEngine$Draft" "deepest" "I" "SignalEngine" ∈ nn := nn_of 209 (by decide +kernel) rfl
theorem wn_233 : Cond.fieldLinkNest "SignalEngine$Parser" 106 "SignalEngine$Lexer" "text" "[B" "SignalEngine" ∈ nn := nn_of 233 (by decide +kernel) rfl
theorem wn_272 : Cond.fieldLinkNest "SignalEngine$Parser" 245 "SignalEngine$Names" "inScope" "I" "SignalEngine" ∈ nn := nn_of 272 (by decide +kernel) rfl
theorem wn_287 : Cond.fieldLinkNest "SignalEngine$Program" 27 "SignalEngine$Parser" "signals" "LSignalEngine$Names;" "SignalEngine" ∈ nn := nn_of 287 (by decide +kernel) rfl
theorem wn_290 : Cond.fieldLinkNest "SignalEngine$Program" 9 "SignalEngine$Parser" "draft" "LSignalEngine$Draft;" "SignalEngine" ∈ nn := nn_of 290 (by decide +kernel) rfl
theorem wn_292 : Cond.fieldLinkNest "SignalEngine$Program" 36 "SignalEngine$Parser" "inputs" "I" "SignalEngine" ∈ nn := nn_of 292 (by decide +kernel) rfl
theorem wn_294 : Cond.fieldLinkNest "SignalEngine$Program" 41 "SignalEngine$Parser" "outputs" "I" "SignalEngine" ∈ nn := nn_of 294 (by decide +kernel) rfl
theorem wn_557 : Cond.fieldLinkNest "SignalEngine$Parser" 142 "SignalEngine$Node" "line" "I" "SignalEngine" ∈ nn := nn_of 557 (by decide +kernel) rfl
theorem wn_558 : Cond.fieldLinkNest "SignalEngine$Draft" 149 "SignalEngine$Node" "line" "I" "SignalEngine" ∈ nn := nn_of 558 (by decide +kernel) rfl
theorem wn_568 : Cond.fieldLinkNest "SignalEngine$Parser" 252 "SignalEngine$Node" "number" "I" "SignalEngine" ∈ nn := nn_of 568 (by decide +kernel) rfl
theorem wn_572 : Cond.fieldLinkNest "SignalEngine$Program" 113 "SignalEngine$Node" "test" "I" "SignalEngine" ∈ nn := nn_of 572 (by decide +kernel) rfl
theorem wn_901 : Cond.fieldLinkNest "SignalEngine" 75 "SignalEngine$Program" "outputs" "I" "SignalEngine" ∈ nn := nn_of 901 (by decide +kernel) rfl
theorem wn_907 : Cond.fieldLinkNest "SignalEngine" 65 "SignalEngine$Program" "pauses" "I" "SignalEngine" ∈ nn := nn_of 907 (by decide +kernel) rfl
theorem wn_2351 : Cond.castable "SignalEngine$Node" "SignalEngine$Node" ∈ nn := nn_of 2351 (by decide +kernel) rfl
theorem wn_2354 : Cond.declares ⟨"java/lang/Object", "getClass", "()Ljava/lang/Class;"⟩ ∈ nn := nn_of 2354 (by decide +kernel) rfl
theorem wn_2362 : Cond.castable "SignalEngine$Node" "java/lang/Object" ∈ nn := nn_of 2362 (by decide +kernel) rfl
theorem wn_2368 : Cond.fieldLinkNest "SignalEngine$Lexer" 74 "SignalEngine$Token" "text" "Ljava/lang/String;" "SignalEngine" ∈ nn := nn_of 2368 (by decide +kernel) rfl
theorem fp_java_util_AbstractList_7 : hg_FP "java/util/AbstractList" 7 7 2 false .int := ⟨R_AL, F_AL, 3, t_AL, rfl, by decide, i_AL, t_AL_ok, n_AL, rfl, (fun h => by cases h), by decide +kernel, Or.inl w_151⟩
theorem fp_java_util_ArrayList_9 : hg_FP "java/util/ArrayList" 9 7 0 false (.array (.object "java/lang/Object")) := ⟨R_AL, F_AL, 3, t_AL, rfl, by decide, i_AL, t_AL_ok, n_AL, rfl, (fun h => by cases h), by decide +kernel, Or.inl w_149⟩
theorem fl_java_util_ArrayList_9 : hg_FL "java/util/ArrayList" 9 7 0 := ⟨R_AL, F_AL, 3, rfl, by decide, i_AL, Or.inl w_149⟩
theorem fl_java_util_ArrayList_48 : hg_FL "java/util/ArrayList" 48 7 1 := ⟨R_AL, F_AL, 3, rfl, by decide, i_AL, Or.inl w_150⟩
theorem fp_java_util_ArrayList_48 : hg_FP "java/util/ArrayList" 48 7 1 false .int := ⟨R_AL, F_AL, 3, t_AL, rfl, by decide, i_AL, t_AL_ok, n_AL, rfl, (fun h => by cases h), by decide +kernel, Or.inl w_150⟩
theorem nw_SignalEngine_Draft_9 : hg_NW "SignalEngine$Draft" 9 7 3 [.null, .int 0, .int 0] := ⟨R_AL, F_AL, t_AL, rfl, i_AL, t_AL_ok, w_135, w_136, w_10, by decide +kernel⟩
theorem fp_SignalEngine_Draft_12 : hg_FP "SignalEngine$Draft" 12 6 0 true (.object "java/util/ArrayList") := ⟨R_DR, F_DR, 6, t_DR, rfl, by decide, i_DR, t_DR_ok, n_DR, rfl, (fun _ => rfl), by decide +kernel, Or.inl w_199⟩
theorem nw_SignalEngine_Draft_18 : hg_NW "SignalEngine$Draft" 18 5 6 [.null, .null, .null, .null, .null, .int 0] := ⟨R_PI, F_PI, t_PI, rfl, i_PI, t_PI_ok, w_161, w_162, w_11, by decide +kernel⟩
theorem fp_SignalEngine_Draft_23 : hg_FP "SignalEngine$Draft" 23 6 1 true (.object "SignalEngine$Pieces") := ⟨R_DR, F_DR, 6, t_DR, rfl, by decide, i_DR, t_DR_ok, n_DR, rfl, (fun _ => rfl), by decide +kernel, Or.inl w_200⟩
theorem fp_SignalEngine_Lexer_13 : hg_FP "SignalEngine$Lexer" 13 2 1 false (.object "SignalEngine$Token") := ⟨R_LX, F_LX, 6, t_LX, rfl, by decide, i_LX, t_LX_ok, n_LX, rfl, (fun h => by cases h), by decide +kernel, Or.inl w_234⟩
theorem fp_SignalEngine_Lexer_22 : hg_FP "SignalEngine$Lexer" 22 2 0 true (.array .byte) := ⟨R_LX, F_LX, 6, t_LX, rfl, by decide, i_LX, t_LX_ok, n_LX, rfl, (fun _ => rfl), by decide +kernel, Or.inl w_232⟩
theorem nw_SignalEngine_Parser_9 : hg_NW "SignalEngine$Parser" 9 6 6 [.null, .null, .int 0, .int 0, .int 0, .int 0] := ⟨R_DR, F_DR, t_DR, rfl, i_DR, t_DR_ok, w_129, w_130, w_7, by decide +kernel⟩
theorem fp_SignalEngine_Parser_12 : hg_FP "SignalEngine$Parser" 12 4 3 true (.object "SignalEngine$Draft") := ⟨R_PA, F_PA, 7, t_PA, rfl, by decide, i_PA, t_PA_ok, n_PA, rfl, (fun _ => rfl), by decide +kernel, Or.inl w_291⟩
theorem nw_SignalEngine_Parser_18 : hg_NW "SignalEngine$Parser" 18 2 6 [.null, .null, .int 0, .int 0, .int 0, .int 0] := ⟨R_LX, F_LX, t_LX, rfl, i_LX, t_LX_ok, w_224, w_225, w_12, by decide +kernel⟩
theorem fp_SignalEngine_Parser_23 : hg_FP "SignalEngine$Parser" 23 4 0 true (.object "SignalEngine$Lexer") := ⟨R_PA, F_PA, 7, t_PA, rfl, by decide, i_PA, t_PA_ok, n_PA, rfl, (fun _ => rfl), by decide +kernel, Or.inl w_286⟩
theorem nw_SignalEngine_Parser_27 : hg_NW "SignalEngine$Parser" 27 3 6 [.null, .null, .null, .null, .int 0, .int 0] := ⟨R_NM, F_NM, t_NM, rfl, i_NM, t_NM_ok, w_257, w_258, w_15, by decide +kernel⟩
theorem fp_SignalEngine_Parser_30 : hg_FP "SignalEngine$Parser" 30 4 1 true (.object "SignalEngine$Names") := ⟨R_PA, F_PA, 7, t_PA, rfl, by decide, i_PA, t_PA_ok, n_PA, rfl, (fun _ => rfl), by decide +kernel, Or.inl w_288⟩
theorem fp_SignalEngine_Parser_34 : hg_FP "SignalEngine$Parser" 34 4 2 true (.object "SignalEngine$Names") := ⟨R_PA, F_PA, 7, t_PA, rfl, by decide, i_PA, t_PA_ok, n_PA, rfl, (fun _ => rfl), by decide +kernel, Or.inl w_289⟩
theorem fl_SignalEngine_Lexer_13 : hg_FL "SignalEngine$Lexer" 13 2 1 := ⟨R_LX, F_LX, 6, rfl, by decide, i_LX, Or.inl w_234⟩
theorem fp_SignalEngine_Lexer_49 : hg_FP "SignalEngine$Lexer" 49 2 2 false .int := ⟨R_LX, F_LX, 6, t_LX, rfl, by decide, i_LX, t_LX_ok, n_LX, rfl, (fun h => by cases h), by decide +kernel, Or.inl w_237⟩
theorem fl_SignalEngine_Parser_70 : hg_FL "SignalEngine$Parser" 70 2 1 := ⟨R_LX, F_LX, 6, rfl, by decide, i_LX, Or.inr ⟨_, wn_235⟩⟩
theorem fl_SignalEngine_Parser_30 : hg_FL "SignalEngine$Parser" 30 4 1 := ⟨R_PA, F_PA, 7, rfl, by decide, i_PA, Or.inl w_288⟩
theorem fl_SignalEngine_Parser_106 : hg_FL "SignalEngine$Parser" 106 2 0 := ⟨R_LX, F_LX, 6, rfl, by decide, i_LX, Or.inr ⟨_, wn_233⟩⟩
theorem nw_SignalEngine_Draft_27 : hg_NW "SignalEngine$Draft" 27 8 13 [.int 0, .int 0, .null, .null, .int 0, .int 0, .int 0, .int 0, .int 0, .int 0, .int 0, .int 0, .int 0] := ⟨R_ND, F_ND, t_ND, rfl, i_ND, t_ND_ok, w_546, w_547, w_25, by decide +kernel⟩
theorem fl_SignalEngine_Draft_12 : hg_FL "SignalEngine$Draft" 12 6 0 := ⟨R_DR, F_DR, 6, rfl, by decide, i_DR, Or.inl w_199⟩
theorem fp_SignalEngine_Draft_47 : hg_FP "SignalEngine$Draft" 47 8 5 false .int := ⟨R_ND, F_ND, 13, t_ND, rfl, by decide, i_ND, t_ND_ok, n_ND, rfl, (fun h => by cases h), by decide +kernel, Or.inr ⟨rfl, _, wn_570⟩⟩
theorem fl_SignalEngine_Parser_12 : hg_FL "SignalEngine$Parser" 12 4 3 := ⟨R_PA, F_PA, 7, rfl, by decide, i_PA, Or.inl w_291⟩
theorem fl_SignalEngine_Parser_283 : hg_FL "SignalEngine$Parser" 283 6 1 := ⟨R_DR, F_DR, 6, rfl, by decide, i_DR, Or.inr ⟨_, wn_202⟩⟩
theorem fp_SignalEngine_Draft_44 : hg_FP "SignalEngine$Draft" 44 8 6 false .int := ⟨R_ND, F_ND, 13, t_ND, rfl, by decide, i_ND, t_ND_ok, n_ND, rfl, (fun h => by cases h), by decide +kernel, Or.inr ⟨rfl, _, wn_573⟩⟩
theorem fl_SignalEngine_Parser_142 : hg_FL "SignalEngine$Parser" 142 8 1 := ⟨R_ND, F_ND, 13, rfl, by decide, i_ND, Or.inr ⟨_, wn_557⟩⟩
theorem fl_SignalEngine_Parser_154 : hg_FL "SignalEngine$Parser" 154 2 4 := ⟨R_LX, F_LX, 6, rfl, by decide, i_LX, Or.inr ⟨_, wn_241⟩⟩
theorem fl_SignalEngine_Parser_57 : hg_FL "SignalEngine$Parser" 57 4 4 := ⟨R_PA, F_PA, 7, rfl, by decide, i_PA, Or.inl w_293⟩
theorem fl_SignalEngine_Parser_34 : hg_FL "SignalEngine$Parser" 34 4 2 := ⟨R_PA, F_PA, 7, rfl, by decide, i_PA, Or.inl w_289⟩
theorem fl_SignalEngine_Parser_245 : hg_FL "SignalEngine$Parser" 245 3 5 := ⟨R_NM, F_NM, 6, rfl, by decide, i_NM, Or.inr ⟨_, wn_272⟩⟩
theorem fp_SignalEngine_Parser_245 : hg_FP "SignalEngine$Parser" 245 3 5 false .int := ⟨R_NM, F_NM, 6, t_NM, rfl, by decide, i_NM, t_NM_ok, n_NM, rfl, (fun h => by cases h), by decide +kernel, Or.inr ⟨rfl, _, wn_272⟩⟩
theorem fp_SignalEngine_Parser_252 : hg_FP "SignalEngine$Parser" 252 8 4 false .int := ⟨R_ND, F_ND, 13, t_ND, rfl, by decide, i_ND, t_ND_ok, n_ND, rfl, (fun h => by cases h), by decide +kernel, Or.inr ⟨rfl, _, wn_568⟩⟩
theorem fl_SignalEngine_Parser_46 : hg_FL "SignalEngine$Parser" 46 3 4 := ⟨R_NM, F_NM, 6, rfl, by decide, i_NM, Or.inr ⟨_, wn_269⟩⟩
theorem fp_SignalEngine_Parser_60 : hg_FP "SignalEngine$Parser" 60 4 5 false .int := ⟨R_PA, F_PA, 7, t_PA, rfl, by decide, i_PA, t_PA_ok, n_PA, rfl, (fun h => by cases h), by decide +kernel, Or.inl w_295⟩
theorem fp_SignalEngine_Parser_57 : hg_FP "SignalEngine$Parser" 57 4 4 false .int := ⟨R_PA, F_PA, 7, t_PA, rfl, by decide, i_PA, t_PA_ok, n_PA, rfl, (fun h => by cases h), by decide +kernel, Or.inl w_293⟩
theorem fl_SignalEngine_Parser_42 : hg_FL "SignalEngine$Parser" 42 2 5 := ⟨R_LX, F_LX, 6, rfl, by decide, i_LX, Or.inr ⟨_, wn_243⟩⟩
theorem fp_SignalEngine_Draft_99 : hg_FP "SignalEngine$Draft" 99 8 12 false .int := ⟨R_ND, F_ND, 13, t_ND, rfl, by decide, i_ND, t_ND_ok, n_ND, rfl, (fun h => by cases h), by decide +kernel, Or.inr ⟨rfl, _, wn_585⟩⟩
theorem fp_SignalEngine_Draft_89 : hg_FP "SignalEngine$Draft" 89 8 7 false .int := ⟨R_ND, F_ND, 13, t_ND, rfl, by decide, i_ND, t_ND_ok, n_ND, rfl, (fun h => by cases h), by decide +kernel, Or.inr ⟨rfl, _, wn_574⟩⟩
theorem fl_SignalEngine_Draft_149 : hg_FL "SignalEngine$Draft" 149 8 1 := ⟨R_ND, F_ND, 13, rfl, by decide, i_ND, Or.inr ⟨_, wn_558⟩⟩
theorem fl_SignalEngine_Parser_60 : hg_FL "SignalEngine$Parser" 60 4 5 := ⟨R_PA, F_PA, 7, rfl, by decide, i_PA, Or.inl w_295⟩
theorem fl_SignalEngine_Program_116 : hg_FL "SignalEngine$Program" 116 6 1 := ⟨R_DR, F_DR, 6, rfl, by decide, i_DR, Or.inr ⟨_, wn_201⟩⟩
theorem fl_SignalEngine_Program_15 : hg_FL "SignalEngine$Program" 15 6 0 := ⟨R_DR, F_DR, 6, rfl, by decide, i_DR, Or.inr ⟨_, wn_198⟩⟩
theorem fl_SignalEngine_Program_113 : hg_FL "SignalEngine$Program" 113 8 6 := ⟨R_ND, F_ND, 13, rfl, by decide, i_ND, Or.inr ⟨_, wn_572⟩⟩
theorem fl_SignalEngine_Program_9 : hg_FL "SignalEngine$Program" 9 4 3 := ⟨R_PA, F_PA, 7, rfl, by decide, i_PA, Or.inr ⟨_, wn_290⟩⟩
theorem fl_SignalEngine_Program_27 : hg_FL "SignalEngine$Program" 27 4 1 := ⟨R_PA, F_PA, 7, rfl, by decide, i_PA, Or.inr ⟨_, wn_287⟩⟩
theorem fp_SignalEngine_Program_31 : hg_FP "SignalEngine$Program" 31 9 0 true (.object "SignalEngine$Names") := ⟨R_PG, F_PG, 17, t_PG, rfl, by decide, i_PG, t_PG_ok, n_PG, rfl, (fun _ => rfl), by decide +kernel, Or.inl w_891⟩
theorem fl_SignalEngine_Program_36 : hg_FL "SignalEngine$Program" 36 4 4 := ⟨R_PA, F_PA, 7, rfl, by decide, i_PA, Or.inr ⟨_, wn_292⟩⟩
theorem fp_SignalEngine_Program_40 : hg_FP "SignalEngine$Program" 40 9 1 true .int := ⟨R_PG, F_PG, 17, t_PG, rfl, by decide, i_PG, t_PG_ok, n_PG, rfl, (fun _ => rfl), by decide +kernel, Or.inl w_893⟩
theorem fl_SignalEngine_Program_41 : hg_FL "SignalEngine$Program" 41 4 5 := ⟨R_PA, F_PA, 7, rfl, by decide, i_PA, Or.inr ⟨_, wn_294⟩⟩
theorem fp_SignalEngine_Program_44 : hg_FP "SignalEngine$Program" 44 9 2 true .int := ⟨R_PG, F_PG, 17, t_PG, rfl, by decide, i_PG, t_PG_ok, n_PG, rfl, (fun _ => rfl), by decide +kernel, Or.inl w_898⟩
theorem fl_SignalEngine_Program_45 : hg_FL "SignalEngine$Program" 45 6 3 := ⟨R_DR, F_DR, 6, rfl, by decide, i_DR, Or.inr ⟨_, wn_205⟩⟩
theorem fp_SignalEngine_Program_48 : hg_FP "SignalEngine$Program" 48 9 3 true .int := ⟨R_PG, F_PG, 17, t_PG, rfl, by decide, i_PG, t_PG_ok, n_PG, rfl, (fun _ => rfl), by decide +kernel, Or.inl w_903⟩
theorem fl_SignalEngine_Program_49 : hg_FL "SignalEngine$Program" 49 6 2 := ⟨R_DR, F_DR, 6, rfl, by decide, i_DR, Or.inr ⟨_, wn_203⟩⟩
theorem fp_SignalEngine_Program_52 : hg_FP "SignalEngine$Program" 52 9 4 true .int := ⟨R_PG, F_PG, 17, t_PG, rfl, by decide, i_PG, t_PG_ok, n_PG, rfl, (fun _ => rfl), by decide +kernel, Or.inl w_908⟩
theorem fl_SignalEngine_Program_53 : hg_FL "SignalEngine$Program" 53 6 5 := ⟨R_DR, F_DR, 6, rfl, by decide, i_DR, Or.inr ⟨_, wn_209⟩⟩
theorem fp_SignalEngine_Program_56 : hg_FP "SignalEngine$Program" 56 9 5 true .int := ⟨R_PG, F_PG, 17, t_PG, rfl, by decide, i_PG, t_PG_ok, n_PG, rfl, (fun _ => rfl), by decide +kernel, Or.inl w_910⟩
theorem nw_SignalEngine_Program_57 : hg_NW "SignalEngine$Program" 57 5 6 [.null, .null, .null, .null, .null, .int 0] := ⟨R_PI, F_PI, t_PI, rfl, i_PI, t_PI_ok, w_866, w_162, w_11, by decide +kernel⟩
theorem fl_SignalEngine_Program_59 : hg_FL "SignalEngine$Program" 59 6 4 := ⟨R_DR, F_DR, 6, rfl, by decide, i_DR, Or.inr ⟨_, wn_207⟩⟩
theorem fp_SignalEngine_Program_65 : hg_FP "SignalEngine$Program" 65 9 6 true (.object "SignalEngine$Pieces") := ⟨R_PG, F_PG, 17, t_PG, rfl, by decide, i_PG, t_PG_ok, n_PG, rfl, (fun _ => rfl), by decide +kernel, Or.inl w_912⟩
theorem fp_SignalEngine_Program_69 : hg_FP "SignalEngine$Program" 69 9 7 true (.array .int) := ⟨R_PG, F_PG, 17, t_PG, rfl, by decide, i_PG, t_PG_ok, n_PG, rfl, (fun _ => rfl), by decide +kernel, Or.inl w_915⟩
theorem fp_SignalEngine_Program_73 : hg_FP "SignalEngine$Program" 73 9 8 true (.array .int) := ⟨R_PG, F_PG, 17, t_PG, rfl, by decide, i_PG, t_PG_ok, n_PG, rfl, (fun _ => rfl), by decide +kernel, Or.inl w_917⟩
theorem fp_SignalEngine_Program_76 : hg_FP "SignalEngine$Program" 76 9 9 true (.array .int) := ⟨R_PG, F_PG, 17, t_PG, rfl, by decide, i_PG, t_PG_ok, n_PG, rfl, (fun _ => rfl), by decide +kernel, Or.inl w_920⟩
theorem fp_SignalEngine_Program_79 : hg_FP "SignalEngine$Program" 79 9 10 true (.array .int) := ⟨R_PG, F_PG, 17, t_PG, rfl, by decide, i_PG, t_PG_ok, n_PG, rfl, (fun _ => rfl), by decide +kernel, Or.inl w_923⟩
theorem fp_SignalEngine_Program_82 : hg_FP "SignalEngine$Program" 82 9 11 true (.array .int) := ⟨R_PG, F_PG, 17, t_PG, rfl, by decide, i_PG, t_PG_ok, n_PG, rfl, (fun _ => rfl), by decide +kernel, Or.inl w_925⟩
theorem fp_SignalEngine_Program_85 : hg_FP "SignalEngine$Program" 85 9 12 true (.array .int) := ⟨R_PG, F_PG, 17, t_PG, rfl, by decide, i_PG, t_PG_ok, n_PG, rfl, (fun _ => rfl), by decide +kernel, Or.inl w_928⟩
theorem fp_SignalEngine_Program_88 : hg_FP "SignalEngine$Program" 88 9 13 true (.array .int) := ⟨R_PG, F_PG, 17, t_PG, rfl, by decide, i_PG, t_PG_ok, n_PG, rfl, (fun _ => rfl), by decide +kernel, Or.inl w_930⟩
theorem fp_SignalEngine_Program_91 : hg_FP "SignalEngine$Program" 91 9 14 true (.array .int) := ⟨R_PG, F_PG, 17, t_PG, rfl, by decide, i_PG, t_PG_ok, n_PG, rfl, (fun _ => rfl), by decide +kernel, Or.inl w_932⟩
theorem fp_SignalEngine_Program_94 : hg_FP "SignalEngine$Program" 94 9 15 true (.array .int) := ⟨R_PG, F_PG, 17, t_PG, rfl, by decide, i_PG, t_PG_ok, n_PG, rfl, (fun _ => rfl), by decide +kernel, Or.inl w_935⟩
theorem fp_SignalEngine_Program_97 : hg_FP "SignalEngine$Program" 97 9 16 true (.array .int) := ⟨R_PG, F_PG, 17, t_PG, rfl, by decide, i_PG, t_PG_ok, n_PG, rfl, (fun _ => rfl), by decide +kernel, Or.inl w_937⟩
theorem nw_SignalEngine_47 : hg_NW "SignalEngine" 47 9 17 [.null, .int 0, .int 0, .int 0, .int 0, .int 0, .null, .null, .null, .null, .null, .null, .null, .null, .null, .null, .null] := ⟨R_PG, F_PG, t_PG, rfl, i_PG, t_PG_ok, w_859, w_860, w_29, by decide +kernel⟩
theorem nw_SignalEngine_56 : hg_NW "SignalEngine" 56 10 18 [.null, .null, .null, .null, .null, .null, .null, .null, .null, .null, .null, .null, .int 0, .int 0, .int 0, .int 0, .int 0, .int 0] := ⟨R_RE, F_RE, t_RE, rfl, i_RE, t_RE_ok, w_974, w_975, w_30, by decide +kernel⟩
theorem fl_SignalEngine_65 : hg_FL "SignalEngine" 65 9 3 := ⟨R_PG, F_PG, 17, rfl, by decide, i_PG, Or.inr ⟨_, wn_907⟩⟩
theorem fl_SignalEngine_75 : hg_FL "SignalEngine" 75 9 2 := ⟨R_PG, F_PG, 17, rfl, by decide, i_PG, Or.inr ⟨_, wn_901⟩⟩
theorem nw_SignalEngine_35 : hg_NW "SignalEngine" 35 4 7 [.null, .null, .null, .null, .int 0, .int 0, .int 0] := ⟨R_PA, F_PA, t_PA, rfl, i_PA, t_PA_ok, w_123, w_124, w_6, by decide +kernel⟩
theorem cw_java_lang_String_335 : dc_VW "java/lang/String" 335 ⟨"java/lang/String", "coder", "()B"⟩ prog_26_method_152_code 1 (some (.byte)) 0 := ⟨w_429, w_20, w_426, w_427, w_428, by decide +kernel, by decide +kernel, by decide +kernel⟩
theorem cw_java_lang_String_1059 : dc_SW "java/lang/String" 1059 ⟨"jdk/internal/util/Preconditions", "checkIndex", "(IILjava/util/function/BiFunction;)I"⟩ prog_41_method_11_code 3 (some (.int)) 3 := ⟨w_450, w_22, w_448, w_449, by decide +kernel, by decide +kernel, by decide +kernel⟩
theorem cw_java_lang_StringLatin1_9 : dc_SW "java/lang/StringLatin1" 9 ⟨"java/lang/String", "checkIndex", "(II)V"⟩ prog_26_method_155_code 2 none 2 := ⟨w_445, w_20, w_443, w_444, by decide +kernel, by decide +kernel, by decide +kernel⟩
theorem cw_java_lang_String_492 : dc_VW "java/lang/String" 492 ⟨"java/lang/String", "isLatin1", "()Z"⟩ prog_26_method_154_code 1 (some (.boolean)) 0 := ⟨w_439, w_20, w_436, w_437, w_438, by decide +kernel, by decide +kernel, by decide +kernel⟩
theorem cw_java_lang_String_495 : dc_SW "java/lang/String" 495 ⟨"java/lang/StringLatin1", "charAt", "([BI)C"⟩ prog_27_method_2_code 2 (some (.char)) 2 := ⟨w_442, w_21, w_440, w_441, by decide +kernel, by decide +kernel, by decide +kernel⟩
theorem cw_java_util_AbstractList_1 : hg_IW "java/util/AbstractList" 1 ⟨"java/util/AbstractCollection", "<init>", "()V"⟩ prog_31_method_1_code 1 0 := ⟨w_145, w_8, w_143, w_144, rfl, by decide +kernel, by decide +kernel, by decide +kernel⟩
theorem cw_java_util_ArrayList_1 : hg_IW "java/util/ArrayList" 1 ⟨"java/util/AbstractList", "<init>", "()V"⟩ prog_32_method_1_code 1 0 := ⟨w_142, w_9, w_140, w_141, rfl, by decide +kernel, by decide +kernel, by decide +kernel⟩
theorem cw_java_util_Arrays_300 : dc_SW "java/util/Arrays" 300 ⟨"java/util/Arrays", "copyOf", "([Ljava/lang/Object;ILjava/lang/Class;)[Ljava/lang/Object;"⟩ prog_34_method_120_code 4 (some (.array (.object "java/lang/Object"))) 3 := ⟨w_664, w_3, w_662, w_663, by decide +kernel, by decide +kernel, by decide +kernel⟩
theorem cw_java_util_ArrayList_73 : dc_SW "java/util/ArrayList" 73 ⟨"jdk/internal/util/ArraysSupport", "newLength", "(III)I"⟩ prog_40_method_27_code 4 (some (.int)) 3 := ⟨w_631, w_26, w_629, w_630, by decide +kernel, by decide +kernel, by decide +kernel⟩
theorem cw_java_util_ArrayList_66 : dc_SW "java/util/ArrayList" 66 ⟨"java/util/Arrays", "copyOf", "([Ljava/lang/Object;I)[Ljava/lang/Object;"⟩ prog_34_method_119_code 2 (some (.array (.object "java/lang/Object"))) 2 := ⟨w_641, w_3, w_639, w_640, by decide +kernel, by decide +kernel, by decide +kernel⟩
theorem cw_java_util_ArrayList_69 : dc_VW "java/util/ArrayList" 69 ⟨"java/util/ArrayList", "grow", "(I)[Ljava/lang/Object;"⟩ prog_33_method_6_code 4 (some (.array (.object "java/lang/Object"))) 1 := ⟨w_628, w_10, w_625, w_627, wp_19, by decide +kernel, by decide +kernel, by decide +kernel⟩
theorem cw_java_util_ArrayList_129 : dc_VW "java/util/ArrayList" 129 ⟨"java/util/ArrayList", "grow", "()[Ljava/lang/Object;"⟩ prog_33_method_7_code 1 (some (.array (.object "java/lang/Object"))) 0 := ⟨w_624, w_10, w_621, w_623, wp_18, by decide +kernel, by decide +kernel, by decide +kernel⟩
theorem cw_java_util_ArrayList_131 : dc_VW "java/util/ArrayList" 131 ⟨"java/util/ArrayList", "add", "(Ljava/lang/Object;[Ljava/lang/Object;I)V"⟩ prog_33_method_24_code 4 none 3 := ⟨w_620, w_10, w_617, w_619, wp_17, by decide +kernel, by decide +kernel, by decide +kernel⟩
theorem cw_java_util_Objects_105 : dc_SW "java/util/Objects" 105 ⟨"jdk/internal/util/Preconditions", "checkIndex", "(IILjava/util/function/BiFunction;)I"⟩ prog_41_method_11_code 3 (some (.int)) 3 := ⟨w_450, w_22, w_823, w_449, by decide +kernel, by decide +kernel, by decide +kernel⟩
theorem cw_java_util_ArrayList_118 : dc_SW "java/util/ArrayList" 118 ⟨"java/util/Objects", "checkIndex", "(II)I"⟩ prog_37_method_17_code 2 (some (.int)) 2 := ⟨w_822, w_27, w_820, w_821, by decide +kernel, by decide +kernel, by decide +kernel⟩
theorem cw_java_util_ArrayList_123 : dc_VW "java/util/ArrayList" 123 ⟨"java/util/ArrayList", "elementData", "(I)Ljava/lang/Object;"⟩ prog_33_method_18_code 2 (some (.object "java/lang/Object")) 1 := ⟨w_827, w_10, w_824, w_825, w_826, by decide +kernel, by decide +kernel, by decide +kernel⟩
theorem cw_SignalEngine_18 : dc_SW "SignalEngine" 18 ⟨"java/util/Arrays", "copyOf", "([BI)[B"⟩ prog_34_method_121_code 3 (some (.array .byte)) 2 := ⟨w_93, w_3, w_91, w_92, by decide +kernel, by decide +kernel, by decide +kernel⟩
theorem cw_SignalEngine_Draft_11 : hg_IW "SignalEngine$Draft" 11 ⟨"java/util/ArrayList", "<init>", "()V"⟩ prog_33_method_2_code 1 0 := ⟨w_139, w_10, w_137, w_138, rfl, by decide +kernel, by decide +kernel, by decide +kernel⟩
theorem cw_SignalEngine_Draft_20 : hg_IW "SignalEngine$Draft" 20 ⟨"SignalEngine$Pieces", "<init>", "(I)V"⟩ prog_10_method_1_code 2 1 := ⟨w_165, w_11, w_163, w_164, rfl, by decide +kernel, by decide +kernel, by decide +kernel⟩
theorem cw_SignalEngine_Parser_11 : hg_NIW "SignalEngine$Parser" 11 ⟨"SignalEngine$Draft", "<init>", "()V"⟩ prog_4_method_1_code 1 0 := ⟨w_133, w_7, ⟨_, wn_131⟩, w_132, rfl, by decide +kernel, by decide +kernel, by decide +kernel⟩
theorem cw_SignalEngine_Parser_20 : hg_IW "SignalEngine$Parser" 20 ⟨"SignalEngine$Lexer", "<init>", "([B)V"⟩ prog_5_method_1_code 2 1 := ⟨w_228, w_12, w_226, w_227, rfl, by decide +kernel, by decide +kernel, by decide +kernel⟩
theorem cw_SignalEngine_Parser_29 : hg_IW "SignalEngine$Parser" 29 ⟨"SignalEngine$Names", "<init>", "([B)V"⟩ prog_6_method_1_code 2 1 := ⟨w_261, w_15, w_259, w_260, rfl, by decide +kernel, by decide +kernel, by decide +kernel⟩
theorem cw_SignalEngine_Lexer_77 : dc_VW "SignalEngine$Lexer" 77 ⟨"java/lang/String", "length", "()I"⟩ prog_26_method_54_code 1 (some (.int)) 0 := ⟨w_425, w_20, w_422, w_423, w_424, by decide +kernel, by decide +kernel, by decide +kernel⟩
theorem cw_SignalEngine_Lexer_83 : dc_VW "SignalEngine$Lexer" 83 ⟨"java/lang/String", "charAt", "(I)C"⟩ prog_26_method_56_code 2 (some (.char)) 1 := ⟨w_435, w_20, w_432, w_433, w_434, by decide +kernel, by decide +kernel, by decide +kernel⟩
theorem cw_SignalEngine_Lexer_66 : dc_VW "SignalEngine$Lexer" 66 ⟨"SignalEngine$Lexer", "known", "(LSignalEngine$Token;)LSignalEngine$Token;"⟩ prog_5_method_10_code 5 (some (.object "SignalEngine$Token")) 1 := ⟨w_419, w_12, w_416, w_418, wp_7, by decide +kernel, by decide +kernel, by decide +kernel⟩
theorem cw_SignalEngine_Lexer_60 : dc_VW "SignalEngine$Lexer" 60 ⟨"SignalEngine$Lexer", "isName", "()Z"⟩ prog_5_method_8_code 1 (some (.boolean)) 0 := ⟨w_413, w_12, w_410, w_412, wp_6, by decide +kernel, by decide +kernel, by decide +kernel⟩
theorem cw_SignalEngine_Lexer_56 : dc_VW "SignalEngine$Lexer" 56 ⟨"SignalEngine$Lexer", "startsBars", "()Z"⟩ prog_5_method_9_code 1 (some (.boolean)) 0 := ⟨w_409, w_12, w_406, w_408, wp_5, by decide +kernel, by decide +kernel, by decide +kernel⟩
theorem cw_SignalEngine_Lexer_52 : dc_SW "SignalEngine$Lexer" 52 ⟨"SignalEngine$Lexer", "isInWord", "(I)Z"⟩ prog_5_method_7_code 1 (some (.boolean)) 1 := ⟨w_405, w_12, w_403, w_404, by decide +kernel, by decide +kernel, by decide +kernel⟩
theorem cw_SignalEngine_Lexer_43 : dc_VW "SignalEngine$Lexer" 43 ⟨"SignalEngine$Lexer", "skipGaps", "()V"⟩ prog_5_method_6_code 3 none 0 := ⟨w_402, w_12, w_399, w_401, wp_4, by decide +kernel, by decide +kernel, by decide +kernel⟩
theorem cw_SignalEngine_Lexer_40 : dc_VW "SignalEngine$Lexer" 40 ⟨"SignalEngine$Lexer", "advance", "()V"⟩ prog_5_method_5_code 2 none 0 := ⟨w_398, w_12, w_395, w_396, w_397, by decide +kernel, by decide +kernel, by decide +kernel⟩
theorem cw_SignalEngine_Lexer_36 : dc_VW "SignalEngine$Lexer" 36 ⟨"SignalEngine$Lexer", "require", "(Z)V"⟩ prog_5_method_3_code 2 none 1 := ⟨w_328, w_12, w_325, w_326, w_327, by decide +kernel, by decide +kernel, by decide +kernel⟩
theorem cw_SignalEngine_Parser_79 : dc_VW "SignalEngine$Parser" 79 ⟨"SignalEngine$Lexer", "advance", "()V"⟩ prog_5_method_5_code 2 none 0 := ⟨w_398, w_12, w_472, w_396, w_397, by decide +kernel, by decide +kernel, by decide +kernel⟩
theorem cw_SignalEngine_Parser_120 : dc_VW "SignalEngine$Parser" 120 ⟨"SignalEngine$Names", "bring", "(LSignalEngine$Lexer;)I"⟩ prog_6_method_2_code 2 (some (.int)) 1 := ⟨w_491, w_15, w_488, w_489, w_490, by decide +kernel, by decide +kernel, by decide +kernel⟩
theorem cw_SignalEngine_Parser_127 : dc_VW "SignalEngine$Parser" 127 ⟨"SignalEngine$Parser", "skip", "(LSignalEngine$Token;)Z"⟩ prog_9_method_6_code 3 (some (.boolean)) 1 := ⟨w_505, w_6, w_502, w_504, wp_10, by decide +kernel, by decide +kernel, by decide +kernel⟩
theorem cw_SignalEngine_Parser_102 : dc_VW "SignalEngine$Parser" 102 ⟨"SignalEngine$Lexer", "require", "(Z)V"⟩ prog_5_method_3_code 2 none 1 := ⟨w_328, w_12, w_478, w_326, w_327, by decide +kernel, by decide +kernel, by decide +kernel⟩
theorem cw_SignalEngine_Parser_113 : dc_VW "SignalEngine$Parser" 113 ⟨"SignalEngine$Names", "hasSince", "(ILSignalEngine$Lexer;)Z"⟩ prog_6_method_4_code 4 (some (.boolean)) 2 := ⟨w_482, w_15, w_479, w_480, w_481, by decide +kernel, by decide +kernel, by decide +kernel⟩
theorem cw_SignalEngine_Draft_29 : hg_IW "SignalEngine$Draft" 29 ⟨"SignalEngine$Node", "<init>", "(IILSignalEngine$Node;LSignalEngine$Node;)V"⟩ prog_8_method_1_code 5 4 := ⟨w_550, w_25, w_548, w_549, rfl, by decide +kernel, by decide +kernel, by decide +kernel⟩
theorem cw_SignalEngine_Draft_32 : dc_VW "SignalEngine$Draft" 32 ⟨"java/util/ArrayList", "add", "(Ljava/lang/Object;)Z"⟩ prog_33_method_25_code 2 (some (.boolean)) 1 := ⟨w_616, w_10, w_613, w_614, w_615, by decide +kernel, by decide +kernel, by decide +kernel⟩
theorem cw_SignalEngine_Draft_50 : dc_VW "SignalEngine$Draft" 50 ⟨"SignalEngine$Draft", "leaf", "(III)LSignalEngine$Node;"⟩ prog_4_method_3_code 5 (some (.object "SignalEngine$Node")) 3 := ⟨w_545, w_7, w_674, w_543, w_544, by decide +kernel, by decide +kernel, by decide +kernel⟩
theorem cw_SignalEngine_Draft_40 : dc_VW "SignalEngine$Draft" 40 ⟨"SignalEngine$Draft", "join", "(ILSignalEngine$Node;LSignalEngine$Node;I)LSignalEngine$Node;"⟩ prog_4_method_2_code 6 (some (.object "SignalEngine$Node")) 4 := ⟨w_678, w_7, w_675, w_676, w_677, by decide +kernel, by decide +kernel, by decide +kernel⟩
theorem cw_SignalEngine_Parser_131 : dc_VW "SignalEngine$Parser" 131 ⟨"SignalEngine$Names", "find", "(LSignalEngine$Lexer;)I"⟩ prog_6_method_3_code 3 (some (.int)) 1 := ⟨w_686, w_15, w_683, w_684, w_685, by decide +kernel, by decide +kernel, by decide +kernel⟩
theorem cw_SignalEngine_Parser_277 : dc_VW "SignalEngine$Parser" 277 ⟨"SignalEngine$Parser", "takeClause", "()I"⟩ prog_9_method_22_code 3 (some (.int)) 0 := ⟨w_702, w_6, w_699, w_701, wp_22, by decide +kernel, by decide +kernel, by decide +kernel⟩
theorem cw_SignalEngine_Parser_287 : dc_VW "SignalEngine$Parser" 287 ⟨"SignalEngine$Pieces", "add", "(III)I"⟩ prog_10_method_2_code 4 (some (.int)) 3 := ⟨w_714, w_11, w_711, w_712, w_713, by decide +kernel, by decide +kernel, by decide +kernel⟩
theorem cw_SignalEngine_Parser_293 : dc_VW "SignalEngine$Parser" 293 ⟨"SignalEngine$Parser", "takePart", "()I"⟩ prog_9_method_23_code 2 (some (.int)) 0 := ⟨w_706, w_6, w_703, w_705, wp_23, by decide +kernel, by decide +kernel, by decide +kernel⟩
theorem cw_SignalEngine_Parser_159 : dc_VW "SignalEngine$Parser" 159 ⟨"SignalEngine$Parser", "enter", "()V"⟩ prog_9_method_9_code 1 none 0 := ⟨w_529, w_6, w_526, w_528, wp_15, by decide +kernel, by decide +kernel, by decide +kernel⟩
theorem cw_SignalEngine_Parser_194 : dc_VW "SignalEngine$Parser" 194 ⟨"SignalEngine$Parser", "takeEither", "()I"⟩ prog_9_method_21_code 3 (some (.int)) 0 := ⟨w_698, w_6, w_695, w_697, wp_21, by decide +kernel, by decide +kernel, by decide +kernel⟩
theorem cw_SignalEngine_Parser_88 : dc_VW "SignalEngine$Parser" 88 ⟨"SignalEngine$Parser", "take", "(LSignalEngine$Token;)V"⟩ prog_9_method_5_code 2 none 1 := ⟨w_511, w_6, w_508, w_510, wp_11, by decide +kernel, by decide +kernel, by decide +kernel⟩
theorem cw_SignalEngine_Parser_183 : dc_VW "SignalEngine$Parser" 183 ⟨"SignalEngine$Parser", "takeUse", "(LSignalEngine$Names;I)I"⟩ prog_9_method_8_code 4 (some (.int)) 2 := ⟨w_682, w_6, w_679, w_681, wp_20, by decide +kernel, by decide +kernel, by decide +kernel⟩
theorem cw_SignalEngine_Draft_54 : dc_VW "SignalEngine$Draft" 54 ⟨"SignalEngine$Draft", "watch", "(II)LSignalEngine$Node;"⟩ prog_4_method_9_code 6 (some (.object "SignalEngine$Node")) 2 := ⟨w_733, w_7, w_730, w_731, w_732, by decide +kernel, by decide +kernel, by decide +kernel⟩
theorem cw_SignalEngine_Draft_58 : dc_VW "SignalEngine$Draft" 58 ⟨"SignalEngine$Draft", "halt", "(I)LSignalEngine$Node;"⟩ prog_4_method_7_code 2 (some (.object "SignalEngine$Node")) 1 := ⟨w_673, w_7, w_762, w_671, w_672, by decide +kernel, by decide +kernel, by decide +kernel⟩
theorem cw_SignalEngine_Draft_62 : dc_VW "SignalEngine$Draft" 62 ⟨"SignalEngine$Draft", "tested", "(IILSignalEngine$Node;LSignalEngine$Node;I)LSignalEngine$Node;"⟩ prog_4_method_4_code 7 (some (.object "SignalEngine$Node")) 5 := ⟨w_747, w_7, w_763, w_745, w_746, by decide +kernel, by decide +kernel, by decide +kernel⟩
theorem cw_SignalEngine_Draft_66 : dc_VW "SignalEngine$Draft" 66 ⟨"SignalEngine$Draft", "abort", "(LSignalEngine$Node;LSignalEngine$Node;I)LSignalEngine$Node;"⟩ prog_4_method_11_code 5 (some (.object "SignalEngine$Node")) 3 := ⟨w_767, w_7, w_764, w_765, w_766, by decide +kernel, by decide +kernel, by decide +kernel⟩
theorem cw_SignalEngine_Parser_136 : dc_VW "SignalEngine$Parser" 136 ⟨"SignalEngine$Parser", "takeRow", "()LSignalEngine$Node;"⟩ prog_9_method_11_code 3 (some (.object "SignalEngine$Node")) 0 := ⟨w_521, w_6, w_518, w_520, wp_13, by decide +kernel, by decide +kernel, by decide +kernel⟩
theorem cw_SignalEngine_Parser_147 : dc_VW "SignalEngine$Parser" 147 ⟨"SignalEngine$Draft", "join", "(ILSignalEngine$Node;LSignalEngine$Node;I)LSignalEngine$Node;"⟩ prog_4_method_2_code 6 (some (.object "SignalEngine$Node")) 4 := ⟨w_678, w_7, w_768, w_676, w_677, by decide +kernel, by decide +kernel, by decide +kernel⟩
theorem cw_SignalEngine_Parser_151 : dc_VW "SignalEngine$Parser" 151 ⟨"SignalEngine$Parser", "takeStatement", "()LSignalEngine$Node;"⟩ prog_9_method_12_code 4 (some (.object "SignalEngine$Node")) 0 := ⟨w_525, w_6, w_522, w_524, wp_14, by decide +kernel, by decide +kernel, by decide +kernel⟩
theorem cw_SignalEngine_Parser_162 : dc_VW "SignalEngine$Parser" 162 ⟨"SignalEngine$Parser", "takeRest", "(LSignalEngine$Token;I)LSignalEngine$Node;"⟩ prog_9_method_13_code 3 (some (.object "SignalEngine$Node")) 2 := ⟨w_533, w_6, w_530, w_532, wp_16, by decide +kernel, by decide +kernel, by decide +kernel⟩
theorem cu_SignalEngine_Parser_172 : GoodIn tt (va_wsU "SignalEngine$Parser" 172 "SignalEngine$Token" "java/lang/Enum" ⟨"SignalEngine$Token", "ordinal", "()I"⟩ ⟨"java/lang/Enum", "ordinal", "()I"⟩ (tw ⟨"java/lang/Enum", "ordinal", "()I"⟩ prog_18_method_2_code 1 (some (.int)))) := by
  intro w hw
  unfold va_wsU at hw
  have hok : ∀ v ∈ tt, v ∈ tt ∧ _ := fun v hv => ⟨hv, good_of_word (tt_good _ hv)⟩
  rcases List.mem_append.mp hw with h | h
  · simp only [List.mem_cons, List.not_mem_nil, or_false] at h
    rcases h with rfl | rfl | rfl | rfl | rfl
    · exact hok _ w_536
    · exact hok _ w_537
    · exact hok _ w_539
    · exact hok _ w_540
    · exact hok _ w_13
  · exact tw_goodL w_541 w h
theorem cw_SignalEngine_Parser_175 : dc_VW "SignalEngine$Parser" 175 ⟨"SignalEngine$Draft", "leaf", "(III)LSignalEngine$Node;"⟩ prog_4_method_3_code 5 (some (.object "SignalEngine$Node")) 3 := ⟨w_545, w_7, w_542, w_543, w_544, by decide +kernel, by decide +kernel, by decide +kernel⟩
theorem cw_SignalEngine_Parser_179 : dc_VW "SignalEngine$Parser" 179 ⟨"SignalEngine$Draft", "halt", "(I)LSignalEngine$Node;"⟩ prog_4_method_7_code 2 (some (.object "SignalEngine$Node")) 1 := ⟨w_673, w_7, w_670, w_671, w_672, by decide +kernel, by decide +kernel, by decide +kernel⟩
theorem cw_SignalEngine_Parser_187 : dc_VW "SignalEngine$Parser" 187 ⟨"SignalEngine$Draft", "sustain", "(II)LSignalEngine$Node;"⟩ prog_4_method_8_code 4 (some (.object "SignalEngine$Node")) 2 := ⟨w_690, w_7, w_687, w_688, w_689, by decide +kernel, by decide +kernel, by decide +kernel⟩
theorem cw_SignalEngine_Parser_191 : dc_VW "SignalEngine$Parser" 191 ⟨"SignalEngine$Draft", "exit", "(II)LSignalEngine$Node;"⟩ prog_4_method_6_code 4 (some (.object "SignalEngine$Node")) 2 := ⟨w_694, w_7, w_691, w_692, w_693, by decide +kernel, by decide +kernel, by decide +kernel⟩
theorem cw_SignalEngine_Parser_197 : dc_VW "SignalEngine$Parser" 197 ⟨"SignalEngine$Draft", "await", "(II)LSignalEngine$Node;"⟩ prog_4_method_10_code 3 (some (.object "SignalEngine$Node")) 2 := ⟨w_729, w_7, w_726, w_727, w_728, by decide +kernel, by decide +kernel, by decide +kernel⟩
theorem cw_SignalEngine_Parser_203 : dc_VW "SignalEngine$Parser" 203 ⟨"SignalEngine$Parser", "takePresent", "(I)LSignalEngine$Node;"⟩ prog_9_method_15_code 5 (some (.object "SignalEngine$Node")) 1 := ⟨w_739, w_6, w_736, w_738, wp_25, by decide +kernel, by decide +kernel, by decide +kernel⟩
theorem cw_SignalEngine_Parser_206 : dc_VW "SignalEngine$Parser" 206 ⟨"SignalEngine$Parser", "closedBy", "(LSignalEngine$Token;LSignalEngine$Node;)LSignalEngine$Node;"⟩ prog_9_method_14_code 3 (some (.object "SignalEngine$Node")) 2 := ⟨w_751, w_6, w_748, w_750, wp_26, by decide +kernel, by decide +kernel, by decide +kernel⟩
theorem cw_SignalEngine_Parser_210 : dc_VW "SignalEngine$Parser" 210 ⟨"SignalEngine$Parser", "takeLoop", "(I)LSignalEngine$Node;"⟩ prog_9_method_16_code 3 (some (.object "SignalEngine$Node")) 1 := ⟨w_755, w_6, w_752, w_754, wp_27, by decide +kernel, by decide +kernel, by decide +kernel⟩
theorem cw_SignalEngine_Parser_213 : dc_VW "SignalEngine$Parser" 213 ⟨"SignalEngine$Parser", "takeTrap", "(I)LSignalEngine$Node;"⟩ prog_9_method_17_code 5 (some (.object "SignalEngine$Node")) 1 := ⟨w_772, w_6, w_769, w_771, wp_28, by decide +kernel, by decide +kernel, by decide +kernel⟩
theorem cw_SignalEngine_Parser_216 : dc_VW "SignalEngine$Parser" 216 ⟨"SignalEngine$Parser", "takeLocals", "(I)LSignalEngine$Node;"⟩ prog_9_method_18_code 7 (some (.object "SignalEngine$Node")) 1 := ⟨w_780, w_6, w_777, w_779, wp_29, by decide +kernel, by decide +kernel, by decide +kernel⟩
theorem cw_SignalEngine_Parser_219 : dc_VW "SignalEngine$Parser" 219 ⟨"SignalEngine$Parser", "takeEvery", "(I)LSignalEngine$Node;"⟩ prog_9_method_19_code 4 (some (.object "SignalEngine$Node")) 1 := ⟨w_784, w_6, w_781, w_783, wp_30, by decide +kernel, by decide +kernel, by decide +kernel⟩
theorem cw_SignalEngine_Parser_222 : dc_VW "SignalEngine$Parser" 222 ⟨"SignalEngine$Parser", "takeGuarded", "(LSignalEngine$Token;I)LSignalEngine$Node;"⟩ prog_9_method_20_code 6 (some (.object "SignalEngine$Node")) 2 := ⟨w_790, w_6, w_787, w_789, wp_31, by decide +kernel, by decide +kernel, by decide +kernel⟩
theorem cw_SignalEngine_Parser_95 : dc_VW "SignalEngine$Parser" 95 ⟨"SignalEngine$Parser", "takeBody", "()LSignalEngine$Node;"⟩ prog_9_method_10_code 3 (some (.object "SignalEngine$Node")) 0 := ⟨w_517, w_6, w_514, w_516, wp_12, by decide +kernel, by decide +kernel, by decide +kernel⟩
theorem cw_SignalEngine_Parser_234 : dc_VW "SignalEngine$Parser" 234 ⟨"SignalEngine$Draft", "tested", "(IILSignalEngine$Node;LSignalEngine$Node;I)LSignalEngine$Node;"⟩ prog_4_method_4_code 7 (some (.object "SignalEngine$Node")) 5 := ⟨w_747, w_7, w_744, w_745, w_746, by decide +kernel, by decide +kernel, by decide +kernel⟩
theorem cw_SignalEngine_Parser_241 : dc_VW "SignalEngine$Parser" 241 ⟨"SignalEngine$Draft", "loopEach", "(LSignalEngine$Node;II)LSignalEngine$Node;"⟩ prog_4_method_12_code 6 (some (.object "SignalEngine$Node")) 3 := ⟨w_761, w_7, w_758, w_759, w_760, by decide +kernel, by decide +kernel, by decide +kernel⟩
theorem cw_SignalEngine_Parser_248 : dc_VW "SignalEngine$Parser" 248 ⟨"SignalEngine$Draft", "trap", "(ILSignalEngine$Node;I)LSignalEngine$Node;"⟩ prog_4_method_5_code 5 (some (.object "SignalEngine$Node")) 3 := ⟨w_776, w_7, w_773, w_774, w_775, by decide +kernel, by decide +kernel, by decide +kernel⟩
theorem cw_SignalEngine_Parser_82 : dc_VW "SignalEngine$Parser" 82 ⟨"SignalEngine$Parser", "takeNames", "(I)V"⟩ prog_9_method_7_code 4 none 1 := ⟨w_476, w_6, w_473, w_475, wp_8, by decide +kernel, by decide +kernel, by decide +kernel⟩
theorem cw_SignalEngine_Parser_267 : dc_VW "SignalEngine$Parser" 267 ⟨"SignalEngine$Draft", "watch", "(II)LSignalEngine$Node;"⟩ prog_4_method_9_code 6 (some (.object "SignalEngine$Node")) 2 := ⟨w_733, w_7, w_797, w_731, w_732, by decide +kernel, by decide +kernel, by decide +kernel⟩
theorem cw_SignalEngine_Parser_270 : dc_VW "SignalEngine$Parser" 270 ⟨"SignalEngine$Draft", "abort", "(LSignalEngine$Node;LSignalEngine$Node;I)LSignalEngine$Node;"⟩ prog_4_method_11_code 5 (some (.object "SignalEngine$Node")) 3 := ⟨w_767, w_7, w_798, w_765, w_766, by decide +kernel, by decide +kernel, by decide +kernel⟩
theorem cw_SignalEngine_Parser_67 : dc_VW "SignalEngine$Parser" 67 ⟨"SignalEngine$Lexer", "open", "()V"⟩ prog_5_method_4_code 3 none 0 := ⟨w_324, w_12, w_321, w_322, w_323, by decide +kernel, by decide +kernel, by decide +kernel⟩
theorem cw_SignalEngine_Parser_37 : dc_VW "SignalEngine$Parser" 37 ⟨"SignalEngine$Parser", "takeProgram", "()V"⟩ prog_9_method_4_code 1 none 0 := ⟨w_320, w_6, w_317, w_319, wp_2, by decide +kernel, by decide +kernel, by decide +kernel⟩
theorem cw_SignalEngine_Draft_70 : dc_VW "SignalEngine$Draft" 70 ⟨"java/util/ArrayList", "size", "()I"⟩ prog_33_method_8_code 1 (some (.int)) 0 := ⟨w_815, w_10, w_812, w_813, w_814, by decide +kernel, by decide +kernel, by decide +kernel⟩
theorem cw_SignalEngine_Draft_74 : dc_VW "SignalEngine$Draft" 74 ⟨"java/util/ArrayList", "get", "(I)Ljava/lang/Object;"⟩ prog_33_method_20_code 2 (some (.object "java/lang/Object")) 1 := ⟨w_819, w_10, w_816, w_817, w_818, by decide +kernel, by decide +kernel, by decide +kernel⟩
theorem cw_SignalEngine_Draft_96 : dc_SW "SignalEngine$Draft" 96 ⟨"SignalEngine$Draft", "codesOf", "(LSignalEngine$Node;)I"⟩ prog_4_method_17_code 3 (some (.int)) 1 := ⟨w_841, w_7, w_839, w_840, by decide +kernel, by decide +kernel, by decide +kernel⟩
theorem cw_SignalEngine_Draft_92 : dc_VW "SignalEngine$Draft" 92 ⟨"SignalEngine$Draft", "spread", "(LSignalEngine$Node;[I)V"⟩ prog_4_method_15_code 4 none 2 := ⟨w_834, w_7, w_831, w_833, wp_32, by decide +kernel, by decide +kernel, by decide +kernel⟩
theorem cw_SignalEngine_Parser_49 : dc_VW "SignalEngine$Parser" 49 ⟨"SignalEngine$Draft", "settle", "(I)V"⟩ prog_4_method_13_code 5 none 1 := ⟨w_811, w_7, w_808, w_809, w_810, by decide +kernel, by decide +kernel, by decide +kernel⟩
theorem cw_SignalEngine_Parser_53 : dc_VW "SignalEngine$Parser" 53 ⟨"SignalEngine$Draft", "lineOfEmptyLoop", "()I"⟩ prog_4_method_18_code 5 (some (.int)) 0 := ⟨w_854, w_7, w_851, w_852, w_853, by decide +kernel, by decide +kernel, by decide +kernel⟩
theorem cw_SignalEngine_Parser_63 : dc_VW "SignalEngine$Parser" 63 ⟨"SignalEngine$Draft", "isLarge", "()Z"⟩ prog_4_method_19_code 1 (some (.boolean)) 0 := ⟨w_858, w_7, w_855, w_856, w_857, by decide +kernel, by decide +kernel, by decide +kernel⟩
theorem cw_SignalEngine_Program_117 : dc_VW "SignalEngine$Program" 117 ⟨"SignalEngine$Program", "giveNumbers", "([ILSignalEngine$Pieces;)V"⟩ prog_11_method_3_code 5 none 2 := ⟨w_877, w_29, w_874, w_876, wp_34, by decide +kernel, by decide +kernel, by decide +kernel⟩
theorem cw_SignalEngine_Program_121 : dc_VW "SignalEngine$Program" 121 ⟨"SignalEngine$Program", "boundPauses", "()V"⟩ prog_11_method_4_code 2 none 0 := ⟨w_889, w_29, w_886, w_888, wp_36, by decide +kernel, by decide +kernel, by decide +kernel⟩
theorem cw_SignalEngine_Program_100 : dc_VW "SignalEngine$Program" 100 ⟨"java/util/ArrayList", "get", "(I)Ljava/lang/Object;"⟩ prog_33_method_20_code 2 (some (.object "java/lang/Object")) 1 := ⟨w_819, w_10, w_868, w_817, w_818, by decide +kernel, by decide +kernel, by decide +kernel⟩
theorem cw_SignalEngine_Program_106 : dc_VW "SignalEngine$Program" 106 ⟨"SignalEngine$Program", "copy", "(LSignalEngine$Node;)V"⟩ prog_11_method_2_code 3 none 1 := ⟨w_873, w_29, w_870, w_872, wp_33, by decide +kernel, by decide +kernel, by decide +kernel⟩
theorem cw_SignalEngine_Program_21 : dc_VW "SignalEngine$Program" 21 ⟨"java/util/ArrayList", "size", "()I"⟩ prog_33_method_8_code 1 (some (.int)) 0 := ⟨w_815, w_10, w_865, w_813, w_814, by decide +kernel, by decide +kernel, by decide +kernel⟩
theorem cw_SignalEngine_Program_62 : hg_IW "SignalEngine$Program" 62 ⟨"SignalEngine$Pieces", "<init>", "(I)V"⟩ prog_10_method_1_code 2 1 := ⟨w_165, w_11, w_867, w_164, rfl, by decide +kernel, by decide +kernel, by decide +kernel⟩
theorem cw_SignalEngine_49 : hg_IW "SignalEngine" 49 ⟨"SignalEngine$Program", "<init>", "(LSignalEngine$Parser;)V"⟩ prog_11_method_1_code 7 1 := ⟨w_863, w_29, w_861, w_862, rfl, by decide +kernel, by decide +kernel, by decide +kernel⟩
theorem cw_SignalEngine_58 : hg_IW "SignalEngine" 58 ⟨"SignalEngine$Reactor", "<init>", "(LSignalEngine$Program;)V"⟩ prog_12_method_1_code 4 1 := ⟨w_978, w_30, w_976, w_977, rfl, by decide +kernel, by decide +kernel, by decide +kernel⟩
theorem cw_SignalEngine_32 : dc_VW "SignalEngine" 32 ⟨"SignalEngine", "forget", "()V"⟩ prog_1_method_6_code 1 none 0 := ⟨w_122, w_1, w_119, w_121, wp_1, by decide +kernel, by decide +kernel, by decide +kernel⟩
theorem cw_SignalEngine_37 : hg_IW "SignalEngine" 37 ⟨"SignalEngine$Parser", "<init>", "([B)V"⟩ prog_9_method_1_code 2 1 := ⟨w_127, w_6, w_125, w_126, rfl, by decide +kernel, by decide +kernel, by decide +kernel⟩
theorem cw_SignalEngine_40 : hg_VHW "SignalEngine" 40 ⟨"SignalEngine$Parser", "parse", "()I"⟩ prog_9_method_2_code 2 (some (.int)) [(0, 4, 7, 40)] 0 := ⟨w_315, w_6, w_312, w_313, w_314, by decide +kernel, by decide +kernel, by decide +kernel⟩
theorem cw_SignalEngine_44 : dc_VW "SignalEngine" 44 ⟨"SignalEngine$Parser", "judge", "()I"⟩ prog_9_method_3_code 3 (some (.int)) 0 := ⟨w_807, w_6, w_804, w_805, w_806, by decide +kernel, by decide +kernel, by decide +kernel⟩
theorem dsw_prog_9_method_13_code_8 : decode prog_9_method_13_code 8 = .ok (.tableswitch 260 1 15 #[76, 87, 98, 107, 129, 150, 168, 181, 194, 207, 220, 233, 246, 246, 246], 76) := by decide +kernel
