/-! words that the walks use, each by its place; written by wip/gen -/
theorem w_28 : Cond.initialized "java/lang/Integer" ∈ tt := tt_of 28 (by decide +kernel) rfl
theorem w_29 : Cond.initialized "SignalEngine$Program" ∈ tt := tt_of 29 (by decide +kernel) rfl
theorem w_30 : Cond.initialized "SignalEngine$Reactor" ∈ tt := tt_of 30 (by decide +kernel) rfl
theorem w_32 : Cond.initialized "SignalEngine$Atlas" ∈ tt := tt_of 32 (by decide +kernel) rfl
theorem w_33 : Cond.initialized "SignalEngine$Net" ∈ tt := tt_of 33 (by decide +kernel) rfl
theorem w_52 : Cond.fieldLink "SignalEngine" 169 "SignalEngine" "atlas" "LSignalEngine$Atlas;" ∈ tt := tt_of 52 (by decide +kernel) rfl
theorem w_53 : Cond.fieldLink "SignalEngine" 233 "SignalEngine" "net" "LSignalEngine$Net;" ∈ tt := tt_of 53 (by decide +kernel) rfl
theorem w_181 : Cond.fieldLink "SignalEngine$Pieces" 27 "SignalEngine$Pieces" "made" "I" ∈ tt := tt_of 181 (by decide +kernel) rfl
theorem w_204 : Cond.fieldLink "SignalEngine$Draft" 102 "SignalEngine$Draft" "weights" "I" ∈ tt := tt_of 204 (by decide +kernel) rfl
theorem w_206 : Cond.fieldLink "SignalEngine$Draft" 123 "SignalEngine$Draft" "pauses" "I" ∈ tt := tt_of 206 (by decide +kernel) rfl
theorem w_208 : Cond.fieldLink "SignalEngine$Draft" 126 "SignalEngine$Draft" "tests" "I" ∈ tt := tt_of 208 (by decide +kernel) rfl
theorem w_210 : Cond.fieldLink "SignalEngine$Draft" 108 "SignalEngine$Draft" "deepest" "I" ∈ tt := tt_of 210 (by decide +kernel) rfl
theorem w_268 : Cond.fieldLink "SignalEngine$Names" 25 "SignalEngine$Names" "made" "I" ∈ tt := tt_of 268 (by decide +kernel) rfl
theorem w_271 : Cond.fieldLink "SignalEngine$Names" 42 "SignalEngine$Names" "inScope" "I" ∈ tt := tt_of 271 (by decide +kernel) rfl
theorem w_296 : Cond.fieldLink "SignalEngine$Parser" 134 "SignalEngine$Parser" "open" "I" ∈ tt := tt_of 296 (by decide +kernel) rfl
theorem w_483 : Cond.methodLink "SignalEngine$Names" 45 ⟨"SignalEngine$Names", "reads", "(ILSignalEngine$Lexer;)Z"⟩ ∈ tt := tt_of 483 (by decide +kernel) rfl
theorem w_485 : Cond.instanceMethod ⟨"SignalEngine$Names", "reads", "(ILSignalEngine$Lexer;)Z"⟩ ∈ tt := tt_of 485 (by decide +kernel) rfl
set_option maxRecDepth 100000 in
theorem w_486 : Cond.code ⟨"SignalEngine$Names", "reads", "(ILSignalEngine$Lexer;)Z"⟩ prog_6_method_5_code 4 (Option.some Jvm.ClassFile.FieldType.boolean) ∈ tt := tt_of 486 rfl rfl
theorem w_487 : Cond.methodLink "SignalEngine$Parser" 117 ⟨"SignalEngine$Lexer", "refuse", "(I)V"⟩ ∈ tt := tt_of 487 (by decide +kernel) rfl
theorem w_492 : Cond.methodLink "SignalEngine$Names" 29 ⟨"java/util/Arrays", "copyOf", "([II)[I"⟩ ∈ tt := tt_of 492 (by decide +kernel) rfl
theorem w_493 : Cond.static ⟨"java/util/Arrays", "copyOf", "([II)[I"⟩ ∈ tt := tt_of 493 (by decide +kernel) rfl
set_option maxRecDepth 100000 in
theorem w_494 : Cond.code ⟨"java/util/Arrays", "copyOf", "([II)[I"⟩ prog_34_method_123_code 3 (Option.some (Jvm.ClassFile.FieldType.array Jvm.ClassFile.FieldType.int)) ∈ tt := tt_of 494 rfl rfl
theorem w_551 : Cond.methodLink "SignalEngine$Node" 3 ⟨"java/lang/Object", "<init>", "()V"⟩ ∈ tt := tt_of 551 (by decide +kernel) rfl
theorem w_552 : Cond.fieldLink "SignalEngine$Node" 27 "SignalEngine$Node" "kind" "I" ∈ tt := tt_of 552 (by decide +kernel) rfl
theorem w_555 : Cond.fieldLink "SignalEngine$Node" 30 "SignalEngine$Node" "line" "I" ∈ tt := tt_of 555 (by decide +kernel) rfl
theorem w_559 : Cond.fieldLink "SignalEngine$Node" 33 "SignalEngine$Node" "first" "LSignalEngine$Node;" ∈ tt := tt_of 559 (by decide +kernel) rfl
theorem w_562 : Cond.fieldLink "SignalEngine$Node" 37 "SignalEngine$Node" "second" "LSignalEngine$Node;" ∈ tt := tt_of 562 (by decide +kernel) rfl
theorem w_565 : Cond.fieldLink "SignalEngine$Node" 9 "SignalEngine$Node" "number" "I" ∈ tt := tt_of 565 (by decide +kernel) rfl
theorem w_569 : Cond.fieldLink "SignalEngine$Node" 15 "SignalEngine$Node" "trap" "I" ∈ tt := tt_of 569 (by decide +kernel) rfl
theorem w_571 : Cond.fieldLink "SignalEngine$Node" 18 "SignalEngine$Node" "test" "I" ∈ tt := tt_of 571 (by decide +kernel) rfl
theorem w_577 : Cond.fieldLink "SignalEngine$Node" 21 "SignalEngine$Node" "parent" "I" ∈ tt := tt_of 577 (by decide +kernel) rfl
theorem w_581 : Cond.fieldLink "SignalEngine$Node" 24 "SignalEngine$Node" "weight" "I" ∈ tt := tt_of 581 (by decide +kernel) rfl
theorem w_715 : Cond.methodLink "SignalEngine$Pieces" 31 ⟨"SignalEngine$Pieces", "widen", "(I)V"⟩ ∈ tt := tt_of 715 (by decide +kernel) rfl
theorem w_717 : Cond.instanceMethod ⟨"SignalEngine$Pieces", "widen", "(I)V"⟩ ∈ tt := tt_of 717 (by decide +kernel) rfl
set_option maxRecDepth 100000 in
theorem w_718 : Cond.code ⟨"SignalEngine$Pieces", "widen", "(I)V"⟩ prog_10_method_3_code 2 (Option.none : Option Jvm.ClassFile.FieldType) ∈ tt := tt_of 718 rfl rfl
theorem w_719 : Cond.methodLink "SignalEngine$Pieces" 35 ⟨"java/util/Arrays", "copyOf", "([II)[I"⟩ ∈ tt := tt_of 719 (by decide +kernel) rfl
theorem w_828 : Cond.methodLink "SignalEngine$Draft" 82 ⟨"SignalEngine$Draft", "extentOf", "(LSignalEngine$Node;)I"⟩ ∈ tt := tt_of 828 (by decide +kernel) rfl
theorem w_829 : Cond.static ⟨"SignalEngine$Draft", "extentOf", "(LSignalEngine$Node;)I"⟩ ∈ tt := tt_of 829 (by decide +kernel) rfl
set_option maxRecDepth 100000 in
theorem w_830 : Cond.code ⟨"SignalEngine$Draft", "extentOf", "(LSignalEngine$Node;)I"⟩ prog_4_method_14_code 1 (Option.some Jvm.ClassFile.FieldType.int) ∈ tt := tt_of 830 rfl rfl
theorem w_835 : Cond.methodLink "SignalEngine$Draft" 114 ⟨"java/lang/Math", "max", "(II)I"⟩ ∈ tt := tt_of 835 (by decide +kernel) rfl
theorem w_836 : Cond.methodLink "SignalEngine$Draft" 135 ⟨"SignalEngine$Draft", "hang", "(LSignalEngine$Node;LSignalEngine$Node;II)V"⟩ ∈ tt := tt_of 836 (by decide +kernel) rfl
theorem w_837 : Cond.static ⟨"SignalEngine$Draft", "hang", "(LSignalEngine$Node;LSignalEngine$Node;II)V"⟩ ∈ tt := tt_of 837 (by decide +kernel) rfl
set_option maxRecDepth 100000 in
theorem w_838 : Cond.code ⟨"SignalEngine$Draft", "hang", "(LSignalEngine$Node;LSignalEngine$Node;II)V"⟩ prog_4_method_16_code 4 (Option.none : Option Jvm.ClassFile.FieldType) ∈ tt := tt_of 838 rfl rfl
theorem w_843 : Cond.static ⟨"SignalEngine", "greaterOfPairs", "(II)I"⟩ ∈ tt := tt_of 843 (by decide +kernel) rfl
set_option maxRecDepth 100000 in
theorem w_844 : Cond.code ⟨"SignalEngine", "greaterOfPairs", "(II)I"⟩ prog_1_method_33_code 2 (Option.some Jvm.ClassFile.FieldType.int) ∈ tt := tt_of 844 rfl rfl
theorem w_845 : Cond.methodLink "SignalEngine" 273 ⟨"java/lang/Integer", "lowestOneBit", "(I)I"⟩ ∈ tt := tt_of 845 (by decide +kernel) rfl
theorem w_846 : Cond.static ⟨"java/lang/Integer", "lowestOneBit", "(I)I"⟩ ∈ tt := tt_of 846 (by decide +kernel) rfl
set_option maxRecDepth 100000 in
theorem w_847 : Cond.code ⟨"java/lang/Integer", "lowestOneBit", "(I)I"⟩ prog_22_method_46_code 1 (Option.some Jvm.ClassFile.FieldType.int) ∈ tt := tt_of 847 rfl rfl
theorem w_849 : Cond.static ⟨"SignalEngine", "withoutTrap", "(I)I"⟩ ∈ tt := tt_of 849 (by decide +kernel) rfl
set_option maxRecDepth 100000 in
theorem w_850 : Cond.code ⟨"SignalEngine", "withoutTrap", "(I)I"⟩ prog_1_method_34_code 1 (Option.some Jvm.ClassFile.FieldType.int) ∈ tt := tt_of 850 rfl rfl
theorem w_878 : Cond.methodLink "SignalEngine$Program" 141 ⟨"SignalEngine$Pieces", "copyOf", "(LSignalEngine$Pieces;I)I"⟩ ∈ tt := tt_of 878 (by decide +kernel) rfl
theorem w_879 : Cond.instanceMethod ⟨"SignalEngine$Pieces", "copyOf", "(LSignalEngine$Pieces;I)I"⟩ ∈ tt := tt_of 879 (by decide +kernel) rfl
theorem w_880 : Cond.selects "SignalEngine$Pieces" ⟨"SignalEngine$Pieces", "copyOf", "(LSignalEngine$Pieces;I)I"⟩ ⟨"SignalEngine$Pieces", "copyOf", "(LSignalEngine$Pieces;I)I"⟩ ∈ tt := tt_of 880 (by decide +kernel) rfl
set_option maxRecDepth 100000 in
theorem w_881 : Cond.code ⟨"SignalEngine$Pieces", "copyOf", "(LSignalEngine$Pieces;I)I"⟩ prog_10_method_4_code 5 (Option.some Jvm.ClassFile.FieldType.int) ∈ tt := tt_of 881 rfl rfl
theorem w_882 : Cond.methodLink "SignalEngine$Pieces" 41 ⟨"SignalEngine$Pieces", "copyPiece", "(LSignalEngine$Pieces;I)V"⟩ ∈ tt := tt_of 882 (by decide +kernel) rfl
theorem w_884 : Cond.instanceMethod ⟨"SignalEngine$Pieces", "copyPiece", "(LSignalEngine$Pieces;I)V"⟩ ∈ tt := tt_of 884 (by decide +kernel) rfl
set_option maxRecDepth 100000 in
theorem w_885 : Cond.code ⟨"SignalEngine$Pieces", "copyPiece", "(LSignalEngine$Pieces;I)V"⟩ prog_10_method_5_code 6 (Option.none : Option Jvm.ClassFile.FieldType) ∈ tt := tt_of 885 rfl rfl
theorem w_891 : Cond.fieldLink "SignalEngine$Program" 31 "SignalEngine$Program" "names" "LSignalEngine$Names;" ∈ tt := tt_of 891 (by decide +kernel) rfl
theorem w_893 : Cond.fieldLink "SignalEngine$Program" 40 "SignalEngine$Program" "inputs" "I" ∈ tt := tt_of 893 (by decide +kernel) rfl
theorem w_898 : Cond.fieldLink "SignalEngine$Program" 44 "SignalEngine$Program" "outputs" "I" ∈ tt := tt_of 898 (by decide +kernel) rfl
theorem w_903 : Cond.fieldLink "SignalEngine$Program" 48 "SignalEngine$Program" "pauses" "I" ∈ tt := tt_of 903 (by decide +kernel) rfl
theorem w_908 : Cond.fieldLink "SignalEngine$Program" 52 "SignalEngine$Program" "weights" "I" ∈ tt := tt_of 908 (by decide +kernel) rfl
theorem w_910 : Cond.fieldLink "SignalEngine$Program" 56 "SignalEngine$Program" "deepest" "I" ∈ tt := tt_of 910 (by decide +kernel) rfl
theorem w_912 : Cond.fieldLink "SignalEngine$Program" 65 "SignalEngine$Program" "pieces" "LSignalEngine$Pieces;" ∈ tt := tt_of 912 (by decide +kernel) rfl
theorem w_915 : Cond.fieldLink "SignalEngine$Program" 69 "SignalEngine$Program" "kind" "[I" ∈ tt := tt_of 915 (by decide +kernel) rfl
theorem w_917 : Cond.fieldLink "SignalEngine$Program" 73 "SignalEngine$Program" "first" "[I" ∈ tt := tt_of 917 (by decide +kernel) rfl
theorem w_920 : Cond.fieldLink "SignalEngine$Program" 76 "SignalEngine$Program" "second" "[I" ∈ tt := tt_of 920 (by decide +kernel) rfl
theorem w_923 : Cond.fieldLink "SignalEngine$Program" 79 "SignalEngine$Program" "parent" "[I" ∈ tt := tt_of 923 (by decide +kernel) rfl
theorem w_925 : Cond.fieldLink "SignalEngine$Program" 82 "SignalEngine$Program" "number" "[I" ∈ tt := tt_of 925 (by decide +kernel) rfl
theorem w_928 : Cond.fieldLink "SignalEngine$Program" 85 "SignalEngine$Program" "codes" "[I" ∈ tt := tt_of 928 (by decide +kernel) rfl
theorem w_930 : Cond.fieldLink "SignalEngine$Program" 88 "SignalEngine$Program" "line" "[I" ∈ tt := tt_of 930 (by decide +kernel) rfl
theorem w_932 : Cond.fieldLink "SignalEngine$Program" 91 "SignalEngine$Program" "weight" "[I" ∈ tt := tt_of 932 (by decide +kernel) rfl
theorem w_935 : Cond.fieldLink "SignalEngine$Program" 94 "SignalEngine$Program" "pauseFrom" "[I" ∈ tt := tt_of 935 (by decide +kernel) rfl
theorem w_937 : Cond.fieldLink "SignalEngine$Program" 97 "SignalEngine$Program" "pauseTo" "[I" ∈ tt := tt_of 937 (by decide +kernel) rfl
theorem w_979 : Cond.methodLink "SignalEngine$Reactor" 3 ⟨"java/lang/Object", "<init>", "()V"⟩ ∈ tt := tt_of 979 (by decide +kernel) rfl
theorem w_980 : Cond.methodLink "SignalEngine$Reactor" 37 ⟨"SignalEngine$Reactor", "givePlaces", "()I"⟩ ∈ tt := tt_of 980 (by decide +kernel) rfl
theorem w_982 : Cond.instanceMethod ⟨"SignalEngine$Reactor", "givePlaces", "()I"⟩ ∈ tt := tt_of 982 (by decide +kernel) rfl
set_option maxRecDepth 100000 in
theorem w_983 : Cond.code ⟨"SignalEngine$Reactor", "givePlaces", "()I"⟩ prog_12_method_2_code 3 (Option.some Jvm.ClassFile.FieldType.int) ∈ tt := tt_of 983 rfl rfl
theorem w_984 : Cond.fieldLink "SignalEngine$Reactor" 9 "SignalEngine$Reactor" "program" "LSignalEngine$Program;" ∈ tt := tt_of 984 (by decide +kernel) rfl
theorem w_985 : Cond.fieldLink "SignalEngine$Reactor" 41 "SignalEngine$Reactor" "known" "[I" ∈ tt := tt_of 985 (by decide +kernel) rfl
theorem w_988 : Cond.fieldLink "SignalEngine$Reactor" 44 "SignalEngine$Reactor" "emitted" "[I" ∈ tt := tt_of 988 (by decide +kernel) rfl
theorem w_989 : Cond.fieldLink "SignalEngine$Reactor" 31 "SignalEngine$Reactor" "placeFrom" "[I" ∈ tt := tt_of 989 (by decide +kernel) rfl
theorem w_990 : Cond.fieldLink "SignalEngine$Reactor" 34 "SignalEngine$Reactor" "placeNow" "[I" ∈ tt := tt_of 990 (by decide +kernel) rfl
theorem w_991 : Cond.fieldLink "SignalEngine$Reactor" 54 "SignalEngine$Reactor" "truth" "[I" ∈ tt := tt_of 991 (by decide +kernel) rfl
theorem w_992 : Cond.fieldLink "SignalEngine$Reactor" 57 "SignalEngine$Reactor" "test" "[I" ∈ tt := tt_of 992 (by decide +kernel) rfl
theorem w_993 : Cond.fieldLink "SignalEngine$Reactor" 60 "SignalEngine$Reactor" "can" "[I" ∈ tt := tt_of 993 (by decide +kernel) rfl
theorem w_994 : Cond.fieldLink "SignalEngine$Reactor" 63 "SignalEngine$Reactor" "must" "[I" ∈ tt := tt_of 994 (by decide +kernel) rfl
theorem w_995 : Cond.fieldLink "SignalEngine$Reactor" 66 "SignalEngine$Reactor" "sure" "[Z" ∈ tt := tt_of 995 (by decide +kernel) rfl
theorem w_996 : Cond.fieldLink "SignalEngine$Reactor" 73 "SignalEngine$Reactor" "heldBefore" "[I" ∈ tt := tt_of 996 (by decide +kernel) rfl
theorem w_997 : Cond.fieldLink "SignalEngine$Reactor" 76 "SignalEngine$Reactor" "chosen" "[Z" ∈ tt := tt_of 997 (by decide +kernel) rfl
theorem w_1000 : Cond.fieldLink "SignalEngine$Reactor" 99 "SignalEngine$Reactor" "round" "I" ∈ tt := tt_of 1000 (by decide +kernel) rfl
theorem w_1001 : Cond.fieldLink "SignalEngine$Reactor" 95 "SignalEngine$Reactor" "changed" "Z" ∈ tt := tt_of 1001 (by decide +kernel) rfl
theorem w_1002 : Cond.fieldLink "SignalEngine$Reactor" 102 "SignalEngine$Reactor" "doubtful" "Z" ∈ tt := tt_of 1002 (by decide +kernel) rfl
theorem w_1003 : Cond.fieldLink "SignalEngine$Reactor" 126 "SignalEngine$Reactor" "starting" "Z" ∈ tt := tt_of 1003 (by decide +kernel) rfl
theorem w_1004 : Cond.fieldLink "SignalEngine$Reactor" 129 "SignalEngine$Reactor" "startedBehind" "I" ∈ tt := tt_of 1004 (by decide +kernel) rfl
theorem w_1005 : Cond.fieldLink "SignalEngine$Reactor" 132 "SignalEngine$Reactor" "begun" "I" ∈ tt := tt_of 1005 (by decide +kernel) rfl
theorem w_1056 : Cond.methodLink "SignalEngine" 134 ⟨"SignalEngine$Names", "character", "(II)I"⟩ ∈ tt := tt_of 1056 (by decide +kernel) rfl
theorem w_1057 : Cond.instanceMethod ⟨"SignalEngine$Names", "character", "(II)I"⟩ ∈ tt := tt_of 1057 (by decide +kernel) rfl
theorem w_1058 : Cond.selects "SignalEngine$Names" ⟨"SignalEngine$Names", "character", "(II)I"⟩ ⟨"SignalEngine$Names", "character", "(II)I"⟩ ∈ tt := tt_of 1058 (by decide +kernel) rfl
set_option maxRecDepth 100000 in
theorem w_1059 : Cond.code ⟨"SignalEngine$Names", "character", "(II)I"⟩ prog_6_method_6_code 3 (Option.some Jvm.ClassFile.FieldType.int) ∈ tt := tt_of 1059 rfl rfl
theorem w_1065 : Cond.instanceMethod ⟨"SignalEngine", "selected", "(I)Z"⟩ ∈ tt := tt_of 1065 (by decide +kernel) rfl
theorem w_1066 : Cond.selects "SignalEngine" ⟨"SignalEngine", "selected", "(I)Z"⟩ ⟨"SignalEngine", "selected", "(I)Z"⟩ ∈ tt := tt_of 1066 (by decide +kernel) rfl
set_option maxRecDepth 100000 in
theorem w_1067 : Cond.code ⟨"SignalEngine", "selected", "(I)Z"⟩ prog_1_method_14_code 2 (Option.some Jvm.ClassFile.FieldType.boolean) ∈ tt := tt_of 1067 rfl rfl
theorem w_1072 : Cond.methodLink "SignalEngine" 173 ⟨"SignalEngine$Atlas", "reaches", "(I)Z"⟩ ∈ tt := tt_of 1072 (by decide +kernel) rfl
theorem w_1073 : Cond.instanceMethod ⟨"SignalEngine$Atlas", "reaches", "(I)Z"⟩ ∈ tt := tt_of 1073 (by decide +kernel) rfl
theorem w_1074 : Cond.selects "SignalEngine$Atlas" ⟨"SignalEngine$Atlas", "reaches", "(I)Z"⟩ ⟨"SignalEngine$Atlas", "reaches", "(I)Z"⟩ ∈ tt := tt_of 1074 (by decide +kernel) rfl
set_option maxRecDepth 100000 in
theorem w_1075 : Cond.code ⟨"SignalEngine$Atlas", "reaches", "(I)Z"⟩ prog_3_method_3_code 2 (Option.some Jvm.ClassFile.FieldType.boolean) ∈ tt := tt_of 1075 rfl rfl
theorem w_1080 : Cond.methodLink "SignalEngine" 194 ⟨"SignalEngine$Atlas", "inputsOnWay", "(II)I"⟩ ∈ tt := tt_of 1080 (by decide +kernel) rfl
theorem w_1081 : Cond.instanceMethod ⟨"SignalEngine$Atlas", "inputsOnWay", "(II)I"⟩ ∈ tt := tt_of 1081 (by decide +kernel) rfl
theorem w_1082 : Cond.selects "SignalEngine$Atlas" ⟨"SignalEngine$Atlas", "inputsOnWay", "(II)I"⟩ ⟨"SignalEngine$Atlas", "inputsOnWay", "(II)I"⟩ ∈ tt := tt_of 1082 (by decide +kernel) rfl
set_option maxRecDepth 100000 in
theorem w_1083 : Cond.code ⟨"SignalEngine$Atlas", "inputsOnWay", "(II)I"⟩ prog_3_method_10_code 5 (Option.some Jvm.ClassFile.FieldType.int) ∈ tt := tt_of 1083 rfl rfl
theorem w_1096 : Cond.methodLink "SignalEngine" 220 ⟨"SignalEngine$Program", "hasOutput", "(I)Z"⟩ ∈ tt := tt_of 1096 (by decide +kernel) rfl
theorem w_1097 : Cond.instanceMethod ⟨"SignalEngine$Program", "hasOutput", "(I)Z"⟩ ∈ tt := tt_of 1097 (by decide +kernel) rfl
theorem w_1098 : Cond.selects "SignalEngine$Program" ⟨"SignalEngine$Program", "hasOutput", "(I)Z"⟩ ⟨"SignalEngine$Program", "hasOutput", "(I)Z"⟩ ∈ tt := tt_of 1098 (by decide +kernel) rfl
set_option maxRecDepth 100000 in
theorem w_1099 : Cond.code ⟨"SignalEngine$Program", "hasOutput", "(I)Z"⟩ prog_11_method_5_code 2 (Option.some Jvm.ClassFile.FieldType.boolean) ∈ tt := tt_of 1099 rfl rfl
theorem w_1100 : Cond.methodLink "SignalEngine" 223 ⟨"SignalEngine$Atlas", "reactionsWith", "(I)I"⟩ ∈ tt := tt_of 1100 (by decide +kernel) rfl
theorem w_1101 : Cond.instanceMethod ⟨"SignalEngine$Atlas", "reactionsWith", "(I)I"⟩ ∈ tt := tt_of 1101 (by decide +kernel) rfl
theorem w_1102 : Cond.selects "SignalEngine$Atlas" ⟨"SignalEngine$Atlas", "reactionsWith", "(I)I"⟩ ⟨"SignalEngine$Atlas", "reactionsWith", "(I)I"⟩ ∈ tt := tt_of 1102 (by decide +kernel) rfl
set_option maxRecDepth 100000 in
theorem w_1103 : Cond.code ⟨"SignalEngine$Atlas", "reactionsWith", "(I)I"⟩ prog_3_method_11_code 6 (Option.some Jvm.ClassFile.FieldType.int) ∈ tt := tt_of 1103 rfl rfl
theorem w_1104 : Cond.methodLink "SignalEngine$Atlas" 87 ⟨"SignalEngine$Atlas", "cell", "(II)I"⟩ ∈ tt := tt_of 1104 (by decide +kernel) rfl
theorem w_1105 : Cond.static ⟨"SignalEngine$Atlas", "cell", "(II)I"⟩ ∈ tt := tt_of 1105 (by decide +kernel) rfl
set_option maxRecDepth 100000 in
theorem w_1106 : Cond.code ⟨"SignalEngine$Atlas", "cell", "(II)I"⟩ prog_3_method_2_code 2 (Option.some Jvm.ClassFile.FieldType.int) ∈ tt := tt_of 1106 rfl rfl
theorem w_1120 : Cond.methodLink "SignalEngine" 257 ⟨"SignalEngine$Net", "multiplexersOf", "(I)I"⟩ ∈ tt := tt_of 1120 (by decide +kernel) rfl
theorem w_1121 : Cond.instanceMethod ⟨"SignalEngine$Net", "multiplexersOf", "(I)I"⟩ ∈ tt := tt_of 1121 (by decide +kernel) rfl
theorem w_1122 : Cond.selects "SignalEngine$Net" ⟨"SignalEngine$Net", "multiplexersOf", "(I)I"⟩ ⟨"SignalEngine$Net", "multiplexersOf", "(I)I"⟩ ∈ tt := tt_of 1122 (by decide +kernel) rfl
set_option maxRecDepth 100000 in
theorem w_1123 : Cond.code ⟨"SignalEngine$Net", "multiplexersOf", "(I)I"⟩ prog_7_method_12_code 4 (Option.some Jvm.ClassFile.FieldType.int) ∈ tt := tt_of 1123 rfl rfl
theorem w_1128 : Cond.methodLink "SignalEngine" 260 ⟨"SignalEngine$Program", "figure", "(I)I"⟩ ∈ tt := tt_of 1128 (by decide +kernel) rfl
theorem w_1129 : Cond.instanceMethod ⟨"SignalEngine$Program", "figure", "(I)I"⟩ ∈ tt := tt_of 1129 (by decide +kernel) rfl
theorem w_1130 : Cond.selects "SignalEngine$Program" ⟨"SignalEngine$Program", "figure", "(I)I"⟩ ⟨"SignalEngine$Program", "figure", "(I)I"⟩ ∈ tt := tt_of 1130 (by decide +kernel) rfl
set_option maxRecDepth 100000 in
theorem w_1131 : Cond.code ⟨"SignalEngine$Program", "figure", "(I)I"⟩ prog_11_method_7_code 2 (Option.some Jvm.ClassFile.FieldType.int) ∈ tt := tt_of 1131 rfl rfl
theorem w_1132 : Cond.methodLink "SignalEngine" 263 ⟨"SignalEngine", "figure", "(I)I"⟩ ∈ tt := tt_of 1132 (by decide +kernel) rfl
theorem w_1134 : Cond.instanceMethod ⟨"SignalEngine", "figure", "(I)I"⟩ ∈ tt := tt_of 1134 (by decide +kernel) rfl
set_option maxRecDepth 100000 in
theorem w_1135 : Cond.code ⟨"SignalEngine", "figure", "(I)I"⟩ prog_1_method_31_code 2 (Option.some Jvm.ClassFile.FieldType.int) ∈ tt := tt_of 1135 rfl rfl
theorem w_1136 : Cond.methodLink "SignalEngine" 264 ⟨"SignalEngine", "heldPauses", "()I"⟩ ∈ tt := tt_of 1136 (by decide +kernel) rfl
theorem w_1138 : Cond.instanceMethod ⟨"SignalEngine", "heldPauses", "()I"⟩ ∈ tt := tt_of 1138 (by decide +kernel) rfl
set_option maxRecDepth 100000 in
theorem w_1139 : Cond.code ⟨"SignalEngine", "heldPauses", "()I"⟩ prog_1_method_32_code 3 (Option.some Jvm.ClassFile.FieldType.int) ∈ tt := tt_of 1139 rfl rfl
theorem w_1140 : Cond.methodLink "SignalEngine" 270 ⟨"SignalEngine", "selected", "(I)Z"⟩ ∈ tt := tt_of 1140 (by decide +kernel) rfl
theorem w_1141 : Cond.methodLink "SignalEngine" 244 ⟨"SignalEngine$Net", "multiplexers", "()I"⟩ ∈ tt := tt_of 1141 (by decide +kernel) rfl
theorem w_1142 : Cond.instanceMethod ⟨"SignalEngine$Net", "multiplexers", "()I"⟩ ∈ tt := tt_of 1142 (by decide +kernel) rfl
theorem w_1143 : Cond.selects "SignalEngine$Net" ⟨"SignalEngine$Net", "multiplexers", "()I"⟩ ⟨"SignalEngine$Net", "multiplexers", "()I"⟩ ∈ tt := tt_of 1143 (by decide +kernel) rfl
set_option maxRecDepth 100000 in
theorem w_1144 : Cond.code ⟨"SignalEngine$Net", "multiplexers", "()I"⟩ prog_7_method_2_code 1 (Option.some Jvm.ClassFile.FieldType.int) ∈ tt := tt_of 1144 rfl rfl
theorem w_1168 : Cond.methodLink "SignalEngine" 143 ⟨"SignalEngine", "stand", "(I)V"⟩ ∈ tt := tt_of 1168 (by decide +kernel) rfl
theorem w_1170 : Cond.instanceMethod ⟨"SignalEngine", "stand", "(I)V"⟩ ∈ tt := tt_of 1170 (by decide +kernel) rfl
set_option maxRecDepth 100000 in
theorem w_1171 : Cond.code ⟨"SignalEngine", "stand", "(I)V"⟩ prog_1_method_11_code 3 (Option.none : Option Jvm.ClassFile.FieldType) ∈ tt := tt_of 1171 rfl rfl
theorem w_1172 : Cond.methodLink "SignalEngine" 146 ⟨"java/util/Arrays", "fill", "([II)V"⟩ ∈ tt := tt_of 1172 (by decide +kernel) rfl
theorem w_1173 : Cond.static ⟨"java/util/Arrays", "fill", "([II)V"⟩ ∈ tt := tt_of 1173 (by decide +kernel) rfl
set_option maxRecDepth 100000 in
theorem w_1174 : Cond.code ⟨"java/util/Arrays", "fill", "([II)V"⟩ prog_34_method_103_code 4 (Option.none : Option Jvm.ClassFile.FieldType) ∈ tt := tt_of 1174 rfl rfl
theorem w_1185 : Cond.methodLink "SignalEngine" 153 ⟨"SignalEngine$Reactor", "react", "(IZ[Z)I"⟩ ∈ tt := tt_of 1185 (by decide +kernel) rfl
theorem w_1186 : Cond.instanceMethod ⟨"SignalEngine$Reactor", "react", "(IZ[Z)I"⟩ ∈ tt := tt_of 1186 (by decide +kernel) rfl
theorem w_1187 : Cond.selects "SignalEngine$Reactor" ⟨"SignalEngine$Reactor", "react", "(IZ[Z)I"⟩ ⟨"SignalEngine$Reactor", "react", "(IZ[Z)I"⟩ ∈ tt := tt_of 1187 (by decide +kernel) rfl
set_option maxRecDepth 100000 in
theorem w_1188 : Cond.code ⟨"SignalEngine$Reactor", "react", "(IZ[Z)I"⟩ prog_12_method_3_code 4 (Option.some Jvm.ClassFile.FieldType.int) ∈ tt := tt_of 1188 rfl rfl
theorem w_1189 : Cond.methodLink "SignalEngine$Reactor" 91 ⟨"SignalEngine$Reactor", "prepare", "(I[Z)V"⟩ ∈ tt := tt_of 1189 (by decide +kernel) rfl
theorem w_1191 : Cond.instanceMethod ⟨"SignalEngine$Reactor", "prepare", "(I[Z)V"⟩ ∈ tt := tt_of 1191 (by decide +kernel) rfl
set_option maxRecDepth 100000 in
theorem w_1192 : Cond.code ⟨"SignalEngine$Reactor", "prepare", "(I[Z)V"⟩ prog_12_method_4_code 4 (Option.none : Option Jvm.ClassFile.FieldType) ∈ tt := tt_of 1192 rfl rfl
theorem w_1193 : Cond.methodLink "SignalEngine$Reactor" 116 ⟨"java/util/Arrays", "fill", "([II)V"⟩ ∈ tt := tt_of 1193 (by decide +kernel) rfl
theorem w_1194 : Cond.methodLink "SignalEngine$Reactor" 105 ⟨"SignalEngine$Reactor", "goThrough", "(Z)V"⟩ ∈ tt := tt_of 1194 (by decide +kernel) rfl
theorem w_1196 : Cond.instanceMethod ⟨"SignalEngine$Reactor", "goThrough", "(Z)V"⟩ ∈ tt := tt_of 1196 (by decide +kernel) rfl
set_option maxRecDepth 100000 in
theorem w_1197 : Cond.code ⟨"SignalEngine$Reactor", "goThrough", "(Z)V"⟩ prog_12_method_5_code 6 (Option.none : Option Jvm.ClassFile.FieldType) ∈ tt := tt_of 1197 rfl rfl
theorem w_1198 : Cond.methodLink "SignalEngine$Reactor" 122 ⟨"SignalEngine$Reactor", "clear", "(I)V"⟩ ∈ tt := tt_of 1198 (by decide +kernel) rfl
theorem w_1200 : Cond.instanceMethod ⟨"SignalEngine$Reactor", "clear", "(I)V"⟩ ∈ tt := tt_of 1200 (by decide +kernel) rfl
set_option maxRecDepth 100000 in
theorem w_1201 : Cond.code ⟨"SignalEngine$Reactor", "clear", "(I)V"⟩ prog_12_method_9_code 3 (Option.none : Option Jvm.ClassFile.FieldType) ∈ tt := tt_of 1201 rfl rfl
theorem w_1202 : Cond.methodLink "SignalEngine$Reactor" 135 ⟨"SignalEngine$Reactor", "within", "(IZ)I"⟩ ∈ tt := tt_of 1202 (by decide +kernel) rfl
theorem w_1204 : Cond.instanceMethod ⟨"SignalEngine$Reactor", "within", "(IZ)I"⟩ ∈ tt := tt_of 1204 (by decide +kernel) rfl
set_option maxRecDepth 100000 in
theorem w_1205 : Cond.code ⟨"SignalEngine$Reactor", "within", "(IZ)I"⟩ prog_12_method_12_code 3 (Option.some Jvm.ClassFile.FieldType.int) ∈ tt := tt_of 1205 rfl rfl
theorem w_1206 : Cond.methodLink "SignalEngine$Reactor" 142 ⟨"SignalEngine$Reactor", "beginStart", "(I)I"⟩ ∈ tt := tt_of 1206 (by decide +kernel) rfl
theorem w_1208 : Cond.instanceMethod ⟨"SignalEngine$Reactor", "beginStart", "(I)I"⟩ ∈ tt := tt_of 1208 (by decide +kernel) rfl
set_option maxRecDepth 100000 in
theorem w_1209 : Cond.code ⟨"SignalEngine$Reactor", "beginStart", "(I)I"⟩ prog_12_method_13_code 3 (Option.some Jvm.ClassFile.FieldType.int) ∈ tt := tt_of 1209 rfl rfl
theorem w_1210 : Cond.methodLink "SignalEngine$Reactor" 171 ⟨"SignalEngine$Reactor", "answer", "(III)V"⟩ ∈ tt := tt_of 1210 (by decide +kernel) rfl
theorem w_1212 : Cond.instanceMethod ⟨"SignalEngine$Reactor", "answer", "(III)V"⟩ ∈ tt := tt_of 1212 (by decide +kernel) rfl
set_option maxRecDepth 100000 in
theorem w_1213 : Cond.code ⟨"SignalEngine$Reactor", "answer", "(III)V"⟩ prog_12_method_11_code 4 (Option.none : Option Jvm.ClassFile.FieldType) ∈ tt := tt_of 1213 rfl rfl
theorem w_1214 : Cond.methodLink "SignalEngine$Reactor" 175 ⟨"SignalEngine$Reactor", "emit", "(IZ)V"⟩ ∈ tt := tt_of 1214 (by decide +kernel) rfl
theorem w_1216 : Cond.instanceMethod ⟨"SignalEngine$Reactor", "emit", "(IZ)V"⟩ ∈ tt := tt_of 1216 (by decide +kernel) rfl
set_option maxRecDepth 100000 in
theorem w_1217 : Cond.code ⟨"SignalEngine$Reactor", "emit", "(IZ)V"⟩ prog_12_method_14_code 3 (Option.none : Option Jvm.ClassFile.FieldType) ∈ tt := tt_of 1217 rfl rfl
theorem w_1218 : Cond.methodLink "SignalEngine$Reactor" 179 ⟨"SignalEngine$Reactor", "beginPresent", "(I)I"⟩ ∈ tt := tt_of 1218 (by decide +kernel) rfl
theorem w_1220 : Cond.instanceMethod ⟨"SignalEngine$Reactor", "beginPresent", "(I)I"⟩ ∈ tt := tt_of 1220 (by decide +kernel) rfl
set_option maxRecDepth 100000 in
theorem w_1221 : Cond.code ⟨"SignalEngine$Reactor", "beginPresent", "(I)I"⟩ prog_12_method_15_code 3 (Option.some Jvm.ClassFile.FieldType.int) ∈ tt := tt_of 1221 rfl rfl
theorem w_1222 : Cond.methodLink "SignalEngine$Reactor" 185 ⟨"SignalEngine$Reactor", "valueOf", "(I)I"⟩ ∈ tt := tt_of 1222 (by decide +kernel) rfl
theorem w_1224 : Cond.instanceMethod ⟨"SignalEngine$Reactor", "valueOf", "(I)I"⟩ ∈ tt := tt_of 1224 (by decide +kernel) rfl
set_option maxRecDepth 100000 in
theorem w_1225 : Cond.code ⟨"SignalEngine$Reactor", "valueOf", "(I)I"⟩ prog_12_method_27_code 5 (Option.some Jvm.ClassFile.FieldType.int) ∈ tt := tt_of 1225 rfl rfl
theorem w_1226 : Cond.fieldLink "SignalEngine$Reactor" 233 "SignalEngine$Reactor" "NEGATED" "[I" ∈ tt := tt_of 1226 (by decide +kernel) rfl
theorem w_1228 : Cond.fieldLink "SignalEngine$Reactor" 236 "SignalEngine$Reactor" "LESSER" "[I" ∈ tt := tt_of 1228 (by decide +kernel) rfl
theorem w_1230 : Cond.fieldLink "SignalEngine$Reactor" 240 "SignalEngine$Reactor" "GREATER" "[I" ∈ tt := tt_of 1230 (by decide +kernel) rfl
theorem w_1232 : Cond.methodLink "SignalEngine$Reactor" 146 ⟨"SignalEngine$Reactor", "beginResume", "(I)I"⟩ ∈ tt := tt_of 1232 (by decide +kernel) rfl
theorem w_1234 : Cond.instanceMethod ⟨"SignalEngine$Reactor", "beginResume", "(I)I"⟩ ∈ tt := tt_of 1234 (by decide +kernel) rfl
set_option maxRecDepth 100000 in
theorem w_1235 : Cond.code ⟨"SignalEngine$Reactor", "beginResume", "(I)I"⟩ prog_12_method_21_code 3 (Option.some Jvm.ClassFile.FieldType.int) ∈ tt := tt_of 1235 rfl rfl
theorem w_1236 : Cond.methodLink "SignalEngine$Reactor" 215 ⟨"SignalEngine$Reactor", "beginSuspend", "(I)I"⟩ ∈ tt := tt_of 1236 (by decide +kernel) rfl
theorem w_1238 : Cond.instanceMethod ⟨"SignalEngine$Reactor", "beginSuspend", "(I)I"⟩ ∈ tt := tt_of 1238 (by decide +kernel) rfl
set_option maxRecDepth 100000 in
theorem w_1239 : Cond.code ⟨"SignalEngine$Reactor", "beginSuspend", "(I)I"⟩ prog_12_method_23_code 3 (Option.some Jvm.ClassFile.FieldType.int) ∈ tt := tt_of 1239 rfl rfl
theorem w_1240 : Cond.methodLink "SignalEngine$Reactor" 218 ⟨"SignalEngine$Reactor", "answerEnded", "(I)V"⟩ ∈ tt := tt_of 1240 (by decide +kernel) rfl
theorem w_1242 : Cond.instanceMethod ⟨"SignalEngine$Reactor", "answerEnded", "(I)V"⟩ ∈ tt := tt_of 1242 (by decide +kernel) rfl
set_option maxRecDepth 100000 in
theorem w_1243 : Cond.code ⟨"SignalEngine$Reactor", "answerEnded", "(I)V"⟩ prog_12_method_22_code 2 (Option.none : Option Jvm.ClassFile.FieldType) ∈ tt := tt_of 1243 rfl rfl
theorem w_1244 : Cond.methodLink "SignalEngine$Reactor" 221 ⟨"SignalEngine$Reactor", "isHeld", "(I)Z"⟩ ∈ tt := tt_of 1244 (by decide +kernel) rfl
theorem w_1246 : Cond.instanceMethod ⟨"SignalEngine$Reactor", "isHeld", "(I)Z"⟩ ∈ tt := tt_of 1246 (by decide +kernel) rfl
set_option maxRecDepth 100000 in
theorem w_1247 : Cond.code ⟨"SignalEngine$Reactor", "isHeld", "(I)Z"⟩ prog_12_method_10_code 2 (Option.some Jvm.ClassFile.FieldType.boolean) ∈ tt := tt_of 1247 rfl rfl
theorem w_1248 : Cond.methodLink "SignalEngine$Reactor" 152 ⟨"SignalEngine$Reactor", "comeBack", "(II)I"⟩ ∈ tt := tt_of 1248 (by decide +kernel) rfl
theorem w_1250 : Cond.instanceMethod ⟨"SignalEngine$Reactor", "comeBack", "(II)I"⟩ ∈ tt := tt_of 1250 (by decide +kernel) rfl
set_option maxRecDepth 100000 in
theorem w_1251 : Cond.code ⟨"SignalEngine$Reactor", "comeBack", "(II)I"⟩ prog_12_method_26_code 3 (Option.some Jvm.ClassFile.FieldType.int) ∈ tt := tt_of 1251 rfl rfl
theorem w_1252 : Cond.methodLink "SignalEngine$Reactor" 194 ⟨"SignalEngine$Reactor", "putBehind", "(II)V"⟩ ∈ tt := tt_of 1252 (by decide +kernel) rfl
theorem w_1254 : Cond.instanceMethod ⟨"SignalEngine$Reactor", "putBehind", "(II)V"⟩ ∈ tt := tt_of 1254 (by decide +kernel) rfl
set_option maxRecDepth 100000 in
theorem w_1255 : Cond.code ⟨"SignalEngine$Reactor", "putBehind", "(II)V"⟩ prog_12_method_18_code 3 (Option.none : Option Jvm.ClassFile.FieldType) ∈ tt := tt_of 1255 rfl rfl
theorem w_1256 : Cond.methodLink "SignalEngine$Reactor" 156 ⟨"SignalEngine$Reactor", "goOnStart", "(II)I"⟩ ∈ tt := tt_of 1256 (by decide +kernel) rfl
theorem w_1258 : Cond.instanceMethod ⟨"SignalEngine$Reactor", "goOnStart", "(II)I"⟩ ∈ tt := tt_of 1258 (by decide +kernel) rfl
set_option maxRecDepth 100000 in
theorem w_1259 : Cond.code ⟨"SignalEngine$Reactor", "goOnStart", "(II)I"⟩ prog_12_method_16_code 4 (Option.some Jvm.ClassFile.FieldType.int) ∈ tt := tt_of 1259 rfl rfl
theorem w_1260 : Cond.methodLink "SignalEngine$Reactor" 191 ⟨"SignalEngine$Reactor", "goOnPresent", "(II)I"⟩ ∈ tt := tt_of 1260 (by decide +kernel) rfl
theorem w_1262 : Cond.instanceMethod ⟨"SignalEngine$Reactor", "goOnPresent", "(II)I"⟩ ∈ tt := tt_of 1262 (by decide +kernel) rfl
set_option maxRecDepth 100000 in
theorem w_1263 : Cond.code ⟨"SignalEngine$Reactor", "goOnPresent", "(II)I"⟩ prog_12_method_17_code 3 (Option.some Jvm.ClassFile.FieldType.int) ∈ tt := tt_of 1263 rfl rfl
theorem w_1264 : Cond.methodLink "SignalEngine$Reactor" 198 ⟨"SignalEngine$Reactor", "closeBoth", "(I)V"⟩ ∈ tt := tt_of 1264 (by decide +kernel) rfl
theorem w_1266 : Cond.instanceMethod ⟨"SignalEngine$Reactor", "closeBoth", "(I)V"⟩ ∈ tt := tt_of 1266 (by decide +kernel) rfl
set_option maxRecDepth 100000 in
theorem w_1267 : Cond.code ⟨"SignalEngine$Reactor", "closeBoth", "(I)V"⟩ prog_12_method_19_code 5 (Option.none : Option Jvm.ClassFile.FieldType) ∈ tt := tt_of 1267 rfl rfl
theorem w_1269 : Cond.methodLink "SignalEngine$Reactor" 207 ⟨"java/lang/Math", "max", "(II)I"⟩ ∈ tt := tt_of 1269 (by decide +kernel) rfl
theorem w_1270 : Cond.methodLink "SignalEngine$Reactor" 201 ⟨"SignalEngine$Reactor", "closeSingle", "(II)V"⟩ ∈ tt := tt_of 1270 (by decide +kernel) rfl
theorem w_1272 : Cond.instanceMethod ⟨"SignalEngine$Reactor", "closeSingle", "(II)V"⟩ ∈ tt := tt_of 1272 (by decide +kernel) rfl
set_option maxRecDepth 100000 in
theorem w_1273 : Cond.code ⟨"SignalEngine$Reactor", "closeSingle", "(II)V"⟩ prog_12_method_20_code 4 (Option.none : Option Jvm.ClassFile.FieldType) ∈ tt := tt_of 1273 rfl rfl
theorem w_1274 : Cond.methodLink "SignalEngine$Reactor" 162 ⟨"SignalEngine$Reactor", "settleAbsent", "(I)V"⟩ ∈ tt := tt_of 1274 (by decide +kernel) rfl
theorem w_1276 : Cond.instanceMethod ⟨"SignalEngine$Reactor", "settleAbsent", "(I)V"⟩ ∈ tt := tt_of 1276 (by decide +kernel) rfl
set_option maxRecDepth 100000 in
theorem w_1277 : Cond.code ⟨"SignalEngine$Reactor", "settleAbsent", "(I)V"⟩ prog_12_method_8_code 2 (Option.none : Option Jvm.ClassFile.FieldType) ∈ tt := tt_of 1277 rfl rfl
theorem w_1279 : Cond.methodLink "SignalEngine$Reactor" 159 ⟨"SignalEngine$Reactor", "goOnResume", "(II)I"⟩ ∈ tt := tt_of 1279 (by decide +kernel) rfl
theorem w_1281 : Cond.instanceMethod ⟨"SignalEngine$Reactor", "goOnResume", "(II)I"⟩ ∈ tt := tt_of 1281 (by decide +kernel) rfl
set_option maxRecDepth 100000 in
theorem w_1282 : Cond.code ⟨"SignalEngine$Reactor", "goOnResume", "(II)I"⟩ prog_12_method_24_code 4 (Option.some Jvm.ClassFile.FieldType.int) ∈ tt := tt_of 1282 rfl rfl
theorem w_1283 : Cond.methodLink "SignalEngine$Reactor" 225 ⟨"SignalEngine$Reactor", "startBehind", "(II)I"⟩ ∈ tt := tt_of 1283 (by decide +kernel) rfl
theorem w_1285 : Cond.instanceMethod ⟨"SignalEngine$Reactor", "startBehind", "(II)I"⟩ ∈ tt := tt_of 1285 (by decide +kernel) rfl
set_option maxRecDepth 100000 in
theorem w_1286 : Cond.code ⟨"SignalEngine$Reactor", "startBehind", "(II)I"⟩ prog_12_method_25_code 3 (Option.some Jvm.ClassFile.FieldType.int) ∈ tt := tt_of 1286 rfl rfl
theorem w_1287 : Cond.methodLink "SignalEngine$Reactor" 109 ⟨"SignalEngine$Reactor", "closeOutputs", "()V"⟩ ∈ tt := tt_of 1287 (by decide +kernel) rfl
theorem w_1289 : Cond.instanceMethod ⟨"SignalEngine$Reactor", "closeOutputs", "()V"⟩ ∈ tt := tt_of 1289 (by decide +kernel) rfl
set_option maxRecDepth 100000 in
theorem w_1290 : Cond.code ⟨"SignalEngine$Reactor", "closeOutputs", "()V"⟩ prog_12_method_6_code 2 (Option.none : Option Jvm.ClassFile.FieldType) ∈ tt := tt_of 1290 rfl rfl
theorem w_1291 : Cond.methodLink "SignalEngine$Reactor" 112 ⟨"SignalEngine$Reactor", "outputsAreKnown", "()Z"⟩ ∈ tt := tt_of 1291 (by decide +kernel) rfl
theorem w_1293 : Cond.instanceMethod ⟨"SignalEngine$Reactor", "outputsAreKnown", "()Z"⟩ ∈ tt := tt_of 1293 (by decide +kernel) rfl
set_option maxRecDepth 100000 in
theorem w_1294 : Cond.code ⟨"SignalEngine$Reactor", "outputsAreKnown", "()Z"⟩ prog_12_method_7_code 2 (Option.some Jvm.ClassFile.FieldType.boolean) ∈ tt := tt_of 1294 rfl rfl
theorem w_1295 : Cond.methodLink "SignalEngine" 160 ⟨"java/lang/System", "arraycopy", "(Ljava/lang/Object;ILjava/lang/Object;II)V"⟩ ∈ tt := tt_of 1295 (by decide +kernel) rfl
theorem w_1310 : Cond.methodLink "SignalEngine" 179 ⟨"SignalEngine$Program", "canBeExplored", "()Z"⟩ ∈ tt := tt_of 1310 (by decide +kernel) rfl
theorem w_1311 : Cond.instanceMethod ⟨"SignalEngine$Program", "canBeExplored", "()Z"⟩ ∈ tt := tt_of 1311 (by decide +kernel) rfl
theorem w_1312 : Cond.selects "SignalEngine$Program" ⟨"SignalEngine$Program", "canBeExplored", "()Z"⟩ ⟨"SignalEngine$Program", "canBeExplored", "()Z"⟩ ∈ tt := tt_of 1312 (by decide +kernel) rfl
set_option maxRecDepth 100000 in
theorem w_1313 : Cond.code ⟨"SignalEngine$Program", "canBeExplored", "()Z"⟩ prog_11_method_6_code 1 (Option.some Jvm.ClassFile.FieldType.boolean) ∈ tt := tt_of 1313 rfl rfl
theorem w_1314 : Cond.classLink "SignalEngine" 174 "SignalEngine$Atlas" ∈ tt := tt_of 1314 (by decide +kernel) rfl
theorem w_1315 : Cond.instantiable "SignalEngine$Atlas" 15 ∈ tt := tt_of 1315 (by decide +kernel) rfl
theorem w_1317 : Cond.instanceMethod ⟨"SignalEngine$Atlas", "<init>", "()V"⟩ ∈ tt := tt_of 1317 (by decide +kernel) rfl
set_option maxRecDepth 100000 in
theorem w_1318 : Cond.code ⟨"SignalEngine$Atlas", "<init>", "()V"⟩ prog_3_method_1_code 1 (Option.none : Option Jvm.ClassFile.FieldType) ∈ tt := tt_of 1318 rfl rfl
theorem w_1319 : Cond.methodLink "SignalEngine$Atlas" 3 ⟨"java/lang/Object", "<init>", "()V"⟩ ∈ tt := tt_of 1319 (by decide +kernel) rfl
theorem w_1320 : Cond.fieldLink "SignalEngine$Atlas" 11 "SignalEngine$Atlas" "follows" "[I" ∈ tt := tt_of 1320 (by decide +kernel) rfl
theorem w_1323 : Cond.fieldLink "SignalEngine$Atlas" 15 "SignalEngine$Atlas" "emits" "[I" ∈ tt := tt_of 1323 (by decide +kernel) rfl
theorem w_1326 : Cond.fieldLink "SignalEngine$Atlas" 18 "SignalEngine$Atlas" "far" "[I" ∈ tt := tt_of 1326 (by decide +kernel) rfl
theorem w_1328 : Cond.fieldLink "SignalEngine$Atlas" 21 "SignalEngine$Atlas" "cameFrom" "[I" ∈ tt := tt_of 1328 (by decide +kernel) rfl
theorem w_1329 : Cond.fieldLink "SignalEngine$Atlas" 24 "SignalEngine$Atlas" "cameOn" "[I" ∈ tt := tt_of 1329 (by decide +kernel) rfl
theorem w_1330 : Cond.fieldLink "SignalEngine$Atlas" 27 "SignalEngine$Atlas" "order" "[I" ∈ tt := tt_of 1330 (by decide +kernel) rfl
theorem w_1331 : Cond.fieldLink "SignalEngine$Atlas" 30 "SignalEngine$Atlas" "group" "[I" ∈ tt := tt_of 1331 (by decide +kernel) rfl
theorem w_1333 : Cond.fieldLink "SignalEngine$Atlas" 33 "SignalEngine$Atlas" "split" "[I" ∈ tt := tt_of 1333 (by decide +kernel) rfl
theorem w_1334 : Cond.fieldLink "SignalEngine$Atlas" 40 "SignalEngine$Atlas" "options" "I" ∈ tt := tt_of 1334 (by decide +kernel) rfl
theorem w_1335 : Cond.fieldLink "SignalEngine$Atlas" 58 "SignalEngine$Atlas" "reached" "I" ∈ tt := tt_of 1335 (by decide +kernel) rfl
theorem w_1337 : Cond.fieldLink "SignalEngine$Atlas" 61 "SignalEngine$Atlas" "reactions" "I" ∈ tt := tt_of 1337 (by decide +kernel) rfl
theorem w_1339 : Cond.fieldLink "SignalEngine$Atlas" 64 "SignalEngine$Atlas" "steady" "I" ∈ tt := tt_of 1339 (by decide +kernel) rfl
theorem w_1341 : Cond.fieldLink "SignalEngine$Atlas" 117 "SignalEngine$Atlas" "groups" "I" ∈ tt := tt_of 1341 (by decide +kernel) rfl
theorem w_1343 : Cond.fieldLink "SignalEngine$Atlas" 67 "SignalEngine$Atlas" "doubtState" "I" ∈ tt := tt_of 1343 (by decide +kernel) rfl
theorem w_1345 : Cond.fieldLink "SignalEngine$Atlas" 109 "SignalEngine$Atlas" "doubtInputs" "I" ∈ tt := tt_of 1345 (by decide +kernel) rfl
theorem w_1378 : Cond.methodLink "SignalEngine" 184 ⟨"SignalEngine$Atlas", "survey", "(LSignalEngine$Program;LSignalEngine$Reactor;)V"⟩ ∈ tt := tt_of 1378 (by decide +kernel) rfl
theorem w_1379 : Cond.instanceMethod ⟨"SignalEngine$Atlas", "survey", "(LSignalEngine$Program;LSignalEngine$Reactor;)V"⟩ ∈ tt := tt_of 1379 (by decide +kernel) rfl
theorem w_1380 : Cond.selects "SignalEngine$Atlas" ⟨"SignalEngine$Atlas", "survey", "(LSignalEngine$Program;LSignalEngine$Reactor;)V"⟩ ⟨"SignalEngine$Atlas", "survey", "(LSignalEngine$Program;LSignalEngine$Reactor;)V"⟩ ∈ tt := tt_of 1380 (by decide +kernel) rfl
set_option maxRecDepth 100000 in
theorem w_1381 : Cond.code ⟨"SignalEngine$Atlas", "survey", "(LSignalEngine$Program;LSignalEngine$Reactor;)V"⟩ prog_3_method_5_code 5 (Option.none : Option Jvm.ClassFile.FieldType) ∈ tt := tt_of 1381 rfl rfl
theorem w_1382 : Cond.methodLink "SignalEngine$Atlas" 52 ⟨"java/util/Arrays", "fill", "([II)V"⟩ ∈ tt := tt_of 1382 (by decide +kernel) rfl
theorem w_1383 : Cond.methodLink "SignalEngine$Atlas" 70 ⟨"SignalEngine$Atlas", "meet", "(III)V"⟩ ∈ tt := tt_of 1383 (by decide +kernel) rfl
theorem w_1385 : Cond.instanceMethod ⟨"SignalEngine$Atlas", "meet", "(III)V"⟩ ∈ tt := tt_of 1385 (by decide +kernel) rfl
set_option maxRecDepth 100000 in
theorem w_1386 : Cond.code ⟨"SignalEngine$Atlas", "meet", "(III)V"⟩ prog_3_method_6_code 4 (Option.none : Option Jvm.ClassFile.FieldType) ∈ tt := tt_of 1386 rfl rfl
theorem w_1387 : Cond.methodLink "SignalEngine$Atlas" 74 ⟨"SignalEngine$Atlas", "tryAll", "(ILSignalEngine$Program;LSignalEngine$Reactor;[Z)V"⟩ ∈ tt := tt_of 1387 (by decide +kernel) rfl
theorem w_1389 : Cond.instanceMethod ⟨"SignalEngine$Atlas", "tryAll", "(ILSignalEngine$Program;LSignalEngine$Reactor;[Z)V"⟩ ∈ tt := tt_of 1389 (by decide +kernel) rfl
set_option maxRecDepth 100000 in
theorem w_1390 : Cond.code ⟨"SignalEngine$Atlas", "tryAll", "(ILSignalEngine$Program;LSignalEngine$Reactor;[Z)V"⟩ prog_3_method_7_code 9 (Option.none : Option Jvm.ClassFile.FieldType) ∈ tt := tt_of 1390 rfl rfl
theorem w_1391 : Cond.methodLink "SignalEngine$Atlas" 81 ⟨"SignalEngine$Reactor", "react", "(IZ[Z)I"⟩ ∈ tt := tt_of 1391 (by decide +kernel) rfl
theorem w_1392 : Cond.methodLink "SignalEngine$Atlas" 91 ⟨"SignalEngine$Atlas", "note", "(IILSignalEngine$Program;LSignalEngine$Reactor;)V"⟩ ∈ tt := tt_of 1392 (by decide +kernel) rfl
theorem w_1394 : Cond.instanceMethod ⟨"SignalEngine$Atlas", "note", "(IILSignalEngine$Program;LSignalEngine$Reactor;)V"⟩ ∈ tt := tt_of 1394 (by decide +kernel) rfl
set_option maxRecDepth 100000 in
theorem w_1395 : Cond.code ⟨"SignalEngine$Atlas", "note", "(IILSignalEngine$Program;LSignalEngine$Reactor;)V"⟩ prog_3_method_8_code 8 (Option.none : Option Jvm.ClassFile.FieldType) ∈ tt := tt_of 1395 rfl rfl
theorem w_1396 : Cond.methodLink "SignalEngine$Atlas" 95 ⟨"SignalEngine$Atlas", "noteDoubt", "(II)V"⟩ ∈ tt := tt_of 1396 (by decide +kernel) rfl
theorem w_1398 : Cond.instanceMethod ⟨"SignalEngine$Atlas", "noteDoubt", "(II)V"⟩ ∈ tt := tt_of 1398 (by decide +kernel) rfl
set_option maxRecDepth 100000 in
theorem w_1399 : Cond.code ⟨"SignalEngine$Atlas", "noteDoubt", "(II)V"⟩ prog_3_method_9_code 4 (Option.none : Option Jvm.ClassFile.FieldType) ∈ tt := tt_of 1399 rfl rfl
theorem w_1400 : Cond.methodLink "SignalEngine$Atlas" 36 ⟨"SignalEngine$Atlas", "reaches", "(I)Z"⟩ ∈ tt := tt_of 1400 (by decide +kernel) rfl
theorem w_1401 : Cond.methodLink "SignalEngine$Atlas" 78 ⟨"SignalEngine$Atlas", "sortOut", "()V"⟩ ∈ tt := tt_of 1401 (by decide +kernel) rfl
theorem w_1403 : Cond.instanceMethod ⟨"SignalEngine$Atlas", "sortOut", "()V"⟩ ∈ tt := tt_of 1403 (by decide +kernel) rfl
set_option maxRecDepth 100000 in
theorem w_1404 : Cond.code ⟨"SignalEngine$Atlas", "sortOut", "()V"⟩ prog_3_method_12_code 4 (Option.none : Option Jvm.ClassFile.FieldType) ∈ tt := tt_of 1404 rfl rfl
theorem w_1405 : Cond.methodLink "SignalEngine$Atlas" 112 ⟨"java/lang/Math", "min", "(II)I"⟩ ∈ tt := tt_of 1405 (by decide +kernel) rfl
theorem w_1406 : Cond.methodLink "SignalEngine$Atlas" 120 ⟨"SignalEngine$Atlas", "splitGroups", "()V"⟩ ∈ tt := tt_of 1406 (by decide +kernel) rfl
theorem w_1408 : Cond.instanceMethod ⟨"SignalEngine$Atlas", "splitGroups", "()V"⟩ ∈ tt := tt_of 1408 (by decide +kernel) rfl
set_option maxRecDepth 100000 in
theorem w_1409 : Cond.code ⟨"SignalEngine$Atlas", "splitGroups", "()V"⟩ prog_3_method_13_code 2 (Option.none : Option Jvm.ClassFile.FieldType) ∈ tt := tt_of 1409 rfl rfl
theorem w_1410 : Cond.methodLink "SignalEngine$Atlas" 123 ⟨"SignalEngine$Atlas", "leastAlike", "(I)I"⟩ ∈ tt := tt_of 1410 (by decide +kernel) rfl
theorem w_1412 : Cond.instanceMethod ⟨"SignalEngine$Atlas", "leastAlike", "(I)I"⟩ ∈ tt := tt_of 1412 (by decide +kernel) rfl
set_option maxRecDepth 100000 in
theorem w_1413 : Cond.code ⟨"SignalEngine$Atlas", "leastAlike", "(I)I"⟩ prog_3_method_14_code 4 (Option.some Jvm.ClassFile.FieldType.int) ∈ tt := tt_of 1413 rfl rfl
theorem w_1414 : Cond.methodLink "SignalEngine$Atlas" 133 ⟨"SignalEngine$Atlas", "actAlike", "(II)Z"⟩ ∈ tt := tt_of 1414 (by decide +kernel) rfl
theorem w_1416 : Cond.instanceMethod ⟨"SignalEngine$Atlas", "actAlike", "(II)Z"⟩ ∈ tt := tt_of 1416 (by decide +kernel) rfl
set_option maxRecDepth 100000 in
theorem w_1417 : Cond.code ⟨"SignalEngine$Atlas", "actAlike", "(II)Z"⟩ prog_3_method_15_code 7 (Option.some Jvm.ClassFile.FieldType.boolean) ∈ tt := tt_of 1417 rfl rfl
theorem w_1418 : Cond.methodLink "SignalEngine$Atlas" 127 ⟨"java/lang/System", "arraycopy", "(Ljava/lang/Object;ILjava/lang/Object;II)V"⟩ ∈ tt := tt_of 1418 (by decide +kernel) rfl
theorem w_1426 : Cond.methodLink "SignalEngine" 197 ⟨"SignalEngine$Atlas", "has", "(II)Z"⟩ ∈ tt := tt_of 1426 (by decide +kernel) rfl
theorem w_1427 : Cond.instanceMethod ⟨"SignalEngine$Atlas", "has", "(II)Z"⟩ ∈ tt := tt_of 1427 (by decide +kernel) rfl
theorem w_1428 : Cond.selects "SignalEngine$Atlas" ⟨"SignalEngine$Atlas", "has", "(II)Z"⟩ ⟨"SignalEngine$Atlas", "has", "(II)Z"⟩ ∈ tt := tt_of 1428 (by decide +kernel) rfl
set_option maxRecDepth 100000 in
theorem w_1429 : Cond.code ⟨"SignalEngine$Atlas", "has", "(II)Z"⟩ prog_3_method_4_code 3 (Option.some Jvm.ClassFile.FieldType.boolean) ∈ tt := tt_of 1429 rfl rfl
theorem w_1430 : Cond.methodLink "SignalEngine" 204 ⟨"SignalEngine$Atlas", "cell", "(II)I"⟩ ∈ tt := tt_of 1430 (by decide +kernel) rfl
theorem w_1452 : Cond.classLink "SignalEngine" 237 "SignalEngine$Net" ∈ tt := tt_of 1452 (by decide +kernel) rfl
theorem w_1453 : Cond.instantiable "SignalEngine$Net" 15 ∈ tt := tt_of 1453 (by decide +kernel) rfl
theorem w_1455 : Cond.instanceMethod ⟨"SignalEngine$Net", "<init>", "()V"⟩ ∈ tt := tt_of 1455 (by decide +kernel) rfl
set_option maxRecDepth 100000 in
theorem w_1456 : Cond.code ⟨"SignalEngine$Net", "<init>", "()V"⟩ prog_7_method_1_code 1 (Option.none : Option Jvm.ClassFile.FieldType) ∈ tt := tt_of 1456 rfl rfl
theorem w_1457 : Cond.methodLink "SignalEngine$Net" 3 ⟨"java/lang/Object", "<init>", "()V"⟩ ∈ tt := tt_of 1457 (by decide +kernel) rfl
theorem w_1458 : Cond.fieldLink "SignalEngine$Net" 11 "SignalEngine$Net" "layer" "[I" ∈ tt := tt_of 1458 (by decide +kernel) rfl
theorem w_1459 : Cond.fieldLink "SignalEngine$Net" 15 "SignalEngine$Net" "heads" "[I" ∈ tt := tt_of 1459 (by decide +kernel) rfl
theorem w_1460 : Cond.fieldLink "SignalEngine$Net" 18 "SignalEngine$Net" "atBit" "[I" ∈ tt := tt_of 1460 (by decide +kernel) rfl
theorem w_1462 : Cond.fieldLink "SignalEngine$Net" 21 "SignalEngine$Net" "roots" "[I" ∈ tt := tt_of 1462 (by decide +kernel) rfl
theorem w_1463 : Cond.fieldLink "SignalEngine$Net" 24 "SignalEngine$Net" "bit" "[I" ∈ tt := tt_of 1463 (by decide +kernel) rfl
theorem w_1464 : Cond.fieldLink "SignalEngine$Net" 27 "SignalEngine$Net" "low" "[I" ∈ tt := tt_of 1464 (by decide +kernel) rfl
theorem w_1465 : Cond.fieldLink "SignalEngine$Net" 30 "SignalEngine$Net" "high" "[I" ∈ tt := tt_of 1465 (by decide +kernel) rfl
theorem w_1466 : Cond.fieldLink "SignalEngine$Net" 33 "SignalEngine$Net" "chain" "[I" ∈ tt := tt_of 1466 (by decide +kernel) rfl
theorem w_1467 : Cond.fieldLink "SignalEngine$Net" 36 "SignalEngine$Net" "seen" "[I" ∈ tt := tt_of 1467 (by decide +kernel) rfl
theorem w_1468 : Cond.fieldLink "SignalEngine$Net" 39 "SignalEngine$Net" "made" "I" ∈ tt := tt_of 1468 (by decide +kernel) rfl
theorem w_1469 : Cond.fieldLink "SignalEngine$Net" 57 "SignalEngine$Net" "inputs" "I" ∈ tt := tt_of 1469 (by decide +kernel) rfl
theorem w_1470 : Cond.fieldLink "SignalEngine$Net" 61 "SignalEngine$Net" "outputs" "I" ∈ tt := tt_of 1470 (by decide +kernel) rfl
theorem w_1471 : Cond.fieldLink "SignalEngine$Net" 65 "SignalEngine$Net" "pauses" "I" ∈ tt := tt_of 1471 (by decide +kernel) rfl
theorem w_1472 : Cond.fieldLink "SignalEngine$Net" 66 "SignalEngine$Net" "functions" "I" ∈ tt := tt_of 1472 (by decide +kernel) rfl
theorem w_1474 : Cond.fieldLink "SignalEngine$Net" 49 "SignalEngine$Net" "looks" "I" ∈ tt := tt_of 1474 (by decide +kernel) rfl
theorem w_1506 : Cond.methodLink "SignalEngine" 240 ⟨"SignalEngine$Net", "build", "(LSignalEngine$Program;LSignalEngine$Atlas;)V"⟩ ∈ tt := tt_of 1506 (by decide +kernel) rfl
theorem w_1507 : Cond.instanceMethod ⟨"SignalEngine$Net", "build", "(LSignalEngine$Program;LSignalEngine$Atlas;)V"⟩ ∈ tt := tt_of 1507 (by decide +kernel) rfl
theorem w_1508 : Cond.selects "SignalEngine$Net" ⟨"SignalEngine$Net", "build", "(LSignalEngine$Program;LSignalEngine$Atlas;)V"⟩ ⟨"SignalEngine$Net", "build", "(LSignalEngine$Program;LSignalEngine$Atlas;)V"⟩ ∈ tt := tt_of 1508 (by decide +kernel) rfl
set_option maxRecDepth 100000 in
theorem w_1509 : Cond.code ⟨"SignalEngine$Net", "build", "(LSignalEngine$Program;LSignalEngine$Atlas;)V"⟩ prog_7_method_3_code 6 (Option.none : Option Jvm.ClassFile.FieldType) ∈ tt := tt_of 1509 rfl rfl
theorem w_1510 : Cond.methodLink "SignalEngine$Net" 43 ⟨"java/util/Arrays", "fill", "([II)V"⟩ ∈ tt := tt_of 1510 (by decide +kernel) rfl
theorem w_1511 : Cond.methodLink "SignalEngine$Net" 69 ⟨"SignalEngine$Net", "fold", "(IZLSignalEngine$Atlas;)I"⟩ ∈ tt := tt_of 1511 (by decide +kernel) rfl
theorem w_1513 : Cond.instanceMethod ⟨"SignalEngine$Net", "fold", "(IZLSignalEngine$Atlas;)I"⟩ ∈ tt := tt_of 1513 (by decide +kernel) rfl
set_option maxRecDepth 100000 in
theorem w_1514 : Cond.code ⟨"SignalEngine$Net", "fold", "(IZLSignalEngine$Atlas;)I"⟩ prog_7_method_4_code 9 (Option.some Jvm.ClassFile.FieldType.int) ∈ tt := tt_of 1514 rfl rfl
theorem w_1515 : Cond.methodLink "SignalEngine$Net" 77 ⟨"SignalEngine$Net", "turned", "(II)I"⟩ ∈ tt := tt_of 1515 (by decide +kernel) rfl
theorem w_1516 : Cond.static ⟨"SignalEngine$Net", "turned", "(II)I"⟩ ∈ tt := tt_of 1516 (by decide +kernel) rfl
set_option maxRecDepth 100000 in
theorem w_1517 : Cond.code ⟨"SignalEngine$Net", "turned", "(II)I"⟩ prog_7_method_5_code 4 (Option.some Jvm.ClassFile.FieldType.int) ∈ tt := tt_of 1517 rfl rfl
theorem w_1518 : Cond.methodLink "SignalEngine$Net" 81 ⟨"SignalEngine$Net", "truth", "(IIILSignalEngine$Atlas;)I"⟩ ∈ tt := tt_of 1518 (by decide +kernel) rfl
theorem w_1520 : Cond.instanceMethod ⟨"SignalEngine$Net", "truth", "(IIILSignalEngine$Atlas;)I"⟩ ∈ tt := tt_of 1520 (by decide +kernel) rfl
set_option maxRecDepth 100000 in
theorem w_1521 : Cond.code ⟨"SignalEngine$Net", "truth", "(IIILSignalEngine$Atlas;)I"⟩ prog_7_method_6_code 7 (Option.some Jvm.ClassFile.FieldType.int) ∈ tt := tt_of 1521 rfl rfl
theorem w_1522 : Cond.methodLink "SignalEngine$Net" 85 ⟨"SignalEngine$Atlas", "cell", "(II)I"⟩ ∈ tt := tt_of 1522 (by decide +kernel) rfl
theorem w_1523 : Cond.methodLink "SignalEngine$Net" 90 ⟨"SignalEngine$Atlas", "reaches", "(I)Z"⟩ ∈ tt := tt_of 1523 (by decide +kernel) rfl
theorem w_1524 : Cond.methodLink "SignalEngine$Net" 73 ⟨"SignalEngine$Net", "multiplexer", "(III)I"⟩ ∈ tt := tt_of 1524 (by decide +kernel) rfl
theorem w_1526 : Cond.instanceMethod ⟨"SignalEngine$Net", "multiplexer", "(III)I"⟩ ∈ tt := tt_of 1526 (by decide +kernel) rfl
set_option maxRecDepth 100000 in
theorem w_1527 : Cond.code ⟨"SignalEngine$Net", "multiplexer", "(III)I"⟩ prog_7_method_7_code 7 (Option.some Jvm.ClassFile.FieldType.int) ∈ tt := tt_of 1527 rfl rfl
theorem w_1528 : Cond.methodLink "SignalEngine$Net" 100 ⟨"SignalEngine$Net", "add", "(IIII)I"⟩ ∈ tt := tt_of 1528 (by decide +kernel) rfl
theorem w_1530 : Cond.instanceMethod ⟨"SignalEngine$Net", "add", "(IIII)I"⟩ ∈ tt := tt_of 1530 (by decide +kernel) rfl
set_option maxRecDepth 100000 in
theorem w_1531 : Cond.code ⟨"SignalEngine$Net", "add", "(IIII)I"⟩ prog_7_method_8_code 5 (Option.some Jvm.ClassFile.FieldType.int) ∈ tt := tt_of 1531 rfl rfl
theorem w_1532 : Cond.methodLink "SignalEngine$Net" 104 ⟨"SignalEngine$Net", "widen", "(I)V"⟩ ∈ tt := tt_of 1532 (by decide +kernel) rfl
theorem w_1534 : Cond.instanceMethod ⟨"SignalEngine$Net", "widen", "(I)V"⟩ ∈ tt := tt_of 1534 (by decide +kernel) rfl
set_option maxRecDepth 100000 in
theorem w_1535 : Cond.code ⟨"SignalEngine$Net", "widen", "(I)V"⟩ prog_7_method_9_code 2 (Option.none : Option Jvm.ClassFile.FieldType) ∈ tt := tt_of 1535 rfl rfl
theorem w_1536 : Cond.methodLink "SignalEngine$Net" 108 ⟨"java/util/Arrays", "copyOf", "([II)[I"⟩ ∈ tt := tt_of 1536 (by decide +kernel) rfl
theorem w_1544 : Cond.methodLink "SignalEngine" 247 ⟨"SignalEngine$Net", "truthsOn", "(I)J"⟩ ∈ tt := tt_of 1544 (by decide +kernel) rfl
theorem w_1545 : Cond.instanceMethod ⟨"SignalEngine$Net", "truthsOn", "(I)J"⟩ ∈ tt := tt_of 1545 (by decide +kernel) rfl
theorem w_1546 : Cond.selects "SignalEngine$Net" ⟨"SignalEngine$Net", "truthsOn", "(I)J"⟩ ⟨"SignalEngine$Net", "truthsOn", "(I)J"⟩ ∈ tt := tt_of 1546 (by decide +kernel) rfl
set_option maxRecDepth 100000 in
theorem w_1547 : Cond.code ⟨"SignalEngine$Net", "truthsOn", "(I)J"⟩ prog_7_method_10_code 5 (Option.some Jvm.ClassFile.FieldType.long) ∈ tt := tt_of 1547 rfl rfl
theorem w_1548 : Cond.methodLink "SignalEngine$Net" 112 ⟨"SignalEngine$Net", "truthOn", "(II)I"⟩ ∈ tt := tt_of 1548 (by decide +kernel) rfl
theorem w_1550 : Cond.instanceMethod ⟨"SignalEngine$Net", "truthOn", "(II)I"⟩ ∈ tt := tt_of 1550 (by decide +kernel) rfl
set_option maxRecDepth 100000 in
theorem w_1551 : Cond.code ⟨"SignalEngine$Net", "truthOn", "(II)I"⟩ prog_7_method_11_code 5 (Option.some Jvm.ClassFile.FieldType.int) ∈ tt := tt_of 1551 rfl rfl
theorem wp_24 : Cond.selects "SignalEngine$Pieces" ⟨"SignalEngine$Pieces", "widen", "(I)V"⟩ ⟨"SignalEngine$Pieces", "widen", "(I)V"⟩ ∈ tt := tt_sel 24 (by decide +kernel) rfl
theorem wp_35 : Cond.selects "SignalEngine$Pieces" ⟨"SignalEngine$Pieces", "copyPiece", "(LSignalEngine$Pieces;I)V"⟩ ⟨"SignalEngine$Pieces", "copyPiece", "(LSignalEngine$Pieces;I)V"⟩ ∈ tt := tt_sel 35 (by decide +kernel) rfl
theorem wp_37 : Cond.selects "SignalEngine$Reactor" ⟨"SignalEngine$Reactor", "givePlaces", "()I"⟩ ⟨"SignalEngine$Reactor", "givePlaces", "()I"⟩ ∈ tt := tt_sel 37 (by decide +kernel) rfl
theorem wp_38 : Cond.selects "SignalEngine" ⟨"SignalEngine", "figure", "(I)I"⟩ ⟨"SignalEngine", "figure", "(I)I"⟩ ∈ tt := tt_sel 38 (by decide +kernel) rfl
theorem wp_39 : Cond.selects "SignalEngine" ⟨"SignalEngine", "heldPauses", "()I"⟩ ⟨"SignalEngine", "heldPauses", "()I"⟩ ∈ tt := tt_sel 39 (by decide +kernel) rfl
theorem wp_40 : Cond.selects "SignalEngine" ⟨"SignalEngine", "stand", "(I)V"⟩ ⟨"SignalEngine", "stand", "(I)V"⟩ ∈ tt := tt_sel 40 (by decide +kernel) rfl
theorem wp_41 : Cond.selects "SignalEngine$Reactor" ⟨"SignalEngine$Reactor", "prepare", "(I[Z)V"⟩ ⟨"SignalEngine$Reactor", "prepare", "(I[Z)V"⟩ ∈ tt := tt_sel 41 (by decide +kernel) rfl
theorem wp_42 : Cond.selects "SignalEngine$Reactor" ⟨"SignalEngine$Reactor", "goThrough", "(Z)V"⟩ ⟨"SignalEngine$Reactor", "goThrough", "(Z)V"⟩ ∈ tt := tt_sel 42 (by decide +kernel) rfl
theorem wp_43 : Cond.selects "SignalEngine$Reactor" ⟨"SignalEngine$Reactor", "clear", "(I)V"⟩ ⟨"SignalEngine$Reactor", "clear", "(I)V"⟩ ∈ tt := tt_sel 43 (by decide +kernel) rfl
theorem wp_44 : Cond.selects "SignalEngine$Reactor" ⟨"SignalEngine$Reactor", "within", "(IZ)I"⟩ ⟨"SignalEngine$Reactor", "within", "(IZ)I"⟩ ∈ tt := tt_sel 44 (by decide +kernel) rfl
theorem wp_45 : Cond.selects "SignalEngine$Reactor" ⟨"SignalEngine$Reactor", "beginStart", "(I)I"⟩ ⟨"SignalEngine$Reactor", "beginStart", "(I)I"⟩ ∈ tt := tt_sel 45 (by decide +kernel) rfl
theorem wp_46 : Cond.selects "SignalEngine$Reactor" ⟨"SignalEngine$Reactor", "answer", "(III)V"⟩ ⟨"SignalEngine$Reactor", "answer", "(III)V"⟩ ∈ tt := tt_sel 46 (by decide +kernel) rfl
theorem wp_47 : Cond.selects "SignalEngine$Reactor" ⟨"SignalEngine$Reactor", "emit", "(IZ)V"⟩ ⟨"SignalEngine$Reactor", "emit", "(IZ)V"⟩ ∈ tt := tt_sel 47 (by decide +kernel) rfl
theorem wp_48 : Cond.selects "SignalEngine$Reactor" ⟨"SignalEngine$Reactor", "beginPresent", "(I)I"⟩ ⟨"SignalEngine$Reactor", "beginPresent", "(I)I"⟩ ∈ tt := tt_sel 48 (by decide +kernel) rfl
theorem wp_49 : Cond.selects "SignalEngine$Reactor" ⟨"SignalEngine$Reactor", "valueOf", "(I)I"⟩ ⟨"SignalEngine$Reactor", "valueOf", "(I)I"⟩ ∈ tt := tt_sel 49 (by decide +kernel) rfl
theorem wp_50 : Cond.selects "SignalEngine$Reactor" ⟨"SignalEngine$Reactor", "beginResume", "(I)I"⟩ ⟨"SignalEngine$Reactor", "beginResume", "(I)I"⟩ ∈ tt := tt_sel 50 (by decide +kernel) rfl
theorem wp_51 : Cond.selects "SignalEngine$Reactor" ⟨"SignalEngine$Reactor", "beginSuspend", "(I)I"⟩ ⟨"SignalEngine$Reactor", "beginSuspend", "(I)I"⟩ ∈ tt := tt_sel 51 (by decide +kernel) rfl
theorem wp_52 : Cond.selects "SignalEngine$Reactor" ⟨"SignalEngine$Reactor", "answerEnded", "(I)V"⟩ ⟨"SignalEngine$Reactor", "answerEnded", "(I)V"⟩ ∈ tt := tt_sel 52 (by decide +kernel) rfl
theorem wp_53 : Cond.selects "SignalEngine$Reactor" ⟨"SignalEngine$Reactor", "isHeld", "(I)Z"⟩ ⟨"SignalEngine$Reactor", "isHeld", "(I)Z"⟩ ∈ tt := tt_sel 53 (by decide +kernel) rfl
theorem wp_54 : Cond.selects "SignalEngine$Reactor" ⟨"SignalEngine$Reactor", "comeBack", "(II)I"⟩ ⟨"SignalEngine$Reactor", "comeBack", "(II)I"⟩ ∈ tt := tt_sel 54 (by decide +kernel) rfl
theorem wp_55 : Cond.selects "SignalEngine$Reactor" ⟨"SignalEngine$Reactor", "putBehind", "(II)V"⟩ ⟨"SignalEngine$Reactor", "putBehind", "(II)V"⟩ ∈ tt := tt_sel 55 (by decide +kernel) rfl
theorem wp_56 : Cond.selects "SignalEngine$Reactor" ⟨"SignalEngine$Reactor", "goOnStart", "(II)I"⟩ ⟨"SignalEngine$Reactor", "goOnStart", "(II)I"⟩ ∈ tt := tt_sel 56 (by decide +kernel) rfl
theorem wp_57 : Cond.selects "SignalEngine$Reactor" ⟨"SignalEngine$Reactor", "goOnPresent", "(II)I"⟩ ⟨"SignalEngine$Reactor", "goOnPresent", "(II)I"⟩ ∈ tt := tt_sel 57 (by decide +kernel) rfl
theorem wp_58 : Cond.selects "SignalEngine$Reactor" ⟨"SignalEngine$Reactor", "closeBoth", "(I)V"⟩ ⟨"SignalEngine$Reactor", "closeBoth", "(I)V"⟩ ∈ tt := tt_sel 58 (by decide +kernel) rfl
theorem wp_59 : Cond.selects "SignalEngine$Reactor" ⟨"SignalEngine$Reactor", "closeSingle", "(II)V"⟩ ⟨"SignalEngine$Reactor", "closeSingle", "(II)V"⟩ ∈ tt := tt_sel 59 (by decide +kernel) rfl
theorem wp_60 : Cond.selects "SignalEngine$Reactor" ⟨"SignalEngine$Reactor", "settleAbsent", "(I)V"⟩ ⟨"SignalEngine$Reactor", "settleAbsent", "(I)V"⟩ ∈ tt := tt_sel 60 (by decide +kernel) rfl
theorem wp_61 : Cond.selects "SignalEngine$Reactor" ⟨"SignalEngine$Reactor", "goOnResume", "(II)I"⟩ ⟨"SignalEngine$Reactor", "goOnResume", "(II)I"⟩ ∈ tt := tt_sel 61 (by decide +kernel) rfl
theorem wp_62 : Cond.selects "SignalEngine$Reactor" ⟨"SignalEngine$Reactor", "startBehind", "(II)I"⟩ ⟨"SignalEngine$Reactor", "startBehind", "(II)I"⟩ ∈ tt := tt_sel 62 (by decide +kernel) rfl
theorem wp_63 : Cond.selects "SignalEngine$Reactor" ⟨"SignalEngine$Reactor", "closeOutputs", "()V"⟩ ⟨"SignalEngine$Reactor", "closeOutputs", "()V"⟩ ∈ tt := tt_sel 63 (by decide +kernel) rfl
theorem wp_64 : Cond.selects "SignalEngine$Reactor" ⟨"SignalEngine$Reactor", "outputsAreKnown", "()Z"⟩ ⟨"SignalEngine$Reactor", "outputsAreKnown", "()Z"⟩ ∈ tt := tt_sel 64 (by decide +kernel) rfl
theorem wp_65 : Cond.selects "SignalEngine$Atlas" ⟨"SignalEngine$Atlas", "meet", "(III)V"⟩ ⟨"SignalEngine$Atlas", "meet", "(III)V"⟩ ∈ tt := tt_sel 65 (by decide +kernel) rfl
theorem wp_66 : Cond.selects "SignalEngine$Atlas" ⟨"SignalEngine$Atlas", "tryAll", "(ILSignalEngine$Program;LSignalEngine$Reactor;[Z)V"⟩ ⟨"SignalEngine$Atlas", "tryAll", "(ILSignalEngine$Program;LSignalEngine$Reactor;[Z)V"⟩ ∈ tt := tt_sel 66 (by decide +kernel) rfl
theorem wp_67 : Cond.selects "SignalEngine$Atlas" ⟨"SignalEngine$Atlas", "note", "(IILSignalEngine$Program;LSignalEngine$Reactor;)V"⟩ ⟨"SignalEngine$Atlas", "note", "(IILSignalEngine$Program;LSignalEngine$Reactor;)V"⟩ ∈ tt := tt_sel 67 (by decide +kernel) rfl
theorem wp_68 : Cond.selects "SignalEngine$Atlas" ⟨"SignalEngine$Atlas", "noteDoubt", "(II)V"⟩ ⟨"SignalEngine$Atlas", "noteDoubt", "(II)V"⟩ ∈ tt := tt_sel 68 (by decide +kernel) rfl
theorem wp_69 : Cond.selects "SignalEngine$Atlas" ⟨"SignalEngine$Atlas", "sortOut", "()V"⟩ ⟨"SignalEngine$Atlas", "sortOut", "()V"⟩ ∈ tt := tt_sel 69 (by decide +kernel) rfl
theorem wp_70 : Cond.selects "SignalEngine$Atlas" ⟨"SignalEngine$Atlas", "splitGroups", "()V"⟩ ⟨"SignalEngine$Atlas", "splitGroups", "()V"⟩ ∈ tt := tt_sel 70 (by decide +kernel) rfl
theorem wp_71 : Cond.selects "SignalEngine$Atlas" ⟨"SignalEngine$Atlas", "leastAlike", "(I)I"⟩ ⟨"SignalEngine$Atlas", "leastAlike", "(I)I"⟩ ∈ tt := tt_sel 71 (by decide +kernel) rfl
theorem wp_72 : Cond.selects "SignalEngine$Atlas" ⟨"SignalEngine$Atlas", "actAlike", "(II)Z"⟩ ⟨"SignalEngine$Atlas", "actAlike", "(II)Z"⟩ ∈ tt := tt_sel 72 (by decide +kernel) rfl
theorem wp_73 : Cond.selects "SignalEngine$Net" ⟨"SignalEngine$Net", "fold", "(IZLSignalEngine$Atlas;)I"⟩ ⟨"SignalEngine$Net", "fold", "(IZLSignalEngine$Atlas;)I"⟩ ∈ tt := tt_sel 73 (by decide +kernel) rfl
theorem wp_74 : Cond.selects "SignalEngine$Net" ⟨"SignalEngine$Net", "truth", "(IIILSignalEngine$Atlas;)I"⟩ ⟨"SignalEngine$Net", "truth", "(IIILSignalEngine$Atlas;)I"⟩ ∈ tt := tt_sel 74 (by decide +kernel) rfl
theorem wp_75 : Cond.selects "SignalEngine$Net" ⟨"SignalEngine$Net", "multiplexer", "(III)I"⟩ ⟨"SignalEngine$Net", "multiplexer", "(III)I"⟩ ∈ tt := tt_sel 75 (by decide +kernel) rfl
theorem wp_76 : Cond.selects "SignalEngine$Net" ⟨"SignalEngine$Net", "add", "(IIII)I"⟩ ⟨"SignalEngine$Net", "add", "(IIII)I"⟩ ∈ tt := tt_sel 76 (by decide +kernel) rfl
theorem wp_77 : Cond.selects "SignalEngine$Net" ⟨"SignalEngine$Net", "widen", "(I)V"⟩ ⟨"SignalEngine$Net", "widen", "(I)V"⟩ ∈ tt := tt_sel 77 (by decide +kernel) rfl
theorem wp_78 : Cond.selects "SignalEngine$Net" ⟨"SignalEngine$Net", "truthOn", "(II)I"⟩ ⟨"SignalEngine$Net", "truthOn", "(II)I"⟩ ∈ tt := tt_sel 78 (by decide +kernel) rfl
theorem wp_9 : Cond.selects "SignalEngine$Names" ⟨"SignalEngine$Names", "reads", "(ILSignalEngine$Lexer;)Z"⟩ ⟨"SignalEngine$Names", "reads", "(ILSignalEngine$Lexer;)Z"⟩ ∈ tt := tt_sel 9 (by decide +kernel) rfl
theorem wn_168 : Cond.fieldLinkNest "SignalEngine" 127 "SignalEngine$Pieces" "kind" "[I" "SignalEngine" ∈ nn := nn_of 168 (by decide +kernel) rfl
theorem wn_169 : Cond.fieldLinkNest "SignalEngine$Reactor" 232 "SignalEngine$Pieces" "kind" "[I" "SignalEngine" ∈ nn := nn_of 169 (by decide +kernel) rfl
theorem wn_171 : Cond.fieldLinkNest "SignalEngine" 128 "SignalEngine$Pieces" "first" "[I" "SignalEngine" ∈ nn := nn_of 171 (by decide +kernel) rfl
theorem wn_172 : Cond.fieldLinkNest "SignalEngine$Reactor" 231 "SignalEngine$Pieces" "first" "[I" "SignalEngine" ∈ nn := nn_of 172 (by decide +kernel) rfl
theorem wn_174 : Cond.fieldLinkNest "SignalEngine" 129 "SignalEngine$Pieces" "second" "[I" "SignalEngine" ∈ nn := nn_of 174 (by decide +kernel) rfl
theorem wn_175 : Cond.fieldLinkNest "SignalEngine$Reactor" 239 "SignalEngine$Pieces" "second" "[I" "SignalEngine" ∈ nn := nn_of 175 (by decide +kernel) rfl
theorem wn_177 : Cond.fieldLinkNest "SignalEngine$Draft" 129 "SignalEngine$Pieces" "extent" "[I" "SignalEngine" ∈ nn := nn_of 177 (by decide +kernel) rfl
theorem wn_178 : Cond.fieldLinkNest "SignalEngine$Reactor" 228 "SignalEngine$Pieces" "extent" "[I" "SignalEngine" ∈ nn := nn_of 178 (by decide +kernel) rfl
theorem wn_180 : Cond.fieldLinkNest "SignalEngine$Reactor" 51 "SignalEngine$Pieces" "made" "I" "SignalEngine" ∈ nn := nn_of 180 (by decide +kernel) rfl
theorem wn_182 : Cond.fieldLinkNest "SignalEngine$Program" 145 "SignalEngine$Pieces" "made" "I" "SignalEngine" ∈ nn := nn_of 182 (by decide +kernel) rfl
theorem wn_183 : Cond.fieldLinkNest "SignalEngine" 122 "SignalEngine$Pieces" "made" "I" "SignalEngine" ∈ nn := nn_of 183 (by decide +kernel) rfl
theorem wn_236 : Cond.fieldLinkNest "SignalEngine$Names" 35 "SignalEngine$Lexer" "from" "I" "SignalEngine" ∈ nn := nn_of 236 (by decide +kernel) rfl
theorem wn_238 : Cond.fieldLinkNest "SignalEngine$Names" 39 "SignalEngine$Lexer" "to" "I" "SignalEngine" ∈ nn := nn_of 238 (by decide +kernel) rfl
theorem wn_267 : Cond.fieldLinkNest "SignalEngine$Reactor" 25 "SignalEngine$Names" "made" "I" "SignalEngine" ∈ nn := nn_of 267 (by decide +kernel) rfl
theorem wn_270 : Cond.fieldLinkNest "SignalEngine$Program" 148 "SignalEngine$Names" "made" "I" "SignalEngine" ∈ nn := nn_of 270 (by decide +kernel) rfl
theorem wn_553 : Cond.fieldLinkNest "SignalEngine$Program" 124 "SignalEngine$Node" "kind" "I" "SignalEngine" ∈ nn := nn_of 553 (by decide +kernel) rfl
theorem wn_554 : Cond.fieldLinkNest "SignalEngine$Draft" 120 "SignalEngine$Node" "kind" "I" "SignalEngine" ∈ nn := nn_of 554 (by decide +kernel) rfl
theorem wn_556 : Cond.fieldLinkNest "SignalEngine$Program" 137 "SignalEngine$Node" "line" "I" "SignalEngine" ∈ nn := nn_of 556 (by decide +kernel) rfl
theorem wn_560 : Cond.fieldLinkNest "SignalEngine$Program" 126 "SignalEngine$Node" "first" "LSignalEngine$Node;" "SignalEngine" ∈ nn := nn_of 560 (by decide +kernel) rfl
theorem wn_561 : Cond.fieldLinkNest "SignalEngine$Draft" 78 "SignalEngine$Node" "first" "LSignalEngine$Node;" "SignalEngine" ∈ nn := nn_of 561 (by decide +kernel) rfl
theorem wn_563 : Cond.fieldLinkNest "SignalEngine$Program" 129 "SignalEngine$Node" "second" "LSignalEngine$Node;" "SignalEngine" ∈ nn := nn_of 563 (by decide +kernel) rfl
theorem wn_564 : Cond.fieldLinkNest "SignalEngine$Draft" 86 "SignalEngine$Node" "second" "LSignalEngine$Node;" "SignalEngine" ∈ nn := nn_of 564 (by decide +kernel) rfl
theorem wn_566 : Cond.fieldLinkNest "SignalEngine$Program" 133 "SignalEngine$Node" "number" "I" "SignalEngine" ∈ nn := nn_of 566 (by decide +kernel) rfl
theorem wn_567 : Cond.fieldLinkNest "SignalEngine$Draft" 36 "SignalEngine$Node" "number" "I" "SignalEngine" ∈ nn := nn_of 567 (by decide +kernel) rfl
theorem wn_570 : Cond.fieldLinkNest "SignalEngine$Draft" 47 "SignalEngine$Node" "trap" "I" "SignalEngine" ∈ nn := nn_of 570 (by decide +kernel) rfl
theorem wn_573 : Cond.fieldLinkNest "SignalEngine$Draft" 44 "SignalEngine$Node" "test" "I" "SignalEngine" ∈ nn := nn_of 573 (by decide +kernel) rfl
theorem wn_574 : Cond.fieldLinkNest "SignalEngine$Draft" 89 "SignalEngine$Node" "extent" "I" "SignalEngine" ∈ nn := nn_of 574 (by decide +kernel) rfl
theorem wn_575 : Cond.fieldLinkNest "SignalEngine$Program" 110 "SignalEngine$Node" "place" "I" "SignalEngine" ∈ nn := nn_of 575 (by decide +kernel) rfl
theorem wn_576 : Cond.fieldLinkNest "SignalEngine$Draft" 132 "SignalEngine$Node" "place" "I" "SignalEngine" ∈ nn := nn_of 576 (by decide +kernel) rfl
theorem wn_578 : Cond.fieldLinkNest "SignalEngine$Program" 131 "SignalEngine$Node" "parent" "I" "SignalEngine" ∈ nn := nn_of 578 (by decide +kernel) rfl
theorem wn_579 : Cond.fieldLinkNest "SignalEngine$Draft" 139 "SignalEngine$Node" "parent" "I" "SignalEngine" ∈ nn := nn_of 579 (by decide +kernel) rfl
theorem wn_580 : Cond.fieldLinkNest "SignalEngine$Draft" 111 "SignalEngine$Node" "traps" "I" "SignalEngine" ∈ nn := nn_of 580 (by decide +kernel) rfl
theorem wn_582 : Cond.fieldLinkNest "SignalEngine$Program" 139 "SignalEngine$Node" "weight" "I" "SignalEngine" ∈ nn := nn_of 582 (by decide +kernel) rfl
theorem wn_583 : Cond.fieldLinkNest "SignalEngine$Draft" 105 "SignalEngine$Node" "weight" "I" "SignalEngine" ∈ nn := nn_of 583 (by decide +kernel) rfl
theorem wn_584 : Cond.fieldLinkNest "SignalEngine$Program" 135 "SignalEngine$Node" "codes" "I" "SignalEngine" ∈ nn := nn_of 584 (by decide +kernel) rfl
theorem wn_585 : Cond.fieldLinkNest "SignalEngine$Draft" 99 "SignalEngine$Node" "codes" "I" "SignalEngine" ∈ nn := nn_of 585 (by decide +kernel) rfl
theorem wn_842 : Cond.methodLinkNest "SignalEngine$Draft" 142 ⟨"SignalEngine", "greaterOfPairs", "(II)I"⟩ "SignalEngine" ∈ nn := nn_of 842 (by decide +kernel) rfl
theorem wn_848 : Cond.methodLinkNest "SignalEngine$Draft" 145 ⟨"SignalEngine", "withoutTrap", "(I)I"⟩ "SignalEngine" ∈ nn := nn_of 848 (by decide +kernel) rfl
theorem wn_890 : Cond.fieldLinkNest "SignalEngine$Reactor" 21 "SignalEngine$Program" "names" "LSignalEngine$Names;" "SignalEngine" ∈ nn := nn_of 890 (by decide +kernel) rfl
theorem wn_892 : Cond.fieldLinkNest "SignalEngine" 130 "SignalEngine$Program" "names" "LSignalEngine$Names;" "SignalEngine" ∈ nn := nn_of 892 (by decide +kernel) rfl
theorem wn_894 : Cond.fieldLinkNest "SignalEngine$Reactor" 79 "SignalEngine$Program" "inputs" "I" "SignalEngine" ∈ nn := nn_of 894 (by decide +kernel) rfl
theorem wn_895 : Cond.fieldLinkNest "SignalEngine$Net" 52 "SignalEngine$Program" "inputs" "I" "SignalEngine" ∈ nn := nn_of 895 (by decide +kernel) rfl
theorem wn_896 : Cond.fieldLinkNest "SignalEngine$Atlas" 49 "SignalEngine$Program" "inputs" "I" "SignalEngine" ∈ nn := nn_of 896 (by decide +kernel) rfl
theorem wn_897 : Cond.fieldLinkNest "SignalEngine" 72 "SignalEngine$Program" "inputs" "I" "SignalEngine" ∈ nn := nn_of 897 (by decide +kernel) rfl
theorem wn_899 : Cond.fieldLinkNest "SignalEngine$Reactor" 82 "SignalEngine$Program" "outputs" "I" "SignalEngine" ∈ nn := nn_of 899 (by decide +kernel) rfl
theorem wn_900 : Cond.fieldLinkNest "SignalEngine$Net" 58 "SignalEngine$Program" "outputs" "I" "SignalEngine" ∈ nn := nn_of 900 (by decide +kernel) rfl
theorem wn_902 : Cond.fieldLinkNest "SignalEngine$Atlas" 103 "SignalEngine$Program" "outputs" "I" "SignalEngine" ∈ nn := nn_of 902 (by decide +kernel) rfl
theorem wn_904 : Cond.fieldLinkNest "SignalEngine$Reactor" 70 "SignalEngine$Program" "pauses" "I" "SignalEngine" ∈ nn := nn_of 904 (by decide +kernel) rfl
theorem wn_905 : Cond.fieldLinkNest "SignalEngine$Net" 62 "SignalEngine$Program" "pauses" "I" "SignalEngine" ∈ nn := nn_of 905 (by decide +kernel) rfl
theorem wn_906 : Cond.fieldLinkNest "SignalEngine$Atlas" 44 "SignalEngine$Program" "pauses" "I" "SignalEngine" ∈ nn := nn_of 906 (by decide +kernel) rfl
theorem wn_909 : Cond.fieldLinkNest "SignalEngine$Reactor" 139 "SignalEngine$Program" "weights" "I" "SignalEngine" ∈ nn := nn_of 909 (by decide +kernel) rfl
theorem wn_911 : Cond.fieldLinkNest "SignalEngine$Reactor" 47 "SignalEngine$Program" "pieces" "LSignalEngine$Pieces;" "SignalEngine" ∈ nn := nn_of 911 (by decide +kernel) rfl
theorem wn_913 : Cond.fieldLinkNest "SignalEngine" 118 "SignalEngine$Program" "pieces" "LSignalEngine$Pieces;" "SignalEngine" ∈ nn := nn_of 913 (by decide +kernel) rfl
theorem wn_914 : Cond.fieldLinkNest "SignalEngine$Reactor" 15 "SignalEngine$Program" "kind" "[I" "SignalEngine" ∈ nn := nn_of 914 (by decide +kernel) rfl
theorem wn_916 : Cond.fieldLinkNest "SignalEngine" 97 "SignalEngine$Program" "kind" "[I" "SignalEngine" ∈ nn := nn_of 916 (by decide +kernel) rfl
theorem wn_918 : Cond.fieldLinkNest "SignalEngine" 100 "SignalEngine$Program" "first" "[I" "SignalEngine" ∈ nn := nn_of 918 (by decide +kernel) rfl
theorem wn_919 : Cond.fieldLinkNest "SignalEngine$Reactor" 182 "SignalEngine$Program" "first" "[I" "SignalEngine" ∈ nn := nn_of 919 (by decide +kernel) rfl
theorem wn_921 : Cond.fieldLinkNest "SignalEngine" 103 "SignalEngine$Program" "second" "[I" "SignalEngine" ∈ nn := nn_of 921 (by decide +kernel) rfl
theorem wn_922 : Cond.fieldLinkNest "SignalEngine$Reactor" 188 "SignalEngine$Program" "second" "[I" "SignalEngine" ∈ nn := nn_of 922 (by decide +kernel) rfl
theorem wn_924 : Cond.fieldLinkNest "SignalEngine$Reactor" 149 "SignalEngine$Program" "parent" "[I" "SignalEngine" ∈ nn := nn_of 924 (by decide +kernel) rfl
theorem wn_926 : Cond.fieldLinkNest "SignalEngine$Reactor" 85 "SignalEngine$Program" "number" "[I" "SignalEngine" ∈ nn := nn_of 926 (by decide +kernel) rfl
theorem wn_927 : Cond.fieldLinkNest "SignalEngine" 106 "SignalEngine$Program" "number" "[I" "SignalEngine" ∈ nn := nn_of 927 (by decide +kernel) rfl
theorem wn_929 : Cond.fieldLinkNest "SignalEngine" 109 "SignalEngine$Program" "codes" "[I" "SignalEngine" ∈ nn := nn_of 929 (by decide +kernel) rfl
theorem wn_931 : Cond.fieldLinkNest "SignalEngine" 112 "SignalEngine$Program" "line" "[I" "SignalEngine" ∈ nn := nn_of 931 (by decide +kernel) rfl
theorem wn_933 : Cond.fieldLinkNest "SignalEngine$Reactor" 88 "SignalEngine$Program" "weight" "[I" "SignalEngine" ∈ nn := nn_of 933 (by decide +kernel) rfl
theorem wn_934 : Cond.fieldLinkNest "SignalEngine" 115 "SignalEngine$Program" "weight" "[I" "SignalEngine" ∈ nn := nn_of 934 (by decide +kernel) rfl
theorem wn_936 : Cond.fieldLinkNest "SignalEngine$Reactor" 165 "SignalEngine$Program" "pauseFrom" "[I" "SignalEngine" ∈ nn := nn_of 936 (by decide +kernel) rfl
theorem wn_938 : Cond.fieldLinkNest "SignalEngine$Reactor" 168 "SignalEngine$Program" "pauseTo" "[I" "SignalEngine" ∈ nn := nn_of 938 (by decide +kernel) rfl
theorem wn_986 : Cond.fieldLinkNest "SignalEngine$Atlas" 106 "SignalEngine$Reactor" "known" "[I" "SignalEngine" ∈ nn := nn_of 986 (by decide +kernel) rfl
theorem wn_987 : Cond.fieldLinkNest "SignalEngine" 157 "SignalEngine$Reactor" "known" "[I" "SignalEngine" ∈ nn := nn_of 987 (by decide +kernel) rfl
theorem wn_998 : Cond.fieldLinkNest "SignalEngine$Atlas" 99 "SignalEngine$Reactor" "chosen" "[Z" "SignalEngine" ∈ nn := nn_of 998 (by decide +kernel) rfl
theorem wn_999 : Cond.fieldLinkNest "SignalEngine" 166 "SignalEngine$Reactor" "chosen" "[Z" "SignalEngine" ∈ nn := nn_of 999 (by decide +kernel) rfl
theorem wn_1268 : Cond.methodLinkNest "SignalEngine$Reactor" 204 ⟨"SignalEngine", "greaterOfPairs", "(II)I"⟩ "SignalEngine" ∈ nn := nn_of 1268 (by decide +kernel) rfl
theorem wn_1278 : Cond.methodLinkNest "SignalEngine$Reactor" 212 ⟨"SignalEngine", "withoutTrap", "(I)I"⟩ "SignalEngine" ∈ nn := nn_of 1278 (by decide +kernel) rfl
theorem wn_1316 : Cond.methodLinkNest "SignalEngine" 183 ⟨"SignalEngine$Atlas", "<init>", "()V"⟩ "SignalEngine" ∈ nn := nn_of 1316 (by decide +kernel) rfl
theorem wn_1321 : Cond.fieldLinkNest "SignalEngine$Net" 94 "SignalEngine$Atlas" "follows" "[I" "SignalEngine" ∈ nn := nn_of 1321 (by decide +kernel) rfl
theorem wn_1322 : Cond.fieldLinkNest "SignalEngine" 201 "SignalEngine$Atlas" "follows" "[I" "SignalEngine" ∈ nn := nn_of 1322 (by decide +kernel) rfl
theorem wn_1324 : Cond.fieldLinkNest "SignalEngine$Net" 97 "SignalEngine$Atlas" "emits" "[I" "SignalEngine" ∈ nn := nn_of 1324 (by decide +kernel) rfl
theorem wn_1325 : Cond.fieldLinkNest "SignalEngine" 207 "SignalEngine$Atlas" "emits" "[I" "SignalEngine" ∈ nn := nn_of 1325 (by decide +kernel) rfl
theorem wn_1327 : Cond.fieldLinkNest "SignalEngine" 191 "SignalEngine$Atlas" "far" "[I" "SignalEngine" ∈ nn := nn_of 1327 (by decide +kernel) rfl
theorem wn_1332 : Cond.fieldLinkNest "SignalEngine" 230 "SignalEngine$Atlas" "group" "[I" "SignalEngine" ∈ nn := nn_of 1332 (by decide +kernel) rfl
theorem wn_1336 : Cond.fieldLinkNest "SignalEngine" 188 "SignalEngine$Atlas" "reached" "I" "SignalEngine" ∈ nn := nn_of 1336 (by decide +kernel) rfl
theorem wn_1338 : Cond.fieldLinkNest "SignalEngine" 219 "SignalEngine$Atlas" "reactions" "I" "SignalEngine" ∈ nn := nn_of 1338 (by decide +kernel) rfl
theorem wn_1340 : Cond.fieldLinkNest "SignalEngine" 267 "SignalEngine$Atlas" "steady" "I" "SignalEngine" ∈ nn := nn_of 1340 (by decide +kernel) rfl
theorem wn_1342 : Cond.fieldLinkNest "SignalEngine" 227 "SignalEngine$Atlas" "groups" "I" "SignalEngine" ∈ nn := nn_of 1342 (by decide +kernel) rfl
theorem wn_1344 : Cond.fieldLinkNest "SignalEngine" 210 "SignalEngine$Atlas" "doubtState" "I" "SignalEngine" ∈ nn := nn_of 1344 (by decide +kernel) rfl
theorem wn_1346 : Cond.fieldLinkNest "SignalEngine" 213 "SignalEngine$Atlas" "doubtInputs" "I" "SignalEngine" ∈ nn := nn_of 1346 (by decide +kernel) rfl
theorem wn_1454 : Cond.methodLinkNest "SignalEngine" 239 ⟨"SignalEngine$Net", "<init>", "()V"⟩ "SignalEngine" ∈ nn := nn_of 1454 (by decide +kernel) rfl
theorem wn_1461 : Cond.fieldLinkNest "SignalEngine" 251 "SignalEngine$Net" "atBit" "[I" "SignalEngine" ∈ nn := nn_of 1461 (by decide +kernel) rfl
theorem wn_1473 : Cond.fieldLinkNest "SignalEngine" 254 "SignalEngine$Net" "functions" "I" "SignalEngine" ∈ nn := nn_of 1473 (by decide +kernel) rfl
theorem fp_SignalEngine_9 : hg_FP "SignalEngine" 9 0 0 false (.array .byte) := ⟨R_SE, F_SE, 14, t_SE, rfl, by decide, i_SE, t_SE_ok, n_SE, rfl, (fun h => by cases h), by decide +kernel, Or.inl w_42⟩
theorem fl_SignalEngine_9 : hg_FL "SignalEngine" 9 0 0 := ⟨R_SE, F_SE, 14, rfl, by decide, i_SE, Or.inl w_42⟩
theorem fl_SignalEngine_13 : hg_FL "SignalEngine" 13 0 1 := ⟨R_SE, F_SE, 14, rfl, by decide, i_SE, Or.inl w_43⟩
theorem fp_SignalEngine_13 : hg_FP "SignalEngine" 13 0 1 false .int := ⟨R_SE, F_SE, 14, t_SE, rfl, by decide, i_SE, t_SE_ok, n_SE, rfl, (fun h => by cases h), by decide +kernel, Or.inl w_43⟩
theorem fp_SignalEngine_28 : hg_FP "SignalEngine" 28 0 2 false .boolean := ⟨R_SE, F_SE, 14, t_SE, rfl, by decide, i_SE, t_SE_ok, n_SE, rfl, (fun h => by cases h), by decide +kernel, Or.inl w_44⟩
theorem fl_SignalEngine_28 : hg_FL "SignalEngine" 28 0 2 := ⟨R_SE, F_SE, 14, rfl, by decide, i_SE, Or.inl w_44⟩
theorem fp_SignalEngine_52 : hg_FP "SignalEngine" 52 0 3 false (.object "SignalEngine$Program") := ⟨R_SE, F_SE, 14, t_SE, rfl, by decide, i_SE, t_SE_ok, n_SE, rfl, (fun h => by cases h), by decide +kernel, Or.inl w_45⟩
theorem fp_SignalEngine_61 : hg_FP "SignalEngine" 61 0 4 false (.object "SignalEngine$Reactor") := ⟨R_SE, F_SE, 14, t_SE, rfl, by decide, i_SE, t_SE_ok, n_SE, rfl, (fun h => by cases h), by decide +kernel, Or.inl w_46⟩
theorem fp_SignalEngine_68 : hg_FP "SignalEngine" 68 0 7 false (.array .boolean) := ⟨R_SE, F_SE, 14, t_SE, rfl, by decide, i_SE, t_SE_ok, n_SE, rfl, (fun h => by cases h), by decide +kernel, Or.inl w_49⟩
theorem fp_SignalEngine_78 : hg_FP "SignalEngine" 78 0 8 false (.array .int) := ⟨R_SE, F_SE, 14, t_SE, rfl, by decide, i_SE, t_SE_ok, n_SE, rfl, (fun h => by cases h), by decide +kernel, Or.inl w_50⟩
theorem fp_SignalEngine_82 : hg_FP "SignalEngine" 82 0 5 false .boolean := ⟨R_SE, F_SE, 14, t_SE, rfl, by decide, i_SE, t_SE_ok, n_SE, rfl, (fun h => by cases h), by decide +kernel, Or.inl w_47⟩
theorem fp_SignalEngine_85 : hg_FP "SignalEngine" 85 0 6 false .boolean := ⟨R_SE, F_SE, 14, t_SE, rfl, by decide, i_SE, t_SE_ok, n_SE, rfl, (fun h => by cases h), by decide +kernel, Or.inl w_48⟩
theorem fp_SignalEngine_88 : hg_FP "SignalEngine" 88 0 9 false .int := ⟨R_SE, F_SE, 14, t_SE, rfl, by decide, i_SE, t_SE_ok, n_SE, rfl, (fun h => by cases h), by decide +kernel, Or.inl w_51⟩
theorem fp_SignalEngine_91 : hg_FP "SignalEngine" 91 0 12 false .boolean := ⟨R_SE, F_SE, 14, t_SE, rfl, by decide, i_SE, t_SE_ok, n_SE, rfl, (fun h => by cases h), by decide +kernel, Or.inl w_54⟩
theorem fp_SignalEngine_94 : hg_FP "SignalEngine" 94 0 13 false .boolean := ⟨R_SE, F_SE, 14, t_SE, rfl, by decide, i_SE, t_SE_ok, n_SE, rfl, (fun h => by cases h), by decide +kernel, Or.inl w_55⟩
theorem fp_SignalEngine_Pieces_9 : hg_FP "SignalEngine$Pieces" 9 5 0 false (.array .int) := ⟨R_PI, F_PI, 6, t_PI, rfl, by decide, i_PI, t_PI_ok, n_PI, rfl, (fun h => by cases h), by decide +kernel, Or.inl w_167⟩
theorem fp_SignalEngine_Pieces_15 : hg_FP "SignalEngine$Pieces" 15 5 1 false (.array .int) := ⟨R_PI, F_PI, 6, t_PI, rfl, by decide, i_PI, t_PI_ok, n_PI, rfl, (fun h => by cases h), by decide +kernel, Or.inl w_170⟩
theorem fp_SignalEngine_Pieces_18 : hg_FP "SignalEngine$Pieces" 18 5 2 false (.array .int) := ⟨R_PI, F_PI, 6, t_PI, rfl, by decide, i_PI, t_PI_ok, n_PI, rfl, (fun h => by cases h), by decide +kernel, Or.inl w_173⟩
theorem fp_SignalEngine_Pieces_21 : hg_FP "SignalEngine$Pieces" 21 5 3 false (.array .int) := ⟨R_PI, F_PI, 6, t_PI, rfl, by decide, i_PI, t_PI_ok, n_PI, rfl, (fun h => by cases h), by decide +kernel, Or.inl w_176⟩
theorem fp_SignalEngine_Pieces_24 : hg_FP "SignalEngine$Pieces" 24 5 4 false (.array .int) := ⟨R_PI, F_PI, 6, t_PI, rfl, by decide, i_PI, t_PI_ok, n_PI, rfl, (fun h => by cases h), by decide +kernel, Or.inl w_179⟩
theorem fp_SignalEngine_Names_9 : hg_FP "SignalEngine$Names" 9 3 1 false (.array .int) := ⟨R_NM, F_NM, 6, t_NM, rfl, by decide, i_NM, t_NM_ok, n_NM, rfl, (fun h => by cases h), by decide +kernel, Or.inl w_264⟩
theorem fp_SignalEngine_Names_15 : hg_FP "SignalEngine$Names" 15 3 2 false (.array .int) := ⟨R_NM, F_NM, 6, t_NM, rfl, by decide, i_NM, t_NM_ok, n_NM, rfl, (fun h => by cases h), by decide +kernel, Or.inl w_265⟩
theorem fp_SignalEngine_Names_18 : hg_FP "SignalEngine$Names" 18 3 3 false (.array .int) := ⟨R_NM, F_NM, 6, t_NM, rfl, by decide, i_NM, t_NM_ok, n_NM, rfl, (fun h => by cases h), by decide +kernel, Or.inl w_266⟩
theorem fp_SignalEngine_Names_21 : hg_FP "SignalEngine$Names" 21 3 0 true (.array .byte) := ⟨R_NM, F_NM, 6, t_NM, rfl, by decide, i_NM, t_NM_ok, n_NM, rfl, (fun _ => rfl), by decide +kernel, Or.inl w_263⟩
theorem fl_SignalEngine_Lexer_18 : hg_FL "SignalEngine$Lexer" 18 2 4 := ⟨R_LX, F_LX, 6, rfl, by decide, i_LX, Or.inl w_240⟩
theorem fp_SignalEngine_Lexer_26 : hg_FP "SignalEngine$Lexer" 26 2 5 false .int := ⟨R_LX, F_LX, 6, t_LX, rfl, by decide, i_LX, t_LX_ok, n_LX, rfl, (fun h => by cases h), by decide +kernel, Or.inl w_242⟩
theorem fl_SignalEngine_Lexer_46 : hg_FL "SignalEngine$Lexer" 46 2 3 := ⟨R_LX, F_LX, 6, rfl, by decide, i_LX, Or.inl w_239⟩
theorem fp_SignalEngine_Lexer_46 : hg_FP "SignalEngine$Lexer" 46 2 3 false .int := ⟨R_LX, F_LX, 6, t_LX, rfl, by decide, i_LX, t_LX_ok, n_LX, rfl, (fun h => by cases h), by decide +kernel, Or.inl w_239⟩
theorem fl_SignalEngine_Lexer_22 : hg_FL "SignalEngine$Lexer" 22 2 0 := ⟨R_LX, F_LX, 6, rfl, by decide, i_LX, Or.inl w_232⟩
theorem fp_SignalEngine_Lexer_18 : hg_FP "SignalEngine$Lexer" 18 2 4 false .int := ⟨R_LX, F_LX, 6, t_LX, rfl, by decide, i_LX, t_LX_ok, n_LX, rfl, (fun h => by cases h), by decide +kernel, Or.inl w_240⟩
theorem fl_SignalEngine_Lexer_49 : hg_FL "SignalEngine$Lexer" 49 2 2 := ⟨R_LX, F_LX, 6, rfl, by decide, i_LX, Or.inl w_237⟩
theorem fl_SignalEngine_Names_15 : hg_FL "SignalEngine$Names" 15 3 2 := ⟨R_NM, F_NM, 6, rfl, by decide, i_NM, Or.inl w_265⟩
theorem fl_SignalEngine_Names_21 : hg_FL "SignalEngine$Names" 21 3 0 := ⟨R_NM, F_NM, 6, rfl, by decide, i_NM, Or.inl w_263⟩
theorem fl_SignalEngine_Names_9 : hg_FL "SignalEngine$Names" 9 3 1 := ⟨R_NM, F_NM, 6, rfl, by decide, i_NM, Or.inl w_264⟩
theorem fl_SignalEngine_Names_35 : hg_FL "SignalEngine$Names" 35 2 2 := ⟨R_LX, F_LX, 6, rfl, by decide, i_LX, Or.inr ⟨_, wn_236⟩⟩
theorem fl_SignalEngine_Names_39 : hg_FL "SignalEngine$Names" 39 2 3 := ⟨R_LX, F_LX, 6, rfl, by decide, i_LX, Or.inr ⟨_, wn_238⟩⟩
theorem fl_SignalEngine_Names_25 : hg_FL "SignalEngine$Names" 25 3 4 := ⟨R_NM, F_NM, 6, rfl, by decide, i_NM, Or.inl w_268⟩
theorem fl_SignalEngine_Names_18 : hg_FL "SignalEngine$Names" 18 3 3 := ⟨R_NM, F_NM, 6, rfl, by decide, i_NM, Or.inl w_266⟩
theorem fl_SignalEngine_Names_42 : hg_FL "SignalEngine$Names" 42 3 5 := ⟨R_NM, F_NM, 6, rfl, by decide, i_NM, Or.inl w_271⟩
theorem fp_SignalEngine_Names_42 : hg_FP "SignalEngine$Names" 42 3 5 false .int := ⟨R_NM, F_NM, 6, t_NM, rfl, by decide, i_NM, t_NM_ok, n_NM, rfl, (fun h => by cases h), by decide +kernel, Or.inl w_271⟩
theorem fp_SignalEngine_Names_25 : hg_FP "SignalEngine$Names" 25 3 4 false .int := ⟨R_NM, F_NM, 6, t_NM, rfl, by decide, i_NM, t_NM_ok, n_NM, rfl, (fun h => by cases h), by decide +kernel, Or.inl w_268⟩
theorem fl_SignalEngine_Parser_134 : hg_FL "SignalEngine$Parser" 134 4 6 := ⟨R_PA, F_PA, 7, rfl, by decide, i_PA, Or.inl w_296⟩
theorem fp_SignalEngine_Parser_134 : hg_FP "SignalEngine$Parser" 134 4 6 false .int := ⟨R_PA, F_PA, 7, t_PA, rfl, by decide, i_PA, t_PA_ok, n_PA, rfl, (fun h => by cases h), by decide +kernel, Or.inl w_296⟩
theorem fl_SignalEngine_Parser_23 : hg_FL "SignalEngine$Parser" 23 4 0 := ⟨R_PA, F_PA, 7, rfl, by decide, i_PA, Or.inl w_286⟩
theorem fp_SignalEngine_Node_9 : hg_FP "SignalEngine$Node" 9 8 4 false .int := ⟨R_ND, F_ND, 13, t_ND, rfl, by decide, i_ND, t_ND_ok, n_ND, rfl, (fun h => by cases h), by decide +kernel, Or.inl w_565⟩
theorem fp_SignalEngine_Node_15 : hg_FP "SignalEngine$Node" 15 8 5 false .int := ⟨R_ND, F_ND, 13, t_ND, rfl, by decide, i_ND, t_ND_ok, n_ND, rfl, (fun h => by cases h), by decide +kernel, Or.inl w_569⟩
theorem fp_SignalEngine_Node_18 : hg_FP "SignalEngine$Node" 18 8 6 false .int := ⟨R_ND, F_ND, 13, t_ND, rfl, by decide, i_ND, t_ND_ok, n_ND, rfl, (fun h => by cases h), by decide +kernel, Or.inl w_571⟩
theorem fp_SignalEngine_Node_21 : hg_FP "SignalEngine$Node" 21 8 9 false .int := ⟨R_ND, F_ND, 13, t_ND, rfl, by decide, i_ND, t_ND_ok, n_ND, rfl, (fun h => by cases h), by decide +kernel, Or.inl w_577⟩
theorem fp_SignalEngine_Node_24 : hg_FP "SignalEngine$Node" 24 8 11 false .int := ⟨R_ND, F_ND, 13, t_ND, rfl, by decide, i_ND, t_ND_ok, n_ND, rfl, (fun h => by cases h), by decide +kernel, Or.inl w_581⟩
theorem fp_SignalEngine_Node_27 : hg_FP "SignalEngine$Node" 27 8 0 true .int := ⟨R_ND, F_ND, 13, t_ND, rfl, by decide, i_ND, t_ND_ok, n_ND, rfl, (fun _ => rfl), by decide +kernel, Or.inl w_552⟩
theorem fp_SignalEngine_Node_30 : hg_FP "SignalEngine$Node" 30 8 1 true .int := ⟨R_ND, F_ND, 13, t_ND, rfl, by decide, i_ND, t_ND_ok, n_ND, rfl, (fun _ => rfl), by decide +kernel, Or.inl w_555⟩
theorem fp_SignalEngine_Node_33 : hg_FP "SignalEngine$Node" 33 8 2 true (.object "SignalEngine$Node") := ⟨R_ND, F_ND, 13, t_ND, rfl, by decide, i_ND, t_ND_ok, n_ND, rfl, (fun _ => rfl), by decide +kernel, Or.inl w_559⟩
theorem fp_SignalEngine_Node_37 : hg_FP "SignalEngine$Node" 37 8 3 true (.object "SignalEngine$Node") := ⟨R_ND, F_ND, 13, t_ND, rfl, by decide, i_ND, t_ND_ok, n_ND, rfl, (fun _ => rfl), by decide +kernel, Or.inl w_562⟩
theorem fl_SignalEngine_Pieces_9 : hg_FL "SignalEngine$Pieces" 9 5 0 := ⟨R_PI, F_PI, 6, rfl, by decide, i_PI, Or.inl w_167⟩
theorem fl_SignalEngine_Pieces_15 : hg_FL "SignalEngine$Pieces" 15 5 1 := ⟨R_PI, F_PI, 6, rfl, by decide, i_PI, Or.inl w_170⟩
theorem fl_SignalEngine_Pieces_18 : hg_FL "SignalEngine$Pieces" 18 5 2 := ⟨R_PI, F_PI, 6, rfl, by decide, i_PI, Or.inl w_173⟩
theorem fl_SignalEngine_Pieces_21 : hg_FL "SignalEngine$Pieces" 21 5 3 := ⟨R_PI, F_PI, 6, rfl, by decide, i_PI, Or.inl w_176⟩
theorem fl_SignalEngine_Pieces_24 : hg_FL "SignalEngine$Pieces" 24 5 4 := ⟨R_PI, F_PI, 6, rfl, by decide, i_PI, Or.inl w_179⟩
theorem fl_SignalEngine_Pieces_27 : hg_FL "SignalEngine$Pieces" 27 5 5 := ⟨R_PI, F_PI, 6, rfl, by decide, i_PI, Or.inl w_181⟩
theorem fp_SignalEngine_Pieces_27 : hg_FP "SignalEngine$Pieces" 27 5 5 false .int := ⟨R_PI, F_PI, 6, t_PI, rfl, by decide, i_PI, t_PI_ok, n_PI, rfl, (fun h => by cases h), by decide +kernel, Or.inl w_181⟩
theorem fl_SignalEngine_Draft_89 : hg_FL "SignalEngine$Draft" 89 8 7 := ⟨R_ND, F_ND, 13, rfl, by decide, i_ND, Or.inr ⟨_, wn_574⟩⟩
theorem fp_SignalEngine_Draft_111 : hg_FP "SignalEngine$Draft" 111 8 10 false .int := ⟨R_ND, F_ND, 13, t_ND, rfl, by decide, i_ND, t_ND_ok, n_ND, rfl, (fun h => by cases h), by decide +kernel, Or.inr ⟨rfl, _, wn_580⟩⟩
theorem fl_SignalEngine_Draft_105 : hg_FL "SignalEngine$Draft" 105 8 11 := ⟨R_ND, F_ND, 13, rfl, by decide, i_ND, Or.inr ⟨_, wn_583⟩⟩
theorem fp_SignalEngine_Draft_105 : hg_FP "SignalEngine$Draft" 105 8 11 false .int := ⟨R_ND, F_ND, 13, t_ND, rfl, by decide, i_ND, t_ND_ok, n_ND, rfl, (fun h => by cases h), by decide +kernel, Or.inr ⟨rfl, _, wn_583⟩⟩
theorem fp_SignalEngine_Draft_132 : hg_FP "SignalEngine$Draft" 132 8 8 false .int := ⟨R_ND, F_ND, 13, t_ND, rfl, by decide, i_ND, t_ND_ok, n_ND, rfl, (fun h => by cases h), by decide +kernel, Or.inr ⟨rfl, _, wn_576⟩⟩
theorem fl_SignalEngine_Draft_132 : hg_FL "SignalEngine$Draft" 132 8 8 := ⟨R_ND, F_ND, 13, rfl, by decide, i_ND, Or.inr ⟨_, wn_576⟩⟩
theorem fp_SignalEngine_Draft_139 : hg_FP "SignalEngine$Draft" 139 8 9 false .int := ⟨R_ND, F_ND, 13, t_ND, rfl, by decide, i_ND, t_ND_ok, n_ND, rfl, (fun h => by cases h), by decide +kernel, Or.inr ⟨rfl, _, wn_579⟩⟩
theorem fl_SignalEngine_Draft_111 : hg_FL "SignalEngine$Draft" 111 8 10 := ⟨R_ND, F_ND, 13, rfl, by decide, i_ND, Or.inr ⟨_, wn_580⟩⟩
theorem fl_SignalEngine_Draft_120 : hg_FL "SignalEngine$Draft" 120 8 0 := ⟨R_ND, F_ND, 13, rfl, by decide, i_ND, Or.inr ⟨_, wn_554⟩⟩
theorem fl_SignalEngine_Draft_86 : hg_FL "SignalEngine$Draft" 86 8 3 := ⟨R_ND, F_ND, 13, rfl, by decide, i_ND, Or.inr ⟨_, wn_564⟩⟩
theorem fl_SignalEngine_Draft_78 : hg_FL "SignalEngine$Draft" 78 8 2 := ⟨R_ND, F_ND, 13, rfl, by decide, i_ND, Or.inr ⟨_, wn_561⟩⟩
theorem fl_SignalEngine_Draft_47 : hg_FL "SignalEngine$Draft" 47 8 5 := ⟨R_ND, F_ND, 13, rfl, by decide, i_ND, Or.inr ⟨_, wn_570⟩⟩
theorem fp_SignalEngine_Draft_36 : hg_FP "SignalEngine$Draft" 36 8 4 false .int := ⟨R_ND, F_ND, 13, t_ND, rfl, by decide, i_ND, t_ND_ok, n_ND, rfl, (fun h => by cases h), by decide +kernel, Or.inr ⟨rfl, _, wn_567⟩⟩
theorem fl_SignalEngine_Draft_44 : hg_FL "SignalEngine$Draft" 44 8 6 := ⟨R_ND, F_ND, 13, rfl, by decide, i_ND, Or.inr ⟨_, wn_573⟩⟩
theorem fl_SignalEngine_Draft_126 : hg_FL "SignalEngine$Draft" 126 6 4 := ⟨R_DR, F_DR, 6, rfl, by decide, i_DR, Or.inl w_208⟩
theorem fl_SignalEngine_Draft_23 : hg_FL "SignalEngine$Draft" 23 6 1 := ⟨R_DR, F_DR, 6, rfl, by decide, i_DR, Or.inl w_200⟩
theorem fl_SignalEngine_Draft_129 : hg_FL "SignalEngine$Draft" 129 5 3 := ⟨R_PI, F_PI, 6, rfl, by decide, i_PI, Or.inr ⟨_, wn_177⟩⟩
theorem fp_SignalEngine_Draft_126 : hg_FP "SignalEngine$Draft" 126 6 4 false .int := ⟨R_DR, F_DR, 6, t_DR, rfl, by decide, i_DR, t_DR_ok, n_DR, rfl, (fun h => by cases h), by decide +kernel, Or.inl w_208⟩
theorem fl_SignalEngine_Draft_102 : hg_FL "SignalEngine$Draft" 102 6 2 := ⟨R_DR, F_DR, 6, rfl, by decide, i_DR, Or.inl w_204⟩
theorem fp_SignalEngine_Draft_102 : hg_FP "SignalEngine$Draft" 102 6 2 false .int := ⟨R_DR, F_DR, 6, t_DR, rfl, by decide, i_DR, t_DR_ok, n_DR, rfl, (fun h => by cases h), by decide +kernel, Or.inl w_204⟩
theorem fl_SignalEngine_Draft_108 : hg_FL "SignalEngine$Draft" 108 6 5 := ⟨R_DR, F_DR, 6, rfl, by decide, i_DR, Or.inl w_210⟩
theorem fp_SignalEngine_Draft_108 : hg_FP "SignalEngine$Draft" 108 6 5 false .int := ⟨R_DR, F_DR, 6, t_DR, rfl, by decide, i_DR, t_DR_ok, n_DR, rfl, (fun h => by cases h), by decide +kernel, Or.inl w_210⟩
theorem fl_SignalEngine_Draft_123 : hg_FL "SignalEngine$Draft" 123 6 3 := ⟨R_DR, F_DR, 6, rfl, by decide, i_DR, Or.inl w_206⟩
theorem fp_SignalEngine_Draft_123 : hg_FP "SignalEngine$Draft" 123 6 3 false .int := ⟨R_DR, F_DR, 6, t_DR, rfl, by decide, i_DR, t_DR_ok, n_DR, rfl, (fun h => by cases h), by decide +kernel, Or.inl w_206⟩
theorem fl_SignalEngine_Draft_36 : hg_FL "SignalEngine$Draft" 36 8 4 := ⟨R_ND, F_ND, 13, rfl, by decide, i_ND, Or.inr ⟨_, wn_567⟩⟩
theorem fl_SignalEngine_Draft_99 : hg_FL "SignalEngine$Draft" 99 8 12 := ⟨R_ND, F_ND, 13, rfl, by decide, i_ND, Or.inr ⟨_, wn_585⟩⟩
theorem fl_SignalEngine_Program_79 : hg_FL "SignalEngine$Program" 79 9 10 := ⟨R_PG, F_PG, 17, rfl, by decide, i_PG, Or.inl w_923⟩
theorem fl_SignalEngine_Program_131 : hg_FL "SignalEngine$Program" 131 8 9 := ⟨R_ND, F_ND, 13, rfl, by decide, i_ND, Or.inr ⟨_, wn_578⟩⟩
theorem fl_SignalEngine_Program_82 : hg_FL "SignalEngine$Program" 82 9 11 := ⟨R_PG, F_PG, 17, rfl, by decide, i_PG, Or.inl w_925⟩
theorem fl_SignalEngine_Program_133 : hg_FL "SignalEngine$Program" 133 8 4 := ⟨R_ND, F_ND, 13, rfl, by decide, i_ND, Or.inr ⟨_, wn_566⟩⟩
theorem fl_SignalEngine_Program_85 : hg_FL "SignalEngine$Program" 85 9 12 := ⟨R_PG, F_PG, 17, rfl, by decide, i_PG, Or.inl w_928⟩
theorem fl_SignalEngine_Program_135 : hg_FL "SignalEngine$Program" 135 8 12 := ⟨R_ND, F_ND, 13, rfl, by decide, i_ND, Or.inr ⟨_, wn_584⟩⟩
theorem fl_SignalEngine_Program_88 : hg_FL "SignalEngine$Program" 88 9 13 := ⟨R_PG, F_PG, 17, rfl, by decide, i_PG, Or.inl w_930⟩
theorem fl_SignalEngine_Program_137 : hg_FL "SignalEngine$Program" 137 8 1 := ⟨R_ND, F_ND, 13, rfl, by decide, i_ND, Or.inr ⟨_, wn_556⟩⟩
theorem fl_SignalEngine_Program_91 : hg_FL "SignalEngine$Program" 91 9 14 := ⟨R_PG, F_PG, 17, rfl, by decide, i_PG, Or.inl w_932⟩
theorem fl_SignalEngine_Program_139 : hg_FL "SignalEngine$Program" 139 8 11 := ⟨R_ND, F_ND, 13, rfl, by decide, i_ND, Or.inr ⟨_, wn_582⟩⟩
theorem fl_SignalEngine_Program_76 : hg_FL "SignalEngine$Program" 76 9 9 := ⟨R_PG, F_PG, 17, rfl, by decide, i_PG, Or.inl w_920⟩
theorem fl_SignalEngine_Program_129 : hg_FL "SignalEngine$Program" 129 8 3 := ⟨R_ND, F_ND, 13, rfl, by decide, i_ND, Or.inr ⟨_, wn_563⟩⟩
theorem fl_SignalEngine_Program_110 : hg_FL "SignalEngine$Program" 110 8 8 := ⟨R_ND, F_ND, 13, rfl, by decide, i_ND, Or.inr ⟨_, wn_575⟩⟩
theorem fl_SignalEngine_Program_69 : hg_FL "SignalEngine$Program" 69 9 7 := ⟨R_PG, F_PG, 17, rfl, by decide, i_PG, Or.inl w_915⟩
theorem fl_SignalEngine_Program_124 : hg_FL "SignalEngine$Program" 124 8 0 := ⟨R_ND, F_ND, 13, rfl, by decide, i_ND, Or.inr ⟨_, wn_553⟩⟩
theorem fl_SignalEngine_Program_73 : hg_FL "SignalEngine$Program" 73 9 8 := ⟨R_PG, F_PG, 17, rfl, by decide, i_PG, Or.inl w_917⟩
theorem fl_SignalEngine_Program_126 : hg_FL "SignalEngine$Program" 126 8 2 := ⟨R_ND, F_ND, 13, rfl, by decide, i_ND, Or.inr ⟨_, wn_560⟩⟩
theorem fl_SignalEngine_Program_65 : hg_FL "SignalEngine$Program" 65 9 6 := ⟨R_PG, F_PG, 17, rfl, by decide, i_PG, Or.inl w_912⟩
theorem fl_SignalEngine_Program_94 : hg_FL "SignalEngine$Program" 94 9 15 := ⟨R_PG, F_PG, 17, rfl, by decide, i_PG, Or.inl w_935⟩
theorem fl_SignalEngine_Program_97 : hg_FL "SignalEngine$Program" 97 9 16 := ⟨R_PG, F_PG, 17, rfl, by decide, i_PG, Or.inl w_937⟩
theorem fl_SignalEngine_Reactor_9 : hg_FL "SignalEngine$Reactor" 9 10 0 := ⟨R_RE, F_RE, 18, rfl, by decide, i_RE, Or.inl w_984⟩
theorem fl_SignalEngine_Reactor_15 : hg_FL "SignalEngine$Reactor" 15 9 7 := ⟨R_PG, F_PG, 17, rfl, by decide, i_PG, Or.inr ⟨_, wn_914⟩⟩
theorem fl_SignalEngine_Reactor_31 : hg_FL "SignalEngine$Reactor" 31 10 3 := ⟨R_RE, F_RE, 18, rfl, by decide, i_RE, Or.inl w_989⟩
theorem fl_SignalEngine_Reactor_85 : hg_FL "SignalEngine$Reactor" 85 9 11 := ⟨R_PG, F_PG, 17, rfl, by decide, i_PG, Or.inr ⟨_, wn_926⟩⟩
theorem fl_SignalEngine_Reactor_34 : hg_FL "SignalEngine$Reactor" 34 10 4 := ⟨R_RE, F_RE, 18, rfl, by decide, i_RE, Or.inl w_990⟩
theorem fl_SignalEngine_Reactor_88 : hg_FL "SignalEngine$Reactor" 88 9 14 := ⟨R_PG, F_PG, 17, rfl, by decide, i_PG, Or.inr ⟨_, wn_933⟩⟩
theorem fl_SignalEngine_Reactor_79 : hg_FL "SignalEngine$Reactor" 79 9 1 := ⟨R_PG, F_PG, 17, rfl, by decide, i_PG, Or.inr ⟨_, wn_894⟩⟩
theorem fl_SignalEngine_Reactor_82 : hg_FL "SignalEngine$Reactor" 82 9 2 := ⟨R_PG, F_PG, 17, rfl, by decide, i_PG, Or.inr ⟨_, wn_899⟩⟩
theorem fp_SignalEngine_Reactor_9 : hg_FP "SignalEngine$Reactor" 9 10 0 true (.object "SignalEngine$Program") := ⟨R_RE, F_RE, 18, t_RE, rfl, by decide, i_RE, t_RE_ok, n_RE, rfl, (fun _ => rfl), by decide +kernel, Or.inl w_984⟩
theorem fl_SignalEngine_Reactor_21 : hg_FL "SignalEngine$Reactor" 21 9 0 := ⟨R_PG, F_PG, 17, rfl, by decide, i_PG, Or.inr ⟨_, wn_890⟩⟩
theorem fl_SignalEngine_Reactor_25 : hg_FL "SignalEngine$Reactor" 25 3 4 := ⟨R_NM, F_NM, 6, rfl, by decide, i_NM, Or.inr ⟨_, wn_267⟩⟩
theorem fp_SignalEngine_Reactor_31 : hg_FP "SignalEngine$Reactor" 31 10 3 true (.array .int) := ⟨R_RE, F_RE, 18, t_RE, rfl, by decide, i_RE, t_RE_ok, n_RE, rfl, (fun _ => rfl), by decide +kernel, Or.inl w_989⟩
theorem fp_SignalEngine_Reactor_34 : hg_FP "SignalEngine$Reactor" 34 10 4 true (.array .int) := ⟨R_RE, F_RE, 18, t_RE, rfl, by decide, i_RE, t_RE_ok, n_RE, rfl, (fun _ => rfl), by decide +kernel, Or.inl w_990⟩
theorem fp_SignalEngine_Reactor_41 : hg_FP "SignalEngine$Reactor" 41 10 1 true (.array .int) := ⟨R_RE, F_RE, 18, t_RE, rfl, by decide, i_RE, t_RE_ok, n_RE, rfl, (fun _ => rfl), by decide +kernel, Or.inl w_985⟩
theorem fp_SignalEngine_Reactor_44 : hg_FP "SignalEngine$Reactor" 44 10 2 true (.array .int) := ⟨R_RE, F_RE, 18, t_RE, rfl, by decide, i_RE, t_RE_ok, n_RE, rfl, (fun _ => rfl), by decide +kernel, Or.inl w_988⟩
theorem fl_SignalEngine_Reactor_47 : hg_FL "SignalEngine$Reactor" 47 9 6 := ⟨R_PG, F_PG, 17, rfl, by decide, i_PG, Or.inr ⟨_, wn_911⟩⟩
theorem fl_SignalEngine_Reactor_51 : hg_FL "SignalEngine$Reactor" 51 5 5 := ⟨R_PI, F_PI, 6, rfl, by decide, i_PI, Or.inr ⟨_, wn_180⟩⟩
theorem fp_SignalEngine_Reactor_54 : hg_FP "SignalEngine$Reactor" 54 10 5 true (.array .int) := ⟨R_RE, F_RE, 18, t_RE, rfl, by decide, i_RE, t_RE_ok, n_RE, rfl, (fun _ => rfl), by decide +kernel, Or.inl w_991⟩
theorem fp_SignalEngine_Reactor_57 : hg_FP "SignalEngine$Reactor" 57 10 6 true (.array .int) := ⟨R_RE, F_RE, 18, t_RE, rfl, by decide, i_RE, t_RE_ok, n_RE, rfl, (fun _ => rfl), by decide +kernel, Or.inl w_992⟩
theorem fp_SignalEngine_Reactor_60 : hg_FP "SignalEngine$Reactor" 60 10 7 true (.array .int) := ⟨R_RE, F_RE, 18, t_RE, rfl, by decide, i_RE, t_RE_ok, n_RE, rfl, (fun _ => rfl), by decide +kernel, Or.inl w_993⟩
theorem fp_SignalEngine_Reactor_63 : hg_FP "SignalEngine$Reactor" 63 10 8 true (.array .int) := ⟨R_RE, F_RE, 18, t_RE, rfl, by decide, i_RE, t_RE_ok, n_RE, rfl, (fun _ => rfl), by decide +kernel, Or.inl w_994⟩
theorem fp_SignalEngine_Reactor_66 : hg_FP "SignalEngine$Reactor" 66 10 9 true (.array .boolean) := ⟨R_RE, F_RE, 18, t_RE, rfl, by decide, i_RE, t_RE_ok, n_RE, rfl, (fun _ => rfl), by decide +kernel, Or.inl w_995⟩
theorem fl_SignalEngine_Reactor_70 : hg_FL "SignalEngine$Reactor" 70 9 3 := ⟨R_PG, F_PG, 17, rfl, by decide, i_PG, Or.inr ⟨_, wn_904⟩⟩
theorem fp_SignalEngine_Reactor_73 : hg_FP "SignalEngine$Reactor" 73 10 10 true (.array .int) := ⟨R_RE, F_RE, 18, t_RE, rfl, by decide, i_RE, t_RE_ok, n_RE, rfl, (fun _ => rfl), by decide +kernel, Or.inl w_996⟩
theorem fp_SignalEngine_Reactor_76 : hg_FP "SignalEngine$Reactor" 76 10 11 true (.array .boolean) := ⟨R_RE, F_RE, 18, t_RE, rfl, by decide, i_RE, t_RE_ok, n_RE, rfl, (fun _ => rfl), by decide +kernel, Or.inl w_997⟩
theorem fl_SignalEngine_52 : hg_FL "SignalEngine" 52 0 3 := ⟨R_SE, F_SE, 14, rfl, by decide, i_SE, Or.inl w_45⟩
theorem fl_SignalEngine_97 : hg_FL "SignalEngine" 97 9 7 := ⟨R_PG, F_PG, 17, rfl, by decide, i_PG, Or.inr ⟨_, wn_916⟩⟩
theorem fl_SignalEngine_100 : hg_FL "SignalEngine" 100 9 8 := ⟨R_PG, F_PG, 17, rfl, by decide, i_PG, Or.inr ⟨_, wn_918⟩⟩
theorem fl_SignalEngine_103 : hg_FL "SignalEngine" 103 9 9 := ⟨R_PG, F_PG, 17, rfl, by decide, i_PG, Or.inr ⟨_, wn_921⟩⟩
theorem fl_SignalEngine_106 : hg_FL "SignalEngine" 106 9 11 := ⟨R_PG, F_PG, 17, rfl, by decide, i_PG, Or.inr ⟨_, wn_927⟩⟩
theorem fl_SignalEngine_109 : hg_FL "SignalEngine" 109 9 12 := ⟨R_PG, F_PG, 17, rfl, by decide, i_PG, Or.inr ⟨_, wn_929⟩⟩
theorem fl_SignalEngine_112 : hg_FL "SignalEngine" 112 9 13 := ⟨R_PG, F_PG, 17, rfl, by decide, i_PG, Or.inr ⟨_, wn_931⟩⟩
theorem fl_SignalEngine_115 : hg_FL "SignalEngine" 115 9 14 := ⟨R_PG, F_PG, 17, rfl, by decide, i_PG, Or.inr ⟨_, wn_934⟩⟩
theorem fl_SignalEngine_118 : hg_FL "SignalEngine" 118 9 6 := ⟨R_PG, F_PG, 17, rfl, by decide, i_PG, Or.inr ⟨_, wn_913⟩⟩
theorem fl_SignalEngine_122 : hg_FL "SignalEngine" 122 5 5 := ⟨R_PI, F_PI, 6, rfl, by decide, i_PI, Or.inr ⟨_, wn_183⟩⟩
theorem fl_SignalEngine_127 : hg_FL "SignalEngine" 127 5 0 := ⟨R_PI, F_PI, 6, rfl, by decide, i_PI, Or.inr ⟨_, wn_168⟩⟩
theorem fl_SignalEngine_128 : hg_FL "SignalEngine" 128 5 1 := ⟨R_PI, F_PI, 6, rfl, by decide, i_PI, Or.inr ⟨_, wn_171⟩⟩
theorem fl_SignalEngine_129 : hg_FL "SignalEngine" 129 5 2 := ⟨R_PI, F_PI, 6, rfl, by decide, i_PI, Or.inr ⟨_, wn_174⟩⟩
theorem fl_SignalEngine_130 : hg_FL "SignalEngine" 130 9 0 := ⟨R_PG, F_PG, 17, rfl, by decide, i_PG, Or.inr ⟨_, wn_892⟩⟩
theorem fl_SignalEngine_78 : hg_FL "SignalEngine" 78 0 8 := ⟨R_SE, F_SE, 14, rfl, by decide, i_SE, Or.inl w_50⟩
theorem fl_SignalEngine_68 : hg_FL "SignalEngine" 68 0 7 := ⟨R_SE, F_SE, 14, rfl, by decide, i_SE, Or.inl w_49⟩
theorem fl_SignalEngine_85 : hg_FL "SignalEngine" 85 0 6 := ⟨R_SE, F_SE, 14, rfl, by decide, i_SE, Or.inl w_48⟩
theorem fl_SignalEngine_Atlas_18 : hg_FL "SignalEngine$Atlas" 18 11 2 := ⟨R_AT, F_AT, 15, rfl, by decide, i_AT, Or.inl w_1326⟩
theorem fl_SignalEngine_91 : hg_FL "SignalEngine" 91 0 12 := ⟨R_SE, F_SE, 14, rfl, by decide, i_SE, Or.inl w_54⟩
theorem fl_SignalEngine_169 : hg_FL "SignalEngine" 169 0 10 := ⟨R_SE, F_SE, 14, rfl, by decide, i_SE, Or.inl w_52⟩
theorem fl_SignalEngine_191 : hg_FL "SignalEngine" 191 11 2 := ⟨R_AT, F_AT, 15, rfl, by decide, i_AT, Or.inr ⟨_, wn_1327⟩⟩
theorem fl_SignalEngine_Atlas_24 : hg_FL "SignalEngine$Atlas" 24 11 4 := ⟨R_AT, F_AT, 15, rfl, by decide, i_AT, Or.inl w_1329⟩
theorem fl_SignalEngine_Atlas_21 : hg_FL "SignalEngine$Atlas" 21 11 3 := ⟨R_AT, F_AT, 15, rfl, by decide, i_AT, Or.inl w_1328⟩
theorem fl_SignalEngine_210 : hg_FL "SignalEngine" 210 11 13 := ⟨R_AT, F_AT, 15, rfl, by decide, i_AT, Or.inr ⟨_, wn_1344⟩⟩
theorem fl_SignalEngine_213 : hg_FL "SignalEngine" 213 11 14 := ⟨R_AT, F_AT, 15, rfl, by decide, i_AT, Or.inr ⟨_, wn_1346⟩⟩
theorem fl_SignalEngine_Program_44 : hg_FL "SignalEngine$Program" 44 9 2 := ⟨R_PG, F_PG, 17, rfl, by decide, i_PG, Or.inl w_898⟩
theorem fl_SignalEngine_Atlas_40 : hg_FL "SignalEngine$Atlas" 40 11 8 := ⟨R_AT, F_AT, 15, rfl, by decide, i_AT, Or.inl w_1334⟩
theorem fl_SignalEngine_Atlas_27 : hg_FL "SignalEngine$Atlas" 27 11 5 := ⟨R_AT, F_AT, 15, rfl, by decide, i_AT, Or.inl w_1330⟩
theorem fl_SignalEngine_Atlas_11 : hg_FL "SignalEngine$Atlas" 11 11 0 := ⟨R_AT, F_AT, 15, rfl, by decide, i_AT, Or.inl w_1320⟩
theorem fl_SignalEngine_Atlas_15 : hg_FL "SignalEngine$Atlas" 15 11 1 := ⟨R_AT, F_AT, 15, rfl, by decide, i_AT, Or.inl w_1323⟩
theorem fl_SignalEngine_Atlas_58 : hg_FL "SignalEngine$Atlas" 58 11 9 := ⟨R_AT, F_AT, 15, rfl, by decide, i_AT, Or.inl w_1335⟩
theorem fl_SignalEngine_219 : hg_FL "SignalEngine" 219 11 10 := ⟨R_AT, F_AT, 15, rfl, by decide, i_AT, Or.inr ⟨_, wn_1338⟩⟩
theorem fl_SignalEngine_230 : hg_FL "SignalEngine" 230 11 6 := ⟨R_AT, F_AT, 15, rfl, by decide, i_AT, Or.inr ⟨_, wn_1332⟩⟩
theorem fl_SignalEngine_94 : hg_FL "SignalEngine" 94 0 13 := ⟨R_SE, F_SE, 14, rfl, by decide, i_SE, Or.inl w_55⟩
theorem fl_SignalEngine_233 : hg_FL "SignalEngine" 233 0 11 := ⟨R_SE, F_SE, 14, rfl, by decide, i_SE, Or.inl w_53⟩
theorem fl_SignalEngine_251 : hg_FL "SignalEngine" 251 12 2 := ⟨R_NT, F_NT, 15, rfl, by decide, i_NT, Or.inr ⟨_, wn_1461⟩⟩
theorem fl_SignalEngine_Net_36 : hg_FL "SignalEngine$Net" 36 12 8 := ⟨R_NT, F_NT, 15, rfl, by decide, i_NT, Or.inl w_1467⟩
theorem fl_SignalEngine_Net_49 : hg_FL "SignalEngine$Net" 49 12 14 := ⟨R_NT, F_NT, 15, rfl, by decide, i_NT, Or.inl w_1474⟩
theorem fl_SignalEngine_Net_27 : hg_FL "SignalEngine$Net" 27 12 5 := ⟨R_NT, F_NT, 15, rfl, by decide, i_NT, Or.inl w_1464⟩
theorem fl_SignalEngine_Net_30 : hg_FL "SignalEngine$Net" 30 12 6 := ⟨R_NT, F_NT, 15, rfl, by decide, i_NT, Or.inl w_1465⟩
theorem fp_SignalEngine_Net_49 : hg_FP "SignalEngine$Net" 49 12 14 false .int := ⟨R_NT, F_NT, 15, t_NT, rfl, by decide, i_NT, t_NT_ok, n_NT, rfl, (fun h => by cases h), by decide +kernel, Or.inl w_1474⟩
theorem fl_SignalEngine_Net_21 : hg_FL "SignalEngine$Net" 21 12 3 := ⟨R_NT, F_NT, 15, rfl, by decide, i_NT, Or.inl w_1462⟩
theorem fl_SignalEngine_254 : hg_FL "SignalEngine" 254 12 13 := ⟨R_NT, F_NT, 15, rfl, by decide, i_NT, Or.inr ⟨_, wn_1473⟩⟩
theorem fl_SignalEngine_Program_145 : hg_FL "SignalEngine$Program" 145 5 5 := ⟨R_PI, F_PI, 6, rfl, by decide, i_PI, Or.inr ⟨_, wn_182⟩⟩
theorem fl_SignalEngine_Program_40 : hg_FL "SignalEngine$Program" 40 9 1 := ⟨R_PG, F_PG, 17, rfl, by decide, i_PG, Or.inl w_893⟩
theorem fl_SignalEngine_Program_31 : hg_FL "SignalEngine$Program" 31 9 0 := ⟨R_PG, F_PG, 17, rfl, by decide, i_PG, Or.inl w_891⟩
theorem fl_SignalEngine_Program_148 : hg_FL "SignalEngine$Program" 148 3 4 := ⟨R_NM, F_NM, 6, rfl, by decide, i_NM, Or.inr ⟨_, wn_270⟩⟩
theorem fl_SignalEngine_Program_48 : hg_FL "SignalEngine$Program" 48 9 3 := ⟨R_PG, F_PG, 17, rfl, by decide, i_PG, Or.inl w_903⟩
theorem fl_SignalEngine_Program_52 : hg_FL "SignalEngine$Program" 52 9 4 := ⟨R_PG, F_PG, 17, rfl, by decide, i_PG, Or.inl w_908⟩
theorem fl_SignalEngine_Program_56 : hg_FL "SignalEngine$Program" 56 9 5 := ⟨R_PG, F_PG, 17, rfl, by decide, i_PG, Or.inl w_910⟩
theorem fl_SignalEngine_Net_39 : hg_FL "SignalEngine$Net" 39 12 9 := ⟨R_NT, F_NT, 15, rfl, by decide, i_NT, Or.inl w_1468⟩
theorem fl_SignalEngine_88 : hg_FL "SignalEngine" 88 0 9 := ⟨R_SE, F_SE, 14, rfl, by decide, i_SE, Or.inl w_51⟩
theorem fl_SignalEngine_188 : hg_FL "SignalEngine" 188 11 9 := ⟨R_AT, F_AT, 15, rfl, by decide, i_AT, Or.inr ⟨_, wn_1336⟩⟩
theorem fl_SignalEngine_267 : hg_FL "SignalEngine" 267 11 11 := ⟨R_AT, F_AT, 15, rfl, by decide, i_AT, Or.inr ⟨_, wn_1340⟩⟩
theorem fl_SignalEngine_82 : hg_FL "SignalEngine" 82 0 5 := ⟨R_SE, F_SE, 14, rfl, by decide, i_SE, Or.inl w_47⟩
theorem fl_SignalEngine_Reactor_73 : hg_FL "SignalEngine$Reactor" 73 10 10 := ⟨R_RE, F_RE, 18, rfl, by decide, i_RE, Or.inl w_996⟩
theorem fl_SignalEngine_Reactor_41 : hg_FL "SignalEngine$Reactor" 41 10 1 := ⟨R_RE, F_RE, 18, rfl, by decide, i_RE, Or.inl w_985⟩
theorem fl_SignalEngine_Reactor_44 : hg_FL "SignalEngine$Reactor" 44 10 2 := ⟨R_RE, F_RE, 18, rfl, by decide, i_RE, Or.inl w_988⟩
theorem fl_SignalEngine_Reactor_168 : hg_FL "SignalEngine$Reactor" 168 9 16 := ⟨R_PG, F_PG, 17, rfl, by decide, i_PG, Or.inr ⟨_, wn_938⟩⟩
theorem fl_SignalEngine_Reactor_76 : hg_FL "SignalEngine$Reactor" 76 10 11 := ⟨R_RE, F_RE, 18, rfl, by decide, i_RE, Or.inl w_997⟩
theorem fl_SignalEngine_Reactor_165 : hg_FL "SignalEngine$Reactor" 165 9 15 := ⟨R_PG, F_PG, 17, rfl, by decide, i_PG, Or.inr ⟨_, wn_936⟩⟩
theorem fl_SignalEngine_Reactor_66 : hg_FL "SignalEngine$Reactor" 66 10 9 := ⟨R_RE, F_RE, 18, rfl, by decide, i_RE, Or.inl w_995⟩
theorem fl_SignalEngine_Reactor_60 : hg_FL "SignalEngine$Reactor" 60 10 7 := ⟨R_RE, F_RE, 18, rfl, by decide, i_RE, Or.inl w_993⟩
theorem fl_SignalEngine_Reactor_63 : hg_FL "SignalEngine$Reactor" 63 10 8 := ⟨R_RE, F_RE, 18, rfl, by decide, i_RE, Or.inl w_994⟩
theorem fl_SignalEngine_Reactor_99 : hg_FL "SignalEngine$Reactor" 99 10 12 := ⟨R_RE, F_RE, 18, rfl, by decide, i_RE, Or.inl w_1000⟩
theorem fp_SignalEngine_Reactor_95 : hg_FP "SignalEngine$Reactor" 95 10 13 false .boolean := ⟨R_RE, F_RE, 18, t_RE, rfl, by decide, i_RE, t_RE_ok, n_RE, rfl, (fun h => by cases h), by decide +kernel, Or.inl w_1001⟩
theorem fl_SignalEngine_Reactor_54 : hg_FL "SignalEngine$Reactor" 54 10 5 := ⟨R_RE, F_RE, 18, rfl, by decide, i_RE, Or.inl w_991⟩
theorem fl_SignalEngine_Reactor_231 : hg_FL "SignalEngine$Reactor" 231 5 1 := ⟨R_PI, F_PI, 6, rfl, by decide, i_PI, Or.inr ⟨_, wn_172⟩⟩
theorem fl_SignalEngine_Reactor_232 : hg_FL "SignalEngine$Reactor" 232 5 0 := ⟨R_PI, F_PI, 6, rfl, by decide, i_PI, Or.inr ⟨_, wn_169⟩⟩
theorem fl_SignalEngine_Reactor_239 : hg_FL "SignalEngine$Reactor" 239 5 2 := ⟨R_PI, F_PI, 6, rfl, by decide, i_PI, Or.inr ⟨_, wn_175⟩⟩
theorem fl_SignalEngine_Reactor_228 : hg_FL "SignalEngine$Reactor" 228 5 3 := ⟨R_PI, F_PI, 6, rfl, by decide, i_PI, Or.inr ⟨_, wn_178⟩⟩
theorem fl_SignalEngine_Reactor_57 : hg_FL "SignalEngine$Reactor" 57 10 6 := ⟨R_RE, F_RE, 18, rfl, by decide, i_RE, Or.inl w_992⟩
theorem fl_SignalEngine_Reactor_188 : hg_FL "SignalEngine$Reactor" 188 9 9 := ⟨R_PG, F_PG, 17, rfl, by decide, i_PG, Or.inr ⟨_, wn_922⟩⟩
theorem fl_SignalEngine_Reactor_182 : hg_FL "SignalEngine$Reactor" 182 9 8 := ⟨R_PG, F_PG, 17, rfl, by decide, i_PG, Or.inr ⟨_, wn_919⟩⟩
theorem fl_SignalEngine_Reactor_132 : hg_FL "SignalEngine$Reactor" 132 10 17 := ⟨R_RE, F_RE, 18, rfl, by decide, i_RE, Or.inl w_1005⟩
theorem fp_SignalEngine_Reactor_126 : hg_FP "SignalEngine$Reactor" 126 10 15 false .boolean := ⟨R_RE, F_RE, 18, t_RE, rfl, by decide, i_RE, t_RE_ok, n_RE, rfl, (fun h => by cases h), by decide +kernel, Or.inl w_1003⟩
theorem fp_SignalEngine_Reactor_129 : hg_FP "SignalEngine$Reactor" 129 10 16 false .int := ⟨R_RE, F_RE, 18, t_RE, rfl, by decide, i_RE, t_RE_ok, n_RE, rfl, (fun h => by cases h), by decide +kernel, Or.inl w_1004⟩
theorem fp_SignalEngine_Reactor_132 : hg_FP "SignalEngine$Reactor" 132 10 17 false .int := ⟨R_RE, F_RE, 18, t_RE, rfl, by decide, i_RE, t_RE_ok, n_RE, rfl, (fun h => by cases h), by decide +kernel, Or.inl w_1005⟩
theorem fp_SignalEngine_Reactor_102 : hg_FP "SignalEngine$Reactor" 102 10 14 false .boolean := ⟨R_RE, F_RE, 18, t_RE, rfl, by decide, i_RE, t_RE_ok, n_RE, rfl, (fun h => by cases h), by decide +kernel, Or.inl w_1002⟩
theorem fl_SignalEngine_Reactor_102 : hg_FL "SignalEngine$Reactor" 102 10 14 := ⟨R_RE, F_RE, 18, rfl, by decide, i_RE, Or.inl w_1002⟩
theorem fl_SignalEngine_Reactor_139 : hg_FL "SignalEngine$Reactor" 139 9 4 := ⟨R_PG, F_PG, 17, rfl, by decide, i_PG, Or.inr ⟨_, wn_909⟩⟩
theorem fl_SignalEngine_Reactor_149 : hg_FL "SignalEngine$Reactor" 149 9 10 := ⟨R_PG, F_PG, 17, rfl, by decide, i_PG, Or.inr ⟨_, wn_924⟩⟩
theorem fl_SignalEngine_Reactor_129 : hg_FL "SignalEngine$Reactor" 129 10 16 := ⟨R_RE, F_RE, 18, rfl, by decide, i_RE, Or.inl w_1004⟩
theorem fl_SignalEngine_Reactor_126 : hg_FL "SignalEngine$Reactor" 126 10 15 := ⟨R_RE, F_RE, 18, rfl, by decide, i_RE, Or.inl w_1003⟩
theorem fl_SignalEngine_Reactor_95 : hg_FL "SignalEngine$Reactor" 95 10 13 := ⟨R_RE, F_RE, 18, rfl, by decide, i_RE, Or.inl w_1001⟩
theorem fp_SignalEngine_Reactor_99 : hg_FP "SignalEngine$Reactor" 99 10 12 false .int := ⟨R_RE, F_RE, 18, t_RE, rfl, by decide, i_RE, t_RE_ok, n_RE, rfl, (fun h => by cases h), by decide +kernel, Or.inl w_1000⟩
theorem fl_SignalEngine_61 : hg_FL "SignalEngine" 61 0 4 := ⟨R_SE, F_SE, 14, rfl, by decide, i_SE, Or.inl w_46⟩
theorem fl_SignalEngine_166 : hg_FL "SignalEngine" 166 10 11 := ⟨R_RE, F_RE, 18, rfl, by decide, i_RE, Or.inr ⟨_, wn_999⟩⟩
theorem fl_SignalEngine_72 : hg_FL "SignalEngine" 72 9 1 := ⟨R_PG, F_PG, 17, rfl, by decide, i_PG, Or.inr ⟨_, wn_897⟩⟩
theorem fl_SignalEngine_157 : hg_FL "SignalEngine" 157 10 1 := ⟨R_RE, F_RE, 18, rfl, by decide, i_RE, Or.inr ⟨_, wn_987⟩⟩
theorem fp_SignalEngine_Atlas_11 : hg_FP "SignalEngine$Atlas" 11 11 0 true (.array .int) := ⟨R_AT, F_AT, 15, t_AT, rfl, by decide, i_AT, t_AT_ok, n_AT, rfl, (fun _ => rfl), by decide +kernel, Or.inl w_1320⟩
theorem fp_SignalEngine_Atlas_15 : hg_FP "SignalEngine$Atlas" 15 11 1 true (.array .int) := ⟨R_AT, F_AT, 15, t_AT, rfl, by decide, i_AT, t_AT_ok, n_AT, rfl, (fun _ => rfl), by decide +kernel, Or.inl w_1323⟩
theorem fp_SignalEngine_Atlas_18 : hg_FP "SignalEngine$Atlas" 18 11 2 true (.array .int) := ⟨R_AT, F_AT, 15, t_AT, rfl, by decide, i_AT, t_AT_ok, n_AT, rfl, (fun _ => rfl), by decide +kernel, Or.inl w_1326⟩
theorem fp_SignalEngine_Atlas_21 : hg_FP "SignalEngine$Atlas" 21 11 3 true (.array .int) := ⟨R_AT, F_AT, 15, t_AT, rfl, by decide, i_AT, t_AT_ok, n_AT, rfl, (fun _ => rfl), by decide +kernel, Or.inl w_1328⟩
theorem fp_SignalEngine_Atlas_24 : hg_FP "SignalEngine$Atlas" 24 11 4 true (.array .int) := ⟨R_AT, F_AT, 15, t_AT, rfl, by decide, i_AT, t_AT_ok, n_AT, rfl, (fun _ => rfl), by decide +kernel, Or.inl w_1329⟩
theorem fp_SignalEngine_Atlas_27 : hg_FP "SignalEngine$Atlas" 27 11 5 true (.array .int) := ⟨R_AT, F_AT, 15, t_AT, rfl, by decide, i_AT, t_AT_ok, n_AT, rfl, (fun _ => rfl), by decide +kernel, Or.inl w_1330⟩
theorem fp_SignalEngine_Atlas_30 : hg_FP "SignalEngine$Atlas" 30 11 6 true (.array .int) := ⟨R_AT, F_AT, 15, t_AT, rfl, by decide, i_AT, t_AT_ok, n_AT, rfl, (fun _ => rfl), by decide +kernel, Or.inl w_1331⟩
theorem fp_SignalEngine_Atlas_33 : hg_FP "SignalEngine$Atlas" 33 11 7 true (.array .int) := ⟨R_AT, F_AT, 15, t_AT, rfl, by decide, i_AT, t_AT_ok, n_AT, rfl, (fun _ => rfl), by decide +kernel, Or.inl w_1333⟩
theorem fp_SignalEngine_Atlas_58 : hg_FP "SignalEngine$Atlas" 58 11 9 false .int := ⟨R_AT, F_AT, 15, t_AT, rfl, by decide, i_AT, t_AT_ok, n_AT, rfl, (fun h => by cases h), by decide +kernel, Or.inl w_1335⟩
theorem fl_SignalEngine_Atlas_103 : hg_FL "SignalEngine$Atlas" 103 9 2 := ⟨R_PG, F_PG, 17, rfl, by decide, i_PG, Or.inr ⟨_, wn_902⟩⟩
theorem fl_SignalEngine_Atlas_106 : hg_FL "SignalEngine$Atlas" 106 10 1 := ⟨R_RE, F_RE, 18, rfl, by decide, i_RE, Or.inr ⟨_, wn_986⟩⟩
theorem fl_SignalEngine_Atlas_49 : hg_FL "SignalEngine$Atlas" 49 9 1 := ⟨R_PG, F_PG, 17, rfl, by decide, i_PG, Or.inr ⟨_, wn_896⟩⟩
theorem fl_SignalEngine_Atlas_44 : hg_FL "SignalEngine$Atlas" 44 9 3 := ⟨R_PG, F_PG, 17, rfl, by decide, i_PG, Or.inr ⟨_, wn_906⟩⟩
theorem fl_SignalEngine_Atlas_99 : hg_FL "SignalEngine$Atlas" 99 10 11 := ⟨R_RE, F_RE, 18, rfl, by decide, i_RE, Or.inr ⟨_, wn_998⟩⟩
theorem fp_SignalEngine_Atlas_67 : hg_FP "SignalEngine$Atlas" 67 11 13 false .int := ⟨R_AT, F_AT, 15, t_AT, rfl, by decide, i_AT, t_AT_ok, n_AT, rfl, (fun h => by cases h), by decide +kernel, Or.inl w_1343⟩
theorem fp_SignalEngine_Atlas_109 : hg_FP "SignalEngine$Atlas" 109 11 14 false .int := ⟨R_AT, F_AT, 15, t_AT, rfl, by decide, i_AT, t_AT_ok, n_AT, rfl, (fun h => by cases h), by decide +kernel, Or.inl w_1345⟩
theorem fl_SignalEngine_Atlas_67 : hg_FL "SignalEngine$Atlas" 67 11 13 := ⟨R_AT, F_AT, 15, rfl, by decide, i_AT, Or.inl w_1343⟩
theorem fl_SignalEngine_Atlas_61 : hg_FL "SignalEngine$Atlas" 61 11 10 := ⟨R_AT, F_AT, 15, rfl, by decide, i_AT, Or.inl w_1337⟩
theorem fl_SignalEngine_Atlas_64 : hg_FL "SignalEngine$Atlas" 64 11 11 := ⟨R_AT, F_AT, 15, rfl, by decide, i_AT, Or.inl w_1339⟩
theorem fp_SignalEngine_Atlas_64 : hg_FP "SignalEngine$Atlas" 64 11 11 false .int := ⟨R_AT, F_AT, 15, t_AT, rfl, by decide, i_AT, t_AT_ok, n_AT, rfl, (fun h => by cases h), by decide +kernel, Or.inl w_1339⟩
theorem fp_SignalEngine_Atlas_61 : hg_FP "SignalEngine$Atlas" 61 11 10 false .int := ⟨R_AT, F_AT, 15, t_AT, rfl, by decide, i_AT, t_AT_ok, n_AT, rfl, (fun h => by cases h), by decide +kernel, Or.inl w_1337⟩
theorem fl_SignalEngine_Atlas_30 : hg_FL "SignalEngine$Atlas" 30 11 6 := ⟨R_AT, F_AT, 15, rfl, by decide, i_AT, Or.inl w_1331⟩
theorem fl_SignalEngine_Atlas_33 : hg_FL "SignalEngine$Atlas" 33 11 7 := ⟨R_AT, F_AT, 15, rfl, by decide, i_AT, Or.inl w_1333⟩
theorem fp_SignalEngine_Atlas_117 : hg_FP "SignalEngine$Atlas" 117 11 12 false .int := ⟨R_AT, F_AT, 15, t_AT, rfl, by decide, i_AT, t_AT_ok, n_AT, rfl, (fun h => by cases h), by decide +kernel, Or.inl w_1341⟩
theorem fl_SignalEngine_Atlas_117 : hg_FL "SignalEngine$Atlas" 117 11 12 := ⟨R_AT, F_AT, 15, rfl, by decide, i_AT, Or.inl w_1341⟩
theorem fp_SignalEngine_Atlas_40 : hg_FP "SignalEngine$Atlas" 40 11 8 false .int := ⟨R_AT, F_AT, 15, t_AT, rfl, by decide, i_AT, t_AT_ok, n_AT, rfl, (fun h => by cases h), by decide +kernel, Or.inl w_1334⟩
theorem nw_SignalEngine_174 : hg_NW "SignalEngine" 174 11 15 [.null, .null, .null, .null, .null, .null, .null, .null, .int 0, .int 0, .int 0, .int 0, .int 0, .int 0, .int 0] := ⟨R_AT, F_AT, t_AT, rfl, i_AT, t_AT_ok, w_1314, w_1315, w_32, by decide +kernel⟩
theorem fp_SignalEngine_169 : hg_FP "SignalEngine" 169 0 10 false (.object "SignalEngine$Atlas") := ⟨R_SE, F_SE, 14, t_SE, rfl, by decide, i_SE, t_SE_ok, n_SE, rfl, (fun h => by cases h), by decide +kernel, Or.inl w_52⟩
theorem fl_SignalEngine_201 : hg_FL "SignalEngine" 201 11 0 := ⟨R_AT, F_AT, 15, rfl, by decide, i_AT, Or.inr ⟨_, wn_1322⟩⟩
theorem fl_SignalEngine_207 : hg_FL "SignalEngine" 207 11 1 := ⟨R_AT, F_AT, 15, rfl, by decide, i_AT, Or.inr ⟨_, wn_1325⟩⟩
theorem fl_SignalEngine_227 : hg_FL "SignalEngine" 227 11 12 := ⟨R_AT, F_AT, 15, rfl, by decide, i_AT, Or.inr ⟨_, wn_1342⟩⟩
theorem fp_SignalEngine_Net_11 : hg_FP "SignalEngine$Net" 11 12 0 true (.array .int) := ⟨R_NT, F_NT, 15, t_NT, rfl, by decide, i_NT, t_NT_ok, n_NT, rfl, (fun _ => rfl), by decide +kernel, Or.inl w_1458⟩
theorem fp_SignalEngine_Net_15 : hg_FP "SignalEngine$Net" 15 12 1 true (.array .int) := ⟨R_NT, F_NT, 15, t_NT, rfl, by decide, i_NT, t_NT_ok, n_NT, rfl, (fun _ => rfl), by decide +kernel, Or.inl w_1459⟩
theorem fp_SignalEngine_Net_18 : hg_FP "SignalEngine$Net" 18 12 2 true (.array .int) := ⟨R_NT, F_NT, 15, t_NT, rfl, by decide, i_NT, t_NT_ok, n_NT, rfl, (fun _ => rfl), by decide +kernel, Or.inl w_1460⟩
theorem fp_SignalEngine_Net_21 : hg_FP "SignalEngine$Net" 21 12 3 true (.array .int) := ⟨R_NT, F_NT, 15, t_NT, rfl, by decide, i_NT, t_NT_ok, n_NT, rfl, (fun _ => rfl), by decide +kernel, Or.inl w_1462⟩
theorem fp_SignalEngine_Net_24 : hg_FP "SignalEngine$Net" 24 12 4 false (.array .int) := ⟨R_NT, F_NT, 15, t_NT, rfl, by decide, i_NT, t_NT_ok, n_NT, rfl, (fun h => by cases h), by decide +kernel, Or.inl w_1463⟩
theorem fp_SignalEngine_Net_27 : hg_FP "SignalEngine$Net" 27 12 5 false (.array .int) := ⟨R_NT, F_NT, 15, t_NT, rfl, by decide, i_NT, t_NT_ok, n_NT, rfl, (fun h => by cases h), by decide +kernel, Or.inl w_1464⟩
theorem fp_SignalEngine_Net_30 : hg_FP "SignalEngine$Net" 30 12 6 false (.array .int) := ⟨R_NT, F_NT, 15, t_NT, rfl, by decide, i_NT, t_NT_ok, n_NT, rfl, (fun h => by cases h), by decide +kernel, Or.inl w_1465⟩
theorem fp_SignalEngine_Net_33 : hg_FP "SignalEngine$Net" 33 12 7 false (.array .int) := ⟨R_NT, F_NT, 15, t_NT, rfl, by decide, i_NT, t_NT_ok, n_NT, rfl, (fun h => by cases h), by decide +kernel, Or.inl w_1466⟩
theorem fp_SignalEngine_Net_36 : hg_FP "SignalEngine$Net" 36 12 8 false (.array .int) := ⟨R_NT, F_NT, 15, t_NT, rfl, by decide, i_NT, t_NT_ok, n_NT, rfl, (fun h => by cases h), by decide +kernel, Or.inl w_1467⟩
theorem fl_SignalEngine_Net_66 : hg_FL "SignalEngine$Net" 66 12 13 := ⟨R_NT, F_NT, 15, rfl, by decide, i_NT, Or.inl w_1472⟩
theorem fl_SignalEngine_Net_94 : hg_FL "SignalEngine$Net" 94 11 0 := ⟨R_AT, F_AT, 15, rfl, by decide, i_AT, Or.inr ⟨_, wn_1321⟩⟩
theorem fl_SignalEngine_Net_61 : hg_FL "SignalEngine$Net" 61 12 11 := ⟨R_NT, F_NT, 15, rfl, by decide, i_NT, Or.inl w_1470⟩
theorem fl_SignalEngine_Net_97 : hg_FL "SignalEngine$Net" 97 11 1 := ⟨R_AT, F_AT, 15, rfl, by decide, i_AT, Or.inr ⟨_, wn_1324⟩⟩
theorem fl_SignalEngine_Net_24 : hg_FL "SignalEngine$Net" 24 12 4 := ⟨R_NT, F_NT, 15, rfl, by decide, i_NT, Or.inl w_1463⟩
theorem fl_SignalEngine_Net_33 : hg_FL "SignalEngine$Net" 33 12 7 := ⟨R_NT, F_NT, 15, rfl, by decide, i_NT, Or.inl w_1466⟩
theorem fl_SignalEngine_Net_15 : hg_FL "SignalEngine$Net" 15 12 1 := ⟨R_NT, F_NT, 15, rfl, by decide, i_NT, Or.inl w_1459⟩
theorem fl_SignalEngine_Net_18 : hg_FL "SignalEngine$Net" 18 12 2 := ⟨R_NT, F_NT, 15, rfl, by decide, i_NT, Or.inl w_1460⟩
theorem fp_SignalEngine_Net_39 : hg_FP "SignalEngine$Net" 39 12 9 false .int := ⟨R_NT, F_NT, 15, t_NT, rfl, by decide, i_NT, t_NT_ok, n_NT, rfl, (fun h => by cases h), by decide +kernel, Or.inl w_1468⟩
theorem fl_SignalEngine_Net_11 : hg_FL "SignalEngine$Net" 11 12 0 := ⟨R_NT, F_NT, 15, rfl, by decide, i_NT, Or.inl w_1458⟩
theorem fl_SignalEngine_Net_57 : hg_FL "SignalEngine$Net" 57 12 10 := ⟨R_NT, F_NT, 15, rfl, by decide, i_NT, Or.inl w_1469⟩
theorem fl_SignalEngine_Net_65 : hg_FL "SignalEngine$Net" 65 12 12 := ⟨R_NT, F_NT, 15, rfl, by decide, i_NT, Or.inl w_1471⟩
theorem fl_SignalEngine_Net_52 : hg_FL "SignalEngine$Net" 52 9 1 := ⟨R_PG, F_PG, 17, rfl, by decide, i_PG, Or.inr ⟨_, wn_895⟩⟩
theorem fp_SignalEngine_Net_57 : hg_FP "SignalEngine$Net" 57 12 10 false .int := ⟨R_NT, F_NT, 15, t_NT, rfl, by decide, i_NT, t_NT_ok, n_NT, rfl, (fun h => by cases h), by decide +kernel, Or.inl w_1469⟩
theorem fl_SignalEngine_Net_58 : hg_FL "SignalEngine$Net" 58 9 2 := ⟨R_PG, F_PG, 17, rfl, by decide, i_PG, Or.inr ⟨_, wn_900⟩⟩
theorem fp_SignalEngine_Net_61 : hg_FP "SignalEngine$Net" 61 12 11 false .int := ⟨R_NT, F_NT, 15, t_NT, rfl, by decide, i_NT, t_NT_ok, n_NT, rfl, (fun h => by cases h), by decide +kernel, Or.inl w_1470⟩
theorem fl_SignalEngine_Net_62 : hg_FL "SignalEngine$Net" 62 9 3 := ⟨R_PG, F_PG, 17, rfl, by decide, i_PG, Or.inr ⟨_, wn_905⟩⟩
theorem fp_SignalEngine_Net_65 : hg_FP "SignalEngine$Net" 65 12 12 false .int := ⟨R_NT, F_NT, 15, t_NT, rfl, by decide, i_NT, t_NT_ok, n_NT, rfl, (fun h => by cases h), by decide +kernel, Or.inl w_1471⟩
theorem fp_SignalEngine_Net_66 : hg_FP "SignalEngine$Net" 66 12 13 false .int := ⟨R_NT, F_NT, 15, t_NT, rfl, by decide, i_NT, t_NT_ok, n_NT, rfl, (fun h => by cases h), by decide +kernel, Or.inl w_1472⟩
theorem nw_SignalEngine_237 : hg_NW "SignalEngine" 237 12 15 [.null, .null, .null, .null, .null, .null, .null, .null, .null, .int 0, .int 0, .int 0, .int 0, .int 0, .int 0] := ⟨R_NT, F_NT, t_NT, rfl, i_NT, t_NT_ok, w_1452, w_1453, w_33, by decide +kernel⟩
theorem fp_SignalEngine_233 : hg_FP "SignalEngine" 233 0 11 false (.object "SignalEngine$Net") := ⟨R_SE, F_SE, 14, t_SE, rfl, by decide, i_SE, t_SE_ok, n_SE, rfl, (fun h => by cases h), by decide +kernel, Or.inl w_53⟩
theorem cw_SignalEngine_24 : dc_VW "SignalEngine" 24 ⟨"SignalEngine", "append", "(I)V"⟩ prog_1_method_3_code 3 none 1 := ⟨w_110, w_1, w_107, w_109, wp_0, by decide +kernel, by decide +kernel, by decide +kernel⟩
theorem cw_SignalEngine_Lexer_32 : dc_VW "SignalEngine$Lexer" 32 ⟨"SignalEngine$Lexer", "refuse", "(I)V"⟩ prog_5_method_2_code 2 none 1 := ⟨w_332, w_12, w_329, w_330, w_331, by decide +kernel, by decide +kernel, by decide +kernel⟩
theorem cw_SignalEngine_Names_45 : dc_VW "SignalEngine$Names" 45 ⟨"SignalEngine$Names", "reads", "(ILSignalEngine$Lexer;)Z"⟩ prog_6_method_5_code 4 (some (.boolean)) 2 := ⟨w_486, w_15, w_483, w_485, wp_9, by decide +kernel, by decide +kernel, by decide +kernel⟩
theorem cw_SignalEngine_Names_29 : dc_SW "SignalEngine$Names" 29 ⟨"java/util/Arrays", "copyOf", "([II)[I"⟩ prog_34_method_123_code 3 (some (.array .int)) 2 := ⟨w_494, w_3, w_492, w_493, by decide +kernel, by decide +kernel, by decide +kernel⟩
theorem cw_SignalEngine_Parser_117 : dc_VW "SignalEngine$Parser" 117 ⟨"SignalEngine$Lexer", "refuse", "(I)V"⟩ prog_5_method_2_code 2 none 1 := ⟨w_332, w_12, w_487, w_330, w_331, by decide +kernel, by decide +kernel, by decide +kernel⟩
theorem cw_SignalEngine_Pieces_35 : dc_SW "SignalEngine$Pieces" 35 ⟨"java/util/Arrays", "copyOf", "([II)[I"⟩ prog_34_method_123_code 3 (some (.array .int)) 2 := ⟨w_494, w_3, w_719, w_493, by decide +kernel, by decide +kernel, by decide +kernel⟩
theorem cw_SignalEngine_Pieces_31 : dc_VW "SignalEngine$Pieces" 31 ⟨"SignalEngine$Pieces", "widen", "(I)V"⟩ prog_10_method_3_code 2 none 1 := ⟨w_718, w_11, w_715, w_717, wp_24, by decide +kernel, by decide +kernel, by decide +kernel⟩
theorem cw_SignalEngine_Draft_135 : dc_SW "SignalEngine$Draft" 135 ⟨"SignalEngine$Draft", "hang", "(LSignalEngine$Node;LSignalEngine$Node;II)V"⟩ prog_4_method_16_code 4 none 4 := ⟨w_838, w_7, w_836, w_837, by decide +kernel, by decide +kernel, by decide +kernel⟩
theorem cw_SignalEngine_Draft_82 : dc_SW "SignalEngine$Draft" 82 ⟨"SignalEngine$Draft", "extentOf", "(LSignalEngine$Node;)I"⟩ prog_4_method_14_code 1 (some (.int)) 1 := ⟨w_830, w_7, w_828, w_829, by decide +kernel, by decide +kernel, by decide +kernel⟩
theorem cw_SignalEngine_273 : dc_SW "SignalEngine" 273 ⟨"java/lang/Integer", "lowestOneBit", "(I)I"⟩ prog_22_method_46_code 1 (some (.int)) 1 := ⟨w_847, w_28, w_845, w_846, by decide +kernel, by decide +kernel, by decide +kernel⟩
theorem cw_SignalEngine_Draft_142 : hg_NSW "SignalEngine$Draft" 142 ⟨"SignalEngine", "greaterOfPairs", "(II)I"⟩ prog_1_method_33_code 2 (some (.int)) 2 := ⟨w_844, w_1, ⟨_, wn_842⟩, w_843, by decide +kernel, by decide +kernel, by decide +kernel⟩
theorem cw_SignalEngine_Draft_145 : hg_NSW "SignalEngine$Draft" 145 ⟨"SignalEngine", "withoutTrap", "(I)I"⟩ prog_1_method_34_code 1 (some (.int)) 1 := ⟨w_850, w_1, ⟨_, wn_848⟩, w_849, by decide +kernel, by decide +kernel, by decide +kernel⟩
theorem cw_SignalEngine_Pieces_41 : dc_VW "SignalEngine$Pieces" 41 ⟨"SignalEngine$Pieces", "copyPiece", "(LSignalEngine$Pieces;I)V"⟩ prog_10_method_5_code 6 none 2 := ⟨w_885, w_11, w_882, w_884, wp_35, by decide +kernel, by decide +kernel, by decide +kernel⟩
theorem cw_SignalEngine_Program_141 : dc_VW "SignalEngine$Program" 141 ⟨"SignalEngine$Pieces", "copyOf", "(LSignalEngine$Pieces;I)I"⟩ prog_10_method_4_code 5 (some (.int)) 2 := ⟨w_881, w_11, w_878, w_879, w_880, by decide +kernel, by decide +kernel, by decide +kernel⟩
theorem cw_SignalEngine_Reactor_37 : dc_VW "SignalEngine$Reactor" 37 ⟨"SignalEngine$Reactor", "givePlaces", "()I"⟩ prog_12_method_2_code 3 (some (.int)) 0 := ⟨w_983, w_30, w_980, w_982, wp_37, by decide +kernel, by decide +kernel, by decide +kernel⟩
theorem cw_SignalEngine_134 : dc_VW "SignalEngine" 134 ⟨"SignalEngine$Names", "character", "(II)I"⟩ prog_6_method_6_code 3 (some (.int)) 2 := ⟨w_1059, w_15, w_1056, w_1057, w_1058, by decide +kernel, by decide +kernel, by decide +kernel⟩
theorem cw_SignalEngine_173 : dc_VW "SignalEngine" 173 ⟨"SignalEngine$Atlas", "reaches", "(I)Z"⟩ prog_3_method_3_code 2 (some (.boolean)) 1 := ⟨w_1075, w_32, w_1072, w_1073, w_1074, by decide +kernel, by decide +kernel, by decide +kernel⟩
theorem cw_SignalEngine_194 : dc_VW "SignalEngine" 194 ⟨"SignalEngine$Atlas", "inputsOnWay", "(II)I"⟩ prog_3_method_10_code 5 (some (.int)) 2 := ⟨w_1083, w_32, w_1080, w_1081, w_1082, by decide +kernel, by decide +kernel, by decide +kernel⟩
theorem cw_SignalEngine_Atlas_87 : dc_SW "SignalEngine$Atlas" 87 ⟨"SignalEngine$Atlas", "cell", "(II)I"⟩ prog_3_method_2_code 2 (some (.int)) 2 := ⟨w_1106, w_32, w_1104, w_1105, by decide +kernel, by decide +kernel, by decide +kernel⟩
theorem cw_SignalEngine_220 : dc_VW "SignalEngine" 220 ⟨"SignalEngine$Program", "hasOutput", "(I)Z"⟩ prog_11_method_5_code 2 (some (.boolean)) 1 := ⟨w_1099, w_29, w_1096, w_1097, w_1098, by decide +kernel, by decide +kernel, by decide +kernel⟩
theorem cw_SignalEngine_223 : dc_VW "SignalEngine" 223 ⟨"SignalEngine$Atlas", "reactionsWith", "(I)I"⟩ prog_3_method_11_code 6 (some (.int)) 1 := ⟨w_1103, w_32, w_1100, w_1101, w_1102, by decide +kernel, by decide +kernel, by decide +kernel⟩
theorem cw_SignalEngine_216 : dc_VW "SignalEngine" 216 ⟨"SignalEngine", "together", "(II)I"⟩ prog_1_method_23_code 3 (some (.int)) 2 := ⟨w_1095, w_1, w_1092, w_1093, w_1094, by decide +kernel, by decide +kernel, by decide +kernel⟩
theorem cw_SignalEngine_257 : dc_VW "SignalEngine" 257 ⟨"SignalEngine$Net", "multiplexersOf", "(I)I"⟩ prog_7_method_12_code 4 (some (.int)) 1 := ⟨w_1123, w_33, w_1120, w_1121, w_1122, by decide +kernel, by decide +kernel, by decide +kernel⟩
theorem cw_SignalEngine_270 : dc_VW "SignalEngine" 270 ⟨"SignalEngine", "selected", "(I)Z"⟩ prog_1_method_14_code 2 (some (.boolean)) 1 := ⟨w_1067, w_1, w_1140, w_1065, w_1066, by decide +kernel, by decide +kernel, by decide +kernel⟩
theorem cw_SignalEngine_264 : dc_VW "SignalEngine" 264 ⟨"SignalEngine", "heldPauses", "()I"⟩ prog_1_method_32_code 3 (some (.int)) 0 := ⟨w_1139, w_1, w_1136, w_1138, wp_39, by decide +kernel, by decide +kernel, by decide +kernel⟩
theorem cw_SignalEngine_244 : dc_VW "SignalEngine" 244 ⟨"SignalEngine$Net", "multiplexers", "()I"⟩ prog_7_method_2_code 1 (some (.int)) 0 := ⟨w_1144, w_33, w_1141, w_1142, w_1143, by decide +kernel, by decide +kernel, by decide +kernel⟩
theorem cw_SignalEngine_260 : dc_VW "SignalEngine" 260 ⟨"SignalEngine$Program", "figure", "(I)I"⟩ prog_11_method_7_code 2 (some (.int)) 1 := ⟨w_1131, w_29, w_1128, w_1129, w_1130, by decide +kernel, by decide +kernel, by decide +kernel⟩
theorem cw_SignalEngine_263 : dc_VW "SignalEngine" 263 ⟨"SignalEngine", "figure", "(I)I"⟩ prog_1_method_31_code 2 (some (.int)) 1 := ⟨w_1135, w_1, w_1132, w_1134, wp_38, by decide +kernel, by decide +kernel, by decide +kernel⟩
theorem cw_SignalEngine_146 : dc_SW "SignalEngine" 146 ⟨"java/util/Arrays", "fill", "([II)V"⟩ prog_34_method_103_code 4 none 2 := ⟨w_1174, w_3, w_1172, w_1173, by decide +kernel, by decide +kernel, by decide +kernel⟩
theorem cw_SignalEngine_143 : dc_VW "SignalEngine" 143 ⟨"SignalEngine", "stand", "(I)V"⟩ prog_1_method_11_code 3 none 1 := ⟨w_1171, w_1, w_1168, w_1170, wp_40, by decide +kernel, by decide +kernel, by decide +kernel⟩
theorem cw_SignalEngine_Reactor_116 : dc_SW "SignalEngine$Reactor" 116 ⟨"java/util/Arrays", "fill", "([II)V"⟩ prog_34_method_103_code 4 none 2 := ⟨w_1174, w_3, w_1193, w_1173, by decide +kernel, by decide +kernel, by decide +kernel⟩
theorem cw_SignalEngine_Reactor_135 : dc_VW "SignalEngine$Reactor" 135 ⟨"SignalEngine$Reactor", "within", "(IZ)I"⟩ prog_12_method_12_code 3 (some (.int)) 2 := ⟨w_1205, w_30, w_1202, w_1204, wp_44, by decide +kernel, by decide +kernel, by decide +kernel⟩
theorem cw_SignalEngine_Reactor_185 : dc_VW "SignalEngine$Reactor" 185 ⟨"SignalEngine$Reactor", "valueOf", "(I)I"⟩ prog_12_method_27_code 5 (some (.int)) 1 := ⟨w_1225, w_30, w_1222, w_1224, wp_49, by decide +kernel, by decide +kernel, by decide +kernel⟩
theorem cw_SignalEngine_Reactor_171 : dc_VW "SignalEngine$Reactor" 171 ⟨"SignalEngine$Reactor", "answer", "(III)V"⟩ prog_12_method_11_code 4 none 3 := ⟨w_1213, w_30, w_1210, w_1212, wp_46, by decide +kernel, by decide +kernel, by decide +kernel⟩
theorem cw_SignalEngine_Reactor_175 : dc_VW "SignalEngine$Reactor" 175 ⟨"SignalEngine$Reactor", "emit", "(IZ)V"⟩ prog_12_method_14_code 3 none 2 := ⟨w_1217, w_30, w_1214, w_1216, wp_47, by decide +kernel, by decide +kernel, by decide +kernel⟩
theorem cw_SignalEngine_Reactor_179 : dc_VW "SignalEngine$Reactor" 179 ⟨"SignalEngine$Reactor", "beginPresent", "(I)I"⟩ prog_12_method_15_code 3 (some (.int)) 1 := ⟨w_1221, w_30, w_1218, w_1220, wp_48, by decide +kernel, by decide +kernel, by decide +kernel⟩
theorem cw_SignalEngine_Reactor_221 : dc_VW "SignalEngine$Reactor" 221 ⟨"SignalEngine$Reactor", "isHeld", "(I)Z"⟩ prog_12_method_10_code 2 (some (.boolean)) 1 := ⟨w_1247, w_30, w_1244, w_1246, wp_53, by decide +kernel, by decide +kernel, by decide +kernel⟩
theorem cw_SignalEngine_Reactor_215 : dc_VW "SignalEngine$Reactor" 215 ⟨"SignalEngine$Reactor", "beginSuspend", "(I)I"⟩ prog_12_method_23_code 3 (some (.int)) 1 := ⟨w_1239, w_30, w_1236, w_1238, wp_51, by decide +kernel, by decide +kernel, by decide +kernel⟩
theorem cw_SignalEngine_Reactor_218 : dc_VW "SignalEngine$Reactor" 218 ⟨"SignalEngine$Reactor", "answerEnded", "(I)V"⟩ prog_12_method_22_code 2 none 1 := ⟨w_1243, w_30, w_1240, w_1242, wp_52, by decide +kernel, by decide +kernel, by decide +kernel⟩
theorem cw_SignalEngine_Reactor_194 : dc_VW "SignalEngine$Reactor" 194 ⟨"SignalEngine$Reactor", "putBehind", "(II)V"⟩ prog_12_method_18_code 3 none 2 := ⟨w_1255, w_30, w_1252, w_1254, wp_55, by decide +kernel, by decide +kernel, by decide +kernel⟩
theorem cw_SignalEngine_Reactor_204 : hg_NSW "SignalEngine$Reactor" 204 ⟨"SignalEngine", "greaterOfPairs", "(II)I"⟩ prog_1_method_33_code 2 (some (.int)) 2 := ⟨w_844, w_1, ⟨_, wn_1268⟩, w_843, by decide +kernel, by decide +kernel, by decide +kernel⟩
theorem cw_SignalEngine_Reactor_162 : dc_VW "SignalEngine$Reactor" 162 ⟨"SignalEngine$Reactor", "settleAbsent", "(I)V"⟩ prog_12_method_8_code 2 none 1 := ⟨w_1277, w_30, w_1274, w_1276, wp_60, by decide +kernel, by decide +kernel, by decide +kernel⟩
theorem cw_SignalEngine_Reactor_212 : hg_NSW "SignalEngine$Reactor" 212 ⟨"SignalEngine", "withoutTrap", "(I)I"⟩ prog_1_method_34_code 1 (some (.int)) 1 := ⟨w_850, w_1, ⟨_, wn_1278⟩, w_849, by decide +kernel, by decide +kernel, by decide +kernel⟩
theorem cw_SignalEngine_Reactor_122 : dc_VW "SignalEngine$Reactor" 122 ⟨"SignalEngine$Reactor", "clear", "(I)V"⟩ prog_12_method_9_code 3 none 1 := ⟨w_1201, w_30, w_1198, w_1200, wp_43, by decide +kernel, by decide +kernel, by decide +kernel⟩
theorem cw_SignalEngine_Reactor_191 : dc_VW "SignalEngine$Reactor" 191 ⟨"SignalEngine$Reactor", "goOnPresent", "(II)I"⟩ prog_12_method_17_code 3 (some (.int)) 2 := ⟨w_1263, w_30, w_1260, w_1262, wp_57, by decide +kernel, by decide +kernel, by decide +kernel⟩
theorem cw_SignalEngine_Reactor_201 : dc_VW "SignalEngine$Reactor" 201 ⟨"SignalEngine$Reactor", "closeSingle", "(II)V"⟩ prog_12_method_20_code 4 none 2 := ⟨w_1273, w_30, w_1270, w_1272, wp_59, by decide +kernel, by decide +kernel, by decide +kernel⟩
theorem cw_SignalEngine_Reactor_198 : dc_VW "SignalEngine$Reactor" 198 ⟨"SignalEngine$Reactor", "closeBoth", "(I)V"⟩ prog_12_method_19_code 5 none 1 := ⟨w_1267, w_30, w_1264, w_1266, wp_58, by decide +kernel, by decide +kernel, by decide +kernel⟩
theorem cw_SignalEngine_Reactor_225 : dc_VW "SignalEngine$Reactor" 225 ⟨"SignalEngine$Reactor", "startBehind", "(II)I"⟩ prog_12_method_25_code 3 (some (.int)) 2 := ⟨w_1286, w_30, w_1283, w_1285, wp_62, by decide +kernel, by decide +kernel, by decide +kernel⟩
theorem cw_SignalEngine_Reactor_152 : dc_VW "SignalEngine$Reactor" 152 ⟨"SignalEngine$Reactor", "comeBack", "(II)I"⟩ prog_12_method_26_code 3 (some (.int)) 2 := ⟨w_1251, w_30, w_1248, w_1250, wp_54, by decide +kernel, by decide +kernel, by decide +kernel⟩
theorem cw_SignalEngine_Reactor_159 : dc_VW "SignalEngine$Reactor" 159 ⟨"SignalEngine$Reactor", "goOnResume", "(II)I"⟩ prog_12_method_24_code 4 (some (.int)) 2 := ⟨w_1282, w_30, w_1279, w_1281, wp_61, by decide +kernel, by decide +kernel, by decide +kernel⟩
theorem cw_SignalEngine_Reactor_156 : dc_VW "SignalEngine$Reactor" 156 ⟨"SignalEngine$Reactor", "goOnStart", "(II)I"⟩ prog_12_method_16_code 4 (some (.int)) 2 := ⟨w_1259, w_30, w_1256, w_1258, wp_56, by decide +kernel, by decide +kernel, by decide +kernel⟩
theorem cw_SignalEngine_Reactor_146 : dc_VW "SignalEngine$Reactor" 146 ⟨"SignalEngine$Reactor", "beginResume", "(I)I"⟩ prog_12_method_21_code 3 (some (.int)) 1 := ⟨w_1235, w_30, w_1232, w_1234, wp_50, by decide +kernel, by decide +kernel, by decide +kernel⟩
theorem cw_SignalEngine_Reactor_142 : dc_VW "SignalEngine$Reactor" 142 ⟨"SignalEngine$Reactor", "beginStart", "(I)I"⟩ prog_12_method_13_code 3 (some (.int)) 1 := ⟨w_1209, w_30, w_1206, w_1208, wp_45, by decide +kernel, by decide +kernel, by decide +kernel⟩
theorem cw_SignalEngine_Reactor_112 : dc_VW "SignalEngine$Reactor" 112 ⟨"SignalEngine$Reactor", "outputsAreKnown", "()Z"⟩ prog_12_method_7_code 2 (some (.boolean)) 0 := ⟨w_1294, w_30, w_1291, w_1293, wp_64, by decide +kernel, by decide +kernel, by decide +kernel⟩
theorem cw_SignalEngine_Reactor_105 : dc_VW "SignalEngine$Reactor" 105 ⟨"SignalEngine$Reactor", "goThrough", "(Z)V"⟩ prog_12_method_5_code 6 none 1 := ⟨w_1197, w_30, w_1194, w_1196, wp_42, by decide +kernel, by decide +kernel, by decide +kernel⟩
theorem cw_SignalEngine_Reactor_109 : dc_VW "SignalEngine$Reactor" 109 ⟨"SignalEngine$Reactor", "closeOutputs", "()V"⟩ prog_12_method_6_code 2 none 0 := ⟨w_1290, w_30, w_1287, w_1289, wp_63, by decide +kernel, by decide +kernel, by decide +kernel⟩
theorem cw_SignalEngine_Reactor_91 : dc_VW "SignalEngine$Reactor" 91 ⟨"SignalEngine$Reactor", "prepare", "(I[Z)V"⟩ prog_12_method_4_code 4 none 2 := ⟨w_1192, w_30, w_1189, w_1191, wp_41, by decide +kernel, by decide +kernel, by decide +kernel⟩
theorem cw_SignalEngine_153 : dc_VW "SignalEngine" 153 ⟨"SignalEngine$Reactor", "react", "(IZ[Z)I"⟩ prog_12_method_3_code 4 (some (.int)) 3 := ⟨w_1188, w_30, w_1185, w_1186, w_1187, by decide +kernel, by decide +kernel, by decide +kernel⟩
theorem cw_SignalEngine_Atlas_36 : dc_VW "SignalEngine$Atlas" 36 ⟨"SignalEngine$Atlas", "reaches", "(I)Z"⟩ prog_3_method_3_code 2 (some (.boolean)) 1 := ⟨w_1075, w_32, w_1400, w_1073, w_1074, by decide +kernel, by decide +kernel, by decide +kernel⟩
theorem cw_SignalEngine_Atlas_70 : dc_VW "SignalEngine$Atlas" 70 ⟨"SignalEngine$Atlas", "meet", "(III)V"⟩ prog_3_method_6_code 4 none 3 := ⟨w_1386, w_32, w_1383, w_1385, wp_65, by decide +kernel, by decide +kernel, by decide +kernel⟩
theorem cw_SignalEngine_Atlas_81 : dc_VW "SignalEngine$Atlas" 81 ⟨"SignalEngine$Reactor", "react", "(IZ[Z)I"⟩ prog_12_method_3_code 4 (some (.int)) 3 := ⟨w_1188, w_30, w_1391, w_1186, w_1187, by decide +kernel, by decide +kernel, by decide +kernel⟩
theorem cw_SignalEngine_Atlas_91 : dc_VW "SignalEngine$Atlas" 91 ⟨"SignalEngine$Atlas", "note", "(IILSignalEngine$Program;LSignalEngine$Reactor;)V"⟩ prog_3_method_8_code 8 none 4 := ⟨w_1395, w_32, w_1392, w_1394, wp_67, by decide +kernel, by decide +kernel, by decide +kernel⟩
theorem cw_SignalEngine_Atlas_95 : dc_VW "SignalEngine$Atlas" 95 ⟨"SignalEngine$Atlas", "noteDoubt", "(II)V"⟩ prog_3_method_9_code 4 none 2 := ⟨w_1399, w_32, w_1396, w_1398, wp_68, by decide +kernel, by decide +kernel, by decide +kernel⟩
theorem cw_SignalEngine_Atlas_133 : dc_VW "SignalEngine$Atlas" 133 ⟨"SignalEngine$Atlas", "actAlike", "(II)Z"⟩ prog_3_method_15_code 7 (some (.boolean)) 2 := ⟨w_1417, w_32, w_1414, w_1416, wp_72, by decide +kernel, by decide +kernel, by decide +kernel⟩
theorem cw_SignalEngine_Atlas_123 : dc_VW "SignalEngine$Atlas" 123 ⟨"SignalEngine$Atlas", "leastAlike", "(I)I"⟩ prog_3_method_14_code 4 (some (.int)) 1 := ⟨w_1413, w_32, w_1410, w_1412, wp_71, by decide +kernel, by decide +kernel, by decide +kernel⟩
theorem cw_SignalEngine_Atlas_120 : dc_VW "SignalEngine$Atlas" 120 ⟨"SignalEngine$Atlas", "splitGroups", "()V"⟩ prog_3_method_13_code 2 none 0 := ⟨w_1409, w_32, w_1406, w_1408, wp_70, by decide +kernel, by decide +kernel, by decide +kernel⟩
theorem cw_SignalEngine_Atlas_78 : dc_VW "SignalEngine$Atlas" 78 ⟨"SignalEngine$Atlas", "sortOut", "()V"⟩ prog_3_method_12_code 4 none 0 := ⟨w_1404, w_32, w_1401, w_1403, wp_69, by decide +kernel, by decide +kernel, by decide +kernel⟩
theorem cw_SignalEngine_Atlas_74 : dc_VW "SignalEngine$Atlas" 74 ⟨"SignalEngine$Atlas", "tryAll", "(ILSignalEngine$Program;LSignalEngine$Reactor;[Z)V"⟩ prog_3_method_7_code 9 none 4 := ⟨w_1390, w_32, w_1387, w_1389, wp_66, by decide +kernel, by decide +kernel, by decide +kernel⟩
theorem cw_SignalEngine_Atlas_52 : dc_SW "SignalEngine$Atlas" 52 ⟨"java/util/Arrays", "fill", "([II)V"⟩ prog_34_method_103_code 4 none 2 := ⟨w_1174, w_3, w_1382, w_1173, by decide +kernel, by decide +kernel, by decide +kernel⟩
theorem cw_SignalEngine_184 : dc_VW "SignalEngine" 184 ⟨"SignalEngine$Atlas", "survey", "(LSignalEngine$Program;LSignalEngine$Reactor;)V"⟩ prog_3_method_5_code 5 none 2 := ⟨w_1381, w_32, w_1378, w_1379, w_1380, by decide +kernel, by decide +kernel, by decide +kernel⟩
theorem cw_SignalEngine_179 : dc_VW "SignalEngine" 179 ⟨"SignalEngine$Program", "canBeExplored", "()Z"⟩ prog_11_method_6_code 1 (some (.boolean)) 0 := ⟨w_1313, w_29, w_1310, w_1311, w_1312, by decide +kernel, by decide +kernel, by decide +kernel⟩
theorem cw_SignalEngine_183 : hg_NIW "SignalEngine" 183 ⟨"SignalEngine$Atlas", "<init>", "()V"⟩ prog_3_method_1_code 1 0 := ⟨w_1318, w_32, ⟨_, wn_1316⟩, w_1317, rfl, by decide +kernel, by decide +kernel, by decide +kernel⟩
theorem cw_SignalEngine_197 : dc_VW "SignalEngine" 197 ⟨"SignalEngine$Atlas", "has", "(II)Z"⟩ prog_3_method_4_code 3 (some (.boolean)) 2 := ⟨w_1429, w_32, w_1426, w_1427, w_1428, by decide +kernel, by decide +kernel, by decide +kernel⟩
theorem cw_SignalEngine_204 : dc_SW "SignalEngine" 204 ⟨"SignalEngine$Atlas", "cell", "(II)I"⟩ prog_3_method_2_code 2 (some (.int)) 2 := ⟨w_1106, w_32, w_1430, w_1105, by decide +kernel, by decide +kernel, by decide +kernel⟩
theorem cw_SignalEngine_Net_85 : dc_SW "SignalEngine$Net" 85 ⟨"SignalEngine$Atlas", "cell", "(II)I"⟩ prog_3_method_2_code 2 (some (.int)) 2 := ⟨w_1106, w_32, w_1522, w_1105, by decide +kernel, by decide +kernel, by decide +kernel⟩
theorem cw_SignalEngine_Net_90 : dc_VW "SignalEngine$Net" 90 ⟨"SignalEngine$Atlas", "reaches", "(I)Z"⟩ prog_3_method_3_code 2 (some (.boolean)) 1 := ⟨w_1075, w_32, w_1523, w_1073, w_1074, by decide +kernel, by decide +kernel, by decide +kernel⟩
theorem cw_SignalEngine_Net_108 : dc_SW "SignalEngine$Net" 108 ⟨"java/util/Arrays", "copyOf", "([II)[I"⟩ prog_34_method_123_code 3 (some (.array .int)) 2 := ⟨w_494, w_3, w_1536, w_493, by decide +kernel, by decide +kernel, by decide +kernel⟩
theorem cw_SignalEngine_Net_104 : dc_VW "SignalEngine$Net" 104 ⟨"SignalEngine$Net", "widen", "(I)V"⟩ prog_7_method_9_code 2 none 1 := ⟨w_1535, w_33, w_1532, w_1534, wp_77, by decide +kernel, by decide +kernel, by decide +kernel⟩
theorem cw_SignalEngine_Net_100 : dc_VW "SignalEngine$Net" 100 ⟨"SignalEngine$Net", "add", "(IIII)I"⟩ prog_7_method_8_code 5 (some (.int)) 4 := ⟨w_1531, w_33, w_1528, w_1530, wp_76, by decide +kernel, by decide +kernel, by decide +kernel⟩
theorem cw_SignalEngine_Net_73 : dc_VW "SignalEngine$Net" 73 ⟨"SignalEngine$Net", "multiplexer", "(III)I"⟩ prog_7_method_7_code 7 (some (.int)) 3 := ⟨w_1527, w_33, w_1524, w_1526, wp_75, by decide +kernel, by decide +kernel, by decide +kernel⟩
theorem cw_SignalEngine_Net_77 : dc_SW "SignalEngine$Net" 77 ⟨"SignalEngine$Net", "turned", "(II)I"⟩ prog_7_method_5_code 4 (some (.int)) 2 := ⟨w_1517, w_33, w_1515, w_1516, by decide +kernel, by decide +kernel, by decide +kernel⟩
theorem cw_SignalEngine_Net_81 : dc_VW "SignalEngine$Net" 81 ⟨"SignalEngine$Net", "truth", "(IIILSignalEngine$Atlas;)I"⟩ prog_7_method_6_code 7 (some (.int)) 4 := ⟨w_1521, w_33, w_1518, w_1520, wp_74, by decide +kernel, by decide +kernel, by decide +kernel⟩
theorem cw_SignalEngine_Net_69 : dc_VW "SignalEngine$Net" 69 ⟨"SignalEngine$Net", "fold", "(IZLSignalEngine$Atlas;)I"⟩ prog_7_method_4_code 9 (some (.int)) 3 := ⟨w_1514, w_33, w_1511, w_1513, wp_73, by decide +kernel, by decide +kernel, by decide +kernel⟩
theorem cw_SignalEngine_Net_43 : dc_SW "SignalEngine$Net" 43 ⟨"java/util/Arrays", "fill", "([II)V"⟩ prog_34_method_103_code 4 none 2 := ⟨w_1174, w_3, w_1510, w_1173, by decide +kernel, by decide +kernel, by decide +kernel⟩
theorem cw_SignalEngine_240 : dc_VW "SignalEngine" 240 ⟨"SignalEngine$Net", "build", "(LSignalEngine$Program;LSignalEngine$Atlas;)V"⟩ prog_7_method_3_code 6 none 2 := ⟨w_1509, w_33, w_1506, w_1507, w_1508, by decide +kernel, by decide +kernel, by decide +kernel⟩
theorem cw_SignalEngine_239 : hg_NIW "SignalEngine" 239 ⟨"SignalEngine$Net", "<init>", "()V"⟩ prog_7_method_1_code 1 0 := ⟨w_1456, w_33, ⟨_, wn_1454⟩, w_1455, rfl, by decide +kernel, by decide +kernel, by decide +kernel⟩
theorem cw_SignalEngine_Net_112 : dc_VW "SignalEngine$Net" 112 ⟨"SignalEngine$Net", "truthOn", "(II)I"⟩ prog_7_method_11_code 5 (some (.int)) 2 := ⟨w_1551, w_33, w_1548, w_1550, wp_78, by decide +kernel, by decide +kernel, by decide +kernel⟩
theorem cw_SignalEngine_247 : dc_VW "SignalEngine" 247 ⟨"SignalEngine$Net", "truthsOn", "(I)J"⟩ prog_7_method_10_code 5 (some (.long)) 1 := ⟨w_1547, w_33, w_1544, w_1545, w_1546, by decide +kernel, by decide +kernel, by decide +kernel⟩
set_option maxRecDepth 100000 in
theorem exq_SignalEngine_Lexer_31_two : xc_two "SignalEngine$Lexer" 31 (hg_xc true) ex_up := by unfold xc_two; decide +kernel
set_option maxRecDepth 100000 in
theorem exq_SignalEngine_Lexer_31 : ∀ w ∈ xc_ws "SignalEngine$Lexer" 29 31 (hg_xc true) ex_up, w ∈ tt ∨ w ∈ nn := xin (by decide +kernel)
set_option maxRecDepth 100000 in
theorem exq_SignalEngine_142_two : xc_two "SignalEngine" 142 (hg_xc false) ex_up := by unfold xc_two; decide +kernel
set_option maxRecDepth 100000 in
theorem exq_SignalEngine_142 : ∀ w ∈ xc_ws "SignalEngine" 140 142 (hg_xc false) ex_up, w ∈ tt ∨ w ∈ nn := xin (by decide +kernel)
set_option maxRecDepth 100000 in
theorem exq_SignalEngine_152_two : xc_two "SignalEngine" 152 (hg_xc true) ex_up := by unfold xc_two; decide +kernel
set_option maxRecDepth 100000 in
theorem exq_SignalEngine_152 : ∀ w ∈ xc_ws "SignalEngine" 150 152 (hg_xc true) ex_up, w ∈ tt ∨ w ∈ nn := xin (by decide +kernel)
theorem dsw_prog_4_method_17_code_42 : decode prog_4_method_17_code 42 = .ok (.tableswitch 93 0 9 #[54, 56, 54, 93, 93, 65, 93, 82, 88, 58], 54) := by decide +kernel
theorem dsw_prog_1_method_7_code_26 : decode prog_1_method_7_code 26 = .ok (.tableswitch 112 0 6 #[42, 52, 62, 72, 82, 92, 102], 42) := by decide +kernel
theorem dsw_prog_1_method_8_code_28 : decode prog_1_method_8_code 28 = .ok (.tableswitch 67 0 2 #[28, 41, 54], 28) := by decide +kernel
theorem dsw_prog_1_method_21_code_21 : decode prog_1_method_21_code 21 = .ok (.tableswitch 59 0 2 #[27, 43, 51], 27) := by decide +kernel
theorem dsw_prog_11_method_7_code_1 : decode prog_11_method_7_code 1 = .ok (.tableswitch 104 0 7 #[47, 53, 61, 66, 71, 89, 94, 99], 47) := by decide +kernel
theorem dsw_prog_1_method_31_code_1 : decode prog_1_method_31_code 1 = .ok (.tableswitch 96 10 14 #[35, 40, 53, 58, 77], 35) := by decide +kernel
theorem dsw_prog_12_method_27_code_38 : decode prog_12_method_27_code 38 = .ok (.tableswitch 101 0 2 #[26, 47, 67], 26) := by decide +kernel
theorem dsw_prog_12_method_13_code_19 : decode prog_12_method_13_code 19 = .ok (.tableswitch 166 0 10 #[57, 66, 87, 123, 166, 166, 166, 166, 166, 112, 129], 57) := by decide +kernel
theorem dsw_prog_12_method_21_code_19 : decode prog_12_method_21_code 19 = .ok (.tableswitch 190 1 10 #[53, 190, 118, 62, 118, 190, 68, 190, 190, 150], 53) := by decide +kernel
theorem dsw_prog_12_method_16_code_19 : decode prog_12_method_16_code 19 = .ok (.tableswitch 129 3 7 #[33, 129, 40, 129, 105], 33) := by decide +kernel
theorem dsw_prog_12_method_24_code_19 : decode prog_12_method_24_code 19 = .ok (.tableswitch 153 4 7 #[118, 29, 62, 86], 29) := by decide +kernel
