section
-- ===== PART A: goes FIRST, ahead of the names: the tables' words, and 'selects' of the private methods out of them =====
/-- a private method of a class that the tables say can be made, by its rows of tables_1 -/
def lw_okq (q : MethodName × Nat) : Prop := (q.1.cls ≠ "java/lang/invoke/MethodHandle" ∧ q.1.cls ≠ "java/lang/invoke/VarHandle") ∧ Cond.instantiable q.1.cls q.2 ∈ tables_1 ∧ Cond.privateMethod q.1 ∈ tables_1 ∧ Cond.instanceMethod q.1 ∈ tables_1
theorem lw_p0 : lw_okq (⟨"SignalEngine", "append", "(I)V"⟩, 14) := ⟨⟨by decide +kernel, by decide +kernel⟩, List.mem_of_getElem? (i := 35) (by decide +kernel), List.mem_of_getElem? (i := 108) (by decide +kernel), List.mem_of_getElem? (i := 109) (by decide +kernel)⟩
theorem lw_p1 : lw_okq (⟨"SignalEngine", "forget", "()V"⟩, 14) := ⟨⟨by decide +kernel, by decide +kernel⟩, List.mem_of_getElem? (i := 35) (by decide +kernel), List.mem_of_getElem? (i := 120) (by decide +kernel), List.mem_of_getElem? (i := 121) (by decide +kernel)⟩
theorem lw_p2 : lw_okq (⟨"SignalEngine$Parser", "takeProgram", "()V"⟩, 7) := ⟨⟨by decide +kernel, by decide +kernel⟩, List.mem_of_getElem? (i := 124) (by decide +kernel), List.mem_of_getElem? (i := 318) (by decide +kernel), List.mem_of_getElem? (i := 319) (by decide +kernel)⟩
theorem lw_p3 : lw_okq (⟨"java/lang/Throwable", "fillInStackTrace", "(I)Ljava/lang/Throwable;"⟩, 6) := ⟨⟨by decide +kernel, by decide +kernel⟩, List.mem_of_getElem? (i := 371) (by decide +kernel), List.mem_of_getElem? (i := 369) (by decide +kernel), List.mem_of_getElem? (i := 370) (by decide +kernel)⟩
theorem lw_p4 : lw_okq (⟨"SignalEngine$Lexer", "skipGaps", "()V"⟩, 6) := ⟨⟨by decide +kernel, by decide +kernel⟩, List.mem_of_getElem? (i := 225) (by decide +kernel), List.mem_of_getElem? (i := 400) (by decide +kernel), List.mem_of_getElem? (i := 401) (by decide +kernel)⟩
theorem lw_p5 : lw_okq (⟨"SignalEngine$Lexer", "startsBars", "()Z"⟩, 6) := ⟨⟨by decide +kernel, by decide +kernel⟩, List.mem_of_getElem? (i := 225) (by decide +kernel), List.mem_of_getElem? (i := 407) (by decide +kernel), List.mem_of_getElem? (i := 408) (by decide +kernel)⟩
theorem lw_p6 : lw_okq (⟨"SignalEngine$Lexer", "isName", "()Z"⟩, 6) := ⟨⟨by decide +kernel, by decide +kernel⟩, List.mem_of_getElem? (i := 225) (by decide +kernel), List.mem_of_getElem? (i := 411) (by decide +kernel), List.mem_of_getElem? (i := 412) (by decide +kernel)⟩
theorem lw_p7 : lw_okq (⟨"SignalEngine$Lexer", "known", "(LSignalEngine$Token;)LSignalEngine$Token;"⟩, 6) := ⟨⟨by decide +kernel, by decide +kernel⟩, List.mem_of_getElem? (i := 225) (by decide +kernel), List.mem_of_getElem? (i := 417) (by decide +kernel), List.mem_of_getElem? (i := 418) (by decide +kernel)⟩
theorem lw_p8 : lw_okq (⟨"SignalEngine$Parser", "takeNames", "(I)V"⟩, 7) := ⟨⟨by decide +kernel, by decide +kernel⟩, List.mem_of_getElem? (i := 124) (by decide +kernel), List.mem_of_getElem? (i := 474) (by decide +kernel), List.mem_of_getElem? (i := 475) (by decide +kernel)⟩
theorem lw_p9 : lw_okq (⟨"SignalEngine$Names", "reads", "(ILSignalEngine$Lexer;)Z"⟩, 6) := ⟨⟨by decide +kernel, by decide +kernel⟩, List.mem_of_getElem? (i := 258) (by decide +kernel), List.mem_of_getElem? (i := 484) (by decide +kernel), List.mem_of_getElem? (i := 485) (by decide +kernel)⟩
theorem lw_p10 : lw_okq (⟨"SignalEngine$Parser", "skip", "(LSignalEngine$Token;)Z"⟩, 7) := ⟨⟨by decide +kernel, by decide +kernel⟩, List.mem_of_getElem? (i := 124) (by decide +kernel), List.mem_of_getElem? (i := 503) (by decide +kernel), List.mem_of_getElem? (i := 504) (by decide +kernel)⟩
theorem lw_p11 : lw_okq (⟨"SignalEngine$Parser", "take", "(LSignalEngine$Token;)V"⟩, 7) := ⟨⟨by decide +kernel, by decide +kernel⟩, List.mem_of_getElem? (i := 124) (by decide +kernel), List.mem_of_getElem? (i := 509) (by decide +kernel), List.mem_of_getElem? (i := 510) (by decide +kernel)⟩
theorem lw_p12 : lw_okq (⟨"SignalEngine$Parser", "takeBody", "()LSignalEngine$Node;"⟩, 7) := ⟨⟨by decide +kernel, by decide +kernel⟩, List.mem_of_getElem? (i := 124) (by decide +kernel), List.mem_of_getElem? (i := 515) (by decide +kernel), List.mem_of_getElem? (i := 516) (by decide +kernel)⟩
theorem lw_p13 : lw_okq (⟨"SignalEngine$Parser", "takeRow", "()LSignalEngine$Node;"⟩, 7) := ⟨⟨by decide +kernel, by decide +kernel⟩, List.mem_of_getElem? (i := 124) (by decide +kernel), List.mem_of_getElem? (i := 519) (by decide +kernel), List.mem_of_getElem? (i := 520) (by decide +kernel)⟩
theorem lw_p14 : lw_okq (⟨"SignalEngine$Parser", "takeStatement", "()LSignalEngine$Node;"⟩, 7) := ⟨⟨by decide +kernel, by decide +kernel⟩, List.mem_of_getElem? (i := 124) (by decide +kernel), List.mem_of_getElem? (i := 523) (by decide +kernel), List.mem_of_getElem? (i := 524) (by decide +kernel)⟩
theorem lw_p15 : lw_okq (⟨"SignalEngine$Parser", "enter", "()V"⟩, 7) := ⟨⟨by decide +kernel, by decide +kernel⟩, List.mem_of_getElem? (i := 124) (by decide +kernel), List.mem_of_getElem? (i := 527) (by decide +kernel), List.mem_of_getElem? (i := 528) (by decide +kernel)⟩
def lw_privs_1 : List (MethodName × Nat) := [(⟨"SignalEngine", "append", "(I)V"⟩, 14), (⟨"SignalEngine", "forget", "()V"⟩, 14), (⟨"SignalEngine$Parser", "takeProgram", "()V"⟩, 7), (⟨"java/lang/Throwable", "fillInStackTrace", "(I)Ljava/lang/Throwable;"⟩, 6), (⟨"SignalEngine$Lexer", "skipGaps", "()V"⟩, 6), (⟨"SignalEngine$Lexer", "startsBars", "()Z"⟩, 6), (⟨"SignalEngine$Lexer", "isName", "()Z"⟩, 6), (⟨"SignalEngine$Lexer", "known", "(LSignalEngine$Token;)LSignalEngine$Token;"⟩, 6), (⟨"SignalEngine$Parser", "takeNames", "(I)V"⟩, 7), (⟨"SignalEngine$Names", "reads", "(ILSignalEngine$Lexer;)Z"⟩, 6), (⟨"SignalEngine$Parser", "skip", "(LSignalEngine$Token;)Z"⟩, 7), (⟨"SignalEngine$Parser", "take", "(LSignalEngine$Token;)V"⟩, 7), (⟨"SignalEngine$Parser", "takeBody", "()LSignalEngine$Node;"⟩, 7), (⟨"SignalEngine$Parser", "takeRow", "()LSignalEngine$Node;"⟩, 7), (⟨"SignalEngine$Parser", "takeStatement", "()LSignalEngine$Node;"⟩, 7), (⟨"SignalEngine$Parser", "enter", "()V"⟩, 7)]
theorem lw_r1 : ∀ q ∈ lw_privs_1, lw_okq q := List.forall_mem_cons.mpr ⟨lw_p0, List.forall_mem_cons.mpr ⟨lw_p1, List.forall_mem_cons.mpr ⟨lw_p2, List.forall_mem_cons.mpr ⟨lw_p3, List.forall_mem_cons.mpr ⟨lw_p4, List.forall_mem_cons.mpr ⟨lw_p5, List.forall_mem_cons.mpr ⟨lw_p6, List.forall_mem_cons.mpr ⟨lw_p7, List.forall_mem_cons.mpr ⟨lw_p8, List.forall_mem_cons.mpr ⟨lw_p9, List.forall_mem_cons.mpr ⟨lw_p10, List.forall_mem_cons.mpr ⟨lw_p11, List.forall_mem_cons.mpr ⟨lw_p12, List.forall_mem_cons.mpr ⟨lw_p13, List.forall_mem_cons.mpr ⟨lw_p14, List.forall_mem_cons.mpr ⟨lw_p15, fun _ h => absurd h List.not_mem_nil⟩⟩⟩⟩⟩⟩⟩⟩⟩⟩⟩⟩⟩⟩⟩⟩
theorem lw_p16 : lw_okq (⟨"SignalEngine$Parser", "takeRest", "(LSignalEngine$Token;I)LSignalEngine$Node;"⟩, 7) := ⟨⟨by decide +kernel, by decide +kernel⟩, List.mem_of_getElem? (i := 124) (by decide +kernel), List.mem_of_getElem? (i := 531) (by decide +kernel), List.mem_of_getElem? (i := 532) (by decide +kernel)⟩
theorem lw_p17 : lw_okq (⟨"java/util/ArrayList", "add", "(Ljava/lang/Object;[Ljava/lang/Object;I)V"⟩, 3) := ⟨⟨by decide +kernel, by decide +kernel⟩, List.mem_of_getElem? (i := 136) (by decide +kernel), List.mem_of_getElem? (i := 618) (by decide +kernel), List.mem_of_getElem? (i := 619) (by decide +kernel)⟩
theorem lw_p18 : lw_okq (⟨"java/util/ArrayList", "grow", "()[Ljava/lang/Object;"⟩, 3) := ⟨⟨by decide +kernel, by decide +kernel⟩, List.mem_of_getElem? (i := 136) (by decide +kernel), List.mem_of_getElem? (i := 622) (by decide +kernel), List.mem_of_getElem? (i := 623) (by decide +kernel)⟩
theorem lw_p19 : lw_okq (⟨"java/util/ArrayList", "grow", "(I)[Ljava/lang/Object;"⟩, 3) := ⟨⟨by decide +kernel, by decide +kernel⟩, List.mem_of_getElem? (i := 136) (by decide +kernel), List.mem_of_getElem? (i := 626) (by decide +kernel), List.mem_of_getElem? (i := 627) (by decide +kernel)⟩
theorem lw_p20 : lw_okq (⟨"SignalEngine$Parser", "takeUse", "(LSignalEngine$Names;I)I"⟩, 7) := ⟨⟨by decide +kernel, by decide +kernel⟩, List.mem_of_getElem? (i := 124) (by decide +kernel), List.mem_of_getElem? (i := 680) (by decide +kernel), List.mem_of_getElem? (i := 681) (by decide +kernel)⟩
theorem lw_p21 : lw_okq (⟨"SignalEngine$Parser", "takeEither", "()I"⟩, 7) := ⟨⟨by decide +kernel, by decide +kernel⟩, List.mem_of_getElem? (i := 124) (by decide +kernel), List.mem_of_getElem? (i := 696) (by decide +kernel), List.mem_of_getElem? (i := 697) (by decide +kernel)⟩
theorem lw_p22 : lw_okq (⟨"SignalEngine$Parser", "takeClause", "()I"⟩, 7) := ⟨⟨by decide +kernel, by decide +kernel⟩, List.mem_of_getElem? (i := 124) (by decide +kernel), List.mem_of_getElem? (i := 700) (by decide +kernel), List.mem_of_getElem? (i := 701) (by decide +kernel)⟩
theorem lw_p23 : lw_okq (⟨"SignalEngine$Parser", "takePart", "()I"⟩, 7) := ⟨⟨by decide +kernel, by decide +kernel⟩, List.mem_of_getElem? (i := 124) (by decide +kernel), List.mem_of_getElem? (i := 704) (by decide +kernel), List.mem_of_getElem? (i := 705) (by decide +kernel)⟩
theorem lw_p24 : lw_okq (⟨"SignalEngine$Pieces", "widen", "(I)V"⟩, 6) := ⟨⟨by decide +kernel, by decide +kernel⟩, List.mem_of_getElem? (i := 162) (by decide +kernel), List.mem_of_getElem? (i := 716) (by decide +kernel), List.mem_of_getElem? (i := 717) (by decide +kernel)⟩
theorem lw_p25 : lw_okq (⟨"SignalEngine$Parser", "takePresent", "(I)LSignalEngine$Node;"⟩, 7) := ⟨⟨by decide +kernel, by decide +kernel⟩, List.mem_of_getElem? (i := 124) (by decide +kernel), List.mem_of_getElem? (i := 737) (by decide +kernel), List.mem_of_getElem? (i := 738) (by decide +kernel)⟩
theorem lw_p26 : lw_okq (⟨"SignalEngine$Parser", "closedBy", "(LSignalEngine$Token;LSignalEngine$Node;)LSignalEngine$Node;"⟩, 7) := ⟨⟨by decide +kernel, by decide +kernel⟩, List.mem_of_getElem? (i := 124) (by decide +kernel), List.mem_of_getElem? (i := 749) (by decide +kernel), List.mem_of_getElem? (i := 750) (by decide +kernel)⟩
theorem lw_p27 : lw_okq (⟨"SignalEngine$Parser", "takeLoop", "(I)LSignalEngine$Node;"⟩, 7) := ⟨⟨by decide +kernel, by decide +kernel⟩, List.mem_of_getElem? (i := 124) (by decide +kernel), List.mem_of_getElem? (i := 753) (by decide +kernel), List.mem_of_getElem? (i := 754) (by decide +kernel)⟩
theorem lw_p28 : lw_okq (⟨"SignalEngine$Parser", "takeTrap", "(I)LSignalEngine$Node;"⟩, 7) := ⟨⟨by decide +kernel, by decide +kernel⟩, List.mem_of_getElem? (i := 124) (by decide +kernel), List.mem_of_getElem? (i := 770) (by decide +kernel), List.mem_of_getElem? (i := 771) (by decide +kernel)⟩
theorem lw_p29 : lw_okq (⟨"SignalEngine$Parser", "takeLocals", "(I)LSignalEngine$Node;"⟩, 7) := ⟨⟨by decide +kernel, by decide +kernel⟩, List.mem_of_getElem? (i := 124) (by decide +kernel), List.mem_of_getElem? (i := 778) (by decide +kernel), List.mem_of_getElem? (i := 779) (by decide +kernel)⟩
theorem lw_p30 : lw_okq (⟨"SignalEngine$Parser", "takeEvery", "(I)LSignalEngine$Node;"⟩, 7) := ⟨⟨by decide +kernel, by decide +kernel⟩, List.mem_of_getElem? (i := 124) (by decide +kernel), List.mem_of_getElem? (i := 782) (by decide +kernel), List.mem_of_getElem? (i := 783) (by decide +kernel)⟩
theorem lw_p31 : lw_okq (⟨"SignalEngine$Parser", "takeGuarded", "(LSignalEngine$Token;I)LSignalEngine$Node;"⟩, 7) := ⟨⟨by decide +kernel, by decide +kernel⟩, List.mem_of_getElem? (i := 124) (by decide +kernel), List.mem_of_getElem? (i := 788) (by decide +kernel), List.mem_of_getElem? (i := 789) (by decide +kernel)⟩
def lw_privs_2 : List (MethodName × Nat) := [(⟨"SignalEngine$Parser", "takeRest", "(LSignalEngine$Token;I)LSignalEngine$Node;"⟩, 7), (⟨"java/util/ArrayList", "add", "(Ljava/lang/Object;[Ljava/lang/Object;I)V"⟩, 3), (⟨"java/util/ArrayList", "grow", "()[Ljava/lang/Object;"⟩, 3), (⟨"java/util/ArrayList", "grow", "(I)[Ljava/lang/Object;"⟩, 3), (⟨"SignalEngine$Parser", "takeUse", "(LSignalEngine$Names;I)I"⟩, 7), (⟨"SignalEngine$Parser", "takeEither", "()I"⟩, 7), (⟨"SignalEngine$Parser", "takeClause", "()I"⟩, 7), (⟨"SignalEngine$Parser", "takePart", "()I"⟩, 7), (⟨"SignalEngine$Pieces", "widen", "(I)V"⟩, 6), (⟨"SignalEngine$Parser", "takePresent", "(I)LSignalEngine$Node;"⟩, 7), (⟨"SignalEngine$Parser", "closedBy", "(LSignalEngine$Token;LSignalEngine$Node;)LSignalEngine$Node;"⟩, 7), (⟨"SignalEngine$Parser", "takeLoop", "(I)LSignalEngine$Node;"⟩, 7), (⟨"SignalEngine$Parser", "takeTrap", "(I)LSignalEngine$Node;"⟩, 7), (⟨"SignalEngine$Parser", "takeLocals", "(I)LSignalEngine$Node;"⟩, 7), (⟨"SignalEngine$Parser", "takeEvery", "(I)LSignalEngine$Node;"⟩, 7), (⟨"SignalEngine$Parser", "takeGuarded", "(LSignalEngine$Token;I)LSignalEngine$Node;"⟩, 7)]
theorem lw_r2 : ∀ q ∈ lw_privs_2, lw_okq q := List.forall_mem_cons.mpr ⟨lw_p16, List.forall_mem_cons.mpr ⟨lw_p17, List.forall_mem_cons.mpr ⟨lw_p18, List.forall_mem_cons.mpr ⟨lw_p19, List.forall_mem_cons.mpr ⟨lw_p20, List.forall_mem_cons.mpr ⟨lw_p21, List.forall_mem_cons.mpr ⟨lw_p22, List.forall_mem_cons.mpr ⟨lw_p23, List.forall_mem_cons.mpr ⟨lw_p24, List.forall_mem_cons.mpr ⟨lw_p25, List.forall_mem_cons.mpr ⟨lw_p26, List.forall_mem_cons.mpr ⟨lw_p27, List.forall_mem_cons.mpr ⟨lw_p28, List.forall_mem_cons.mpr ⟨lw_p29, List.forall_mem_cons.mpr ⟨lw_p30, List.forall_mem_cons.mpr ⟨lw_p31, fun _ h => absurd h List.not_mem_nil⟩⟩⟩⟩⟩⟩⟩⟩⟩⟩⟩⟩⟩⟩⟩⟩
theorem lw_p32 : lw_okq (⟨"SignalEngine$Draft", "spread", "(LSignalEngine$Node;[I)V"⟩, 6) := ⟨⟨by decide +kernel, by decide +kernel⟩, List.mem_of_getElem? (i := 130) (by decide +kernel), List.mem_of_getElem? (i := 832) (by decide +kernel), List.mem_of_getElem? (i := 833) (by decide +kernel)⟩
theorem lw_p33 : lw_okq (⟨"SignalEngine$Program", "copy", "(LSignalEngine$Node;)V"⟩, 17) := ⟨⟨by decide +kernel, by decide +kernel⟩, List.mem_of_getElem? (i := 860) (by decide +kernel), List.mem_of_getElem? (i := 871) (by decide +kernel), List.mem_of_getElem? (i := 872) (by decide +kernel)⟩
theorem lw_p34 : lw_okq (⟨"SignalEngine$Program", "giveNumbers", "([ILSignalEngine$Pieces;)V"⟩, 17) := ⟨⟨by decide +kernel, by decide +kernel⟩, List.mem_of_getElem? (i := 860) (by decide +kernel), List.mem_of_getElem? (i := 875) (by decide +kernel), List.mem_of_getElem? (i := 876) (by decide +kernel)⟩
theorem lw_p35 : lw_okq (⟨"SignalEngine$Pieces", "copyPiece", "(LSignalEngine$Pieces;I)V"⟩, 6) := ⟨⟨by decide +kernel, by decide +kernel⟩, List.mem_of_getElem? (i := 162) (by decide +kernel), List.mem_of_getElem? (i := 883) (by decide +kernel), List.mem_of_getElem? (i := 884) (by decide +kernel)⟩
theorem lw_p36 : lw_okq (⟨"SignalEngine$Program", "boundPauses", "()V"⟩, 17) := ⟨⟨by decide +kernel, by decide +kernel⟩, List.mem_of_getElem? (i := 860) (by decide +kernel), List.mem_of_getElem? (i := 887) (by decide +kernel), List.mem_of_getElem? (i := 888) (by decide +kernel)⟩
theorem lw_p37 : lw_okq (⟨"SignalEngine$Reactor", "givePlaces", "()I"⟩, 18) := ⟨⟨by decide +kernel, by decide +kernel⟩, List.mem_of_getElem? (i := 975) (by decide +kernel), List.mem_of_getElem? (i := 981) (by decide +kernel), List.mem_of_getElem? (i := 982) (by decide +kernel)⟩
theorem lw_p38 : lw_okq (⟨"SignalEngine", "figure", "(I)I"⟩, 14) := ⟨⟨by decide +kernel, by decide +kernel⟩, List.mem_of_getElem? (i := 35) (by decide +kernel), List.mem_of_getElem? (i := 1133) (by decide +kernel), List.mem_of_getElem? (i := 1134) (by decide +kernel)⟩
theorem lw_p39 : lw_okq (⟨"SignalEngine", "heldPauses", "()I"⟩, 14) := ⟨⟨by decide +kernel, by decide +kernel⟩, List.mem_of_getElem? (i := 35) (by decide +kernel), List.mem_of_getElem? (i := 1137) (by decide +kernel), List.mem_of_getElem? (i := 1138) (by decide +kernel)⟩
theorem lw_p40 : lw_okq (⟨"SignalEngine", "stand", "(I)V"⟩, 14) := ⟨⟨by decide +kernel, by decide +kernel⟩, List.mem_of_getElem? (i := 35) (by decide +kernel), List.mem_of_getElem? (i := 1169) (by decide +kernel), List.mem_of_getElem? (i := 1170) (by decide +kernel)⟩
theorem lw_p41 : lw_okq (⟨"SignalEngine$Reactor", "prepare", "(I[Z)V"⟩, 18) := ⟨⟨by decide +kernel, by decide +kernel⟩, List.mem_of_getElem? (i := 975) (by decide +kernel), List.mem_of_getElem? (i := 1190) (by decide +kernel), List.mem_of_getElem? (i := 1191) (by decide +kernel)⟩
theorem lw_p42 : lw_okq (⟨"SignalEngine$Reactor", "goThrough", "(Z)V"⟩, 18) := ⟨⟨by decide +kernel, by decide +kernel⟩, List.mem_of_getElem? (i := 975) (by decide +kernel), List.mem_of_getElem? (i := 1195) (by decide +kernel), List.mem_of_getElem? (i := 1196) (by decide +kernel)⟩
theorem lw_p43 : lw_okq (⟨"SignalEngine$Reactor", "clear", "(I)V"⟩, 18) := ⟨⟨by decide +kernel, by decide +kernel⟩, List.mem_of_getElem? (i := 975) (by decide +kernel), List.mem_of_getElem? (i := 1199) (by decide +kernel), List.mem_of_getElem? (i := 1200) (by decide +kernel)⟩
theorem lw_p44 : lw_okq (⟨"SignalEngine$Reactor", "within", "(IZ)I"⟩, 18) := ⟨⟨by decide +kernel, by decide +kernel⟩, List.mem_of_getElem? (i := 975) (by decide +kernel), List.mem_of_getElem? (i := 1203) (by decide +kernel), List.mem_of_getElem? (i := 1204) (by decide +kernel)⟩
theorem lw_p45 : lw_okq (⟨"SignalEngine$Reactor", "beginStart", "(I)I"⟩, 18) := ⟨⟨by decide +kernel, by decide +kernel⟩, List.mem_of_getElem? (i := 975) (by decide +kernel), List.mem_of_getElem? (i := 1207) (by decide +kernel), List.mem_of_getElem? (i := 1208) (by decide +kernel)⟩
theorem lw_p46 : lw_okq (⟨"SignalEngine$Reactor", "answer", "(III)V"⟩, 18) := ⟨⟨by decide +kernel, by decide +kernel⟩, List.mem_of_getElem? (i := 975) (by decide +kernel), List.mem_of_getElem? (i := 1211) (by decide +kernel), List.mem_of_getElem? (i := 1212) (by decide +kernel)⟩
theorem lw_p47 : lw_okq (⟨"SignalEngine$Reactor", "emit", "(IZ)V"⟩, 18) := ⟨⟨by decide +kernel, by decide +kernel⟩, List.mem_of_getElem? (i := 975) (by decide +kernel), List.mem_of_getElem? (i := 1215) (by decide +kernel), List.mem_of_getElem? (i := 1216) (by decide +kernel)⟩
def lw_privs_3 : List (MethodName × Nat) := [(⟨"SignalEngine$Draft", "spread", "(LSignalEngine$Node;[I)V"⟩, 6), (⟨"SignalEngine$Program", "copy", "(LSignalEngine$Node;)V"⟩, 17), (⟨"SignalEngine$Program", "giveNumbers", "([ILSignalEngine$Pieces;)V"⟩, 17), (⟨"SignalEngine$Pieces", "copyPiece", "(LSignalEngine$Pieces;I)V"⟩, 6), (⟨"SignalEngine$Program", "boundPauses", "()V"⟩, 17), (⟨"SignalEngine$Reactor", "givePlaces", "()I"⟩, 18), (⟨"SignalEngine", "figure", "(I)I"⟩, 14), (⟨"SignalEngine", "heldPauses", "()I"⟩, 14), (⟨"SignalEngine", "stand", "(I)V"⟩, 14), (⟨"SignalEngine$Reactor", "prepare", "(I[Z)V"⟩, 18), (⟨"SignalEngine$Reactor", "goThrough", "(Z)V"⟩, 18), (⟨"SignalEngine$Reactor", "clear", "(I)V"⟩, 18), (⟨"SignalEngine$Reactor", "within", "(IZ)I"⟩, 18), (⟨"SignalEngine$Reactor", "beginStart", "(I)I"⟩, 18), (⟨"SignalEngine$Reactor", "answer", "(III)V"⟩, 18), (⟨"SignalEngine$Reactor", "emit", "(IZ)V"⟩, 18)]
theorem lw_r3 : ∀ q ∈ lw_privs_3, lw_okq q := List.forall_mem_cons.mpr ⟨lw_p32, List.forall_mem_cons.mpr ⟨lw_p33, List.forall_mem_cons.mpr ⟨lw_p34, List.forall_mem_cons.mpr ⟨lw_p35, List.forall_mem_cons.mpr ⟨lw_p36, List.forall_mem_cons.mpr ⟨lw_p37, List.forall_mem_cons.mpr ⟨lw_p38, List.forall_mem_cons.mpr ⟨lw_p39, List.forall_mem_cons.mpr ⟨lw_p40, List.forall_mem_cons.mpr ⟨lw_p41, List.forall_mem_cons.mpr ⟨lw_p42, List.forall_mem_cons.mpr ⟨lw_p43, List.forall_mem_cons.mpr ⟨lw_p44, List.forall_mem_cons.mpr ⟨lw_p45, List.forall_mem_cons.mpr ⟨lw_p46, List.forall_mem_cons.mpr ⟨lw_p47, fun _ h => absurd h List.not_mem_nil⟩⟩⟩⟩⟩⟩⟩⟩⟩⟩⟩⟩⟩⟩⟩⟩
theorem lw_p48 : lw_okq (⟨"SignalEngine$Reactor", "beginPresent", "(I)I"⟩, 18) := ⟨⟨by decide +kernel, by decide +kernel⟩, List.mem_of_getElem? (i := 975) (by decide +kernel), List.mem_of_getElem? (i := 1219) (by decide +kernel), List.mem_of_getElem? (i := 1220) (by decide +kernel)⟩
theorem lw_p49 : lw_okq (⟨"SignalEngine$Reactor", "valueOf", "(I)I"⟩, 18) := ⟨⟨by decide +kernel, by decide +kernel⟩, List.mem_of_getElem? (i := 975) (by decide +kernel), List.mem_of_getElem? (i := 1223) (by decide +kernel), List.mem_of_getElem? (i := 1224) (by decide +kernel)⟩
theorem lw_p50 : lw_okq (⟨"SignalEngine$Reactor", "beginResume", "(I)I"⟩, 18) := ⟨⟨by decide +kernel, by decide +kernel⟩, List.mem_of_getElem? (i := 975) (by decide +kernel), List.mem_of_getElem? (i := 1233) (by decide +kernel), List.mem_of_getElem? (i := 1234) (by decide +kernel)⟩
theorem lw_p51 : lw_okq (⟨"SignalEngine$Reactor", "beginSuspend", "(I)I"⟩, 18) := ⟨⟨by decide +kernel, by decide +kernel⟩, List.mem_of_getElem? (i := 975) (by decide +kernel), List.mem_of_getElem? (i := 1237) (by decide +kernel), List.mem_of_getElem? (i := 1238) (by decide +kernel)⟩
theorem lw_p52 : lw_okq (⟨"SignalEngine$Reactor", "answerEnded", "(I)V"⟩, 18) := ⟨⟨by decide +kernel, by decide +kernel⟩, List.mem_of_getElem? (i := 975) (by decide +kernel), List.mem_of_getElem? (i := 1241) (by decide +kernel), List.mem_of_getElem? (i := 1242) (by decide +kernel)⟩
theorem lw_p53 : lw_okq (⟨"SignalEngine$Reactor", "isHeld", "(I)Z"⟩, 18) := ⟨⟨by decide +kernel, by decide +kernel⟩, List.mem_of_getElem? (i := 975) (by decide +kernel), List.mem_of_getElem? (i := 1245) (by decide +kernel), List.mem_of_getElem? (i := 1246) (by decide +kernel)⟩
theorem lw_p54 : lw_okq (⟨"SignalEngine$Reactor", "comeBack", "(II)I"⟩, 18) := ⟨⟨by decide +kernel, by decide +kernel⟩, List.mem_of_getElem? (i := 975) (by decide +kernel), List.mem_of_getElem? (i := 1249) (by decide +kernel), List.mem_of_getElem? (i := 1250) (by decide +kernel)⟩
theorem lw_p55 : lw_okq (⟨"SignalEngine$Reactor", "putBehind", "(II)V"⟩, 18) := ⟨⟨by decide +kernel, by decide +kernel⟩, List.mem_of_getElem? (i := 975) (by decide +kernel), List.mem_of_getElem? (i := 1253) (by decide +kernel), List.mem_of_getElem? (i := 1254) (by decide +kernel)⟩
theorem lw_p56 : lw_okq (⟨"SignalEngine$Reactor", "goOnStart", "(II)I"⟩, 18) := ⟨⟨by decide +kernel, by decide +kernel⟩, List.mem_of_getElem? (i := 975) (by decide +kernel), List.mem_of_getElem? (i := 1257) (by decide +kernel), List.mem_of_getElem? (i := 1258) (by decide +kernel)⟩
theorem lw_p57 : lw_okq (⟨"SignalEngine$Reactor", "goOnPresent", "(II)I"⟩, 18) := ⟨⟨by decide +kernel, by decide +kernel⟩, List.mem_of_getElem? (i := 975) (by decide +kernel), List.mem_of_getElem? (i := 1261) (by decide +kernel), List.mem_of_getElem? (i := 1262) (by decide +kernel)⟩
theorem lw_p58 : lw_okq (⟨"SignalEngine$Reactor", "closeBoth", "(I)V"⟩, 18) := ⟨⟨by decide +kernel, by decide +kernel⟩, List.mem_of_getElem? (i := 975) (by decide +kernel), List.mem_of_getElem? (i := 1265) (by decide +kernel), List.mem_of_getElem? (i := 1266) (by decide +kernel)⟩
theorem lw_p59 : lw_okq (⟨"SignalEngine$Reactor", "closeSingle", "(II)V"⟩, 18) := ⟨⟨by decide +kernel, by decide +kernel⟩, List.mem_of_getElem? (i := 975) (by decide +kernel), List.mem_of_getElem? (i := 1271) (by decide +kernel), List.mem_of_getElem? (i := 1272) (by decide +kernel)⟩
theorem lw_p60 : lw_okq (⟨"SignalEngine$Reactor", "settleAbsent", "(I)V"⟩, 18) := ⟨⟨by decide +kernel, by decide +kernel⟩, List.mem_of_getElem? (i := 975) (by decide +kernel), List.mem_of_getElem? (i := 1275) (by decide +kernel), List.mem_of_getElem? (i := 1276) (by decide +kernel)⟩
theorem lw_p61 : lw_okq (⟨"SignalEngine$Reactor", "goOnResume", "(II)I"⟩, 18) := ⟨⟨by decide +kernel, by decide +kernel⟩, List.mem_of_getElem? (i := 975) (by decide +kernel), List.mem_of_getElem? (i := 1280) (by decide +kernel), List.mem_of_getElem? (i := 1281) (by decide +kernel)⟩
theorem lw_p62 : lw_okq (⟨"SignalEngine$Reactor", "startBehind", "(II)I"⟩, 18) := ⟨⟨by decide +kernel, by decide +kernel⟩, List.mem_of_getElem? (i := 975) (by decide +kernel), List.mem_of_getElem? (i := 1284) (by decide +kernel), List.mem_of_getElem? (i := 1285) (by decide +kernel)⟩
theorem lw_p63 : lw_okq (⟨"SignalEngine$Reactor", "closeOutputs", "()V"⟩, 18) := ⟨⟨by decide +kernel, by decide +kernel⟩, List.mem_of_getElem? (i := 975) (by decide +kernel), List.mem_of_getElem? (i := 1288) (by decide +kernel), List.mem_of_getElem? (i := 1289) (by decide +kernel)⟩
def lw_privs_4 : List (MethodName × Nat) := [(⟨"SignalEngine$Reactor", "beginPresent", "(I)I"⟩, 18), (⟨"SignalEngine$Reactor", "valueOf", "(I)I"⟩, 18), (⟨"SignalEngine$Reactor", "beginResume", "(I)I"⟩, 18), (⟨"SignalEngine$Reactor", "beginSuspend", "(I)I"⟩, 18), (⟨"SignalEngine$Reactor", "answerEnded", "(I)V"⟩, 18), (⟨"SignalEngine$Reactor", "isHeld", "(I)Z"⟩, 18), (⟨"SignalEngine$Reactor", "comeBack", "(II)I"⟩, 18), (⟨"SignalEngine$Reactor", "putBehind", "(II)V"⟩, 18), (⟨"SignalEngine$Reactor", "goOnStart", "(II)I"⟩, 18), (⟨"SignalEngine$Reactor", "goOnPresent", "(II)I"⟩, 18), (⟨"SignalEngine$Reactor", "closeBoth", "(I)V"⟩, 18), (⟨"SignalEngine$Reactor", "closeSingle", "(II)V"⟩, 18), (⟨"SignalEngine$Reactor", "settleAbsent", "(I)V"⟩, 18), (⟨"SignalEngine$Reactor", "goOnResume", "(II)I"⟩, 18), (⟨"SignalEngine$Reactor", "startBehind", "(II)I"⟩, 18), (⟨"SignalEngine$Reactor", "closeOutputs", "()V"⟩, 18)]
theorem lw_r4 : ∀ q ∈ lw_privs_4, lw_okq q := List.forall_mem_cons.mpr ⟨lw_p48, List.forall_mem_cons.mpr ⟨lw_p49, List.forall_mem_cons.mpr ⟨lw_p50, List.forall_mem_cons.mpr ⟨lw_p51, List.forall_mem_cons.mpr ⟨lw_p52, List.forall_mem_cons.mpr ⟨lw_p53, List.forall_mem_cons.mpr ⟨lw_p54, List.forall_mem_cons.mpr ⟨lw_p55, List.forall_mem_cons.mpr ⟨lw_p56, List.forall_mem_cons.mpr ⟨lw_p57, List.forall_mem_cons.mpr ⟨lw_p58, List.forall_mem_cons.mpr ⟨lw_p59, List.forall_mem_cons.mpr ⟨lw_p60, List.forall_mem_cons.mpr ⟨lw_p61, List.forall_mem_cons.mpr ⟨lw_p62, List.forall_mem_cons.mpr ⟨lw_p63, fun _ h => absurd h List.not_mem_nil⟩⟩⟩⟩⟩⟩⟩⟩⟩⟩⟩⟩⟩⟩⟩⟩
theorem lw_p64 : lw_okq (⟨"SignalEngine$Reactor", "outputsAreKnown", "()Z"⟩, 18) := ⟨⟨by decide +kernel, by decide +kernel⟩, List.mem_of_getElem? (i := 975) (by decide +kernel), List.mem_of_getElem? (i := 1292) (by decide +kernel), List.mem_of_getElem? (i := 1293) (by decide +kernel)⟩
theorem lw_p65 : lw_okq (⟨"SignalEngine$Atlas", "meet", "(III)V"⟩, 15) := ⟨⟨by decide +kernel, by decide +kernel⟩, List.mem_of_getElem? (i := 1315) (by decide +kernel), List.mem_of_getElem? (i := 1384) (by decide +kernel), List.mem_of_getElem? (i := 1385) (by decide +kernel)⟩
theorem lw_p66 : lw_okq (⟨"SignalEngine$Atlas", "tryAll", "(ILSignalEngine$Program;LSignalEngine$Reactor;[Z)V"⟩, 15) := ⟨⟨by decide +kernel, by decide +kernel⟩, List.mem_of_getElem? (i := 1315) (by decide +kernel), List.mem_of_getElem? (i := 1388) (by decide +kernel), List.mem_of_getElem? (i := 1389) (by decide +kernel)⟩
theorem lw_p67 : lw_okq (⟨"SignalEngine$Atlas", "note", "(IILSignalEngine$Program;LSignalEngine$Reactor;)V"⟩, 15) := ⟨⟨by decide +kernel, by decide +kernel⟩, List.mem_of_getElem? (i := 1315) (by decide +kernel), List.mem_of_getElem? (i := 1393) (by decide +kernel), List.mem_of_getElem? (i := 1394) (by decide +kernel)⟩
theorem lw_p68 : lw_okq (⟨"SignalEngine$Atlas", "noteDoubt", "(II)V"⟩, 15) := ⟨⟨by decide +kernel, by decide +kernel⟩, List.mem_of_getElem? (i := 1315) (by decide +kernel), List.mem_of_getElem? (i := 1397) (by decide +kernel), List.mem_of_getElem? (i := 1398) (by decide +kernel)⟩
theorem lw_p69 : lw_okq (⟨"SignalEngine$Atlas", "sortOut", "()V"⟩, 15) := ⟨⟨by decide +kernel, by decide +kernel⟩, List.mem_of_getElem? (i := 1315) (by decide +kernel), List.mem_of_getElem? (i := 1402) (by decide +kernel), List.mem_of_getElem? (i := 1403) (by decide +kernel)⟩
theorem lw_p70 : lw_okq (⟨"SignalEngine$Atlas", "splitGroups", "()V"⟩, 15) := ⟨⟨by decide +kernel, by decide +kernel⟩, List.mem_of_getElem? (i := 1315) (by decide +kernel), List.mem_of_getElem? (i := 1407) (by decide +kernel), List.mem_of_getElem? (i := 1408) (by decide +kernel)⟩
theorem lw_p71 : lw_okq (⟨"SignalEngine$Atlas", "leastAlike", "(I)I"⟩, 15) := ⟨⟨by decide +kernel, by decide +kernel⟩, List.mem_of_getElem? (i := 1315) (by decide +kernel), List.mem_of_getElem? (i := 1411) (by decide +kernel), List.mem_of_getElem? (i := 1412) (by decide +kernel)⟩
theorem lw_p72 : lw_okq (⟨"SignalEngine$Atlas", "actAlike", "(II)Z"⟩, 15) := ⟨⟨by decide +kernel, by decide +kernel⟩, List.mem_of_getElem? (i := 1315) (by decide +kernel), List.mem_of_getElem? (i := 1415) (by decide +kernel), List.mem_of_getElem? (i := 1416) (by decide +kernel)⟩
theorem lw_p73 : lw_okq (⟨"SignalEngine$Net", "fold", "(IZLSignalEngine$Atlas;)I"⟩, 15) := ⟨⟨by decide +kernel, by decide +kernel⟩, List.mem_of_getElem? (i := 1453) (by decide +kernel), List.mem_of_getElem? (i := 1512) (by decide +kernel), List.mem_of_getElem? (i := 1513) (by decide +kernel)⟩
theorem lw_p74 : lw_okq (⟨"SignalEngine$Net", "truth", "(IIILSignalEngine$Atlas;)I"⟩, 15) := ⟨⟨by decide +kernel, by decide +kernel⟩, List.mem_of_getElem? (i := 1453) (by decide +kernel), List.mem_of_getElem? (i := 1519) (by decide +kernel), List.mem_of_getElem? (i := 1520) (by decide +kernel)⟩
theorem lw_p75 : lw_okq (⟨"SignalEngine$Net", "multiplexer", "(III)I"⟩, 15) := ⟨⟨by decide +kernel, by decide +kernel⟩, List.mem_of_getElem? (i := 1453) (by decide +kernel), List.mem_of_getElem? (i := 1525) (by decide +kernel), List.mem_of_getElem? (i := 1526) (by decide +kernel)⟩
theorem lw_p76 : lw_okq (⟨"SignalEngine$Net", "add", "(IIII)I"⟩, 15) := ⟨⟨by decide +kernel, by decide +kernel⟩, List.mem_of_getElem? (i := 1453) (by decide +kernel), List.mem_of_getElem? (i := 1529) (by decide +kernel), List.mem_of_getElem? (i := 1530) (by decide +kernel)⟩
theorem lw_p77 : lw_okq (⟨"SignalEngine$Net", "widen", "(I)V"⟩, 15) := ⟨⟨by decide +kernel, by decide +kernel⟩, List.mem_of_getElem? (i := 1453) (by decide +kernel), List.mem_of_getElem? (i := 1533) (by decide +kernel), List.mem_of_getElem? (i := 1534) (by decide +kernel)⟩
theorem lw_p78 : lw_okq (⟨"SignalEngine$Net", "truthOn", "(II)I"⟩, 15) := ⟨⟨by decide +kernel, by decide +kernel⟩, List.mem_of_getElem? (i := 1453) (by decide +kernel), List.mem_of_getElem? (i := 1549) (by decide +kernel), List.mem_of_getElem? (i := 1550) (by decide +kernel)⟩
theorem lw_p79 : lw_okq (⟨"SignalEngineModel", "forget", "()V"⟩, 107) := ⟨⟨by decide +kernel, by decide +kernel⟩, List.mem_of_getElem? (i := 1553) (by decide +kernel), List.mem_of_getElem? (i := 1902) (by decide +kernel), List.mem_of_getElem? (i := 1903) (by decide +kernel)⟩
def lw_privs_5 : List (MethodName × Nat) := [(⟨"SignalEngine$Reactor", "outputsAreKnown", "()Z"⟩, 18), (⟨"SignalEngine$Atlas", "meet", "(III)V"⟩, 15), (⟨"SignalEngine$Atlas", "tryAll", "(ILSignalEngine$Program;LSignalEngine$Reactor;[Z)V"⟩, 15), (⟨"SignalEngine$Atlas", "note", "(IILSignalEngine$Program;LSignalEngine$Reactor;)V"⟩, 15), (⟨"SignalEngine$Atlas", "noteDoubt", "(II)V"⟩, 15), (⟨"SignalEngine$Atlas", "sortOut", "()V"⟩, 15), (⟨"SignalEngine$Atlas", "splitGroups", "()V"⟩, 15), (⟨"SignalEngine$Atlas", "leastAlike", "(I)I"⟩, 15), (⟨"SignalEngine$Atlas", "actAlike", "(II)Z"⟩, 15), (⟨"SignalEngine$Net", "fold", "(IZLSignalEngine$Atlas;)I"⟩, 15), (⟨"SignalEngine$Net", "truth", "(IIILSignalEngine$Atlas;)I"⟩, 15), (⟨"SignalEngine$Net", "multiplexer", "(III)I"⟩, 15), (⟨"SignalEngine$Net", "add", "(IIII)I"⟩, 15), (⟨"SignalEngine$Net", "widen", "(I)V"⟩, 15), (⟨"SignalEngine$Net", "truthOn", "(II)I"⟩, 15), (⟨"SignalEngineModel", "forget", "()V"⟩, 107)]
theorem lw_r5 : ∀ q ∈ lw_privs_5, lw_okq q := List.forall_mem_cons.mpr ⟨lw_p64, List.forall_mem_cons.mpr ⟨lw_p65, List.forall_mem_cons.mpr ⟨lw_p66, List.forall_mem_cons.mpr ⟨lw_p67, List.forall_mem_cons.mpr ⟨lw_p68, List.forall_mem_cons.mpr ⟨lw_p69, List.forall_mem_cons.mpr ⟨lw_p70, List.forall_mem_cons.mpr ⟨lw_p71, List.forall_mem_cons.mpr ⟨lw_p72, List.forall_mem_cons.mpr ⟨lw_p73, List.forall_mem_cons.mpr ⟨lw_p74, List.forall_mem_cons.mpr ⟨lw_p75, List.forall_mem_cons.mpr ⟨lw_p76, List.forall_mem_cons.mpr ⟨lw_p77, List.forall_mem_cons.mpr ⟨lw_p78, List.forall_mem_cons.mpr ⟨lw_p79, fun _ h => absurd h List.not_mem_nil⟩⟩⟩⟩⟩⟩⟩⟩⟩⟩⟩⟩⟩⟩⟩⟩
theorem lw_p80 : lw_okq (⟨"SignalEngineModel", "program", "()I"⟩, 107) := ⟨⟨by decide +kernel, by decide +kernel⟩, List.mem_of_getElem? (i := 1553) (by decide +kernel), List.mem_of_getElem? (i := 1906) (by decide +kernel), List.mem_of_getElem? (i := 1907) (by decide +kernel)⟩
theorem lw_p81 : lw_okq (⟨"SignalEngineModel", "fail", "(II)V"⟩, 107) := ⟨⟨by decide +kernel, by decide +kernel⟩, List.mem_of_getElem? (i := 1553) (by decide +kernel), List.mem_of_getElem? (i := 1910) (by decide +kernel), List.mem_of_getElem? (i := 1911) (by decide +kernel)⟩
theorem lw_p82 : lw_okq (⟨"SignalEngineModel", "advance", "()V"⟩, 107) := ⟨⟨by decide +kernel, by decide +kernel⟩, List.mem_of_getElem? (i := 1553) (by decide +kernel), List.mem_of_getElem? (i := 1914) (by decide +kernel), List.mem_of_getElem? (i := 1915) (by decide +kernel)⟩
theorem lw_p83 : lw_okq (⟨"SignalEngineModel", "letter", "(I)I"⟩, 107) := ⟨⟨by decide +kernel, by decide +kernel⟩, List.mem_of_getElem? (i := 1553) (by decide +kernel), List.mem_of_getElem? (i := 1918) (by decide +kernel), List.mem_of_getElem? (i := 1919) (by decide +kernel)⟩
theorem lw_p84 : lw_okq (⟨"SignalEngineModel", "meetsWord", "(J)Z"⟩, 107) := ⟨⟨by decide +kernel, by decide +kernel⟩, List.mem_of_getElem? (i := 1553) (by decide +kernel), List.mem_of_getElem? (i := 1931) (by decide +kernel), List.mem_of_getElem? (i := 1932) (by decide +kernel)⟩
theorem lw_p85 : lw_okq (⟨"SignalEngineModel", "isWord", "(J)Z"⟩, 107) := ⟨⟨by decide +kernel, by decide +kernel⟩, List.mem_of_getElem? (i := 1553) (by decide +kernel), List.mem_of_getElem? (i := 1935) (by decide +kernel), List.mem_of_getElem? (i := 1936) (by decide +kernel)⟩
theorem lw_p86 : lw_okq (⟨"SignalEngineModel", "list", "(I)V"⟩, 107) := ⟨⟨by decide +kernel, by decide +kernel⟩, List.mem_of_getElem? (i := 1553) (by decide +kernel), List.mem_of_getElem? (i := 1939) (by decide +kernel), List.mem_of_getElem? (i := 1940) (by decide +kernel)⟩
theorem lw_p87 : lw_okq (⟨"SignalEngineModel", "isName", "()Z"⟩, 107) := ⟨⟨by decide +kernel, by decide +kernel⟩, List.mem_of_getElem? (i := 1553) (by decide +kernel), List.mem_of_getElem? (i := 1943) (by decide +kernel), List.mem_of_getElem? (i := 1944) (by decide +kernel)⟩
theorem lw_p88 : lw_okq (⟨"SignalEngineModel", "isKept", "()Z"⟩, 107) := ⟨⟨by decide +kernel, by decide +kernel⟩, List.mem_of_getElem? (i := 1553) (by decide +kernel), List.mem_of_getElem? (i := 1947) (by decide +kernel), List.mem_of_getElem? (i := 1948) (by decide +kernel)⟩
theorem lw_p89 : lw_okq (⟨"SignalEngineModel", "signal", "(I)I"⟩, 107) := ⟨⟨by decide +kernel, by decide +kernel⟩, List.mem_of_getElem? (i := 1553) (by decide +kernel), List.mem_of_getElem? (i := 1976) (by decide +kernel), List.mem_of_getElem? (i := 1977) (by decide +kernel)⟩
theorem lw_p90 : lw_okq (⟨"SignalEngineModel", "same", "(IIII)Z"⟩, 107) := ⟨⟨by decide +kernel, by decide +kernel⟩, List.mem_of_getElem? (i := 1553) (by decide +kernel), List.mem_of_getElem? (i := 1980) (by decide +kernel), List.mem_of_getElem? (i := 1981) (by decide +kernel)⟩
theorem lw_p91 : lw_okq (⟨"SignalEngineModel", "meetsSign", "(I)Z"⟩, 107) := ⟨⟨by decide +kernel, by decide +kernel⟩, List.mem_of_getElem? (i := 1553) (by decide +kernel), List.mem_of_getElem? (i := 1984) (by decide +kernel), List.mem_of_getElem? (i := 1985) (by decide +kernel)⟩
theorem lw_p92 : lw_okq (⟨"SignalEngineModel", "isSign", "(I)Z"⟩, 107) := ⟨⟨by decide +kernel, by decide +kernel⟩, List.mem_of_getElem? (i := 1553) (by decide +kernel), List.mem_of_getElem? (i := 1988) (by decide +kernel), List.mem_of_getElem? (i := 1989) (by decide +kernel)⟩
theorem lw_p93 : lw_okq (⟨"SignalEngineModel", "body", "()I"⟩, 107) := ⟨⟨by decide +kernel, by decide +kernel⟩, List.mem_of_getElem? (i := 1553) (by decide +kernel), List.mem_of_getElem? (i := 1992) (by decide +kernel), List.mem_of_getElem? (i := 1993) (by decide +kernel)⟩
theorem lw_p94 : lw_okq (⟨"SignalEngineModel", "row", "()I"⟩, 107) := ⟨⟨by decide +kernel, by decide +kernel⟩, List.mem_of_getElem? (i := 1553) (by decide +kernel), List.mem_of_getElem? (i := 1996) (by decide +kernel), List.mem_of_getElem? (i := 1997) (by decide +kernel)⟩
theorem lw_p95 : lw_okq (⟨"SignalEngineModel", "statement", "()I"⟩, 107) := ⟨⟨by decide +kernel, by decide +kernel⟩, List.mem_of_getElem? (i := 1553) (by decide +kernel), List.mem_of_getElem? (i := 2000) (by decide +kernel), List.mem_of_getElem? (i := 2001) (by decide +kernel)⟩
def lw_privs_6 : List (MethodName × Nat) := [(⟨"SignalEngineModel", "program", "()I"⟩, 107), (⟨"SignalEngineModel", "fail", "(II)V"⟩, 107), (⟨"SignalEngineModel", "advance", "()V"⟩, 107), (⟨"SignalEngineModel", "letter", "(I)I"⟩, 107), (⟨"SignalEngineModel", "meetsWord", "(J)Z"⟩, 107), (⟨"SignalEngineModel", "isWord", "(J)Z"⟩, 107), (⟨"SignalEngineModel", "list", "(I)V"⟩, 107), (⟨"SignalEngineModel", "isName", "()Z"⟩, 107), (⟨"SignalEngineModel", "isKept", "()Z"⟩, 107), (⟨"SignalEngineModel", "signal", "(I)I"⟩, 107), (⟨"SignalEngineModel", "same", "(IIII)Z"⟩, 107), (⟨"SignalEngineModel", "meetsSign", "(I)Z"⟩, 107), (⟨"SignalEngineModel", "isSign", "(I)Z"⟩, 107), (⟨"SignalEngineModel", "body", "()I"⟩, 107), (⟨"SignalEngineModel", "row", "()I"⟩, 107), (⟨"SignalEngineModel", "statement", "()I"⟩, 107)]
theorem lw_r6 : ∀ q ∈ lw_privs_6, lw_okq q := List.forall_mem_cons.mpr ⟨lw_p80, List.forall_mem_cons.mpr ⟨lw_p81, List.forall_mem_cons.mpr ⟨lw_p82, List.forall_mem_cons.mpr ⟨lw_p83, List.forall_mem_cons.mpr ⟨lw_p84, List.forall_mem_cons.mpr ⟨lw_p85, List.forall_mem_cons.mpr ⟨lw_p86, List.forall_mem_cons.mpr ⟨lw_p87, List.forall_mem_cons.mpr ⟨lw_p88, List.forall_mem_cons.mpr ⟨lw_p89, List.forall_mem_cons.mpr ⟨lw_p90, List.forall_mem_cons.mpr ⟨lw_p91, List.forall_mem_cons.mpr ⟨lw_p92, List.forall_mem_cons.mpr ⟨lw_p93, List.forall_mem_cons.mpr ⟨lw_p94, List.forall_mem_cons.mpr ⟨lw_p95, fun _ h => absurd h List.not_mem_nil⟩⟩⟩⟩⟩⟩⟩⟩⟩⟩⟩⟩⟩⟩⟩⟩
theorem lw_p96 : lw_okq (⟨"SignalEngineModel", "deeper", "()V"⟩, 107) := ⟨⟨by decide +kernel, by decide +kernel⟩, List.mem_of_getElem? (i := 1553) (by decide +kernel), List.mem_of_getElem? (i := 2007) (by decide +kernel), List.mem_of_getElem? (i := 2008) (by decide +kernel)⟩
theorem lw_p97 : lw_okq (⟨"SignalEngineModel", "closed", "()I"⟩, 107) := ⟨⟨by decide +kernel, by decide +kernel⟩, List.mem_of_getElem? (i := 1553) (by decide +kernel), List.mem_of_getElem? (i := 2011) (by decide +kernel), List.mem_of_getElem? (i := 2012) (by decide +kernel)⟩
theorem lw_p98 : lw_okq (⟨"SignalEngineModel", "present", "(I)I"⟩, 107) := ⟨⟨by decide +kernel, by decide +kernel⟩, List.mem_of_getElem? (i := 1553) (by decide +kernel), List.mem_of_getElem? (i := 2015) (by decide +kernel), List.mem_of_getElem? (i := 2016) (by decide +kernel)⟩
theorem lw_p99 : lw_okq (⟨"SignalEngineModel", "asked", "()I"⟩, 107) := ⟨⟨by decide +kernel, by decide +kernel⟩, List.mem_of_getElem? (i := 1553) (by decide +kernel), List.mem_of_getElem? (i := 2019) (by decide +kernel), List.mem_of_getElem? (i := 2020) (by decide +kernel)⟩
theorem lw_p100 : lw_okq (⟨"SignalEngineModel", "clause", "()I"⟩, 107) := ⟨⟨by decide +kernel, by decide +kernel⟩, List.mem_of_getElem? (i := 1553) (by decide +kernel), List.mem_of_getElem? (i := 2023) (by decide +kernel), List.mem_of_getElem? (i := 2024) (by decide +kernel)⟩
theorem lw_p101 : lw_okq (⟨"SignalEngineModel", "part", "()I"⟩, 107) := ⟨⟨by decide +kernel, by decide +kernel⟩, List.mem_of_getElem? (i := 1553) (by decide +kernel), List.mem_of_getElem? (i := 2027) (by decide +kernel), List.mem_of_getElem? (i := 2028) (by decide +kernel)⟩
theorem lw_p102 : lw_okq (⟨"SignalEngineModel", "named", "(Z)I"⟩, 107) := ⟨⟨by decide +kernel, by decide +kernel⟩, List.mem_of_getElem? (i := 1553) (by decide +kernel), List.mem_of_getElem? (i := 2031) (by decide +kernel), List.mem_of_getElem? (i := 2032) (by decide +kernel)⟩
theorem lw_p103 : lw_okq (⟨"SignalEngineModel", "piece", "(III)I"⟩, 107) := ⟨⟨by decide +kernel, by decide +kernel⟩, List.mem_of_getElem? (i := 1553) (by decide +kernel), List.mem_of_getElem? (i := 2035) (by decide +kernel), List.mem_of_getElem? (i := 2036) (by decide +kernel)⟩
theorem lw_p104 : lw_okq (⟨"SignalEngineModel", "mustWord", "(J)V"⟩, 107) := ⟨⟨by decide +kernel, by decide +kernel⟩, List.mem_of_getElem? (i := 1553) (by decide +kernel), List.mem_of_getElem? (i := 2039) (by decide +kernel), List.mem_of_getElem? (i := 2040) (by decide +kernel)⟩
theorem lw_p105 : lw_okq (⟨"SignalEngineModel", "leaf", "(III)I"⟩, 107) := ⟨⟨by decide +kernel, by decide +kernel⟩, List.mem_of_getElem? (i := 1553) (by decide +kernel), List.mem_of_getElem? (i := 2043) (by decide +kernel), List.mem_of_getElem? (i := 2044) (by decide +kernel)⟩
theorem lw_p106 : lw_okq (⟨"SignalEngineModel", "node", "(IIIIII)I"⟩, 107) := ⟨⟨by decide +kernel, by decide +kernel⟩, List.mem_of_getElem? (i := 1553) (by decide +kernel), List.mem_of_getElem? (i := 2047) (by decide +kernel), List.mem_of_getElem? (i := 2048) (by decide +kernel)⟩
theorem lw_p107 : lw_okq (⟨"SignalEngineModel", "suspend", "(I)I"⟩, 107) := ⟨⟨by decide +kernel, by decide +kernel⟩, List.mem_of_getElem? (i := 1553) (by decide +kernel), List.mem_of_getElem? (i := 2051) (by decide +kernel), List.mem_of_getElem? (i := 2052) (by decide +kernel)⟩
theorem lw_p108 : lw_okq (⟨"SignalEngineModel", "loop", "(II)I"⟩, 107) := ⟨⟨by decide +kernel, by decide +kernel⟩, List.mem_of_getElem? (i := 1553) (by decide +kernel), List.mem_of_getElem? (i := 2055) (by decide +kernel), List.mem_of_getElem? (i := 2056) (by decide +kernel)⟩
theorem lw_p109 : lw_okq (⟨"SignalEngineModel", "again", "(IIII)I"⟩, 107) := ⟨⟨by decide +kernel, by decide +kernel⟩, List.mem_of_getElem? (i := 1553) (by decide +kernel), List.mem_of_getElem? (i := 2059) (by decide +kernel), List.mem_of_getElem? (i := 2060) (by decide +kernel)⟩
theorem lw_p110 : lw_okq (⟨"SignalEngineModel", "halt", "(I)I"⟩, 107) := ⟨⟨by decide +kernel, by decide +kernel⟩, List.mem_of_getElem? (i := 1553) (by decide +kernel), List.mem_of_getElem? (i := 2063) (by decide +kernel), List.mem_of_getElem? (i := 2064) (by decide +kernel)⟩
theorem lw_p111 : lw_okq (⟨"SignalEngineModel", "aborted", "(IIIZI)I"⟩, 107) := ⟨⟨by decide +kernel, by decide +kernel⟩, List.mem_of_getElem? (i := 1553) (by decide +kernel), List.mem_of_getElem? (i := 2070) (by decide +kernel), List.mem_of_getElem? (i := 2071) (by decide +kernel)⟩
def lw_privs_7 : List (MethodName × Nat) := [(⟨"SignalEngineModel", "deeper", "()V"⟩, 107), (⟨"SignalEngineModel", "closed", "()I"⟩, 107), (⟨"SignalEngineModel", "present", "(I)I"⟩, 107), (⟨"SignalEngineModel", "asked", "()I"⟩, 107), (⟨"SignalEngineModel", "clause", "()I"⟩, 107), (⟨"SignalEngineModel", "part", "()I"⟩, 107), (⟨"SignalEngineModel", "named", "(Z)I"⟩, 107), (⟨"SignalEngineModel", "piece", "(III)I"⟩, 107), (⟨"SignalEngineModel", "mustWord", "(J)V"⟩, 107), (⟨"SignalEngineModel", "leaf", "(III)I"⟩, 107), (⟨"SignalEngineModel", "node", "(IIIIII)I"⟩, 107), (⟨"SignalEngineModel", "suspend", "(I)I"⟩, 107), (⟨"SignalEngineModel", "loop", "(II)I"⟩, 107), (⟨"SignalEngineModel", "again", "(IIII)I"⟩, 107), (⟨"SignalEngineModel", "halt", "(I)I"⟩, 107), (⟨"SignalEngineModel", "aborted", "(IIIZI)I"⟩, 107)]
theorem lw_r7 : ∀ q ∈ lw_privs_7, lw_okq q := List.forall_mem_cons.mpr ⟨lw_p96, List.forall_mem_cons.mpr ⟨lw_p97, List.forall_mem_cons.mpr ⟨lw_p98, List.forall_mem_cons.mpr ⟨lw_p99, List.forall_mem_cons.mpr ⟨lw_p100, List.forall_mem_cons.mpr ⟨lw_p101, List.forall_mem_cons.mpr ⟨lw_p102, List.forall_mem_cons.mpr ⟨lw_p103, List.forall_mem_cons.mpr ⟨lw_p104, List.forall_mem_cons.mpr ⟨lw_p105, List.forall_mem_cons.mpr ⟨lw_p106, List.forall_mem_cons.mpr ⟨lw_p107, List.forall_mem_cons.mpr ⟨lw_p108, List.forall_mem_cons.mpr ⟨lw_p109, List.forall_mem_cons.mpr ⟨lw_p110, List.forall_mem_cons.mpr ⟨lw_p111, fun _ h => absurd h List.not_mem_nil⟩⟩⟩⟩⟩⟩⟩⟩⟩⟩⟩⟩⟩⟩⟩⟩
theorem lw_p112 : lw_okq (⟨"SignalEngineModel", "waiting", "(III)I"⟩, 107) := ⟨⟨by decide +kernel, by decide +kernel⟩, List.mem_of_getElem? (i := 1553) (by decide +kernel), List.mem_of_getElem? (i := 2080) (by decide +kernel), List.mem_of_getElem? (i := 2081) (by decide +kernel)⟩
theorem lw_p113 : lw_okq (⟨"SignalEngineModel", "trap", "(I)I"⟩, 107) := ⟨⟨by decide +kernel, by decide +kernel⟩, List.mem_of_getElem? (i := 1553) (by decide +kernel), List.mem_of_getElem? (i := 2084) (by decide +kernel), List.mem_of_getElem? (i := 2085) (by decide +kernel)⟩
theorem lw_p114 : lw_okq (⟨"SignalEngineModel", "locals", "(I)I"⟩, 107) := ⟨⟨by decide +kernel, by decide +kernel⟩, List.mem_of_getElem? (i := 1553) (by decide +kernel), List.mem_of_getElem? (i := 2088) (by decide +kernel), List.mem_of_getElem? (i := 2089) (by decide +kernel)⟩
theorem lw_p115 : lw_okq (⟨"SignalEngineModel", "abort", "(IZ)I"⟩, 107) := ⟨⟨by decide +kernel, by decide +kernel⟩, List.mem_of_getElem? (i := 1553) (by decide +kernel), List.mem_of_getElem? (i := 2092) (by decide +kernel), List.mem_of_getElem? (i := 2093) (by decide +kernel)⟩
theorem lw_p116 : lw_okq (⟨"SignalEngineModel", "weak", "(I)I"⟩, 107) := ⟨⟨by decide +kernel, by decide +kernel⟩, List.mem_of_getElem? (i := 1553) (by decide +kernel), List.mem_of_getElem? (i := 2096) (by decide +kernel), List.mem_of_getElem? (i := 2097) (by decide +kernel)⟩
theorem lw_p117 : lw_okq (⟨"SignalEngineModel", "every", "(I)I"⟩, 107) := ⟨⟨by decide +kernel, by decide +kernel⟩, List.mem_of_getElem? (i := 1553) (by decide +kernel), List.mem_of_getElem? (i := 2100) (by decide +kernel), List.mem_of_getElem? (i := 2101) (by decide +kernel)⟩
theorem lw_p118 : lw_okq (⟨"SignalEngineModel", "await", "(II)I"⟩, 107) := ⟨⟨by decide +kernel, by decide +kernel⟩, List.mem_of_getElem? (i := 1553) (by decide +kernel), List.mem_of_getElem? (i := 2104) (by decide +kernel), List.mem_of_getElem? (i := 2105) (by decide +kernel)⟩
theorem lw_p119 : lw_okq (⟨"SignalEngineModel", "simple", "(JI)I"⟩, 107) := ⟨⟨by decide +kernel, by decide +kernel⟩, List.mem_of_getElem? (i := 1553) (by decide +kernel), List.mem_of_getElem? (i := 2108) (by decide +kernel), List.mem_of_getElem? (i := 2109) (by decide +kernel)⟩
theorem lw_p120 : lw_okq (⟨"SignalEngineModel", "exit", "(I)I"⟩, 107) := ⟨⟨by decide +kernel, by decide +kernel⟩, List.mem_of_getElem? (i := 1553) (by decide +kernel), List.mem_of_getElem? (i := 2112) (by decide +kernel), List.mem_of_getElem? (i := 2113) (by decide +kernel)⟩
theorem lw_p121 : lw_okq (⟨"SignalEngineModel", "lay", "(I)V"⟩, 107) := ⟨⟨by decide +kernel, by decide +kernel⟩, List.mem_of_getElem? (i := 1553) (by decide +kernel), List.mem_of_getElem? (i := 2116) (by decide +kernel), List.mem_of_getElem? (i := 2117) (by decide +kernel)⟩
theorem lw_p122 : lw_okq (⟨"SignalEngineModel", "ask", "(I)I"⟩, 107) := ⟨⟨by decide +kernel, by decide +kernel⟩, List.mem_of_getElem? (i := 1553) (by decide +kernel), List.mem_of_getElem? (i := 2120) (by decide +kernel), List.mem_of_getElem? (i := 2121) (by decide +kernel)⟩
theorem lw_p123 : lw_okq (⟨"SignalEngineModel", "around", "(I)I"⟩, 107) := ⟨⟨by decide +kernel, by decide +kernel⟩, List.mem_of_getElem? (i := 1553) (by decide +kernel), List.mem_of_getElem? (i := 2124) (by decide +kernel), List.mem_of_getElem? (i := 2125) (by decide +kernel)⟩
theorem lw_p124 : lw_okq (⟨"SignalEngineModel", "code", "(I)V"⟩, 107) := ⟨⟨by decide +kernel, by decide +kernel⟩, List.mem_of_getElem? (i := 1553) (by decide +kernel), List.mem_of_getElem? (i := 2129) (by decide +kernel), List.mem_of_getElem? (i := 2130) (by decide +kernel)⟩
theorem lw_p125 : lw_okq (⟨"SignalEngineModel", "settle", "()V"⟩, 107) := ⟨⟨by decide +kernel, by decide +kernel⟩, List.mem_of_getElem? (i := 1553) (by decide +kernel), List.mem_of_getElem? (i := 2133) (by decide +kernel), List.mem_of_getElem? (i := 2134) (by decide +kernel)⟩
theorem lw_p126 : lw_okq (⟨"SignalEngineModel", "fails", "(ZZ)Z"⟩, 107) := ⟨⟨by decide +kernel, by decide +kernel⟩, List.mem_of_getElem? (i := 1553) (by decide +kernel), List.mem_of_getElem? (i := 2153) (by decide +kernel), List.mem_of_getElem? (i := 2154) (by decide +kernel)⟩
theorem lw_p127 : lw_okq (⟨"SignalEngineModel", "rest", "()V"⟩, 107) := ⟨⟨by decide +kernel, by decide +kernel⟩, List.mem_of_getElem? (i := 1553) (by decide +kernel), List.mem_of_getElem? (i := 2157) (by decide +kernel), List.mem_of_getElem? (i := 2158) (by decide +kernel)⟩
def lw_privs_8 : List (MethodName × Nat) := [(⟨"SignalEngineModel", "waiting", "(III)I"⟩, 107), (⟨"SignalEngineModel", "trap", "(I)I"⟩, 107), (⟨"SignalEngineModel", "locals", "(I)I"⟩, 107), (⟨"SignalEngineModel", "abort", "(IZ)I"⟩, 107), (⟨"SignalEngineModel", "weak", "(I)I"⟩, 107), (⟨"SignalEngineModel", "every", "(I)I"⟩, 107), (⟨"SignalEngineModel", "await", "(II)I"⟩, 107), (⟨"SignalEngineModel", "simple", "(JI)I"⟩, 107), (⟨"SignalEngineModel", "exit", "(I)I"⟩, 107), (⟨"SignalEngineModel", "lay", "(I)V"⟩, 107), (⟨"SignalEngineModel", "ask", "(I)I"⟩, 107), (⟨"SignalEngineModel", "around", "(I)I"⟩, 107), (⟨"SignalEngineModel", "code", "(I)V"⟩, 107), (⟨"SignalEngineModel", "settle", "()V"⟩, 107), (⟨"SignalEngineModel", "fails", "(ZZ)Z"⟩, 107), (⟨"SignalEngineModel", "rest", "()V"⟩, 107)]
theorem lw_r8 : ∀ q ∈ lw_privs_8, lw_okq q := List.forall_mem_cons.mpr ⟨lw_p112, List.forall_mem_cons.mpr ⟨lw_p113, List.forall_mem_cons.mpr ⟨lw_p114, List.forall_mem_cons.mpr ⟨lw_p115, List.forall_mem_cons.mpr ⟨lw_p116, List.forall_mem_cons.mpr ⟨lw_p117, List.forall_mem_cons.mpr ⟨lw_p118, List.forall_mem_cons.mpr ⟨lw_p119, List.forall_mem_cons.mpr ⟨lw_p120, List.forall_mem_cons.mpr ⟨lw_p121, List.forall_mem_cons.mpr ⟨lw_p122, List.forall_mem_cons.mpr ⟨lw_p123, List.forall_mem_cons.mpr ⟨lw_p124, List.forall_mem_cons.mpr ⟨lw_p125, List.forall_mem_cons.mpr ⟨lw_p126, List.forall_mem_cons.mpr ⟨lw_p127, fun _ h => absurd h List.not_mem_nil⟩⟩⟩⟩⟩⟩⟩⟩⟩⟩⟩⟩⟩⟩⟩⟩
theorem lw_p128 : lw_okq (⟨"SignalEngineModel", "place", "(I)V"⟩, 107) := ⟨⟨by decide +kernel, by decide +kernel⟩, List.mem_of_getElem? (i := 1553) (by decide +kernel), List.mem_of_getElem? (i := 2161) (by decide +kernel), List.mem_of_getElem? (i := 2162) (by decide +kernel)⟩
theorem lw_p129 : lw_okq (⟨"SignalEngineModel", "isInput", "(I)Z"⟩, 107) := ⟨⟨by decide +kernel, by decide +kernel⟩, List.mem_of_getElem? (i := 1553) (by decide +kernel), List.mem_of_getElem? (i := 2169) (by decide +kernel), List.mem_of_getElem? (i := 2170) (by decide +kernel)⟩
theorem lw_p130 : lw_okq (⟨"SignalEngineModel", "react", "(I)I"⟩, 107) := ⟨⟨by decide +kernel, by decide +kernel⟩, List.mem_of_getElem? (i := 1553) (by decide +kernel), List.mem_of_getElem? (i := 2173) (by decide +kernel), List.mem_of_getElem? (i := 2174) (by decide +kernel)⟩
theorem lw_p131 : lw_okq (⟨"SignalEngineModel", "run", "(IZZ)V"⟩, 107) := ⟨⟨by decide +kernel, by decide +kernel⟩, List.mem_of_getElem? (i := 1553) (by decide +kernel), List.mem_of_getElem? (i := 2177) (by decide +kernel), List.mem_of_getElem? (i := 2178) (by decide +kernel)⟩
theorem lw_p132 : lw_okq (⟨"SignalEngineModel", "simple", "(IZ)V"⟩, 107) := ⟨⟨by decide +kernel, by decide +kernel⟩, List.mem_of_getElem? (i := 1553) (by decide +kernel), List.mem_of_getElem? (i := 2181) (by decide +kernel), List.mem_of_getElem? (i := 2182) (by decide +kernel)⟩
theorem lw_p133 : lw_okq (⟨"SignalEngineModel", "outcome", "(II)V"⟩, 107) := ⟨⟨by decide +kernel, by decide +kernel⟩, List.mem_of_getElem? (i := 1553) (by decide +kernel), List.mem_of_getElem? (i := 2185) (by decide +kernel), List.mem_of_getElem? (i := 2186) (by decide +kernel)⟩
theorem lw_p134 : lw_okq (⟨"SignalEngineModel", "present", "(IZZ)V"⟩, 107) := ⟨⟨by decide +kernel, by decide +kernel⟩, List.mem_of_getElem? (i := 1553) (by decide +kernel), List.mem_of_getElem? (i := 2189) (by decide +kernel), List.mem_of_getElem? (i := 2190) (by decide +kernel)⟩
theorem lw_p135 : lw_okq (⟨"SignalEngineModel", "has", "(I)Z"⟩, 107) := ⟨⟨by decide +kernel, by decide +kernel⟩, List.mem_of_getElem? (i := 1553) (by decide +kernel), List.mem_of_getElem? (i := 2193) (by decide +kernel), List.mem_of_getElem? (i := 2194) (by decide +kernel)⟩
theorem lw_p136 : lw_okq (⟨"SignalEngineModel", "truth", "(I)I"⟩, 107) := ⟨⟨by decide +kernel, by decide +kernel⟩, List.mem_of_getElem? (i := 1553) (by decide +kernel), List.mem_of_getElem? (i := 2197) (by decide +kernel), List.mem_of_getElem? (i := 2198) (by decide +kernel)⟩
theorem lw_p137 : lw_okq (⟨"SignalEngineModel", "suspended", "(IZZ)V"⟩, 107) := ⟨⟨by decide +kernel, by decide +kernel⟩, List.mem_of_getElem? (i := 1553) (by decide +kernel), List.mem_of_getElem? (i := 2201) (by decide +kernel), List.mem_of_getElem? (i := 2202) (by decide +kernel)⟩
theorem lw_p138 : lw_okq (⟨"SignalEngineModel", "sequence", "(IZZ)V"⟩, 107) := ⟨⟨by decide +kernel, by decide +kernel⟩, List.mem_of_getElem? (i := 1553) (by decide +kernel), List.mem_of_getElem? (i := 2205) (by decide +kernel), List.mem_of_getElem? (i := 2206) (by decide +kernel)⟩
theorem lw_p139 : lw_okq (⟨"SignalEngineModel", "behind", "(IIZZ)V"⟩, 107) := ⟨⟨by decide +kernel, by decide +kernel⟩, List.mem_of_getElem? (i := 1553) (by decide +kernel), List.mem_of_getElem? (i := 2209) (by decide +kernel), List.mem_of_getElem? (i := 2210) (by decide +kernel)⟩
theorem lw_p140 : lw_okq (⟨"SignalEngineModel", "both", "(IZZ)V"⟩, 107) := ⟨⟨by decide +kernel, by decide +kernel⟩, List.mem_of_getElem? (i := 1553) (by decide +kernel), List.mem_of_getElem? (i := 2213) (by decide +kernel), List.mem_of_getElem? (i := 2214) (by decide +kernel)⟩
theorem lw_p141 : lw_okq (⟨"SignalEngineModel", "side", "(IZZ)V"⟩, 107) := ⟨⟨by decide +kernel, by decide +kernel⟩, List.mem_of_getElem? (i := 1553) (by decide +kernel), List.mem_of_getElem? (i := 2217) (by decide +kernel), List.mem_of_getElem? (i := 2218) (by decide +kernel)⟩
theorem lw_p142 : lw_okq (⟨"SignalEngineModel", "trapped", "(IZZ)V"⟩, 107) := ⟨⟨by decide +kernel, by decide +kernel⟩, List.mem_of_getElem? (i := 1553) (by decide +kernel), List.mem_of_getElem? (i := 2221) (by decide +kernel), List.mem_of_getElem? (i := 2222) (by decide +kernel)⟩
theorem lw_p143 : lw_okq (⟨"SignalEngineModel", "learns", "()Z"⟩, 107) := ⟨⟨by decide +kernel, by decide +kernel⟩, List.mem_of_getElem? (i := 1553) (by decide +kernel), List.mem_of_getElem? (i := 2225) (by decide +kernel), List.mem_of_getElem? (i := 2226) (by decide +kernel)⟩
def lw_privs_9 : List (MethodName × Nat) := [(⟨"SignalEngineModel", "place", "(I)V"⟩, 107), (⟨"SignalEngineModel", "isInput", "(I)Z"⟩, 107), (⟨"SignalEngineModel", "react", "(I)I"⟩, 107), (⟨"SignalEngineModel", "run", "(IZZ)V"⟩, 107), (⟨"SignalEngineModel", "simple", "(IZ)V"⟩, 107), (⟨"SignalEngineModel", "outcome", "(II)V"⟩, 107), (⟨"SignalEngineModel", "present", "(IZZ)V"⟩, 107), (⟨"SignalEngineModel", "has", "(I)Z"⟩, 107), (⟨"SignalEngineModel", "truth", "(I)I"⟩, 107), (⟨"SignalEngineModel", "suspended", "(IZZ)V"⟩, 107), (⟨"SignalEngineModel", "sequence", "(IZZ)V"⟩, 107), (⟨"SignalEngineModel", "behind", "(IIZZ)V"⟩, 107), (⟨"SignalEngineModel", "both", "(IZZ)V"⟩, 107), (⟨"SignalEngineModel", "side", "(IZZ)V"⟩, 107), (⟨"SignalEngineModel", "trapped", "(IZZ)V"⟩, 107), (⟨"SignalEngineModel", "learns", "()Z"⟩, 107)]
theorem lw_r9 : ∀ q ∈ lw_privs_9, lw_okq q := List.forall_mem_cons.mpr ⟨lw_p128, List.forall_mem_cons.mpr ⟨lw_p129, List.forall_mem_cons.mpr ⟨lw_p130, List.forall_mem_cons.mpr ⟨lw_p131, List.forall_mem_cons.mpr ⟨lw_p132, List.forall_mem_cons.mpr ⟨lw_p133, List.forall_mem_cons.mpr ⟨lw_p134, List.forall_mem_cons.mpr ⟨lw_p135, List.forall_mem_cons.mpr ⟨lw_p136, List.forall_mem_cons.mpr ⟨lw_p137, List.forall_mem_cons.mpr ⟨lw_p138, List.forall_mem_cons.mpr ⟨lw_p139, List.forall_mem_cons.mpr ⟨lw_p140, List.forall_mem_cons.mpr ⟨lw_p141, List.forall_mem_cons.mpr ⟨lw_p142, List.forall_mem_cons.mpr ⟨lw_p143, fun _ h => absurd h List.not_mem_nil⟩⟩⟩⟩⟩⟩⟩⟩⟩⟩⟩⟩⟩⟩⟩⟩
theorem lw_p144 : lw_okq (⟨"SignalEngineModel", "find", "(I)I"⟩, 107) := ⟨⟨by decide +kernel, by decide +kernel⟩, List.mem_of_getElem? (i := 1553) (by decide +kernel), List.mem_of_getElem? (i := 2241) (by decide +kernel), List.mem_of_getElem? (i := 2242) (by decide +kernel)⟩
theorem lw_p145 : lw_okq (⟨"SignalEngineModel", "meet", "(III)V"⟩, 107) := ⟨⟨by decide +kernel, by decide +kernel⟩, List.mem_of_getElem? (i := 1553) (by decide +kernel), List.mem_of_getElem? (i := 2249) (by decide +kernel), List.mem_of_getElem? (i := 2250) (by decide +kernel)⟩
theorem lw_p146 : lw_okq (⟨"SignalEngineModel", "markPairs", "()V"⟩, 107) := ⟨⟨by decide +kernel, by decide +kernel⟩, List.mem_of_getElem? (i := 1553) (by decide +kernel), List.mem_of_getElem? (i := 2253) (by decide +kernel), List.mem_of_getElem? (i := 2254) (by decide +kernel)⟩
theorem lw_p147 : lw_okq (⟨"SignalEngineModel", "differ", "(II)Z"⟩, 107) := ⟨⟨by decide +kernel, by decide +kernel⟩, List.mem_of_getElem? (i := 1553) (by decide +kernel), List.mem_of_getElem? (i := 2257) (by decide +kernel), List.mem_of_getElem? (i := 2258) (by decide +kernel)⟩
theorem lw_p148 : lw_okq (⟨"SignalEngineModel", "ahead", "()V"⟩, 107) := ⟨⟨by decide +kernel, by decide +kernel⟩, List.mem_of_getElem? (i := 1553) (by decide +kernel), List.mem_of_getElem? (i := 2261) (by decide +kernel), List.mem_of_getElem? (i := 2262) (by decide +kernel)⟩
theorem lw_p149 : lw_okq (⟨"SignalEngineModel", "placeOf", "(I)I"⟩, 107) := ⟨⟨by decide +kernel, by decide +kernel⟩, List.mem_of_getElem? (i := 1553) (by decide +kernel), List.mem_of_getElem? (i := 2269) (by decide +kernel), List.mem_of_getElem? (i := 2270) (by decide +kernel)⟩
theorem lw_p150 : lw_okq (⟨"SignalEngineModel", "told", "(II[I)I"⟩, 107) := ⟨⟨by decide +kernel, by decide +kernel⟩, List.mem_of_getElem? (i := 1553) (by decide +kernel), List.mem_of_getElem? (i := 2281) (by decide +kernel), List.mem_of_getElem? (i := 2282) (by decide +kernel)⟩
theorem lw_p151 : lw_okq (⟨"SignalEngineModel", "reactions", "(I)I"⟩, 107) := ⟨⟨by decide +kernel, by decide +kernel⟩, List.mem_of_getElem? (i := 1553) (by decide +kernel), List.mem_of_getElem? (i := 2297) (by decide +kernel), List.mem_of_getElem? (i := 2298) (by decide +kernel)⟩
theorem lw_p152 : lw_okq (⟨"SignalEngineModel", "leastAlike", "(I)I"⟩, 107) := ⟨⟨by decide +kernel, by decide +kernel⟩, List.mem_of_getElem? (i := 1553) (by decide +kernel), List.mem_of_getElem? (i := 2309) (by decide +kernel), List.mem_of_getElem? (i := 2310) (by decide +kernel)⟩
theorem lw_p153 : lw_okq (⟨"SignalEngineModel", "tables", "()V"⟩, 107) := ⟨⟨by decide +kernel, by decide +kernel⟩, List.mem_of_getElem? (i := 1553) (by decide +kernel), List.mem_of_getElem? (i := 2321) (by decide +kernel), List.mem_of_getElem? (i := 2322) (by decide +kernel)⟩
theorem lw_p154 : lw_okq (⟨"SignalEngineModel", "multiplexer", "(III)I"⟩, 107) := ⟨⟨by decide +kernel, by decide +kernel⟩, List.mem_of_getElem? (i := 1553) (by decide +kernel), List.mem_of_getElem? (i := 2325) (by decide +kernel), List.mem_of_getElem? (i := 2326) (by decide +kernel)⟩
theorem lw_p155 : lw_okq (⟨"SignalEngineModel", "reactsOnAll", "(I)Z"⟩, 107) := ⟨⟨by decide +kernel, by decide +kernel⟩, List.mem_of_getElem? (i := 1553) (by decide +kernel), List.mem_of_getElem? (i := 2347) (by decide +kernel), List.mem_of_getElem? (i := 2348) (by decide +kernel)⟩
def lw_privs_10 : List (MethodName × Nat) := [(⟨"SignalEngineModel", "find", "(I)I"⟩, 107), (⟨"SignalEngineModel", "meet", "(III)V"⟩, 107), (⟨"SignalEngineModel", "markPairs", "()V"⟩, 107), (⟨"SignalEngineModel", "differ", "(II)Z"⟩, 107), (⟨"SignalEngineModel", "ahead", "()V"⟩, 107), (⟨"SignalEngineModel", "placeOf", "(I)I"⟩, 107), (⟨"SignalEngineModel", "told", "(II[I)I"⟩, 107), (⟨"SignalEngineModel", "reactions", "(I)I"⟩, 107), (⟨"SignalEngineModel", "leastAlike", "(I)I"⟩, 107), (⟨"SignalEngineModel", "tables", "()V"⟩, 107), (⟨"SignalEngineModel", "multiplexer", "(III)I"⟩, 107), (⟨"SignalEngineModel", "reactsOnAll", "(I)Z"⟩, 107)]
theorem lw_r10 : ∀ q ∈ lw_privs_10, lw_okq q := List.forall_mem_cons.mpr ⟨lw_p144, List.forall_mem_cons.mpr ⟨lw_p145, List.forall_mem_cons.mpr ⟨lw_p146, List.forall_mem_cons.mpr ⟨lw_p147, List.forall_mem_cons.mpr ⟨lw_p148, List.forall_mem_cons.mpr ⟨lw_p149, List.forall_mem_cons.mpr ⟨lw_p150, List.forall_mem_cons.mpr ⟨lw_p151, List.forall_mem_cons.mpr ⟨lw_p152, List.forall_mem_cons.mpr ⟨lw_p153, List.forall_mem_cons.mpr ⟨lw_p154, List.forall_mem_cons.mpr ⟨lw_p155, fun _ h => absurd h List.not_mem_nil⟩⟩⟩⟩⟩⟩⟩⟩⟩⟩⟩⟩
def lw_privs : List (MethodName × Nat) := lw_privs_1 ++ (lw_privs_2 ++ (lw_privs_3 ++ (lw_privs_4 ++ (lw_privs_5 ++ (lw_privs_6 ++ (lw_privs_7 ++ (lw_privs_8 ++ (lw_privs_9 ++ (lw_privs_10)))))))))
def lw_tbl : List Cond := k2_sels lw_privs ++ tables_1
theorem lw_privs_ok : ∀ q ∈ lw_privs, lw_okq q := by
  show ∀ q ∈ lw_privs_1 ++ (lw_privs_2 ++ (lw_privs_3 ++ (lw_privs_4 ++ (lw_privs_5 ++ (lw_privs_6 ++ (lw_privs_7 ++ (lw_privs_8 ++ (lw_privs_9 ++ (lw_privs_10))))))))), lw_okq q
  exact List.forall_mem_append.mpr ⟨lw_r1, List.forall_mem_append.mpr ⟨lw_r2, List.forall_mem_append.mpr ⟨lw_r3, List.forall_mem_append.mpr ⟨lw_r4, List.forall_mem_append.mpr ⟨lw_r5, List.forall_mem_append.mpr ⟨lw_r6, List.forall_mem_append.mpr ⟨lw_r7, List.forall_mem_append.mpr ⟨lw_r8, List.forall_mem_append.mpr ⟨lw_r9, lw_r10⟩⟩⟩⟩⟩⟩⟩⟩⟩
-- ===== end of PART A; then your names; then what follows =====
end
section
/-! EXCEPTIONS: a method that throws, by contract; a throw of a new object; a caller that lets it pass, or catches it -/
/-- what a method leaves, whichever way it ends -/
def xc_End (first t : State) (L : List Loc) (k n : Nat) : Prop := first.WarmedH t.vm ∧ first.sameButNew ({ t with vm := first.vm } : State) L k n
/-- the contract of a method that throws -/
def xc_Met (l : Launch) (y : MethodName) (ws : List Cond) (rm : Room) (Pc : Array Value → State → Prop) (Qc : Array Value → State → Addr → State → Prop) (mc ms : Nat) (free : Addr → Prop) : Prop :=
  MetFree l y (headSpec ws rm) Pc (fun _ _ _ _ _ => True) (fun a st o t => ∃ x, o = .threw x ∧ Qc a st x t ∧ ∃ L, xc_End st t L mc ms ∧ ∀ q ∈ L, free q.base)
def xc_MQ (below : List Frame) (Qc : Array Value → State → Addr → State → Prop) (a : Array Value) (s : State) (mc ms : Nat) (free : Addr → Prop) : State → Prop := fun t =>
  ∃ x, t.status = .running ∧ Ended t below (.threw x) ∧ Qc a s x t ∧ ∃ L, xc_End s t L mc ms ∧ ∀ q ∈ L, free q.base
/-- an object of class C stands at x -/
def xc_Ob (C : String) (x : Nat) (U : State) (H : Heap) : Prop := ∃ cell : Cell, H[x]? = some cell ∧ cell.vm = .none ∧ U.vm.findClass C = some cell.cls
/-- how a throwing method ends: a new object of class C, and the world behind it -/
def xc_Q {S : Type} (C : String) (post : S → Prop) (B : S → State → Prop) (A : Nat → Prop) : Array Value → State → Addr → State → Prop := fun _ st x t => (∃ u : S, xc_Ob C x t t.heap ∧ post u ∧ B u t) ∧ va_F A st t
theorem xc_ofW {l : Launch} {y : MethodName} {ws ws' : List Cond} {rm : Room} {Pc : Array Value → State → Prop} {Qc : Array Value → State → Addr → State → Prop} {mc ms : Nat} {free : Addr → Prop} {cc : ByteArray} {maxL : Nat} {ret : Option FieldType}
    (hy : plainName y.cls = true) (hw : ws = Cond.code y cc maxL ret :: ws')
    (body : ∀ p e s m args below meth c s₁, BodyLoose p l y (headSpec ws rm) cc maxL ret e s m args below meth c s₁ → c.maxLocals = maxL → c.exceptionTable.toList = [] → Pc args s →
      W p l e (headSpec ws rm).room s m args below meth c s.heap [] 0 0 (xc_MQ below Qc args s mc ms free) (entryFrame m args maxL)) : xc_Met l y ws rm Pc Qc mc ms free := by
  have hin : ∀ (args : Array Value) (s : State), (headSpec ws rm).pre.before args s = true → (Cond.code y cc maxL ret).before args s = true := fun args s h => atoms_spec (ws := ws) h _ (by rw [hw]; exact List.mem_cons_self)
  refine MetFree.of_bodyS (code := cc) (maxLocals := maxL) (ret := ret) hy ?_ ?_
  · intro args s m h hn
    obtain ⟨meth, c, h1, h2, h3, h4, h5, h6, -, -⟩ := Cond.code_spec hn (hin args s h)
    exact ⟨meth, c, h1, h2, h3, h4, h5, h6⟩
  · intro p e s m args below meth c s₁ B hml hP _
    have hh0 : s₁.heap = s.heap := by rw [B.state]; rfl
    have he := B.noHandlers (hin args s B.pre)
    have h0 : c.exceptionTable.size = 0 := by simpa [Array.isEmpty] using he
    have h1 : c.exceptionTable.toList = [] := List.eq_nil_of_length_eq_zero (by simpa using h0)
    obtain ⟨t, a1, x, b1, b2, b3⟩ := body p e s m args below meth c s₁ B hml h1 hP s₁ hh0 (Stand.of_body B)
    exact ⟨t, .threw x, a1, b1, b2, ⟨x, rfl, b3⟩⟩
section XCR
variable {p : Program} {l : Launch} {e : Env} {R : Room} {s : State} {m : MethodId} {args : Array Value} {below : List Frame} {meth : Method} {c : Code} {T : State} {locs : List Loc} {cells slots : Nat}
/-- a walk begun anew where it stands: what was done so far is the past -/
theorem xc_restart (X : Stand p l e R s m args below meth c T locs cells slots) {R' : Room} (hf : R'.frames ≤ R.frames) (hl : R'.locals ≤ R.locals) (hc : cells + R'.cells ≤ R.cells) (hs : slots + R'.slots ≤ R.slots) :
    Stand p l e R' (T.setFrames (.invoking m args :: below)) m args below meth c T [] 0 0 := by
  obtain ⟨g₀, hfr⟩ := X.frames_eq
  have hcur : T.cur < T.threads.size := State.cur_lt_of_frames hfr
  have hF : (T.setFrames (.invoking m args :: below)).frames = .invoking m args :: below := State.frames_setFrames _ hcur
  have hm' : T.vm.method? m = some meth := X.method'
  refine ⟨X.admits, X.cas, X.clock, hF, ?_, ?_, hm', X.code, X.here, X.tail, State.WarmedH.refl _, (State.stackLimits_setFrames _ _ _).symm, (State.stackBytes_setFrames _ _).symm, ?_⟩
  · obtain ⟨r1, r2, r3, r4⟩ := State.hasRoom_stack X.room
    have r5 := State.hasRoom_real X.room
    have h := X.room
    simp only [State.hasRoom, Bool.and_eq_true, decide_eq_true_eq] at h
    rw [State.localsInUse_invoking X.frames X.method X.code] at r3 r4 r5
    rw [X.frames, List.length_cons] at r1 r2
    have hU : (T.setFrames (.invoking m args :: below)).localsInUse = stackWeight below + vmFrameWords + (c.maxLocals + 11) := State.localsInUse_invoking hF (meth := meth) hm' X.code
    have hh := X.heapSize
    have hu := X.used
    simp only [State.hasRoom, Bool.and_eq_true, decide_eq_true_eq, hF, hU, List.length_cons, State.stackLimits_setFrames, State.stackBytes_setFrames, X.limits, X.bytes]
    refine ⟨⟨⟨⟨by omega, by omega, by omega, by omega, by omega, h.1.1.1.2.2.2.2.2⟩, ?_⟩, ?_⟩, X.book⟩
    · have := h.1.1.2
      show T.heap.size + R'.cells ≤ _
      omega
    · have := h.1.2
      show T.slotsUsed + R'.slots ≤ _
      omega
  · have hh := X.hears
    have hv : ∀ z, (T.setFrames (.invoking m args :: below)).vm.method? z = s.vm.method? z := fun z => by
      show T.vm.method? z = s.vm.method? z
      rw [X.warmed.alike.method?]
    rcases below with _ | ⟨y, r⟩
    · simpa only [State.hears, hv] using hh
    · cases y <;> simpa only [State.hears, State.code?_eq, hv] using hh
  · obtain ⟨t, ht, -⟩ := State.frames_cons hF
    have h := (State.sameButNew.refl (T.setFrames (.invoking m args :: below)) ht).setFrames T.frames (State.cur_lt_of_frames hF)
    have e1 : (T.setFrames (.invoking m args :: below)).setFrames T.frames = T := by
      obtain ⟨t2, ht2, -⟩ := State.frames_cons hfr
      rw [State.setFrames_setFrames, State.setFrames_self ht2]
    rw [e1] at h
    exact h
theorem xc_rejoin (X : Stand p l e R s m args below meth c T locs cells slots) {U : State} {k n : Nat} {fs : List Frame} (h : (T.setFrames fs).sameButNew ({ U with vm := (T.setFrames fs).vm } : State) [] k n) : s.sameButNew ({ U with vm := s.vm } : State) locs (cells + k) (slots + n) := by
  have h2 : ((T.setFrames fs).setVm s.vm).sameButNew (({ U with vm := (T.setFrames fs).vm } : State).setVm s.vm) [] k n := h.setVm s.vm
  have h3 : (T.setVm s.vm).sameButNew ({ U with vm := s.vm } : State) [] k n := by
    refine ⟨?_, h2.2⟩
    have h4 := h2.1
    have e1 : ((T.setFrames fs).setVm s.vm).setFrames (({ U with vm := (T.setFrames fs).vm } : State).setVm s.vm).frames = (T.setVm s.vm).setFrames (({ U with vm := s.vm } : State)).frames := by
      show ((T.setVm s.vm).setFrames fs).setFrames _ = _
      rw [State.setFrames_setFrames]
      rfl
    rw [e1] at h4
    exact h4
  have h5 := X.same.trans h3
  rw [List.append_nil] at h5
  exact h5
end XCR
section XCT
variable {p : Program} {l : Launch} {e : Env} {R : Room} {s : State} {m : MethodId} {args : Array Value} {below : List Frame} {meth : Method} {c : Code} {H : Heap} {locs : List Loc} {cells slots : Nat}
variable {cc : ByteArray} {pc : Nat} {ls : Array Slot} {rest : List Value} {A : Nat → Prop}
/-- a static's value, off its picture -/
theorem xc_Zev {C n d : String} {v : Value} {A : Nat → Prop} {U : State} (a : Array Value) (h : va_Z C n d v A U U.heap) : (Term.static C n d).eval a U none [] U = some v := by
  obtain ⟨cf, kf, fi, f, a, cell, h1, h2, h3, h4, h5, h6, h7, h8⟩ := h
  simp [Term.eval, State.fieldNamed?, h1, h2, h4, h5, h6, h7]
theorem xc_isRef {C n d : String} {v : Value} {A : Nat → Prop} {U : State} (a : Array Value) (h : va_Z C n d v A U U.heap) (hv : v.isRef = true) : (Cond.isRef (.static C n d)).before a U = true := by
  have h1 := xc_Zev a h
  cases v <;> simp [Cond.before, Cond.holds, Cond.value, h1, Value.isRef] at hv ⊢
/-- a static field as its class lays it -/
def xc_L (C n d : String) (A : Nat → Prop) (U : State) (H : Heap) : Prop := ∃ (c : ClassId) (k : Class) (i : Nat) (f : Field) (a : Nat) (cell : Cell), U.vm.findClass C = some c ∧ U.fieldFound? C n d = some (c, k, i, f) ∧ f.isStatic = true ∧ k.statics = some a ∧ H[a]? = some cell ∧ cell.vm.isStatics = true ∧ cell.cls = c ∧ f.slot < cell.slots.size ∧ k.staticTypes[f.slot]? = some f.type ∧ ¬ A a
theorem xc_L.moved {C n d : String} {A : Nat → Prop} {u U : State} {H : Heap} (hvm : u.vm.Alike U.vm) (h : xc_L C n d A u H) : xc_L C n d A U H := by
  obtain ⟨c, k, i, f, a, cell, h1, h2, h3, h4, h5, h6, h7, h8, h9, h10⟩ := h
  obtain ⟨k', hi', he⟩ := State.fieldFound?_setVm hvm h2
  exact ⟨c, k', i, f, a, cell, by rw [hvm.findClass]; exact h1, hi', h3, by rw [he]; exact h4, h5, h6, h7, h8, by rw [he]; exact h9, h10⟩
theorem xc_L.kept {C n d : String} {A : Nat → Prop} {U : State} {H H1 : Heap} (h : xc_L C n d A U H) (hq : ∀ a : Nat, a < H.size → ¬ A a → H1[a]? = H[a]?) : xc_L C n d A U H1 := by
  obtain ⟨c, k, i, f, a, cell, h1, h2, h3, h4, h5, h6, h7, h8, h9, h10⟩ := h
  exact ⟨c, k, i, f, a, cell, h1, h2, h3, h4, by rw [hq a (Array.getElem?_eq_some_iff.mp h5).1 h10]; exact h5, h6, h7, h8, h9, h10⟩
theorem xc_L.narrow {C n d : String} {A B : Nat → Prop} {U : State} {H : Heap} (h : xc_L C n d A U H) (hAB : ∀ q, B q → A q) : xc_L C n d B U H := by
  obtain ⟨c, k, i, f, a, cell, h1, h2, h3, h4, h5, h6, h7, h8, h9, h10⟩ := h
  exact ⟨c, k, i, f, a, cell, h1, h2, h3, h4, h5, h6, h7, h8, h9, fun z => h10 (hAB a z)⟩
theorem xc_L.word {C n d : String} {A : Nat → Prop} {U : State} (v : Array Value) (h : xc_L C n d A U U.heap) : (Cond.laysStatic C n d).before v U = true := by
  obtain ⟨c, k, i, f, a, cell, h1, h2, h3, h4, h5, h6, h7, h8, h9, h10⟩ := h
  exact Cond.laysStatic_of h1 h2 h3 h4 h5 h6 h7 h8 h9
theorem xc_L.of {C n d : String} {A : Nat → Prop} {U : State} {v : Array Value} (h : (Cond.laysStatic C n d).before v U = true) (hA : ∀ a : Nat, a < U.heap.size → ¬ A a) : xc_L C n d A U U.heap := by
  obtain ⟨c, k, i, f, a, cell, h1, h2, h3, h4, h5, h6, h7, h8, h9⟩ := Cond.laysStatic_spec h
  exact ⟨c, k, i, f, a, cell, h1, h2, h3, h4, h5, h6, h7, h8, h9, hA a (Array.getElem?_eq_some_iff.mp h5).1⟩
/-- the two statics that Throwable's constructor reads -/
def xc_Zt (A : Nat → Prop) (U : State) (H : Heap) : Prop := ∃ v1 v2 : Value, v1.isRef = true ∧ v2.isRef = true ∧ va_Z Bundle.tN "UNASSIGNED_STACK" Bundle.steD v1 A U H ∧ va_Z Bundle.tN "SUPPRESSED_SENTINEL" Bundle.listD v2 A U H ∧ xc_L Bundle.tN "UNASSIGNED_STACK" Bundle.steD A U H ∧ xc_L Bundle.tN "SUPPRESSED_SENTINEL" Bundle.listD A U H
theorem xc_Zt.moved {A : Nat → Prop} {u U : State} {H : Heap} (hvm : u.vm.Alike U.vm) (h : xc_Zt A u H) : xc_Zt A U H := by
  obtain ⟨v1, v2, r1, r2, z1, z2, y1, y2⟩ := h
  exact ⟨v1, v2, r1, r2, z1.moved hvm, z2.moved hvm, y1.moved hvm, y2.moved hvm⟩
theorem xc_Zt.kept {A : Nat → Prop} {U : State} {H H1 : Heap} (h : xc_Zt A U H) (hq : ∀ a : Nat, a < H.size → ¬ A a → H1[a]? = H[a]?) : xc_Zt A U H1 := by
  obtain ⟨v1, v2, r1, r2, z1, z2, y1, y2⟩ := h
  exact ⟨v1, v2, r1, r2, z1.kept hq, z2.kept hq, y1.kept hq, y2.kept hq⟩
theorem xc_Zt.narrow {A B : Nat → Prop} {U : State} {H : Heap} (h : xc_Zt A U H) (hAB : ∀ q, B q → A q) : xc_Zt B U H := by
  obtain ⟨v1, v2, r1, r2, z1, z2, y1, y2⟩ := h
  exact ⟨v1, v2, r1, r2, z1.narrow hAB, z2.narrow hAB, y1.narrow hAB, y2.narrow hAB⟩
def xc_face : Cond → Bool
  | .declares _ => true
  | .castable _ _ => true
  | _ => false
def xc_tab (w : Cond) : Bool := (w.onTables && w.keeps) || xc_face w
theorem xc_at {a a' : Array Value} {s U : State} (hW : s.WarmedH U.vm) {w : Cond} (hw : xc_tab w = true) (h : w.before a s = true) : w.before a' U = true := by
  rcases (Bool.or_eq_true _ _).mp hw with h1 | h1
  · exact word_at hW (Or.inl h1) h
  · cases w <;> simp [xc_face] at h1
    · exact va_tabs rfl (rfl : (s.setVm U.vm).vm = U.vm) (by rw [Cond.declares_setVm hW.alike]; exact h)
    · exact va_tabs rfl (rfl : (s.setVm U.vm).vm = U.vm) (by rw [Cond.castable_setVm hW.alike]; exact h)
/-- the words of a throw of a new object that are words on the tables -/
def xc_ws (own : String) (ia ic : Nat) (cls : String) (names : List String) : List Cond := [.classLink own ia cls, .initialized cls] ++ (Bundle.ownAtoms0 own ic cls names).filter xc_tab
def xc_two (own : String) (ic : Nat) (cls : String) (names : List String) : Prop := ∀ w ∈ Bundle.ownAtoms0 own ic cls names, xc_tab w = true ∨ w = .isRef (.static Bundle.tN "UNASSIGNED_STACK" Bundle.steD) ∨ w = .isRef (.static Bundle.tN "SUPPRESSED_SENTINEL" Bundle.listD) ∨ w = .laysStatic Bundle.tN "UNASSIGNED_STACK" Bundle.steD ∨ w = .laysStatic Bundle.tN "SUPPRESSED_SENTINEL" Bundle.listD
set_option maxHeartbeats 4000000 in
/-- new X(); throw: out of the method -/
theorem xc_raise (hx : p.tables.exec = Jvm.exec) (hb : c.code = cc) (hlt : l.stackTraces = false) {own cls : String} {names : List String} {ia ic : Nat} (hown : s.vm.findClass own = some m.cls) (hcls : Bundle.fit cls = true) (hnames : ∀ n ∈ names, Bundle.fit n = true)
    (hat : ∀ w ∈ xc_ws own ia ic cls names, w.before args s = true) (htwo : xc_two own ic cls names) (hZ : xc_Zt A s H) (hsize : ls.size = c.maxLocals)
    (hd0 : decode cc pc = .ok (.new ia, 3)) (hd3 : decode cc (pc + 3) = .ok (.dup, 1)) (hd4 : decode cc (pc + 4) = .ok (.invokespecial ic, 3)) (hd7 : decode cc (pc + 7) = .ok (.athrow, 1))
    (hout : ∀ x ∈ c.exceptionTable.toList, covers x (pc + 7) = false) (hcells : cells + 1 ≤ R.cells) (hslots : slots + 6 ≤ R.slots) (hfr : names.length + 3 < R.frames)
    (hlo : ((Value.ref H.size :: rest).map fun v => v.category).sum + (13 * (names.length + 1) + 41) ≤ R.locals) {Qc : Array Value → State → Addr → State → Prop} {free : Addr → Prop} (hf : ∀ q ∈ locs, free q.base)
    (hq : ∀ t : State, H.size ≤ t.heap.size → (∀ q : Nat, q < H.size → t.heap[q]? = H[q]?) → xc_Ob cls H.size t t.heap → s.WarmedH t.vm → Qc args s H.size t)
    (hlocks : meth.locks = false) :
    W p l e R s m args below meth c H locs cells slots (xc_MQ below Qc args s (cells + 1) (slots + 6) free) (F0 m pc ls rest) := by
  intro T hT X
  subst hT
  subst hb
  have htr : e.platform.stackTraces = false := by
    have h : e.platform.stackTraces = l.stackTraces := by rw [X.admits.platform]
    rw [h]; exact hlt
  have X0 := xc_restart X (R' := { frames := R.frames, cells := R.cells - cells, slots := R.slots - slots, locals := R.locals }) (Nat.le_refl _) (Nat.le_refl _) (by show cells + (R.cells - cells) ≤ R.cells; omega) (by show slots + (R.slots - slots) ≤ R.slots; omega)
  obtain ⟨s', hs'⟩ : ∃ z, z = T.setFrames (.invoking m args :: below) := ⟨_, rfl⟩
  have hvm' : s'.vm = T.vm := by rw [hs']; rfl
  have hh' : s'.heap = T.heap := by rw [hs']; rfl
  have hW' : s.WarmedH s'.vm := by rw [hvm']; exact X.warmed
  have hZ' : xc_Zt A s' s'.heap := by rw [hh']; exact hZ.moved (by rw [hvm']; exact X.warmed.alike)
  have hw : ∀ w, xc_tab w = true → w.before args s = true → w.before args s' = true := fun w h1 h2 => xc_at hW' h1 h2
  have hown' : s'.vm.findClass own = some m.cls := by rw [hvm', X.warmed.alike.findClass]; exact hown
  have hall : ∀ w ∈ Bundle.ownAtoms0 own ic cls names, w.before args s' = true := by
    intro w h
    obtain ⟨v1, v2, r1, r2, z1, z2, y1, y2⟩ := hZ'
    rcases htwo w h with h1 | rfl | rfl | rfl | rfl
    · exact hw w h1 (hat w (List.mem_append_right _ (List.mem_filter.mpr ⟨h, h1⟩)))
    · exact xc_isRef args z1 r1
    · exact xc_isRef args z2 r2
    · exact y1.word args
    · exact y2.word args
  rw [← hs'] at X0
  obtain ⟨vm₁, cX, kX, hfX, hkX, -, -, X₁, st1⟩ := X0.newCold hx (own := own) (C := cls) (index := ia) (n := 6) hown' (hw _ rfl (hat _ (List.mem_append_left _ (by simp)))) (hall (.instantiable cls 6) (by simp [Bundle.ownAtoms0])) (hw _ rfl (hat _ (List.mem_append_left _ (by simp))))
    (g := F0 m pc ls rest) rfl hd0 (by show 0 + 1 ≤ R.cells - cells; omega) (by show 0 + 6 ≤ R.slots - slots; omega)
  generalize hU : (T.setVm vm₁).pushCell { cls := cX, slots := kX.instanceTypes.map defaultValue, vm := .none } = U at X₁ st1
  have hcellA : U.heap[T.heap.size]? = some (freshCell cX kX) := by rw [← hU]; exact State.heap_pushCell_size _ _
  obtain ⟨V, hsteps, hrun, hend, hWV, hsame, ce, hce, K⟩ := X₁.ctorThrow0 hx htr (own := own) (cls := cls) (names := names) (ic := ic) hown' hcls hnames hall (fun y hy => by cases hy) hfX hkX hcellA (by rw [hh']; exact Nat.le_refl _)
    (g := F0 m (pc + 4) ls (.ref T.heap.size :: .ref T.heap.size :: rest)) rfl hsize rfl rfl (rest := rest) rfl hd4 hd7 hout hfr (by simpa [JFrame.monitorRoom] using hlo) hlocks
  have hso : ∀ q : Nat, q < T.heap.size → V.heap[q]? = T.heap[q]? := by
    intro q hq
    obtain ⟨cq, hcq⟩ : ∃ cq, s'.heap[q]? = some cq := ⟨_, Array.getElem?_eq_getElem (by rw [hh']; exact hq)⟩
    have h2 : V.heap[q]? = some cq := hsame.old_cell hcq
    rw [h2, ← hh', hcq]
  have hszV : T.heap.size ≤ V.heap.size := by
    have := hsame.2.1
    rw [hh'] at this
    exact this
  have hWV2 : s.WarmedH V.vm := State.WarmedH.trans hW' hWV
  refine ⟨V, ?_, T.heap.size, hrun, hend, hq V hszV hso ⟨ce, hce, K.vm, ?_⟩ hWV2, locs, ⟨hWV2, ?_⟩, hf⟩
  · refine st1 _ ?_
    show Steps p.tables e below (U.setTop (F0 m (pc + 3) ls (.ref T.heap.size :: rest))) _
    jvm_step X₁.here [X₁.here.top, hx, hd3, Value.category]
    exact hsteps
  · have := K.cls
    rw [show V.vm.findClass cls = s'.vm.findClass cls from by rw [hWV.alike.findClass]]
    exact this
  · rw [hs'] at hsame
    exact xc_rejoin X hsame
end XCT
section XCC
variable {p : Program} {l : Launch} {e : Env} {R : Room} {s : State} {m : MethodId} {args : Array Value} {below : List Frame} {meth : Method} {c : Code} {H : Heap} {locs : List Loc} {cells slots : Nat}
/-- a callee that throws, paid at a point: it comes back with the note over the caller's frame -/
theorem xc_pay {y : MethodName} {ws : List Cond} {rm : Room} {Pc : Array Value → State → Prop} {Qc : Array Value → State → Addr → State → Prop} {mc ms : Nat} {free : Addr → Prop} {bytes : ByteArray} {maxL Wd : Nat} {ret : Option FieldType}
    (hM : xc_Met l y ws rm Pc Qc mc ms free) (hblind : FrameBlind Pc) (hrc : rm.cells = mc) (hrs : rm.slots = ms) (hframes : rm.frames + 1 ≤ R.frames) (hlocals : Wd + (maxL + 11) + rm.locals ≤ R.locals)
    (hws : ∀ w ∈ ws, ∀ a' U, s.WarmedH U.vm → w.before a' U = true) (hcode : Cond.code y bytes maxL ret ∈ ws) (hinit : ∀ a' U, s.WarmedH U.vm → (Cond.initialized y.cls).before a' U = true)
    {U : State} (X : Stand p l e R s m args below meth c U locs cells slots) {g : JFrame} {ig : Instr} {len : Nat} {mk : MethodId} {a : Array Value} (hg : g.method = m) (hsize : g.locals.size = c.maxLocals) (hdg : decode c.code g.pc = .ok (ig, len))
    (hW : 2 * g.monitorRoom + (g.stack.map fun v => v.category).sum ≤ Wd) (hn : U.methodNamed? y = some mk) (hc1 : cells + mc ≤ R.cells) (hs1 : slots + ms ≤ R.slots) (hp : Pc a U) :
    ∃ (x : Addr) (t T' : State) (L : List Loc), Stand p l e R s m args below meth c T' (locs ++ L) (cells + mc) (slots + ms) ∧ (∀ q ∈ L, free q.base) ∧ T'.heap = t.heap ∧ T'.vm = t.vm ∧ Qc a (U.calling g mk a) x t ∧
      Steps p.tables e below (doInvoke e (U.setTop g) [] mk a).1 ((T'.setTop g).pushFrame (.throwing x)) := by
  have h2 : (Cond.code y bytes maxL ret).before a U = true := hws _ hcode _ _ X.warmed
  have h3 : (Cond.initialized y.cls).before a U = true := hinit _ _ X.warmed
  obtain ⟨methY, cY, hmY, hcY, -, hlY, -, -, -, -⟩ := Cond.code_spec hn h2
  obtain ⟨kY, hkY, -⟩ := className_of_methodNamed hn
  have hinitY : kY.init = .initialized := Cond.initialized_spec (findClass_of_methodNamed hn) hkY h3
  have h : At U g.method c below := by rw [hg]; exact X.here
  have h1 : (headSpec ws rm).pre.before a U = true := atoms_intro fun w hw => hws w hw _ _ X.warmed
  have happ : (headSpec ws rm).appliesLoose y e.platform (U.calling g mk a) = true :=
    Spec.appliesLoose_calling (g := g) h hdg hn hkY hinitY
      (X.room_calling (g := g) (R' := rm) hsize hmY hcY hframes (by rw [hlY]; omega) (by rw [hrc]; exact hc1) (by rw [hrs]; exact hs1)) h1
  obtain ⟨mid, hmid⟩ := h.above
  have hfr : (U.setTop g).frames = (.java g :: mid) ++ below := by rw [State.frames_setTop' g h.top, hmid]; rfl
  obtain ⟨o, s₂, hsteps, -, hend, x, rfl, hq, L, ⟨hW₂, e2, q2, q3, q4, q5, q6⟩, hL⟩ := Steps.callFree hM p X.admits X.cas X.clock (acts := []) hfr happ (hblind a U g mk hp) trivial
  have hq' : Qc a (U.calling g mk a) x s₂ := hq
  have hf₂ : s₂.frames = .throwing x :: (U.setTop g).frames := hend
  rw [State.frames_setTop' g h.top] at hf₂
  have e3 : s₂ = ({ (U.calling g mk a).setFrames s₂.frames with heap := s₂.heap, slotsUsed := s₂.slotsUsed } : State).setVm s₂.vm := by
    have : s₂ = ({ s₂ with vm := (U.calling g mk a).vm } : State).setVm s₂.vm := rfl
    rw [show ({ s₂ with vm := (U.calling g mk a).vm } : State) = { (U.calling g mk a).setFrames s₂.frames with heap := s₂.heap, slotsUsed := s₂.slotsUsed } from e2] at this
    exact this
  have hW' : U.WarmedH s₂.vm := hW₂
  obtain ⟨g₀, hg0⟩ := Option.isSome_iff_exists.mp h.top
  obtain ⟨r, hr⟩ := State.topJava?_eq_some.mp hg0
  have hs₂ : s₂ = ((({ U with heap := s₂.heap, slotsUsed := s₂.slotsUsed } : State).setVm s₂.vm).setTop g).pushFrame (.throwing x) := by
    have hr' : (({ U with heap := s₂.heap, slotsUsed := s₂.slotsUsed } : State).setVm s₂.vm).frames = .java g₀ :: r := hr
    refine e3.trans ?_
    rw [hf₂, State.calling_eq h.top, State.setFrames_setFrames, State.pushFrame, State.frames_setTop _ hr', State.setTop_of_frames _ hr', State.setFrames_setFrames, hr]
    rfl
  have hsame : U.sameButNew ({ U with heap := s₂.heap, slotsUsed := s₂.slotsUsed } : State) L mc ms := by
    refine ⟨?_, q2, q3, q4, q5, q6⟩
    obtain ⟨t, ht, -⟩ := State.frames_cons hr
    show ({ U with heap := s₂.heap, slotsUsed := s₂.slotsUsed } : State) = { U.setFrames U.frames with heap := s₂.heap, slotsUsed := s₂.slotsUsed }
    rw [State.setFrames_self ht]
  subst hg
  refine ⟨x, s₂, ({ U with heap := s₂.heap, slotsUsed := s₂.slotsUsed } : State).setVm s₂.vm, L,
    ⟨X.admits, X.cas, X.clock, X.frames, X.room, X.hears, X.method, X.code, (X.here.setHeapUsed s₂.heap s₂.slotsUsed).setVm hW'.alike, X.tail, State.WarmedH.trans X.warmed hW', X.limits, X.bytes, X.same.trans (hsame.setVm s.vm)⟩,
    hL, rfl, rfl, hq', ?_⟩
  rw [← hs₂]
  exact hsteps
/-- a call that throws: the note over the caller's frame -/
def xc_Run (p : Program) (l : Launch) (e : Env) (R : Room) (s : State) (m : MethodId) (args : Array Value) (below : List Frame) (meth : Method) (c : Code) (H : Heap) (locs : List Loc) (cells slots mc ms : Nat) (g : JFrame) (rest : List Value) (Qa : State → Addr → State → Prop) (free : Addr → Prop) : Prop :=
  ∀ T : State, T.heap = H → Stand p l e R s m args below meth c T locs cells slots → ∃ (x : Addr) (st₀ t T' : State) (L : List Loc), st₀.heap = H ∧ Stand p l e R s m args below meth c T' (locs ++ L) (cells + mc) (slots + ms) ∧ (∀ q ∈ L, free q.base) ∧ T'.heap = t.heap ∧ T'.vm = t.vm ∧ Qa st₀ x t ∧
    ∀ target, Steps p.tables e below ((T'.setTop { g with stack := rest }).pushFrame (.throwing x)) target → Steps p.tables e below (T.setTop g) target
variable {y : MethodName} {bytes cc : ByteArray} {maxL nL mc ms n index : Nat} {ret : Option FieldType} {ws : List Cond} {rm : Room} {Pc : Array Value → State → Prop} {Qc : Array Value → State → Addr → State → Prop} {free : Addr → Prop} {Ts : List Cond} {own C : String} {b : Addr} {As rest : List Value} {g : JFrame}
theorem xc_runV (S : CallFix p m c cc nL s args Ts own) (hM : xc_Met l y ws rm Pc Qc mc ms free) (cw : CallW R s args own C index y bytes maxL ret ws rm mc ms n) (hp : PreV s H C b Pc As)
    (hg : g.method = m) (hn : As.length = n) (hsize : g.locals.size = nL) (hstack : g.stack = As.reverse ++ .ref b :: rest) (hW : 2 * g.monitorRoom + (rest.map fun v => v.category).sum ≤ 8) (hdg : decode cc g.pc = .ok (.invokevirtual index, 3)) (hf : cells + mc ≤ R.cells ∧ slots + ms ≤ R.slots) :
    xc_Run p l e R s m args below meth c H locs cells slots mc ms g rest (Qc (Value.ref b :: As).toArray) free := by
  obtain ⟨⟨hrc, hrs, hfr, hlo, hws, hcw, hcode, hini, hy, hlen, hl⟩, hin, hse⟩ := cw
  obtain ⟨hx, hb, hml, ho, -⟩ := S
  obtain ⟨hbl, ⟨cellB, hcB, hoB, hclB⟩, hPc⟩ := hp
  intro T hT X
  obtain ⟨mk, methM, hnamed, hmethM, hstM, habM⟩ := Cond.instanceMethod_spec hin
  obtain ⟨methM', cM, hmethM', -, -, -, -, -, -, hsigM⟩ := Cond.code_spec hnamed hcode
  cases hmethM.symm.trans hmethM'
  obtain ⟨c2, r2, m2, q1, q2, q3, q4, kP, hkP, hkPi⟩ := Cond.selects_spec hse
  cases hclB.symm.trans q1
  cases (State.methodFound?_of_named hnamed hy).symm.trans q2
  cases hnamed.symm.trans q3
  have hselP : selectMethod e.platform s.vm cellB.cls mk = .method mk := by rw [Launch.admits_selectMethod X.admits]; exact q4
  obtain ⟨vm₁, X₁, hstep₁⟩ := X.invokevirtual hx ho hl hnamed hmethM hstM hkP hkPi hy (a := b) (cell := cellB) (by rw [hT]; exact hcB)
    (fun z h => by rw [h] at hoB; cases hoB) hselP hmethM habM hkP hkPi (g := g) hg (argsL := As) (rest := rest) (hn.trans (hlen _ hsigM)) hstack (by rw [hb]; exact hdg)
  obtain ⟨x, t, T', L, X', hL, e1, e2, hq, hst⟩ := xc_pay (bytes := bytes) (maxL := maxL) (ret := ret) hM hbl hrc hrs hfr hlo hws hcw (fun a' U hW => word_at hW (Or.inl (by first | rfl | simp [Cond.onTables, Cond.keeps, Cond.steady])) hini)
    X₁ (g := { g with stack := rest }) (ig := .invokevirtual index) (len := 3) (mk := mk) (a := (Value.ref b :: As).toArray) hg (hsize.trans hml.symm) (by rw [hb]; exact hdg) hW (X₁.named hnamed) hf.1 hf.2 (hPc (T.setVm vm₁) hT X₁.warmed)
  exact ⟨x, (T.setVm vm₁).calling { g with stack := rest } mk (Value.ref b :: As).toArray, t, T', L, hT, X', hL, e1, e2, hq, fun target h => hstep₁ _ fun acts => by rw [doInvoke_state]; exact hst.trans h⟩
theorem xc_runVN {host : String} (S : CallFix p m c cc nL s args Ts own) (hM : xc_Met l y ws rm Pc Qc mc ms free) (cw : va_CN R s args own index y host bytes maxL ret ws rm mc ms n ∧ (Cond.instanceMethod y).before args s = true ∧ (Cond.selects C y y).before args s = true) (hp : PreV s H C b Pc As)
    (hg : g.method = m) (hn : As.length = n) (hsize : g.locals.size = nL) (hstack : g.stack = As.reverse ++ .ref b :: rest) (hW : 2 * g.monitorRoom + (rest.map fun v => v.category).sum ≤ 8) (hdg : decode cc g.pc = .ok (.invokevirtual index, 3)) (hf : cells + mc ≤ R.cells ∧ slots + ms ≤ R.slots) :
    xc_Run p l e R s m args below meth c H locs cells slots mc ms g rest (Qc (Value.ref b :: As).toArray) free := by
  obtain ⟨⟨⟨hrc, hrs, hfr, hlo, hws, hcw⟩, hcode, hini, hy, hlen, hl⟩, hin, hse⟩ := cw
  obtain ⟨hx, hb, hml, ho, -⟩ := S
  obtain ⟨hbl, ⟨cellB, hcB, hoB, hclB⟩, hPc⟩ := hp
  intro T hT X
  obtain ⟨mk, methM, hnamed, hmethM, hstM, habM⟩ := Cond.instanceMethod_spec hin
  obtain ⟨methM', cM, hmethM', -, -, -, -, -, -, hsigM⟩ := Cond.code_spec hnamed hcode
  cases hmethM.symm.trans hmethM'
  obtain ⟨c2, r2, m2, q1, q2, q3, q4, kP, hkP, hkPi⟩ := Cond.selects_spec hse
  cases hclB.symm.trans q1
  cases (State.methodFound?_of_named hnamed hy).symm.trans q2
  cases hnamed.symm.trans q3
  have hselP : selectMethod e.platform s.vm cellB.cls mk = .method mk := by rw [Launch.admits_selectMethod X.admits]; exact q4
  obtain ⟨vm₁, X₁, hstep₁⟩ := X.invokevirtualNest hx ho hl hnamed hmethM hstM hkP hkPi hy (a := b) (cell := cellB) (by rw [hT]; exact hcB)
    (fun z h => by rw [h] at hoB; cases hoB) hselP hmethM habM hkP hkPi (g := g) hg (argsL := As) (rest := rest) (hn.trans (hlen _ hsigM)) hstack (by rw [hb]; exact hdg)
  obtain ⟨x, t, T', L, X', hL, e1, e2, hq, hst⟩ := xc_pay (bytes := bytes) (maxL := maxL) (ret := ret) hM hbl hrc hrs hfr hlo hws hcw (fun a' U hW => word_at hW (Or.inl (by first | rfl | simp [Cond.onTables, Cond.keeps, Cond.steady])) hini)
    X₁ (g := { g with stack := rest }) (ig := .invokevirtual index) (len := 3) (mk := mk) (a := (Value.ref b :: As).toArray) hg (hsize.trans hml.symm) (by rw [hb]; exact hdg) hW (X₁.named hnamed) hf.1 hf.2 (hPc (T.setVm vm₁) hT X₁.warmed)
  exact ⟨x, (T.setVm vm₁).calling { g with stack := rest } mk (Value.ref b :: As).toArray, t, T', L, hT, X', hL, e1, e2, hq, fun target h => hstep₁ _ fun acts => by rw [doInvoke_state]; exact hst.trans h⟩
end XCC
section XCP
variable {p : Program} {l : Launch} {e : Env} {R : Room} {s : State} {m : MethodId} {args : Array Value} {below : List Frame} {meth : Method} {c : Code} {H : Heap} {locs : List Loc} {cells slots : Nat} {Q : State → Prop}
variable {pc : Nat} {ls : Array Slot} {rest st0 : List Value} {a : Array Value} {A0 A1 : Nat → Prop} {H0 : Heap} {mc ms : Nat} {free : Addr → Prop}
/-- the world behind a call that threw -/
theorem xc_behind {S : Type} {C : String} {post : S → Prop} {B : S → State → Prop} {x : Addr} {st₀ t T' : State} {L : List Loc} (hS : va_S A0 H0 H locs) (hA : ∀ q, q < H.size → A1 q → A0 q) (hf : ∀ q, free q → A0 q) (h0 : st₀.heap = H)
    (X' : Stand p l e R s m args below meth c T' (locs ++ L) (cells + mc) (slots + ms)) (hL : ∀ q ∈ L, free q.base) (e1 : T'.heap = t.heap) (e2 : T'.vm = t.vm) (hq : xc_Q C post B A1 a st₀ x t) :
    ∃ u : S, s.vm.Alike t.vm ∧ xc_Ob C x s T'.heap ∧ post u ∧ B u t ∧ H.size ≤ T'.heap.size ∧ (∀ q : Nat, q < H.size → ¬ A1 q → T'.heap[q]? = H[q]?) ∧ va_S A0 H0 T'.heap (locs ++ L) := by
  obtain ⟨⟨u, ⟨cell, o1, o2, o3⟩, hp, hb⟩, hz, hk⟩ := hq
  rw [h0] at hz hk
  have hal : s.vm.Alike t.vm := by rw [← e2]; exact X'.warmed.alike
  refine ⟨u, hal, ⟨cell, by rw [e1]; exact o1, o2, by rw [← hal.findClass]; exact o3⟩, hp, hb, by rw [e1]; exact hz, fun q h1 h2 => by rw [e1]; exact hk q h1 h2,
    ⟨Nat.le_trans hS.1 (by rw [e1]; exact hz), fun q h1 h2 => by rw [e1, hk q (Nat.lt_of_lt_of_le h1 hS.1) (fun z => h2 (hA q (Nat.lt_of_lt_of_le h1 hS.1) z))]; exact hS.2.1 q h1 h2, fun q hq => ?_⟩⟩
  rcases List.mem_append.mp hq with h | h
  · exact hS.2.2 q h
  · exact hf _ (hL q h)
/-- the exception passes: the caller throws it too -/
theorem xc_callPass {S : Type} {C : String} {post : S → Prop} {B : S → State → Prop} {Qc : Array Value → State → Addr → State → Prop} {free' : Addr → Prop} (hr : xc_Run p l e R s m args below meth c H locs cells slots mc ms (F0 m pc ls st0) rest (xc_Q C post B A1 a) free) (hS : va_S A0 H0 H locs) (hA : ∀ q, q < H.size → A1 q → A0 q) (hf : ∀ q, free q → A0 q)
    (hout : ∀ y ∈ c.exceptionTable.toList, covers y pc = false) (hlocks : meth.locks = false)
    (kk : ∀ (u : S) (x : Nat) (t : State) (H1 : Heap) (locs1 : List Loc), t.heap = H1 → s.vm.Alike t.vm → xc_Ob C x s H1 → post u → B u t → H.size ≤ H1.size → (∀ q : Nat, q < H.size → ¬ A1 q → H1[q]? = H[q]?) → va_S A0 H0 H1 locs1 → (∀ q ∈ locs1, free' q.base) ∧ ∀ t2 : State, t2.heap = H1 → s.WarmedH t2.vm → Qc args s x t2) :
    W p l e R s m args below meth c H locs cells slots (xc_MQ below Qc args s (cells + mc) (slots + ms) free') (F0 m pc ls st0) := by
  intro T hT X
  obtain ⟨x, st₀, t, T', L, h0, X', hL, e1, e2, hq, st⟩ := hr T hT X
  obtain ⟨u, g1, g2, g3, g4, g5, g6, g7⟩ := xc_behind hS hA hf h0 X' hL e1 e2 hq
  obtain ⟨k1, k2⟩ := kk u x t T'.heap (locs ++ L) e1.symm g1 g2 g3 g4 g5 g6 g7
  obtain ⟨w1, w2, w3, w4, w5⟩ := X'.leaveThrown x (g := F0 m pc ls rest) rfl rfl rfl hout hlocks
  exact ⟨_, st _ w1, x, w2, w3, k2 _ rfl w4, locs ++ L, ⟨w4, w5⟩, k1⟩
/-- a class entry of a handler, found cold or warm: the first row of the table covers the pc, and the object is of that very class -/
theorem xc_find {own C : String} {x : Addr} {T' : State} {Lc : List Loc} {k n : Nat} (X' : Stand p l e R s m args below meth c T' Lc k n) (hown : s.vm.findClass own = some m.cls) {sp ep hpc ct : Nat} {more : List ExceptionTableEntry} (htab : c.exceptionTable.toList = ⟨sp, ep, hpc, ct⟩ :: more)
    (hcov : sp ≤ pc ∧ pc < ep) (hct : ct ≠ 0) (hcl : (Cond.classLink own ct C).before args s = true) (hob : xc_Ob C x s T'.heap) :
    ∃ vm', s.WarmedH vm' ∧ ∀ (Qh : Handler → Pre) (E : CtlPost) (d : Bool) (acts : List Action), wp (findHandler (F0 m pc ls rest) x) Qh E e d acts ((T'.setTop (F0 m pc ls rest)).pushFrame (.throwing x)) ↔ Qh (.found hpc) d acts (((T'.setVm vm').setTop (F0 m pc ls rest)).pushFrame (.throwing x)) := by
  have hpl : e.platform.magicAccessors = ({} : Platform).magicAccessors := by rw [X'.admits.platform]
  obtain ⟨cC, hfc, hlk⟩ := Cond.classLink_spec hown hcl e.platform hpl
  obtain ⟨hg₁, hwarm₁, hready₁⟩ := State.classEntry (e := e) X'.warmed hlk
  obtain ⟨cell, o1, o2, o3⟩ := hob
  have hcc : cell.cls = cC := Option.some.inj (o3.symm.trans hfc)
  refine ⟨_, hwarm₁, ?_⟩
  intro Qh E d acts
  have hvm : ((T'.setTop (F0 m pc ls rest)).pushFrame (.throwing x)).vm = T'.vm := Stand.throwing_vm _ _ _
  have hhp : ((T'.setTop (F0 m pc ls rest)).pushFrame (.throwing x)).heap = T'.heap := Stand.throwing_heap _ _ _
  rw [W.findHandler_eq (meth := meth) (code := c) (by rw [hvm]; exact X'.method') X'.code, htab]
  obtain ⟨ha, ht⟩ := hg₁.op (op := VmOp.resolveClass m.cls ct) rfl
  have hcl2 : (T'.vm.noted m.cls ct (.cls cC)).assignable cell.cls cC = true := by
    rw [hcc]
    show Vm.assignableAux _ (255 + 1) cC cC = true
    rw [Vm.assignableAux]
    simp
  have hal : s.vm.Alike (T'.vm.noted m.cls ct (.cls cC)) := hwarm₁.alike
  have hkc : ∃ k, (T'.vm.noted m.cls ct (.cls cC)).classes[cC]? = some k := Vm.classAt_of_findClass (name := C) (by rw [hal.findClass]; exact hfc)
  have hnst : ∀ k, cell.vm ≠ .statics k := fun k h => by rw [o2] at h; cases h
  have hcz : covers ⟨sp, ep, hpc, ct⟩ pc = true := by simp [covers, hcov.1, hcov.2]
  have hcell : T'.heap[x]? = some cell := o1
  simp only [covers] at hcz
  subst hcc
  simp [findHandler.go, hcz, hct, hvm, hhp, ha, ht, hcell, hnst, hkc, hcl2, VmOp.dirties, VmOp.acts]
  exact Iff.rfl
/-- one step of the unwinding into a handler whose class entry may be new -/
theorem xc_stepCatch {s s' : State} {x : Addr} {f : JFrame} {r : List Frame} {hpc : Nat} (hfind : ∀ (Qh : Handler → Pre) (E : CtlPost) (d : Bool) (acts : List Action), wp (findHandler f x) Qh E e d acts s ↔ Qh (.found hpc) d acts s') :
    (stepThrowing e s x (.java f :: r)).Is (s'.setFrames (.java { f with pc := hpc, stack := [.ref x] } :: r)) [] := by
  simp only [stepThrowing, searchFrame, vmDo]
  generalize hr : Sem.go _ e false [] s = res
  obtain ⟨as, rfl, ha⟩ := Sem.eq_ok_of hr (a := Handler.found hpc) (s' := s') (acts' := []) (by simp [hfind _ _ _ _])
  exact ⟨rfl, ha⟩
/-- the exception is caught here -/
theorem xc_callCatch {S : Type} {own C : String} {post : S → Prop} {B : S → State → Prop} (hr : xc_Run p l e R s m args below meth c H locs cells slots mc ms (F0 m pc ls st0) rest (xc_Q C post B A1 a) free) (hS : va_S A0 H0 H locs) (hA : ∀ q, q < H.size → A1 q → A0 q) (hf : ∀ q, free q → A0 q)
    (hown : s.vm.findClass own = some m.cls) {sp ep hpc ct : Nat} {more : List ExceptionTableEntry} (htab : c.exceptionTable.toList = ⟨sp, ep, hpc, ct⟩ :: more) (hcov : sp ≤ pc ∧ pc < ep) (hct : ct ≠ 0) (hcl : (Cond.classLink own ct C).before args s = true)
    (kk : ∀ (u : S) (x : Nat) (t : State) (H1 : Heap) (locs1 : List Loc), t.heap = H1 → s.vm.Alike t.vm → xc_Ob C x s H1 → post u → B u t → H.size ≤ H1.size → (∀ q : Nat, q < H.size → ¬ A1 q → H1[q]? = H[q]?) → va_S A0 H0 H1 locs1 → W p l e R s m args below meth c H1 locs1 (cells + mc) (slots + ms) Q (F0 m hpc ls [.ref x])) :
    W p l e R s m args below meth c H locs cells slots Q (F0 m pc ls st0) := by
  intro T hT X
  obtain ⟨x, st₀, t, T', L, h0, X', hL, e1, e2, hq, st⟩ := hr T hT X
  obtain ⟨u, g1, g2, g3, g4, g5, g6, g7⟩ := xc_behind hS hA hf h0 X' hL e1 e2 hq
  obtain ⟨vm', hW', hfind⟩ := xc_find (ls := ls) (rest := rest) X' hown htab hcov hct hcl g2
  obtain ⟨t2, a1, b1⟩ := kk u x t T'.heap (locs ++ L) e1.symm g1 g2 g3 g4 g5 g6 g7 (T'.setVm vm') rfl (X'.noted hW')
  refine ⟨t2, st _ ?_, b1⟩
  have h : At T' m c below := X'.here
  obtain ⟨hgo, hw⟩ := At.throwing (g := F0 m pc ls rest) h x
  refine Steps.head hgo hw ?_
  rw [stepThread_throwing (frames_entered h.top _), (xc_stepCatch hfind).1]
  obtain ⟨g₀, hg⟩ := Option.isSome_iff_exists.mp h.top
  obtain ⟨r, hr2⟩ := State.topJava?_eq_some.mp hg
  have hr3 : (T'.setVm vm').frames = .java g₀ :: r := hr2
  rw [State.pushFrame, State.setFrames_setFrames, State.setTop_of_frames _ hr3, State.setFrames_setFrames]
  rw [State.setTop_of_frames _ hr3] at a1
  rw [hr2]
  exact a1
/-- a method with an exception table, by contract -/
theorem xc_MetW {y : MethodName} {ws ws' : List Cond} {rm : Room} {Pc : Array Value → State → Prop} {Qc : Array Value → State → Outcome → State → Prop} {mc ms : Nat} {free : Addr → Prop} {cc : ByteArray} {maxL : Nat} {ret : Option FieldType} {hh : List (Nat × Nat × Nat × Nat)}
    (hy : plainName y.cls = true) (hw : ws = Cond.codeWith y cc maxL ret hh :: ws')
    (body : ∀ p e s m args below meth c s₁, BodyLoose p l y (headSpec ws rm) cc maxL ret e s m args below meth c s₁ → c.maxLocals = maxL → c.exceptionTable.toList = tableOf hh → Pc args s →
      W p l e (headSpec ws rm).room s m args below meth c s.heap [] 0 0 (MQ below Qc args s mc ms free) (entryFrame m args maxL)) : Met l y ws rm Pc Qc mc ms free := by
  refine va_MetW (hh := hh) hy hw ?_
  intro p e s m args below meth c s₁ B hml hP
  refine body p e s m args below meth c s₁ B hml ?_ hP
  obtain ⟨m9, meth9, c9, hn9, h1, h2, -, -, h5, -, -, -⟩ := Cond.codeWith_spec (atoms_spec (ws := ws) B.pre _ (by rw [hw]; exact List.mem_cons_self))
  cases B.named.symm.trans hn9
  cases B.method.symm.trans h1
  cases (Stand.of_body B).code.symm.trans h2
  rw [← h5]
  exact (table_eq _).symm
end XCP
end
section
/-! names: the words of the tables that stay; classes, fields; written by wip/gen/names.py -/
/-- the words that a walk may carry from state to state -/
def tt : List Cond := lw_tbl.filter goodWord
theorem tt_of {w : Cond} (i : Nat) (h : tables_1[i]? = some w) (hg : goodWord w = true) : w ∈ tt := List.mem_filter.mpr ⟨List.mem_append_right _ (List.mem_of_getElem? h), hg⟩
theorem tt_sel {w : Cond} (i : Nat) (h : (k2_sels lw_privs)[i]? = some w) (hg : goodWord w = true) : w ∈ tt := List.mem_filter.mpr ⟨List.mem_append_left _ (List.mem_of_getElem? h), hg⟩
theorem tt_good : ∀ w ∈ tt, goodWord w = true := fun w h => (List.mem_filter.mp h).2
theorem tt_tbl : ∀ w ∈ tt, w ∈ lw_tbl := fun w h => (List.mem_filter.mp h).1
theorem tt_all {ws : List Cond} (ps : List Nat) (h : ws = ps.filterMap (fun i => tables_1[i]?)) (hg : ws.all goodWord = true) : ∀ w ∈ ws, w ∈ tt := by
  intro w hw
  have hgw := List.all_eq_true.mp hg w hw
  rw [h] at hw
  obtain ⟨i, -, hi⟩ := List.mem_filterMap.mp hw
  exact tt_of i hi hgw
/-- a method's words: its own code, and all of these -/
abbrev tw (y : MethodName) (b : ByteArray) (n : Nat) (r : Option FieldType) : List Cond := .code y b n r :: tt
theorem tw_good {c : Cond} {y : MethodName} {b : ByteArray} {n : Nat} {r : Option FieldType} (h : Cond.code y b n r ∈ tt) : GoodIn (c :: tt) (tw y b n r) := fun w hw => (List.mem_cons.mp hw).elim (fun e => by subst e; exact ⟨List.mem_cons_of_mem _ h, good_of_word (tt_good _ h)⟩) (fun h => ⟨List.mem_cons_of_mem _ h, good_of_word (tt_good _ h)⟩)
theorem tw_goodL {y : MethodName} {b : ByteArray} {n : Nat} {r : Option FieldType} (h : Cond.code y b n r ∈ tt) : GoodIn tt (tw y b n r) := fun w hw => (List.mem_cons.mp hw).elim (fun e => by subst e; exact ⟨h, good_of_word (tt_good _ h)⟩) (fun h => ⟨h, good_of_word (tt_good _ h)⟩)
theorem tw_goodC {c d : Cond} (h : d ∈ tt) : GoodIn (c :: tt) (d :: tt) := fun w hw => (List.mem_cons.mp hw).elim (fun e => by subst e; exact ⟨List.mem_cons_of_mem _ h, good_of_word (tt_good _ h)⟩) (fun h => ⟨List.mem_cons_of_mem _ h, good_of_word (tt_good _ h)⟩)
theorem tw_goodT {d : Cond} (h : d ∈ tt) : GoodIn tt (d :: tt) := fun w hw => (List.mem_cons.mp hw).elim (fun e => by subst e; exact ⟨h, good_of_word (tt_good _ h)⟩) (fun h => ⟨h, good_of_word (tt_good _ h)⟩)
theorem tw_mem {c w : Cond} (h : w ∈ tt) : w ∈ c :: tt := List.mem_cons_of_mem _ h
theorem tw_sub {c : Cond} {ws : List Cond} (h : ∀ w ∈ ws, w ∈ tt) : ∀ w ∈ ws, w ∈ c :: tt := fun w hw => List.mem_cons_of_mem _ (h w hw)
def R_SE : String := "SignalEngine"
def F_SE : u_T := fun k => match k with
  | 0 => ("SignalEngine", "tape", "[B", false)
  | 1 => ("SignalEngine", "length", "I", false)
  | 2 => ("SignalEngine", "fed", "Z", false)
  | 3 => ("SignalEngine", "program", "LSignalEngine$Program;", false)
  | 4 => ("SignalEngine", "reactor", "LSignalEngine$Reactor;", false)
  | 5 => ("SignalEngine", "started", "Z", false)
  | 6 => ("SignalEngine", "ended", "Z", false)
  | 7 => ("SignalEngine", "held", "[Z", false)
  | 8 => ("SignalEngine", "shown", "[I", false)
  | 9 => ("SignalEngine", "reactions", "I", false)
  | 10 => ("SignalEngine", "atlas", "LSignalEngine$Atlas;", false)
  | 11 => ("SignalEngine", "net", "LSignalEngine$Net;", false)
  | 12 => ("SignalEngine", "explored", "Z", false)
  | _ => ("SignalEngine", "laid", "Z", false)
def t_SE : Nat → FieldType := fun k => match k with
  | 0 => .array .byte
  | 1 => .int
  | 2 => .boolean
  | 3 => .object "SignalEngine$Program"
  | 4 => .object "SignalEngine$Reactor"
  | 5 => .boolean
  | 6 => .boolean
  | 7 => .array .boolean
  | 8 => .array .int
  | 9 => .int
  | 10 => .object "SignalEngine$Atlas"
  | 11 => .object "SignalEngine$Net"
  | 12 => .boolean
  | _ => .boolean
set_option maxRecDepth 100000 in
theorem n_SE : ∀ a, a < 14 → ∀ b, b < 14 → a ≠ b → (F_SE a).2.1 ≠ (F_SE b).2.1 := by decide +kernel
set_option maxRecDepth 100000 in
theorem t_SE_ok : ∀ k, k < 14 → parseFieldDescriptor (F_SE k).2.2.1 = some (t_SE k) := by decide +kernel
set_option maxRecDepth 100000 in
theorem i_SE : ∀ w ∈ u_ws R_SE F_SE 14, w ∈ tt := tt_all [56, 58, 60, 62, 64, 66, 68, 70, 72, 74, 76, 78, 80, 82] (by decide +kernel) (by decide +kernel)
def R_MD : String := "SignalEngineModel"
def F_MD : u_T := fun k => match k with
  | 0 => ("SignalEngineModel", "thrown", "I", false)
  | 1 => ("SignalEngineModel", "tape", "[B", true)
  | 2 => ("SignalEngineModel", "taped", "I", false)
  | 3 => ("SignalEngineModel", "fed", "Z", false)
  | 4 => ("SignalEngineModel", "at", "I", false)
  | 5 => ("SignalEngineModel", "line", "I", false)
  | 6 => ("SignalEngineModel", "sort", "I", false)
  | 7 => ("SignalEngineModel", "from", "I", false)
  | 8 => ("SignalEngineModel", "lineOf", "I", false)
  | 9 => ("SignalEngineModel", "word", "J", false)
  | 10 => ("SignalEngineModel", "fault", "I", false)
  | 11 => ("SignalEngineModel", "open", "I", false)
  | 12 => ("SignalEngineModel", "great", "Z", false)
  | 13 => ("SignalEngineModel", "turnsAt", "I", false)
  | 14 => ("SignalEngineModel", "turnsLine", "I", false)
  | 15 => ("SignalEngineModel", "names", "I", false)
  | 16 => ("SignalEngineModel", "inputs", "I", false)
  | 17 => ("SignalEngineModel", "outputs", "I", false)
  | 18 => ("SignalEngineModel", "scopes", "I", false)
  | 19 => ("SignalEngineModel", "trapScopes", "I", false)
  | 20 => ("SignalEngineModel", "serials", "I", false)
  | 21 => ("SignalEngineModel", "nameAt", "[I", true)
  | 22 => ("SignalEngineModel", "nameSize", "[I", true)
  | 23 => ("SignalEngineModel", "scope", "[I", true)
  | 24 => ("SignalEngineModel", "trapAt", "[I", true)
  | 25 => ("SignalEngineModel", "trapSize", "[I", true)
  | 26 => ("SignalEngineModel", "trapSerial", "[I", true)
  | 27 => ("SignalEngineModel", "built", "I", false)
  | 28 => ("SignalEngineModel", "pieced", "I", false)
  | 29 => ("SignalEngineModel", "codes", "I", false)
  | 30 => ("SignalEngineModel", "bKind", "[I", true)
  | 31 => ("SignalEngineModel", "bFirst", "[I", true)
  | 32 => ("SignalEngineModel", "bSecond", "[I", true)
  | 33 => ("SignalEngineModel", "bNumber", "[I", true)
  | 34 => ("SignalEngineModel", "bLine", "[I", true)
  | 35 => ("SignalEngineModel", "bAsked", "[I", true)
  | 36 => ("SignalEngineModel", "pKind", "[I", true)
  | 37 => ("SignalEngineModel", "pFirst", "[I", true)
  | 38 => ("SignalEngineModel", "pSecond", "[I", true)
  | 39 => ("SignalEngineModel", "pile", "[I", true)
  | 40 => ("SignalEngineModel", "pileParent", "[I", true)
  | 41 => ("SignalEngineModel", "there", "Z", false)
  | 42 => ("SignalEngineModel", "nodes", "I", false)
  | 43 => ("SignalEngineModel", "pieces", "I", false)
  | 44 => ("SignalEngineModel", "signals", "I", false)
  | 45 => ("SignalEngineModel", "ins", "I", false)
  | 46 => ("SignalEngineModel", "outs", "I", false)
  | 47 => ("SignalEngineModel", "pauses", "I", false)
  | 48 => ("SignalEngineModel", "weights", "I", false)
  | 49 => ("SignalEngineModel", "traps", "I", false)
  | 50 => ("SignalEngineModel", "instances", "I", false)
  | 51 => ("SignalEngineModel", "kind", "[I", true)
  | 52 => ("SignalEngineModel", "first", "[I", true)
  | 53 => ("SignalEngineModel", "second", "[I", true)
  | 54 => ("SignalEngineModel", "number", "[I", true)
  | 55 => ("SignalEngineModel", "code", "[I", true)
  | 56 => ("SignalEngineModel", "lines", "[I", true)
  | 57 => ("SignalEngineModel", "weight", "[I", true)
  | 58 => ("SignalEngineModel", "parent", "[I", true)
  | 59 => ("SignalEngineModel", "last", "[I", true)
  | 60 => ("SignalEngineModel", "trapOf", "[I", true)
  | 61 => ("SignalEngineModel", "base", "[I", true)
  | 62 => ("SignalEngineModel", "pausesAhead", "[I", true)
  | 63 => ("SignalEngineModel", "pieceKind", "[I", true)
  | 64 => ("SignalEngineModel", "pieceFirst", "[I", true)
  | 65 => ("SignalEngineModel", "pieceSecond", "[I", true)
  | 66 => ("SignalEngineModel", "pieceLast", "[I", true)
  | 67 => ("SignalEngineModel", "truth", "[I", true)
  | 68 => ("SignalEngineModel", "letters", "[B", true)
  | 69 => ("SignalEngineModel", "lengths", "[I", true)
  | 70 => ("SignalEngineModel", "status", "[I", true)
  | 71 => ("SignalEngineModel", "must", "[Z", true)
  | 72 => ("SignalEngineModel", "can", "[Z", true)
  | 73 => ("SignalEngineModel", "meant", "[I", true)
  | 74 => ("SignalEngineModel", "selected", "[Z", true)
  | 75 => ("SignalEngineModel", "next", "[Z", true)
  | 76 => ("SignalEngineModel", "chosen", "[I", true)
  | 77 => ("SignalEngineModel", "begins", "Z", false)
  | 78 => ("SignalEngineModel", "doubt", "Z", false)
  | 79 => ("SignalEngineModel", "way", "I", false)
  | 80 => ("SignalEngineModel", "mustCode", "I", false)
  | 81 => ("SignalEngineModel", "canCodes", "I", false)
  | 82 => ("SignalEngineModel", "going", "I", false)
  | 83 => ("SignalEngineModel", "reactions", "I", false)
  | 84 => ("SignalEngineModel", "shown", "[I", true)
  | 85 => ("SignalEngineModel", "explored", "Z", false)
  | 86 => ("SignalEngineModel", "laid", "Z", false)
  | 87 => ("SignalEngineModel", "states", "I", false)
  | 88 => ("SignalEngineModel", "state", "[I", true)
  | 89 => ("SignalEngineModel", "distance", "[I", true)
  | 90 => ("SignalEngineModel", "came", "[I", true)
  | 91 => ("SignalEngineModel", "cameBy", "[I", true)
  | 92 => ("SignalEngineModel", "to", "[I", true)
  | 93 => ("SignalEngineModel", "shows", "[I", true)
  | 94 => ("SignalEngineModel", "apart", "[Z", true)
  | 95 => ("SignalEngineModel", "pairsOpen", "[I", true)
  | 96 => ("SignalEngineModel", "heads", "[I", true)
  | 97 => ("SignalEngineModel", "links", "[I", true)
  | 98 => ("SignalEngineModel", "table", "[J", true)
  | 99 => ("SignalEngineModel", "block", "[I", true)
  | 100 => ("SignalEngineModel", "roots", "[I", true)
  | 101 => ("SignalEngineModel", "level", "[I", true)
  | 102 => ("SignalEngineModel", "low", "[I", true)
  | 103 => ("SignalEngineModel", "high", "[I", true)
  | 104 => ("SignalEngineModel", "found", "[I", true)
  | 105 => ("SignalEngineModel", "marked", "[Z", true)
  | _ => ("SignalEngineModel", "multiplexers", "I", false)
def t_MD : Nat → FieldType := fun k => match k with
  | 0 => .int
  | 1 => .array .byte
  | 2 => .int
  | 3 => .boolean
  | 4 => .int
  | 5 => .int
  | 6 => .int
  | 7 => .int
  | 8 => .int
  | 9 => .long
  | 10 => .int
  | 11 => .int
  | 12 => .boolean
  | 13 => .int
  | 14 => .int
  | 15 => .int
  | 16 => .int
  | 17 => .int
  | 18 => .int
  | 19 => .int
  | 20 => .int
  | 21 => .array .int
  | 22 => .array .int
  | 23 => .array .int
  | 24 => .array .int
  | 25 => .array .int
  | 26 => .array .int
  | 27 => .int
  | 28 => .int
  | 29 => .int
  | 30 => .array .int
  | 31 => .array .int
  | 32 => .array .int
  | 33 => .array .int
  | 34 => .array .int
  | 35 => .array .int
  | 36 => .array .int
  | 37 => .array .int
  | 38 => .array .int
  | 39 => .array .int
  | 40 => .array .int
  | 41 => .boolean
  | 42 => .int
  | 43 => .int
  | 44 => .int
  | 45 => .int
  | 46 => .int
  | 47 => .int
  | 48 => .int
  | 49 => .int
  | 50 => .int
  | 51 => .array .int
  | 52 => .array .int
  | 53 => .array .int
  | 54 => .array .int
  | 55 => .array .int
  | 56 => .array .int
  | 57 => .array .int
  | 58 => .array .int
  | 59 => .array .int
  | 60 => .array .int
  | 61 => .array .int
  | 62 => .array .int
  | 63 => .array .int
  | 64 => .array .int
  | 65 => .array .int
  | 66 => .array .int
  | 67 => .array .int
  | 68 => .array .byte
  | 69 => .array .int
  | 70 => .array .int
  | 71 => .array .boolean
  | 72 => .array .boolean
  | 73 => .array .int
  | 74 => .array .boolean
  | 75 => .array .boolean
  | 76 => .array .int
  | 77 => .boolean
  | 78 => .boolean
  | 79 => .int
  | 80 => .int
  | 81 => .int
  | 82 => .int
  | 83 => .int
  | 84 => .array .int
  | 85 => .boolean
  | 86 => .boolean
  | 87 => .int
  | 88 => .array .int
  | 89 => .array .int
  | 90 => .array .int
  | 91 => .array .int
  | 92 => .array .int
  | 93 => .array .int
  | 94 => .array .boolean
  | 95 => .array .int
  | 96 => .array .int
  | 97 => .array .int
  | 98 => .array .long
  | 99 => .array .int
  | 100 => .array .int
  | 101 => .array .int
  | 102 => .array .int
  | 103 => .array .int
  | 104 => .array .int
  | 105 => .array .boolean
  | _ => .int
set_option maxRecDepth 100000 in
theorem n_MD : ∀ a, a < 107 → ∀ b, b < 107 → a ≠ b → (F_MD a).2.1 ≠ (F_MD b).2.1 := by decide +kernel
set_option maxRecDepth 100000 in
theorem t_MD_ok : ∀ k, k < 107 → parseFieldDescriptor (F_MD k).2.2.1 = some (t_MD k) := by decide +kernel
set_option maxRecDepth 100000 in
theorem i_MD : ∀ w ∈ u_ws R_MD F_MD 107, w ∈ tt := tt_all [1669, 1671, 1673, 1675, 1677, 1679, 1681, 1683, 1685, 1687, 1689, 1691, 1693, 1695, 1697, 1699, 1701, 1703, 1705, 1707, 1709, 1711, 1713, 1715, 1717, 1719, 1721, 1723, 1725, 1727, 1729, 1731, 1733, 1735, 1737, 1739, 1741, 1743, 1745, 1747, 1749, 1751, 1753, 1755, 1757, 1759, 1761, 1763, 1765, 1767, 1769, 1771, 1773, 1775, 1777, 1779, 1781, 1783, 1785, 1787, 1789, 1791, 1793, 1795, 1797, 1799, 1801, 1803, 1805, 1807, 1809, 1811, 1813, 1815, 1817, 1819, 1821, 1823, 1825, 1827, 1829, 1831, 1833, 1835, 1837, 1839, 1841, 1843, 1845, 1847, 1849, 1851, 1853, 1855, 1857, 1859, 1861, 1863, 1865, 1867, 1869, 1871, 1873, 1875, 1877, 1879, 1881] (by decide +kernel) (by decide +kernel)
def R_LX : String := "SignalEngine$Lexer"
def F_LX : u_T := fun k => match k with
  | 0 => ("SignalEngine$Lexer", "text", "[B", true)
  | 1 => ("SignalEngine$Lexer", "token", "LSignalEngine$Token;", false)
  | 2 => ("SignalEngine$Lexer", "from", "I", false)
  | 3 => ("SignalEngine$Lexer", "to", "I", false)
  | 4 => ("SignalEngine$Lexer", "line", "I", false)
  | _ => ("SignalEngine$Lexer", "fault", "I", false)
def t_LX : Nat → FieldType := fun k => match k with
  | 0 => .array .byte
  | 1 => .object "SignalEngine$Token"
  | 2 => .int
  | 3 => .int
  | 4 => .int
  | _ => .int
set_option maxRecDepth 100000 in
theorem n_LX : ∀ a, a < 6 → ∀ b, b < 6 → a ≠ b → (F_LX a).2.1 ≠ (F_LX b).2.1 := by decide +kernel
set_option maxRecDepth 100000 in
theorem t_LX_ok : ∀ k, k < 6 → parseFieldDescriptor (F_LX k).2.2.1 = some (t_LX k) := by decide +kernel
set_option maxRecDepth 100000 in
theorem i_LX : ∀ w ∈ u_ws R_LX F_LX 6, w ∈ tt := tt_all [244, 246, 248, 250, 252, 254] (by decide +kernel) (by decide +kernel)
def R_NM : String := "SignalEngine$Names"
def F_NM : u_T := fun k => match k with
  | 0 => ("SignalEngine$Names", "text", "[B", true)
  | 1 => ("SignalEngine$Names", "from", "[I", false)
  | 2 => ("SignalEngine$Names", "extent", "[I", false)
  | 3 => ("SignalEngine$Names", "scope", "[I", false)
  | 4 => ("SignalEngine$Names", "made", "I", false)
  | _ => ("SignalEngine$Names", "inScope", "I", false)
def t_NM : Nat → FieldType := fun k => match k with
  | 0 => .array .byte
  | 1 => .array .int
  | 2 => .array .int
  | 3 => .array .int
  | 4 => .int
  | _ => .int
set_option maxRecDepth 100000 in
theorem n_NM : ∀ a, a < 6 → ∀ b, b < 6 → a ≠ b → (F_NM a).2.1 ≠ (F_NM b).2.1 := by decide +kernel
set_option maxRecDepth 100000 in
theorem t_NM_ok : ∀ k, k < 6 → parseFieldDescriptor (F_NM k).2.2.1 = some (t_NM k) := by decide +kernel
set_option maxRecDepth 100000 in
theorem i_NM : ∀ w ∈ u_ws R_NM F_NM 6, w ∈ tt := tt_all [273, 275, 277, 279, 281, 283] (by decide +kernel) (by decide +kernel)
def R_PA : String := "SignalEngine$Parser"
def F_PA : u_T := fun k => match k with
  | 0 => ("SignalEngine$Parser", "lexer", "LSignalEngine$Lexer;", true)
  | 1 => ("SignalEngine$Parser", "signals", "LSignalEngine$Names;", true)
  | 2 => ("SignalEngine$Parser", "traps", "LSignalEngine$Names;", true)
  | 3 => ("SignalEngine$Parser", "draft", "LSignalEngine$Draft;", true)
  | 4 => ("SignalEngine$Parser", "inputs", "I", false)
  | 5 => ("SignalEngine$Parser", "outputs", "I", false)
  | _ => ("SignalEngine$Parser", "open", "I", false)
def t_PA : Nat → FieldType := fun k => match k with
  | 0 => .object "SignalEngine$Lexer"
  | 1 => .object "SignalEngine$Names"
  | 2 => .object "SignalEngine$Names"
  | 3 => .object "SignalEngine$Draft"
  | 4 => .int
  | 5 => .int
  | _ => .int
set_option maxRecDepth 100000 in
theorem n_PA : ∀ a, a < 7 → ∀ b, b < 7 → a ≠ b → (F_PA a).2.1 ≠ (F_PA b).2.1 := by decide +kernel
set_option maxRecDepth 100000 in
theorem t_PA_ok : ∀ k, k < 7 → parseFieldDescriptor (F_PA k).2.2.1 = some (t_PA k) := by decide +kernel
set_option maxRecDepth 100000 in
theorem i_PA : ∀ w ∈ u_ws R_PA F_PA 7, w ∈ tt := tt_all [297, 299, 301, 303, 305, 307, 309] (by decide +kernel) (by decide +kernel)
def R_PI : String := "SignalEngine$Pieces"
def F_PI : u_T := fun k => match k with
  | 0 => ("SignalEngine$Pieces", "kind", "[I", false)
  | 1 => ("SignalEngine$Pieces", "first", "[I", false)
  | 2 => ("SignalEngine$Pieces", "second", "[I", false)
  | 3 => ("SignalEngine$Pieces", "extent", "[I", false)
  | 4 => ("SignalEngine$Pieces", "place", "[I", false)
  | _ => ("SignalEngine$Pieces", "made", "I", false)
def t_PI : Nat → FieldType := fun k => match k with
  | 0 => .array .int
  | 1 => .array .int
  | 2 => .array .int
  | 3 => .array .int
  | 4 => .array .int
  | _ => .int
set_option maxRecDepth 100000 in
theorem n_PI : ∀ a, a < 6 → ∀ b, b < 6 → a ≠ b → (F_PI a).2.1 ≠ (F_PI b).2.1 := by decide +kernel
set_option maxRecDepth 100000 in
theorem t_PI_ok : ∀ k, k < 6 → parseFieldDescriptor (F_PI k).2.2.1 = some (t_PI k) := by decide +kernel
set_option maxRecDepth 100000 in
theorem i_PI : ∀ w ∈ u_ws R_PI F_PI 6, w ∈ tt := tt_all [184, 186, 188, 190, 192, 194] (by decide +kernel) (by decide +kernel)
def R_DR : String := "SignalEngine$Draft"
def F_DR : u_T := fun k => match k with
  | 0 => ("SignalEngine$Draft", "nodes", "Ljava/util/ArrayList;", true)
  | 1 => ("SignalEngine$Draft", "pieces", "LSignalEngine$Pieces;", true)
  | 2 => ("SignalEngine$Draft", "weights", "I", false)
  | 3 => ("SignalEngine$Draft", "pauses", "I", false)
  | 4 => ("SignalEngine$Draft", "tests", "I", false)
  | _ => ("SignalEngine$Draft", "deepest", "I", false)
def t_DR : Nat → FieldType := fun k => match k with
  | 0 => .object "java/util/ArrayList"
  | 1 => .object "SignalEngine$Pieces"
  | 2 => .int
  | 3 => .int
  | 4 => .int
  | _ => .int
set_option maxRecDepth 100000 in
theorem n_DR : ∀ a, a < 6 → ∀ b, b < 6 → a ≠ b → (F_DR a).2.1 ≠ (F_DR b).2.1 := by decide +kernel
set_option maxRecDepth 100000 in
theorem t_DR_ok : ∀ k, k < 6 → parseFieldDescriptor (F_DR k).2.2.1 = some (t_DR k) := by decide +kernel
set_option maxRecDepth 100000 in
theorem i_DR : ∀ w ∈ u_ws R_DR F_DR 6, w ∈ tt := tt_all [211, 213, 215, 217, 219, 221] (by decide +kernel) (by decide +kernel)
def R_AL : String := "java/util/ArrayList"
def F_AL : u_T := fun k => match k with
  | 0 => ("java/util/ArrayList", "elementData", "[Ljava/lang/Object;", false)
  | 1 => ("java/util/ArrayList", "size", "I", false)
  | _ => ("java/util/AbstractList", "modCount", "I", false)
def t_AL : Nat → FieldType := fun k => match k with
  | 0 => .array (.object "java/lang/Object")
  | 1 => .int
  | _ => .int
set_option maxRecDepth 100000 in
theorem n_AL : ∀ a, a < 3 → ∀ b, b < 3 → a ≠ b → (F_AL a).2.1 ≠ (F_AL b).2.1 := by decide +kernel
set_option maxRecDepth 100000 in
theorem t_AL_ok : ∀ k, k < 3 → parseFieldDescriptor (F_AL k).2.2.1 = some (t_AL k) := by decide +kernel
set_option maxRecDepth 100000 in
theorem i_AL : ∀ w ∈ u_ws R_AL F_AL 3, w ∈ tt := tt_all [154, 156, 158] (by decide +kernel) (by decide +kernel)
def R_ND : String := "SignalEngine$Node"
def F_ND : u_T := fun k => match k with
  | 0 => ("SignalEngine$Node", "kind", "I", true)
  | 1 => ("SignalEngine$Node", "line", "I", true)
  | 2 => ("SignalEngine$Node", "first", "LSignalEngine$Node;", true)
  | 3 => ("SignalEngine$Node", "second", "LSignalEngine$Node;", true)
  | 4 => ("SignalEngine$Node", "number", "I", false)
  | 5 => ("SignalEngine$Node", "trap", "I", false)
  | 6 => ("SignalEngine$Node", "test", "I", false)
  | 7 => ("SignalEngine$Node", "extent", "I", false)
  | 8 => ("SignalEngine$Node", "place", "I", false)
  | 9 => ("SignalEngine$Node", "parent", "I", false)
  | 10 => ("SignalEngine$Node", "traps", "I", false)
  | 11 => ("SignalEngine$Node", "weight", "I", false)
  | _ => ("SignalEngine$Node", "codes", "I", false)
def t_ND : Nat → FieldType := fun k => match k with
  | 0 => .int
  | 1 => .int
  | 2 => .object "SignalEngine$Node"
  | 3 => .object "SignalEngine$Node"
  | 4 => .int
  | 5 => .int
  | 6 => .int
  | 7 => .int
  | 8 => .int
  | 9 => .int
  | 10 => .int
  | 11 => .int
  | _ => .int
set_option maxRecDepth 100000 in
theorem n_ND : ∀ a, a < 13 → ∀ b, b < 13 → a ≠ b → (F_ND a).2.1 ≠ (F_ND b).2.1 := by decide +kernel
set_option maxRecDepth 100000 in
theorem t_ND_ok : ∀ k, k < 13 → parseFieldDescriptor (F_ND k).2.2.1 = some (t_ND k) := by decide +kernel
set_option maxRecDepth 100000 in
theorem i_ND : ∀ w ∈ u_ws R_ND F_ND 13, w ∈ tt := tt_all [586, 588, 590, 592, 594, 596, 598, 600, 602, 604, 606, 608, 610] (by decide +kernel) (by decide +kernel)
def R_PG : String := "SignalEngine$Program"
def F_PG : u_T := fun k => match k with
  | 0 => ("SignalEngine$Program", "names", "LSignalEngine$Names;", true)
  | 1 => ("SignalEngine$Program", "inputs", "I", true)
  | 2 => ("SignalEngine$Program", "outputs", "I", true)
  | 3 => ("SignalEngine$Program", "pauses", "I", true)
  | 4 => ("SignalEngine$Program", "weights", "I", true)
  | 5 => ("SignalEngine$Program", "deepest", "I", true)
  | 6 => ("SignalEngine$Program", "pieces", "LSignalEngine$Pieces;", true)
  | 7 => ("SignalEngine$Program", "kind", "[I", true)
  | 8 => ("SignalEngine$Program", "first", "[I", true)
  | 9 => ("SignalEngine$Program", "second", "[I", true)
  | 10 => ("SignalEngine$Program", "parent", "[I", true)
  | 11 => ("SignalEngine$Program", "number", "[I", true)
  | 12 => ("SignalEngine$Program", "codes", "[I", true)
  | 13 => ("SignalEngine$Program", "line", "[I", true)
  | 14 => ("SignalEngine$Program", "weight", "[I", true)
  | 15 => ("SignalEngine$Program", "pauseFrom", "[I", true)
  | _ => ("SignalEngine$Program", "pauseTo", "[I", true)
def t_PG : Nat → FieldType := fun k => match k with
  | 0 => .object "SignalEngine$Names"
  | 1 => .int
  | 2 => .int
  | 3 => .int
  | 4 => .int
  | 5 => .int
  | 6 => .object "SignalEngine$Pieces"
  | 7 => .array .int
  | 8 => .array .int
  | 9 => .array .int
  | 10 => .array .int
  | 11 => .array .int
  | 12 => .array .int
  | 13 => .array .int
  | 14 => .array .int
  | 15 => .array .int
  | _ => .array .int
set_option maxRecDepth 100000 in
theorem n_PG : ∀ a, a < 17 → ∀ b, b < 17 → a ≠ b → (F_PG a).2.1 ≠ (F_PG b).2.1 := by decide +kernel
set_option maxRecDepth 100000 in
theorem t_PG_ok : ∀ k, k < 17 → parseFieldDescriptor (F_PG k).2.2.1 = some (t_PG k) := by decide +kernel
set_option maxRecDepth 100000 in
theorem i_PG : ∀ w ∈ u_ws R_PG F_PG 17, w ∈ tt := tt_all [939, 941, 943, 945, 947, 949, 951, 953, 955, 957, 959, 961, 963, 965, 967, 969, 971] (by decide +kernel) (by decide +kernel)
def R_RE : String := "SignalEngine$Reactor"
def F_RE : u_T := fun k => match k with
  | 0 => ("SignalEngine$Reactor", "program", "LSignalEngine$Program;", true)
  | 1 => ("SignalEngine$Reactor", "known", "[I", true)
  | 2 => ("SignalEngine$Reactor", "emitted", "[I", true)
  | 3 => ("SignalEngine$Reactor", "placeFrom", "[I", true)
  | 4 => ("SignalEngine$Reactor", "placeNow", "[I", true)
  | 5 => ("SignalEngine$Reactor", "truth", "[I", true)
  | 6 => ("SignalEngine$Reactor", "test", "[I", true)
  | 7 => ("SignalEngine$Reactor", "can", "[I", true)
  | 8 => ("SignalEngine$Reactor", "must", "[I", true)
  | 9 => ("SignalEngine$Reactor", "sure", "[Z", true)
  | 10 => ("SignalEngine$Reactor", "heldBefore", "[I", true)
  | 11 => ("SignalEngine$Reactor", "chosen", "[Z", true)
  | 12 => ("SignalEngine$Reactor", "round", "I", false)
  | 13 => ("SignalEngine$Reactor", "changed", "Z", false)
  | 14 => ("SignalEngine$Reactor", "doubtful", "Z", false)
  | 15 => ("SignalEngine$Reactor", "starting", "Z", false)
  | 16 => ("SignalEngine$Reactor", "startedBehind", "I", false)
  | _ => ("SignalEngine$Reactor", "begun", "I", false)
def t_RE : Nat → FieldType := fun k => match k with
  | 0 => .object "SignalEngine$Program"
  | 1 => .array .int
  | 2 => .array .int
  | 3 => .array .int
  | 4 => .array .int
  | 5 => .array .int
  | 6 => .array .int
  | 7 => .array .int
  | 8 => .array .int
  | 9 => .array .boolean
  | 10 => .array .int
  | 11 => .array .boolean
  | 12 => .int
  | 13 => .boolean
  | 14 => .boolean
  | 15 => .boolean
  | 16 => .int
  | _ => .int
set_option maxRecDepth 100000 in
theorem n_RE : ∀ a, a < 18 → ∀ b, b < 18 → a ≠ b → (F_RE a).2.1 ≠ (F_RE b).2.1 := by decide +kernel
set_option maxRecDepth 100000 in
theorem t_RE_ok : ∀ k, k < 18 → parseFieldDescriptor (F_RE k).2.2.1 = some (t_RE k) := by decide +kernel
set_option maxRecDepth 100000 in
theorem i_RE : ∀ w ∈ u_ws R_RE F_RE 18, w ∈ tt := tt_all [1006, 1008, 1010, 1012, 1014, 1016, 1018, 1020, 1022, 1024, 1026, 1028, 1030, 1032, 1034, 1036, 1038, 1040] (by decide +kernel) (by decide +kernel)
def R_AT : String := "SignalEngine$Atlas"
def F_AT : u_T := fun k => match k with
  | 0 => ("SignalEngine$Atlas", "follows", "[I", true)
  | 1 => ("SignalEngine$Atlas", "emits", "[I", true)
  | 2 => ("SignalEngine$Atlas", "far", "[I", true)
  | 3 => ("SignalEngine$Atlas", "cameFrom", "[I", true)
  | 4 => ("SignalEngine$Atlas", "cameOn", "[I", true)
  | 5 => ("SignalEngine$Atlas", "order", "[I", true)
  | 6 => ("SignalEngine$Atlas", "group", "[I", true)
  | 7 => ("SignalEngine$Atlas", "split", "[I", true)
  | 8 => ("SignalEngine$Atlas", "options", "I", false)
  | 9 => ("SignalEngine$Atlas", "reached", "I", false)
  | 10 => ("SignalEngine$Atlas", "reactions", "I", false)
  | 11 => ("SignalEngine$Atlas", "steady", "I", false)
  | 12 => ("SignalEngine$Atlas", "groups", "I", false)
  | 13 => ("SignalEngine$Atlas", "doubtState", "I", false)
  | _ => ("SignalEngine$Atlas", "doubtInputs", "I", false)
def t_AT : Nat → FieldType := fun k => match k with
  | 0 => .array .int
  | 1 => .array .int
  | 2 => .array .int
  | 3 => .array .int
  | 4 => .array .int
  | 5 => .array .int
  | 6 => .array .int
  | 7 => .array .int
  | 8 => .int
  | 9 => .int
  | 10 => .int
  | 11 => .int
  | 12 => .int
  | 13 => .int
  | _ => .int
set_option maxRecDepth 100000 in
theorem n_AT : ∀ a, a < 15 → ∀ b, b < 15 → a ≠ b → (F_AT a).2.1 ≠ (F_AT b).2.1 := by decide +kernel
set_option maxRecDepth 100000 in
theorem t_AT_ok : ∀ k, k < 15 → parseFieldDescriptor (F_AT k).2.2.1 = some (t_AT k) := by decide +kernel
set_option maxRecDepth 100000 in
theorem i_AT : ∀ w ∈ u_ws R_AT F_AT 15, w ∈ tt := tt_all [1347, 1349, 1351, 1353, 1355, 1357, 1359, 1361, 1363, 1365, 1367, 1369, 1371, 1373, 1375] (by decide +kernel) (by decide +kernel)
def R_NT : String := "SignalEngine$Net"
def F_NT : u_T := fun k => match k with
  | 0 => ("SignalEngine$Net", "layer", "[I", true)
  | 1 => ("SignalEngine$Net", "heads", "[I", true)
  | 2 => ("SignalEngine$Net", "atBit", "[I", true)
  | 3 => ("SignalEngine$Net", "roots", "[I", true)
  | 4 => ("SignalEngine$Net", "bit", "[I", false)
  | 5 => ("SignalEngine$Net", "low", "[I", false)
  | 6 => ("SignalEngine$Net", "high", "[I", false)
  | 7 => ("SignalEngine$Net", "chain", "[I", false)
  | 8 => ("SignalEngine$Net", "seen", "[I", false)
  | 9 => ("SignalEngine$Net", "made", "I", false)
  | 10 => ("SignalEngine$Net", "inputs", "I", false)
  | 11 => ("SignalEngine$Net", "outputs", "I", false)
  | 12 => ("SignalEngine$Net", "pauses", "I", false)
  | 13 => ("SignalEngine$Net", "functions", "I", false)
  | _ => ("SignalEngine$Net", "looks", "I", false)
def t_NT : Nat → FieldType := fun k => match k with
  | 0 => .array .int
  | 1 => .array .int
  | 2 => .array .int
  | 3 => .array .int
  | 4 => .array .int
  | 5 => .array .int
  | 6 => .array .int
  | 7 => .array .int
  | 8 => .array .int
  | 9 => .int
  | 10 => .int
  | 11 => .int
  | 12 => .int
  | 13 => .int
  | _ => .int
set_option maxRecDepth 100000 in
theorem n_NT : ∀ a, a < 15 → ∀ b, b < 15 → a ≠ b → (F_NT a).2.1 ≠ (F_NT b).2.1 := by decide +kernel
set_option maxRecDepth 100000 in
theorem t_NT_ok : ∀ k, k < 15 → parseFieldDescriptor (F_NT k).2.2.1 = some (t_NT k) := by decide +kernel
set_option maxRecDepth 100000 in
theorem i_NT : ∀ w ∈ u_ws R_NT F_NT 15, w ∈ tt := tt_all [1475, 1477, 1479, 1481, 1483, 1485, 1487, 1489, 1491, 1493, 1495, 1497, 1499, 1501, 1503] (by decide +kernel) (by decide +kernel)
abbrev cl : List vw_C := [(R_SE, F_SE, 14), (R_MD, F_MD, 107), (R_LX, F_LX, 6), (R_NM, F_NM, 6), (R_PA, F_PA, 7), (R_PI, F_PI, 6), (R_DR, F_DR, 6), (R_AL, F_AL, 3), (R_ND, F_ND, 13), (R_PG, F_PG, 17), (R_RE, F_RE, 18), (R_AT, F_AT, 15), (R_NT, F_NT, 15)]
end
section
/-! what stays all along (nest words, the constants of Token, statics that are read), and rows for a contract's beginning and for calls -/
def tk_nm : List String := ["IN", "OUT", "NOTHING", "PAUSE", "HALT", "EMIT", "SUSTAIN", "EXIT", "PRESENT", "THEN", "ELSE", "END", "SUSPEND", "WHEN", "LOOP", "EACH", "TRAP", "SIGNAL", "NOT", "AND", "OR", "AWAIT", "ABORT", "WEAK", "EVERY", "DO", "SEMICOLON", "COMMA", "OPEN", "CLOSE", "BARS", "NAME", "STOP"]
def tk_st : List Int32 := [0, 0, 1, 1, 1, 1, 1, 1, 1, 0, 0, 0, 1, 0, 1, 0, 1, 1, 0, 0, 0, 1, 1, 1, 1, 0, 0, 0, 1, 0, 0, 0, 0]
def tk_or : List Int32 := [0, 1, 2, 3, 4, 5, 6, 7, 8, 9, 10, 11, 12, 13, 14, 15, 16, 17, 18, 19, 20, 21, 22, 23, 24, 25, 26, 27, 28, 29, 30, 31, 32]
def tk_F : List (String × String × String × List Int32) := [("java/lang/Enum", "ordinal", "I", tk_or), ("SignalEngine$Token", "starts", "Z", tk_st)]
def xn_is : Cond → Bool
  | .fieldLinkNest _ _ _ _ _ _ => true
  | .methodLinkNest _ _ _ _ => true
  | .declares _ => true
  | .castable _ _ => true
  | _ => false
def nn : List Cond := tables_1.filter xn_is
theorem nn_of {w : Cond} (i : Nat) (h : tables_1[i]? = some w) (hg : xn_is w = true) : w ∈ nn := List.mem_filter.mpr ⟨List.mem_of_getElem? h, hg⟩
def xn (U : State) : Prop := ∀ w ∈ nn, va_Nw w U
theorem xn.warm {s U : State} (hW : s.WarmedH U.vm) (h : xn s) : xn U := by
  intro w hw
  have h1 := h w hw
  have h2 := (List.mem_filter.mp hw).2
  cases w <;> first | exact va_Nw.warmF hW h1 | exact va_Nw.warmM hW h1 | exact xc_at hW rfl h1 | (simp [xn_is] at h2)
theorem xn.same {u U : State} (h : u.vm = U.vm) (hZ : xn u) : xn U := by
  intro w hw
  have h1 := hZ w hw
  have h2 := (List.mem_filter.mp hw).2
  cases w <;> first | exact va_Nw.same rfl h h1 | (simp [xn_is] at h2)
theorem xn_at {w : Cond} {a : Array Value} {s : State} (h : w ∈ tt ∨ w ∈ nn) (hts : ∀ w ∈ tt, w.before a s = true) (hn : xn s) : w.before a s = true := by
  rcases h with h | h
  · exact hts w h
  · have h2 := (List.mem_filter.mp h).2
    have h1 := hn w h
    cases w <;> first | exact va_Nw.use rfl h1 | (simp [xn_is] at h2)
def xe (ad : Nat → Nat) (de : Nat) (A : Nat → Prop) (U : State) (H : Heap) : Prop :=
  xn U ∧ xc_Zt A U H ∧ va_En "SignalEngine$Token" "LSignalEngine$Token;" tk_nm tk_F ad A U H ∧ va_Z "java/util/ArrayList" "DEFAULTCAPACITY_EMPTY_ELEMENTDATA" "[Ljava/lang/Object;" (.ref de) A U H
theorem xe.warm {ad : Nat → Nat} {de : Nat} {A : Nat → Prop} {s U : State} {H : Heap} (hW : s.WarmedH U.vm) (h : xe ad de A s H) : xe ad de A U H :=
  ⟨xn.warm hW h.1, xc_Zt.moved hW.alike h.2.1, va_En.moved hW.alike h.2.2.1, va_Z.moved hW.alike h.2.2.2⟩
theorem xe.kept {ad : Nat → Nat} {de : Nat} {A : Nat → Prop} {U : State} {H H1 : Heap} (h : xe ad de A U H) (hq : ∀ a : Nat, a < H.size → ¬ A a → H1[a]? = H[a]?) : xe ad de A U H1 :=
  ⟨h.1, h.2.1.kept hq, h.2.2.1.kept hq, h.2.2.2.kept hq⟩
theorem xe.narrow {ad : Nat → Nat} {de : Nat} {A B : Nat → Prop} {U : State} {H : Heap} (h : xe ad de A U H) (hAB : ∀ q, B q → A q) : xe ad de B U H :=
  ⟨h.1, h.2.1.narrow hAB, h.2.2.1.narrow hAB, h.2.2.2.narrow hAB⟩
theorem xe.same {ad : Nat → Nat} {de : Nat} {A : Nat → Prop} {u U : State} {H : Heap} (h : u.vm = U.vm) (hE : xe ad de A u H) : xe ad de A U H := by
  have ha : u.vm.Alike U.vm := by rw [h]; exact Vm.Alike.refl _
  exact ⟨xn.same h hE.1, xc_Zt.moved ha hE.2.1, va_En.moved ha hE.2.2.1, va_Z.moved ha hE.2.2.2⟩
/-- a contract's start and its world behind -/
def xp (ad : Nat → Nat) (de : Nat) (D : va_G) (ws : va_W) (tys : List (ClassId × FieldType)) (sz : Nat) (U : State) : Prop := U.heap.size = sz ∧ va_P D cl ws U.heap ∧ va_K D cl tys U ∧ va_D (fun _ => True) ws ∧ xe ad de (va_A ws sz) U U.heap
def xq (D : va_G) (A : Nat → Prop) (ws : va_W) (tys : List (ClassId × FieldType)) (t : State) : Prop := va_P D cl ws t.heap ∧ va_K D cl tys t ∧ va_D A ws
theorem xp_blind {ad : Nat → Nat} {de : Nat} {D : va_G} {ws : va_W} {tys : List (ClassId × FieldType)} {sz : Nat} {av : List Value} : FrameBlind (va_Pc av (xp ad de D ws tys sz)) := by
  intro a U g mk h
  obtain ⟨h0, h1, h2, h3, h4, h5⟩ := h
  exact ⟨h0, h1, h2, va_K.moved (u := U) (U := U.calling g mk a) (Vm.Alike.refl U.vm) h3, h4, xe.same (u := U) (U := U.calling g mk a) rfl h5⟩
theorem xp_call {ad : Nat → Nat} {de : Nat} {D : va_G} {wc : va_W} {tc : List (ClassId × FieldType)} {A : Nat → Prop} {s : State} {H : Heap} {locs : List Loc} (hPc : va_P D cl wc H) (hKc : va_K D cl tc s) (hDc : va_D A wc) (hE : xe ad de A s s.heap) (hS : va_S A s.heap H locs) (hFc : ∀ q, va_A wc H.size q → A q)
    {av : List Value} : ∀ U : State, U.heap = H → s.WarmedH U.vm → va_Pc av (xp ad de D wc tc H.size) av.toArray U := by
  intro U hU hW
  refine ⟨rfl, by rw [hU], by rw [hU]; exact hPc, va_K.moved hW.alike hKc, hDc.weaken (fun _ _ _ _ => trivial), ?_⟩
  have h1 : xe ad de A s H := hE.kept hS.2.1
  rw [hU]
  exact (h1.narrow hFc).warm hW
section XMET
variable {l : Launch} {y : MethodName} {cc : ByteArray} {maxL : Nat} {ret : Option FieldType} {rm : Room} {av : List Value} {W0 : va_W} {T0 : List (ClassId × FieldType)} {ad : Nat → Nat} {de : Nat} {D : va_G} {sz mc ms : Nat} {free : Addr → Prop}
theorem xMet {Qc : Array Value → State → Outcome → State → Prop} (hy : plainName y.cls = true) (hav : (lg_sl av).length ≤ maxL)
    (body : ∀ (p : Program) (e : Env) (s : State) (m : MethodId) (below : List Frame) (meth : Method) (c : Code), p.tables.exec = Jvm.exec → c.code = cc → meth.sig.returnType = ret → meth.locks = false → meth.name = y.name → c.maxLocals = maxL → s.vm.findClass y.cls = some m.cls → (∀ w ∈ tt, w.before av.toArray s = true) →
      s.heap.size = sz → va_P D cl W0 s.heap → va_K D cl T0 s → va_D (va_A W0 sz) W0 → xe ad de (va_A W0 sz) s s.heap → (∀ q : Nat, s.heap.size ≤ q → va_A W0 sz q) → ∀ ls : Array Slot, lv_has ls maxL (lv_args 0 av) →
      W p l e rm s m av.toArray below meth c s.heap [] 0 0 (MQ below Qc av.toArray s mc ms free) (F0 m 0 ls [])) : Met l y (tw y cc maxL ret) rm (va_Pc av (xp ad de D W0 T0 sz)) Qc mc ms free := by
  refine Met.ofW (cc := cc) (maxL := maxL) (ret := ret) hy rfl ?_
  intro p e s m args below meth c s₁ B hml hv
  obtain ⟨rfl, hsz, hP, hK, hD, hE⟩ := hv
  have hts := atoms_spec (ws := tw y cc maxL ret) B.pre
  rw [lg_entry_eq]
  exact body p e s m below meth c B.exec B.bytes B.returns B.notSynchronized (name_of_methodNamed B.named B.method).1 hml (findClass_of_methodNamed B.named) (fun w h => hts w (tw_mem h)) hsz hP hK hD.self hE (fun q h => Or.inr (by rw [← hsz]; exact h)) _ (lv_entry av hav)
theorem xMetT {Qc : Array Value → State → Addr → State → Prop} (hy : plainName y.cls = true) (hav : (lg_sl av).length ≤ maxL)
    (body : ∀ (p : Program) (e : Env) (s : State) (m : MethodId) (below : List Frame) (meth : Method) (c : Code), p.tables.exec = Jvm.exec → c.code = cc → meth.sig.returnType = ret → meth.locks = false → (∀ x ∈ c.exceptionTable.toList, ∀ pc, covers x pc = false) → c.maxLocals = maxL → s.vm.findClass y.cls = some m.cls → (∀ w ∈ tt, w.before av.toArray s = true) →
      s.heap.size = sz → va_P D cl W0 s.heap → va_K D cl T0 s → va_D (va_A W0 sz) W0 → xe ad de (va_A W0 sz) s s.heap → (∀ q : Nat, s.heap.size ≤ q → va_A W0 sz q) → ∀ ls : Array Slot, lv_has ls maxL (lv_args 0 av) →
      W p l e rm s m av.toArray below meth c s.heap [] 0 0 (xc_MQ below Qc av.toArray s mc ms free) (F0 m 0 ls [])) : xc_Met l y (tw y cc maxL ret) rm (va_Pc av (xp ad de D W0 T0 sz)) Qc mc ms free := by
  refine xc_ofW (cc := cc) (maxL := maxL) (ret := ret) hy rfl ?_
  intro p e s m args below meth c s₁ B hml htab hv
  obtain ⟨rfl, hsz, hP, hK, hD, hE⟩ := hv
  have hts := atoms_spec (ws := tw y cc maxL ret) B.pre
  rw [lg_entry_eq]
  exact body p e s m below meth c B.exec B.bytes B.returns B.notSynchronized (fun x hx => by rw [htab] at hx; cases hx) hml (findClass_of_methodNamed B.named) (fun w h => hts w (tw_mem h)) hsz hP hK hD.self hE (fun q h => Or.inr (by rw [← hsz]; exact h)) _ (lv_entry av hav)
theorem xMetH {Qc : Array Value → State → Outcome → State → Prop} {hh : List (Nat × Nat × Nat × Nat)} (hy : plainName y.cls = true) (hav : (lg_sl av).length ≤ maxL)
    (body : ∀ (p : Program) (e : Env) (s : State) (m : MethodId) (below : List Frame) (meth : Method) (c : Code), p.tables.exec = Jvm.exec → c.code = cc → meth.sig.returnType = ret → meth.locks = false → c.exceptionTable.toList = tableOf hh → c.maxLocals = maxL → s.vm.findClass y.cls = some m.cls → (∀ w ∈ tt, w.before av.toArray s = true) →
      s.heap.size = sz → va_P D cl W0 s.heap → va_K D cl T0 s → va_D (va_A W0 sz) W0 → xe ad de (va_A W0 sz) s s.heap → (∀ q : Nat, s.heap.size ≤ q → va_A W0 sz q) → ∀ ls : Array Slot, lv_has ls maxL (lv_args 0 av) →
      W p l e rm s m av.toArray below meth c s.heap [] 0 0 (MQ below Qc av.toArray s mc ms free) (F0 m 0 ls [])) : Met l y (.codeWith y cc maxL ret hh :: tt) rm (va_Pc av (xp ad de D W0 T0 sz)) Qc mc ms free := by
  refine xc_MetW (cc := cc) (maxL := maxL) (ret := ret) (hh := hh) hy rfl ?_
  intro p e s m args below meth c s₁ B hml htab hv
  obtain ⟨rfl, hsz, hP, hK, hD, hE⟩ := hv
  have hts := atoms_spec (ws := .codeWith y cc maxL ret hh :: tt) B.pre
  rw [lg_entry_eq]
  exact body p e s m below meth c B.exec B.bytes B.returns B.notSynchronized htab hml (findClass_of_methodNamed B.named) (fun w h => hts w (tw_mem h)) hsz hP hK hD.self hE (fun q h => Or.inr (by rw [← hsz]; exact h)) _ (lv_entry av hav)
end XMET
theorem xfm {ws wc : va_W} {is : List Nat} (h : is.map (fun i => ws[i]?) = wc.map some) : is.filterMap (fun i => ws[i]?) = wc := by
  have h1 := congrArg (List.filterMap id) h
  simpa [List.filterMap_map] using h1
section XRUN
variable {p : Program} {l : Launch} {e : Env} {R : Room} {s : State} {m : MethodId} {args : Array Value} {below : List Frame} {meth : Method} {c : Code} {H : Heap} {locs : List Loc} {cells slots : Nat} {Q : State → Prop}
variable {y : MethodName} {bytes cc : ByteArray} {maxL nL mc ms n index pc : Nat} {ret : Option FieldType} {rm : Room} {own : String} {b : Addr} {As rest st0 : List Value} {ls : Array Slot} {ad : Nat → Nat} {de : Nat} {D : va_G} {ws wc : va_W} {tys tc : List (ClassId × FieldType)} {A : Nat → Prop} {free : Addr → Prop}
/-- what a walk knows of itself -/
abbrev xf (p : Program) (s : State) (m : MethodId) (args : Array Value) (c : Code) (cc : ByteArray) (nL : Nat) (own : String) : Prop := CallFix p m c cc nL s args tt own
theorem xcB (n : Nat) (hts : ∀ w ∈ tt, w.before args s = true) (m5 : Cond.code y bytes maxL ret ∈ tt) (m4 : Cond.initialized y.cls ∈ tt) (m1 : Cond.methodLink own index y ∈ tt) (hrc : rm.cells = mc) (hrs : rm.slots = ms)
    (hd : y.cls ≠ "java/lang/invoke/MethodHandle" ∧ y.cls ≠ "java/lang/invoke/VarHandle" ∧ (parseMethodDescriptor y.desc).map (fun d => d.parameters.length) = some n) (hR : rm.frames + 1 ≤ R.frames ∧ 8 + (maxL + 11) + rm.locals ≤ R.locals) :
    CallB R s args own index y bytes maxL ret (tw y bytes maxL ret) rm mc ms n := callB_of n hts (tw_goodL m5) rfl hrc hrs (hts _ m4) (hts _ m1) hd hR
/-- a virtual call -/
theorem xrV {Qc : Array Value → State → Outcome → State → Prop} (S : CallFix p m c cc nL s args tt own) (hM : Met l y (tw y bytes maxL ret) rm (va_Pc (.ref b :: As) (xp ad de D wc tc H.size)) Qc mc ms free)
    (m5 : Cond.code y bytes maxL ret ∈ tt) (m4 : Cond.initialized y.cls ∈ tt) (m1 : Cond.methodLink own index y ∈ tt) (m2 : Cond.instanceMethod y ∈ tt) (m3 : Cond.selects y.cls y y ∈ tt)
    (hrc : rm.cells = mc) (hrs : rm.slots = ms) (hd : y.cls ≠ "java/lang/invoke/MethodHandle" ∧ y.cls ≠ "java/lang/invoke/VarHandle" ∧ (parseMethodDescriptor y.desc).map (fun d => d.parameters.length) = some As.length) (hR : rm.frames + 1 ≤ R.frames ∧ 8 + (maxL + 11) + rm.locals ≤ R.locals)
    (hP : va_P D cl ws H) (hK : va_K D cl tys s) (hD : va_D A ws) (hE : xe ad de A s s.heap) (hS : va_S A s.heap H locs) (hA : ∀ q, s.heap.size ≤ q → A q) (isC kt : List Nat) (hC : isC.map (fun i => ws[i]?) = wc.map some) (hn : va_nd isC = true) (ht : kt.filterMap (fun i => tys[i]?) = tc)
    (hrv : ∃ (q0 ci : Nat) (q : vw_C) (fs : List Value), cl[ci]? = some q ∧ ws[q0]? = some (b, .inr (ci, fs)) ∧ q.1 = y.cls)
    (hsize : ls.size = nL) (hstack : st0 = As.reverse ++ .ref b :: rest) (hW : (rest.map fun v => v.category).sum ≤ 8) (hdg : decode cc pc = .ok (.invokevirtual index, 3)) (hf : cells + mc ≤ R.cells ∧ slots + ms ≤ R.slots) :
    va_Run p l e R s m args below meth c H locs cells slots mc ms (F0 m pc ls st0) rest (Qc (Value.ref b :: As).toArray) free := by
  obtain ⟨q0, ci, q, fs, h1, h2, h3⟩ := hrv
  refine va_runV (Ts := tt) (own := own) (C := y.cls) (As := As) (rest := rest) S hM ⟨xcB As.length S.2.2.2.2 m5 m4 m1 hrc hrs hd hR, S.2.2.2.2 _ m2, S.2.2.2.2 _ m3⟩ ⟨xp_blind, ?_, xp_call (hP.sub isC (xfm hC)) (hK.sub kt ht) (hD.sub isC hn hC) hE hS (va_free hD hS hA isC hC)⟩ rfl rfl hsize hstack (lv_room hW) hdg hf
  have hv := va_recv hK hP h1 h2
  rw [h3] at hv
  exact hv
/-- a constructor of ours -/
theorem xrI {Qc : Array Value → State → Outcome → State → Prop} (S : CallFix p m c cc nL s args tt own) (hM : Met l y (tw y bytes maxL none) rm (va_Pc (.ref b :: As) (xp ad de D wc tc H.size)) Qc mc ms free)
    (m5 : Cond.code y bytes maxL none ∈ tt) (m4 : Cond.initialized y.cls ∈ tt) (m1 : Cond.methodLink own index y ∈ tt) (m2 : Cond.instanceMethod y ∈ tt) (hy1 : y.name = "<init>")
    (hrc : rm.cells = mc) (hrs : rm.slots = ms) (hd : y.cls ≠ "java/lang/invoke/MethodHandle" ∧ y.cls ≠ "java/lang/invoke/VarHandle" ∧ (parseMethodDescriptor y.desc).map (fun d => d.parameters.length) = some As.length) (hR : rm.frames + 1 ≤ R.frames ∧ 8 + (maxL + 11) + rm.locals ≤ R.locals)
    (hP : va_P D cl ws H) (hK : va_K D cl tys s) (hD : va_D A ws) (hE : xe ad de A s s.heap) (hS : va_S A s.heap H locs) (hA : ∀ q, s.heap.size ≤ q → A q) (isC kt : List Nat) (hC : isC.map (fun i => ws[i]?) = wc.map some) (hn : va_nd isC = true) (ht : kt.filterMap (fun i => tys[i]?) = tc)
    (hsize : ls.size = nL) (hstack : st0 = As.reverse ++ .ref b :: rest) (hW : (rest.map fun v => v.category).sum ≤ 8) (hdg : decode cc pc = .ok (.invokespecial index, 3)) (hf : cells + mc ≤ R.cells ∧ slots + ms ≤ R.slots) :
    va_Run p l e R s m args below meth c H locs cells slots mc ms (F0 m pc ls st0) rest (Qc (Value.ref b :: As).toArray) free :=
  va_runI (Ts := tt) (own := own) (As := As) (rest := rest) S hM ⟨xcB As.length S.2.2.2.2 m5 m4 m1 hrc hrs hd hR, hy1, S.2.2.2.2 _ m2⟩ ⟨xp_blind, xp_call (hP.sub isC (xfm hC)) (hK.sub kt ht) (hD.sub isC hn hC) hE hS (va_free hD hS hA isC hC)⟩ rfl rfl hsize hstack (lv_room hW) hdg hf
/-- a static method -/
theorem xrS {Qc : Array Value → State → Outcome → State → Prop} (S : CallFix p m c cc nL s args tt own) (hM : Met l y (tw y bytes maxL ret) rm (va_Pc As (xp ad de D wc tc H.size)) Qc mc ms free)
    (m5 : Cond.code y bytes maxL ret ∈ tt) (m4 : Cond.initialized y.cls ∈ tt) (m1 : Cond.methodLink own index y ∈ tt) (m2 : Cond.static y ∈ tt)
    (hrc : rm.cells = mc) (hrs : rm.slots = ms) (hd : y.cls ≠ "java/lang/invoke/MethodHandle" ∧ y.cls ≠ "java/lang/invoke/VarHandle" ∧ (parseMethodDescriptor y.desc).map (fun d => d.parameters.length) = some As.length) (hR : rm.frames + 1 ≤ R.frames ∧ 8 + (maxL + 11) + rm.locals ≤ R.locals)
    (hP : va_P D cl ws H) (hK : va_K D cl tys s) (hD : va_D A ws) (hE : xe ad de A s s.heap) (hS : va_S A s.heap H locs) (hA : ∀ q, s.heap.size ≤ q → A q) (isC kt : List Nat) (hC : isC.map (fun i => ws[i]?) = wc.map some) (hn : va_nd isC = true) (ht : kt.filterMap (fun i => tys[i]?) = tc)
    (hsize : ls.size = nL) (hstack : st0 = As.reverse ++ rest) (hW : (rest.map fun v => v.category).sum ≤ 8) (hdg : decode cc pc = .ok (.invokestatic index, 3)) (hf : cells + mc ≤ R.cells ∧ slots + ms ≤ R.slots) :
    va_Run p l e R s m args below meth c H locs cells slots mc ms (F0 m pc ls st0) rest (Qc As.toArray) free :=
  va_runS (Ts := tt) (own := own) (As := As) (rest := rest) S hM ⟨xcB As.length S.2.2.2.2 m5 m4 m1 hrc hrs hd hR, S.2.2.2.2 _ m2⟩ ⟨xp_blind, xp_call (hP.sub isC (xfm hC)) (hK.sub kt ht) (hD.sub isC hn hC) hE hS (va_free hD hS hA isC hC)⟩ rfl rfl hsize hstack (lv_room hW) hdg hf
/-- a virtual call that throws -/
theorem xrT {Qc : Array Value → State → Addr → State → Prop} (S : CallFix p m c cc nL s args tt own) (hM : xc_Met l y (tw y bytes maxL ret) rm (va_Pc (.ref b :: As) (xp ad de D wc tc H.size)) Qc mc ms free)
    (m5 : Cond.code y bytes maxL ret ∈ tt) (m4 : Cond.initialized y.cls ∈ tt) (m1 : Cond.methodLink own index y ∈ tt) (m2 : Cond.instanceMethod y ∈ tt) (m3 : Cond.selects y.cls y y ∈ tt)
    (hrc : rm.cells = mc) (hrs : rm.slots = ms) (hd : y.cls ≠ "java/lang/invoke/MethodHandle" ∧ y.cls ≠ "java/lang/invoke/VarHandle" ∧ (parseMethodDescriptor y.desc).map (fun d => d.parameters.length) = some As.length) (hR : rm.frames + 1 ≤ R.frames ∧ 8 + (maxL + 11) + rm.locals ≤ R.locals)
    (hP : va_P D cl ws H) (hK : va_K D cl tys s) (hD : va_D A ws) (hE : xe ad de A s s.heap) (hS : va_S A s.heap H locs) (hA : ∀ q, s.heap.size ≤ q → A q) (isC kt : List Nat) (hC : isC.map (fun i => ws[i]?) = wc.map some) (hn : va_nd isC = true) (ht : kt.filterMap (fun i => tys[i]?) = tc)
    (hrv : ∃ (q0 ci : Nat) (q : vw_C) (fs : List Value), cl[ci]? = some q ∧ ws[q0]? = some (b, .inr (ci, fs)) ∧ q.1 = y.cls)
    (hsize : ls.size = nL) (hstack : st0 = As.reverse ++ .ref b :: rest) (hW : (rest.map fun v => v.category).sum ≤ 8) (hdg : decode cc pc = .ok (.invokevirtual index, 3)) (hf : cells + mc ≤ R.cells ∧ slots + ms ≤ R.slots) :
    xc_Run p l e R s m args below meth c H locs cells slots mc ms (F0 m pc ls st0) rest (Qc (Value.ref b :: As).toArray) free := by
  obtain ⟨q0, ci, q, fs, h1, h2, h3⟩ := hrv
  refine xc_runV (Ts := tt) (own := own) (C := y.cls) (As := As) (rest := rest) S hM ⟨xcB As.length S.2.2.2.2 m5 m4 m1 hrc hrs hd hR, S.2.2.2.2 _ m2, S.2.2.2.2 _ m3⟩ ⟨xp_blind, ?_, xp_call (hP.sub isC (xfm hC)) (hK.sub kt ht) (hD.sub isC hn hC) hE hS (va_free hD hS hA isC hC)⟩ rfl rfl hsize hstack (lv_room hW) hdg hf
  have hv := va_recv hK hP h1 h2
  rw [h3] at hv
  exact hv
variable {wr : va_W} {a : Array Value}
/-- behind a call: an int -/
theorem xki {S : Type} {post : Int32 → S → Prop} {w1 : S → va_W} {t1 : S → List (ClassId × FieldType)} (hr : va_Run p l e R s m args below meth c H locs cells slots mc ms (F0 m pc ls st0) rest (va_Qi post (fun u t => xq D (va_A wc H.size) (w1 u) (t1 u) t) (va_A wc H.size) a) (va_A wc H.size))
    (hP : va_P D cl ws H) (hK : va_K D cl tys s) (hD : va_D A ws) (hS : va_S A s.heap H locs) (hA : ∀ q, s.heap.size ≤ q → A q) (isC isR : List Nat) (hC : isC.map (fun i => ws[i]?) = wc.map some) (hR : isR.map (fun i => ws[i]?) = wr.map some) (hn : va_nd isR = true) (hdis : ∀ i ∈ isR, i ∉ isC)
    (kk : ∀ (r : Int32) (u : S) (H1 : Heap) (locs1 : List Loc), post r u → va_P D cl (wr ++ w1 u) H1 → va_K D cl (tys ++ t1 u) s → va_D A (wr ++ w1 u) → va_S A s.heap H1 locs1 → W p l e R s m args below meth c H1 locs1 (cells + mc) (slots + ms) Q (F0 m (pc + 3) ls (.int r :: rest))) :
    W p l e R s m args below meth c H locs cells slots Q (F0 m pc ls st0) := by
  have hFc := va_free hD hS hA isC hC
  refine va_calli hr hS (fun q _ h => hFc q h) hFc (fun r u t H1 locs1 ht hvm hw hB hz1 hk1 hS1 => ?_)
  obtain ⟨hP1, hK1, hD1⟩ := hB
  rw [ht] at hP1
  obtain ⟨hP2, hD2⟩ := va_join hP hD isC isR hC hR hn hdis hk1 hFc hP1 hD1
  exact kk r u H1 locs1 hw hP2 (hK.app (va_K.moved hvm.symm hK1)) hD2 hS1
/-- nothing -/
theorem xkv {S : Type} {post : S → Prop} {w1 : S → va_W} {t1 : S → List (ClassId × FieldType)} (hr : va_Run p l e R s m args below meth c H locs cells slots mc ms (F0 m pc ls st0) rest (va_Qv post (fun u t => xq D (va_A wc H.size) (w1 u) (t1 u) t) (va_A wc H.size) a) (va_A wc H.size))
    (hP : va_P D cl ws H) (hK : va_K D cl tys s) (hD : va_D A ws) (hS : va_S A s.heap H locs) (hA : ∀ q, s.heap.size ≤ q → A q) (isC isR : List Nat) (hC : isC.map (fun i => ws[i]?) = wc.map some) (hR : isR.map (fun i => ws[i]?) = wr.map some) (hn : va_nd isR = true) (hdis : ∀ i ∈ isR, i ∉ isC)
    (kk : ∀ (u : S) (H1 : Heap) (locs1 : List Loc), post u → va_P D cl (wr ++ w1 u) H1 → va_K D cl (tys ++ t1 u) s → va_D A (wr ++ w1 u) → va_S A s.heap H1 locs1 → W p l e R s m args below meth c H1 locs1 (cells + mc) (slots + ms) Q (F0 m (pc + 3) ls rest)) :
    W p l e R s m args below meth c H locs cells slots Q (F0 m pc ls st0) := by
  have hFc := va_free hD hS hA isC hC
  refine va_callv hr hS (fun q _ h => hFc q h) hFc (fun u t H1 locs1 ht hvm hw hB hz1 hk1 hS1 => ?_)
  obtain ⟨hP1, hK1, hD1⟩ := hB
  rw [ht] at hP1
  obtain ⟨hP2, hD2⟩ := va_join hP hD isC isR hC hR hn hdis hk1 hFc hP1 hD1
  exact kk u H1 locs1 hw hP2 (hK.app (va_K.moved hvm.symm hK1)) hD2 hS1
/-- a long -/
theorem xkl {S : Type} {post : Int64 → S → Prop} {w1 : S → va_W} {t1 : S → List (ClassId × FieldType)} (hr : va_Run p l e R s m args below meth c H locs cells slots mc ms (F0 m pc ls st0) rest (va_Ql post (fun u t => xq D (va_A wc H.size) (w1 u) (t1 u) t) (va_A wc H.size) a) (va_A wc H.size))
    (hP : va_P D cl ws H) (hK : va_K D cl tys s) (hD : va_D A ws) (hS : va_S A s.heap H locs) (hA : ∀ q, s.heap.size ≤ q → A q) (isC isR : List Nat) (hC : isC.map (fun i => ws[i]?) = wc.map some) (hR : isR.map (fun i => ws[i]?) = wr.map some) (hn : va_nd isR = true) (hdis : ∀ i ∈ isR, i ∉ isC)
    (kk : ∀ (r : Int64) (u : S) (H1 : Heap) (locs1 : List Loc), post r u → va_P D cl (wr ++ w1 u) H1 → va_K D cl (tys ++ t1 u) s → va_D A (wr ++ w1 u) → va_S A s.heap H1 locs1 → W p l e R s m args below meth c H1 locs1 (cells + mc) (slots + ms) Q (F0 m (pc + 3) ls (.long r :: rest))) :
    W p l e R s m args below meth c H locs cells slots Q (F0 m pc ls st0) := by
  have hFc := va_free hD hS hA isC hC
  refine va_calll hr hS (fun q _ h => hFc q h) hFc (fun r u t H1 locs1 ht hvm hw hB hz1 hk1 hS1 => ?_)
  obtain ⟨hP1, hK1, hD1⟩ := hB
  rw [ht] at hP1
  obtain ⟨hP2, hD2⟩ := va_join hP hD isC isR hC hR hn hdis hk1 hFc hP1 hD1
  exact kk r u H1 locs1 hw hP2 (hK.app (va_K.moved hvm.symm hK1)) hD2 hS1
/-- a throw that passes -/
theorem xkp {S : Type} {C : String} {post : S → Prop} {w1 : S → va_W} {t1 : S → List (ClassId × FieldType)} {Qc : Array Value → State → Addr → State → Prop} {free' : Addr → Prop} (hr : xc_Run p l e R s m args below meth c H locs cells slots mc ms (F0 m pc ls st0) rest (xc_Q C post (fun u t => xq D (va_A wc H.size) (w1 u) (t1 u) t) (va_A wc H.size) a) (va_A wc H.size))
    (hP : va_P D cl ws H) (hK : va_K D cl tys s) (hD : va_D A ws) (hS : va_S A s.heap H locs) (hA : ∀ q, s.heap.size ≤ q → A q) (isC isR : List Nat) (hC : isC.map (fun i => ws[i]?) = wc.map some) (hR : isR.map (fun i => ws[i]?) = wr.map some) (hn : va_nd isR = true) (hdis : ∀ i ∈ isR, i ∉ isC)
    (hout : ∀ x ∈ c.exceptionTable.toList, ∀ pc, covers x pc = false) (hlocks : meth.locks = false)
    (kk : ∀ (u : S) (x : Nat) (H1 : Heap) (locs1 : List Loc), xc_Ob C x s H1 → post u → va_P D cl (wr ++ w1 u) H1 → va_K D cl (tys ++ t1 u) s → va_D A (wr ++ w1 u) → va_S A s.heap H1 locs1 → (∀ q ∈ locs1, free' q.base) ∧ ∀ t2 : State, t2.heap = H1 → s.WarmedH t2.vm → Qc args s x t2) :
    W p l e R s m args below meth c H locs cells slots (xc_MQ below Qc args s (cells + mc) (slots + ms) free') (F0 m pc ls st0) := by
  have hFc := va_free hD hS hA isC hC
  refine xc_callPass hr hS (fun q _ h => hFc q h) hFc (fun x hx => hout x hx pc) hlocks (fun u x t H1 locs1 ht hvm hob hw hB hz1 hk1 hS1 => ?_)
  obtain ⟨hP1, hK1, hD1⟩ := hB
  rw [ht] at hP1
  obtain ⟨hP2, hD2⟩ := va_join hP hD isC isR hC hR hn hdis hk1 hFc hP1 hD1
  exact kk u x H1 locs1 hob hw hP2 (hK.app (va_K.moved hvm.symm hK1)) hD2 hS1
/-- a throw that is caught -/
theorem xkc {S : Type} {C : String} {post : S → Prop} {w1 : S → va_W} {t1 : S → List (ClassId × FieldType)} (hr : xc_Run p l e R s m args below meth c H locs cells slots mc ms (F0 m pc ls st0) rest (xc_Q C post (fun u t => xq D (va_A wc H.size) (w1 u) (t1 u) t) (va_A wc H.size) a) (va_A wc H.size))
    (hP : va_P D cl ws H) (hK : va_K D cl tys s) (hD : va_D A ws) (hS : va_S A s.heap H locs) (hA : ∀ q, s.heap.size ≤ q → A q) (isC isR : List Nat) (hC : isC.map (fun i => ws[i]?) = wc.map some) (hR : isR.map (fun i => ws[i]?) = wr.map some) (hn : va_nd isR = true) (hdis : ∀ i ∈ isR, i ∉ isC)
    (hown : s.vm.findClass own = some m.cls) {sp ep hpc ct : Nat} {more : List ExceptionTableEntry} (htab : c.exceptionTable.toList = ⟨sp, ep, hpc, ct⟩ :: more) (hcov : sp ≤ pc ∧ pc < ep) (hct : ct ≠ 0) (hcl : (Cond.classLink own ct C).before args s = true)
    (kk : ∀ (u : S) (x : Nat) (H1 : Heap) (locs1 : List Loc), xc_Ob C x s H1 → post u → va_P D cl (wr ++ w1 u) H1 → va_K D cl (tys ++ t1 u) s → va_D A (wr ++ w1 u) → va_S A s.heap H1 locs1 → W p l e R s m args below meth c H1 locs1 (cells + mc) (slots + ms) Q (F0 m hpc ls [.ref x])) :
    W p l e R s m args below meth c H locs cells slots Q (F0 m pc ls st0) := by
  have hFc := va_free hD hS hA isC hC
  refine xc_callCatch hr hS (fun q _ h => hFc q h) hFc hown htab hcov hct hcl (fun u x t H1 locs1 ht hvm hob hw hB hz1 hk1 hS1 => ?_)
  obtain ⟨hP1, hK1, hD1⟩ := hB
  rw [ht] at hP1
  obtain ⟨hP2, hD2⟩ := va_join hP hD isC isR hC hR hn hdis hk1 hFc hP1 hD1
  exact kk u x H1 locs1 hob hw hP2 (hK.app (va_K.moved hvm.symm hK1)) hD2 hS1
end XRUN
end
section
/-! small rows: a computed top by its number; how a throwing method ends; empty objects -/
section XS5
variable {p : Program} {l : Launch} {e : Env} {R : Room} {s : State} {m : MethodId} {args : Array Value} {below : List Frame} {meth : Method} {c : Code} {H : Heap} {locs : List Loc} {cells slots : Nat} {Q : State → Prop} {pc : Nat} {ls : Array Slot} {rest : List Value}
theorem xtopi {x v : Int32} (h : x = v) (k : W p l e R s m args below meth c H locs cells slots Q (F0 m pc ls (.int v :: rest))) : W p l e R s m args below meth c H locs cells slots Q (F0 m pc ls (.int x :: rest)) := by
  subst h; exact k
theorem xtopl {x v : Int64} (h : x = v) (k : W p l e R s m args below meth c H locs cells slots Q (F0 m pc ls (.long v :: rest))) : W p l e R s m args below meth c H locs cells slots Q (F0 m pc ls (.long x :: rest)) := by
  subst h; exact k
end XS5
abbrev xfa (fs : List Value) (k : Nat) (v : Value) : Prop := fs[k]? = some v
theorem xg_ne {fs : List Value} {k j : Nat} {v w : Value} (h : k ≠ j) (hf : fs[j]? = some w) : (fs.set k v)[j]? = some w := by rw [List.getElem?_set_ne h]; exact hf
theorem xg_eq {fs : List Value} {k : Nat} {v : Value} (h : k < fs.length) : (fs.set k v)[k]? = some v := by rw [List.getElem?_set_self h]
theorem xc_fin {C : String} {D : va_G} {A : Nat → Prop} {ws : va_W} {tys : List (ClassId × FieldType)} {s t : State} {H : Heap} {locs : List Loc} {x : Nat} {a : Array Value} (hP : va_P D cl ws H) (hK : va_K D cl tys s) (hD : va_D A ws) (hS : va_S A s.heap H locs) (hz : H.size ≤ t.heap.size) (hk : ∀ q : Nat, q < H.size → t.heap[q]? = H[q]?) (hob : xc_Ob C x t t.heap) (hW : s.WarmedH t.vm) :
    xc_Q C (fun (_ : Unit) => True) (fun (_ : Unit) t => xq D A ws tys t) A a s x t :=
  ⟨⟨(), hob, trivial, hP.kept (fun k q hq => hk q.1 ((hP k q hq).lt)), va_K.moved hW.alike hK, hD⟩, Nat.le_trans hS.1 hz, fun q h1 h2 => (hk q (Nat.lt_of_lt_of_le h1 hS.1)).trans (hS.2.1 q h1 h2)⟩
theorem xc_fin2 {C : String} {D : va_G} {A : Nat → Prop} {ws : va_W} {tys : List (ClassId × FieldType)} {s t : State} {H : Heap} {locs : List Loc} {x : Nat} {a : Array Value} (hP : va_P D cl ws H) (hK : va_K D cl tys s) (hD : va_D A ws) (hS : va_S A s.heap H locs) (ht : t.heap = H) (hob : xc_Ob C x s H) (hW : s.WarmedH t.vm) :
    xc_Q C (fun (_ : Unit) => True) (fun (_ : Unit) t => xq D A ws tys t) A a s x t := by
  obtain ⟨cell, o1, o2, o3⟩ := hob
  exact ⟨⟨(), ⟨cell, by rw [ht]; exact o1, o2, by rw [hW.alike.findClass]; exact o3⟩, trivial, by rw [ht]; exact hP, va_K.moved hW.alike hK, hD⟩, hS.F ht⟩
def ex_up : List String := ["java/lang/RuntimeException", "java/lang/Exception"]
section XRUNH
variable {p : Program} {l : Launch} {e : Env} {R : Room} {s : State} {m : MethodId} {args : Array Value} {below : List Frame} {meth : Method} {c : Code} {H : Heap} {locs : List Loc} {cells slots : Nat} {Q : State → Prop}
variable {y : MethodName} {bytes cc : ByteArray} {maxL nL mc ms n index pc : Nat} {ret : Option FieldType} {rm : Room} {own : String} {b : Addr} {As rest st0 : List Value} {ls : Array Slot} {ad : Nat → Nat} {de : Nat} {D : va_G} {ws wc : va_W} {tys tc : List (ClassId × FieldType)} {A : Nat → Prop} {free : Addr → Prop} {hh : List (Nat × Nat × Nat × Nat)}
/-- a static method with an exception table -/
theorem xrSH {Qc : Array Value → State → Outcome → State → Prop} (S : CallFix p m c cc nL s args tt own) (hM : Met l y (.codeWith y bytes maxL ret hh :: tt) rm (va_Pc As (xp ad de D wc tc H.size)) Qc mc ms free)
    (m5 : Cond.codeWith y bytes maxL ret hh ∈ tt) (m4 : Cond.initialized y.cls ∈ tt) (m1 : Cond.methodLink own index y ∈ tt) (m2 : Cond.static y ∈ tt)
    (hrc : rm.cells = mc) (hrs : rm.slots = ms) (hd : y.cls ≠ "java/lang/invoke/MethodHandle" ∧ y.cls ≠ "java/lang/invoke/VarHandle" ∧ (parseMethodDescriptor y.desc).map (fun d => d.parameters.length) = some As.length) (hR : rm.frames + 1 ≤ R.frames ∧ 8 + (maxL + 11) + rm.locals ≤ R.locals)
    (hP : va_P D cl ws H) (hK : va_K D cl tys s) (hD : va_D A ws) (hE : xe ad de A s s.heap) (hS : va_S A s.heap H locs) (hA : ∀ q, s.heap.size ≤ q → A q) (isC kt : List Nat) (hC : isC.map (fun i => ws[i]?) = wc.map some) (hn : va_nd isC = true) (ht : kt.filterMap (fun i => tys[i]?) = tc)
    (hsize : ls.size = nL) (hstack : st0 = As.reverse ++ rest) (hW : (rest.map fun v => v.category).sum ≤ 8) (hdg : decode cc pc = .ok (.invokestatic index, 3)) (hf : cells + mc ≤ R.cells ∧ slots + ms ≤ R.slots) :
    va_Run p l e R s m args below meth c H locs cells slots mc ms (F0 m pc ls st0) rest (Qc As.toArray) free := by
  obtain ⟨hx, hb, hml, ho, hts⟩ := S
  have hB : Back l R p e below s args y 3 8 (PreOf R mc ms (va_Pc As (xp ad de D wc tc H.size))) (PostOf Qc mc ms free) :=
    va_backW (hh := hh) (bytes := bytes) (maxL := maxL) (ret := ret) hM xp_blind hrc hrs hR.1 hR.2 (pay_in hts (tw_goodT m5)) List.mem_cons_self (fun a' U hW => word_at hW (good_of_word (tt_good _ m4)) (hts _ m4))
  obtain ⟨mk, methM, cM, hnamed, hmethM, -, -, -, -, -, -, hsigM⟩ := Cond.codeWith_spec (hts _ m5)
  have hstatic : methM.isStatic = true := Cond.static_spec hnamed hmethM (hts _ m2)
  obtain ⟨kP, hkP, -⟩ := className_of_methodNamed hnamed
  have hinitP : kP.init = .initialized := Cond.initialized_spec (findClass_of_methodNamed hnamed) hkP (hts _ m4)
  have hlen : As.length = methM.sig.parameters.length := by
    have h2 := hd.2.2
    rw [hsigM] at h2
    exact (Option.some.inj h2).symm
  intro T hT X
  obtain ⟨vm₁, X₁, hstep₁⟩ := X.invokestatic hx ho (hts _ m1) hnamed hmethM hstatic hkP hinitP ⟨hd.1, hd.2.1⟩ (g := F0 m pc ls st0) rfl (argsL := As) (rest := rest) hlen hstack (by rw [hb]; exact hdg)
  obtain ⟨v, ⟨U', l2, c2, s2⟩, X', ⟨g', mk', t, L, e1, e2, hq, h1, hL, h2, h3⟩, hsteps⟩ := hB m meth c ⟨T.setVm vm₁, locs, cells, slots⟩ (F0 m pc ls rest) (.invokestatic index) mk As.toArray X₁ rfl (hsize.trans hml.symm) (by rw [hb]; exact hdg) (lv_room hW) (X₁.named hnamed)
    ⟨hf.1, hf.2, xp_call (hP.sub isC (xfm hC)) (hK.sub kt ht) (hD.sub isC hn hC) hE hS (va_free hD hS hA isC hC) (T.setVm vm₁) hT X₁.warmed⟩
  dsimp only [Pt.U, Pt.locs, Pt.cells, Pt.slots] at X' e1 e2 h1 h2 h3 hsteps
  subst h1; subst h2; subst h3
  exact ⟨v, (T.setVm vm₁).calling g' mk' As.toArray, t, U', L, hT, X', hL, e1, e2, hq, fun target h => hstep₁ _ fun acts => by rw [doInvoke_state]; exact hsteps.trans h⟩
/-- a virtual method with an exception table -/
theorem xrVH {Qc : Array Value → State → Outcome → State → Prop} (S : CallFix p m c cc nL s args tt own) (hM : Met l y (.codeWith y bytes maxL ret hh :: tt) rm (va_Pc (.ref b :: As) (xp ad de D wc tc H.size)) Qc mc ms free)
    (m5 : Cond.codeWith y bytes maxL ret hh ∈ tt) (m4 : Cond.initialized y.cls ∈ tt) (m1 : Cond.methodLink own index y ∈ tt) (m2 : Cond.instanceMethod y ∈ tt) (m3 : Cond.selects y.cls y y ∈ tt)
    (hrc : rm.cells = mc) (hrs : rm.slots = ms) (hd : y.cls ≠ "java/lang/invoke/MethodHandle" ∧ y.cls ≠ "java/lang/invoke/VarHandle" ∧ (parseMethodDescriptor y.desc).map (fun d => d.parameters.length) = some As.length) (hR : rm.frames + 1 ≤ R.frames ∧ 8 + (maxL + 11) + rm.locals ≤ R.locals)
    (hP : va_P D cl ws H) (hK : va_K D cl tys s) (hD : va_D A ws) (hE : xe ad de A s s.heap) (hS : va_S A s.heap H locs) (hA : ∀ q, s.heap.size ≤ q → A q) (isC kt : List Nat) (hC : isC.map (fun i => ws[i]?) = wc.map some) (hn : va_nd isC = true) (ht : kt.filterMap (fun i => tys[i]?) = tc)
    (hrv : ∃ (q0 ci : Nat) (q : vw_C) (fs : List Value), cl[ci]? = some q ∧ ws[q0]? = some (b, .inr (ci, fs)) ∧ q.1 = y.cls)
    (hsize : ls.size = nL) (hstack : st0 = As.reverse ++ .ref b :: rest) (hW : (rest.map fun v => v.category).sum ≤ 8) (hdg : decode cc pc = .ok (.invokevirtual index, 3)) (hf : cells + mc ≤ R.cells ∧ slots + ms ≤ R.slots) :
    va_Run p l e R s m args below meth c H locs cells slots mc ms (F0 m pc ls st0) rest (Qc (Value.ref b :: As).toArray) free := by
  obtain ⟨hx, hb, hml, ho, hts⟩ := S
  have hB : Back l R p e below s args y 3 8 (PreOf R mc ms (va_Pc (.ref b :: As) (xp ad de D wc tc H.size))) (PostOf Qc mc ms free) :=
    va_backW (hh := hh) (bytes := bytes) (maxL := maxL) (ret := ret) hM xp_blind hrc hrs hR.1 hR.2 (pay_in hts (tw_goodT m5)) List.mem_cons_self (fun a' U hW => word_at hW (good_of_word (tt_good _ m4)) (hts _ m4))
  obtain ⟨mk, methM, cM, hnamed, hmethM, -, -, -, -, -, -, hsigM⟩ := Cond.codeWith_spec (hts _ m5)
  obtain ⟨mk2, methM2, hnamed2, hmethM2, hstM, habM⟩ := Cond.instanceMethod_spec (hts _ m2)
  cases hnamed.symm.trans hnamed2
  cases hmethM.symm.trans hmethM2
  have hlen : As.length = methM.sig.parameters.length := by
    have h2 := hd.2.2
    rw [hsigM] at h2
    exact (Option.some.inj h2).symm
  obtain ⟨q0, ci, q, fs, g1, g2, g3⟩ := hrv
  have hv := va_recv hK hP g1 g2
  rw [g3] at hv
  obtain ⟨cellB, hcB, hoB, hclB⟩ := hv
  obtain ⟨c2, r2, m2', z1, z2, z3, z4, kP, hkP, hkPi⟩ := Cond.selects_spec (hts _ m3)
  cases hclB.symm.trans z1
  cases (State.methodFound?_of_named hnamed ⟨hd.1, hd.2.1⟩).symm.trans z2
  cases hnamed.symm.trans z3
  intro T hT X
  have hselP : selectMethod e.platform s.vm cellB.cls mk = .method mk := by rw [Launch.admits_selectMethod X.admits]; exact z4
  obtain ⟨vm₁, X₁, hstep₁⟩ := X.invokevirtual hx ho (hts _ m1) hnamed hmethM hstM hkP hkPi ⟨hd.1, hd.2.1⟩ (a := b) (cell := cellB) (by rw [hT]; exact hcB)
    (fun z h => by rw [h] at hoB; cases hoB) hselP hmethM habM hkP hkPi (g := F0 m pc ls st0) rfl (argsL := As) (rest := rest) hlen hstack (by rw [hb]; exact hdg)
  obtain ⟨v, ⟨U', l2, c2', s2⟩, X', ⟨g', mk', t, L, e1, e2, hq, h1, hL, h2, h3⟩, hsteps⟩ := hB m meth c ⟨T.setVm vm₁, locs, cells, slots⟩ (F0 m pc ls rest) (.invokevirtual index) mk (Value.ref b :: As).toArray X₁ rfl (hsize.trans hml.symm) (by rw [hb]; exact hdg) (lv_room hW) (X₁.named hnamed)
    ⟨hf.1, hf.2, xp_call (hP.sub isC (xfm hC)) (hK.sub kt ht) (hD.sub isC hn hC) hE hS (va_free hD hS hA isC hC) (T.setVm vm₁) hT X₁.warmed⟩
  dsimp only [Pt.U, Pt.locs, Pt.cells, Pt.slots] at X' e1 e2 h1 h2 h3 hsteps
  subst h1; subst h2; subst h3
  exact ⟨v, (T.setVm vm₁).calling g' mk' (Value.ref b :: As).toArray, t, U', L, hT, X', hL, e1, e2, hq, fun target h => hstep₁ _ fun acts => by rw [doInvoke_state]; exact hsteps.trans h⟩
end XRUNH
end
section
/-! words that the walks use, each by its place; written by wip/gen -/
theorem w_1 : Cond.initialized "SignalEngine" ∈ tt := tt_of 1 (by decide +kernel) rfl
theorem w_2 : Cond.initialized "SignalEngineModel" ∈ tt := tt_of 2 (by decide +kernel) rfl
theorem w_44 : Cond.fieldLink "SignalEngine" 28 "SignalEngine" "fed" "Z" ∈ tt := tt_of 44 (by decide +kernel) rfl
theorem w_45 : Cond.fieldLink "SignalEngine" 52 "SignalEngine" "program" "LSignalEngine$Program;" ∈ tt := tt_of 45 (by decide +kernel) rfl
theorem w_49 : Cond.fieldLink "SignalEngine" 68 "SignalEngine" "held" "[Z" ∈ tt := tt_of 49 (by decide +kernel) rfl
theorem w_50 : Cond.fieldLink "SignalEngine" 78 "SignalEngine" "shown" "[I" ∈ tt := tt_of 50 (by decide +kernel) rfl
theorem w_54 : Cond.fieldLink "SignalEngine" 91 "SignalEngine" "explored" "Z" ∈ tt := tt_of 54 (by decide +kernel) rfl
theorem w_55 : Cond.fieldLink "SignalEngine" 94 "SignalEngine" "laid" "Z" ∈ tt := tt_of 55 (by decide +kernel) rfl
theorem w_1092 : Cond.methodLink "SignalEngine" 216 ⟨"SignalEngine", "together", "(II)I"⟩ ∈ tt := tt_of 1092 (by decide +kernel) rfl
theorem w_1093 : Cond.instanceMethod ⟨"SignalEngine", "together", "(II)I"⟩ ∈ tt := tt_of 1093 (by decide +kernel) rfl
theorem w_1094 : Cond.selects "SignalEngine" ⟨"SignalEngine", "together", "(II)I"⟩ ⟨"SignalEngine", "together", "(II)I"⟩ ∈ tt := tt_of 1094 (by decide +kernel) rfl
set_option maxRecDepth 100000 in
theorem w_1095 : Cond.code ⟨"SignalEngine", "together", "(II)I"⟩ prog_1_method_23_code 3 (Option.some Jvm.ClassFile.FieldType.int) ∈ tt := tt_of 1095 rfl rfl
theorem w_1562 : Cond.fieldLink "SignalEngineModel" 206 "SignalEngineModel" "thrown" "I" ∈ tt := tt_of 1562 (by decide +kernel) rfl
theorem w_1565 : Cond.fieldLink "SignalEngineModel" 213 "SignalEngineModel" "fed" "Z" ∈ tt := tt_of 1565 (by decide +kernel) rfl
theorem w_1603 : Cond.fieldLink "SignalEngineModel" 521 "SignalEngineModel" "there" "Z" ∈ tt := tt_of 1603 (by decide +kernel) rfl
theorem w_1604 : Cond.fieldLink "SignalEngineModel" 539 "SignalEngineModel" "nodes" "I" ∈ tt := tt_of 1604 (by decide +kernel) rfl
theorem w_1605 : Cond.fieldLink "SignalEngineModel" 501 "SignalEngineModel" "pieces" "I" ∈ tt := tt_of 1605 (by decide +kernel) rfl
theorem w_1606 : Cond.fieldLink "SignalEngineModel" 536 "SignalEngineModel" "signals" "I" ∈ tt := tt_of 1606 (by decide +kernel) rfl
theorem w_1607 : Cond.fieldLink "SignalEngineModel" 533 "SignalEngineModel" "ins" "I" ∈ tt := tt_of 1607 (by decide +kernel) rfl
theorem w_1608 : Cond.fieldLink "SignalEngineModel" 530 "SignalEngineModel" "outs" "I" ∈ tt := tt_of 1608 (by decide +kernel) rfl
theorem w_1609 : Cond.fieldLink "SignalEngineModel" 498 "SignalEngineModel" "pauses" "I" ∈ tt := tt_of 1609 (by decide +kernel) rfl
theorem w_1644 : Cond.fieldLink "SignalEngineModel" 545 "SignalEngineModel" "going" "I" ∈ tt := tt_of 1644 (by decide +kernel) rfl
theorem w_1647 : Cond.fieldLink "SignalEngineModel" 518 "SignalEngineModel" "explored" "Z" ∈ tt := tt_of 1647 (by decide +kernel) rfl
theorem w_1648 : Cond.fieldLink "SignalEngineModel" 515 "SignalEngineModel" "laid" "Z" ∈ tt := tt_of 1648 (by decide +kernel) rfl
theorem w_1649 : Cond.fieldLink "SignalEngineModel" 527 "SignalEngineModel" "states" "I" ∈ tt := tt_of 1649 (by decide +kernel) rfl
theorem w_1668 : Cond.fieldLink "SignalEngineModel" 524 "SignalEngineModel" "multiplexers" "I" ∈ tt := tt_of 1668 (by decide +kernel) rfl
theorem w_2152 : Cond.methodLink "SignalEngineModel" 615 ⟨"SignalEngineModel", "fails", "(ZZ)Z"⟩ ∈ tt := tt_of 2152 (by decide +kernel) rfl
theorem w_2154 : Cond.instanceMethod ⟨"SignalEngineModel", "fails", "(ZZ)Z"⟩ ∈ tt := tt_of 2154 (by decide +kernel) rfl
set_option maxRecDepth 100000 in
theorem w_2155 : Cond.code ⟨"SignalEngineModel", "fails", "(ZZ)Z"⟩ prog_15_method_3_code 3 (Option.some Jvm.ClassFile.FieldType.boolean) ∈ tt := tt_of 2155 rfl rfl
theorem w_2268 : Cond.methodLink "SignalEngineModel" 648 ⟨"SignalEngineModel", "placeOf", "(I)I"⟩ ∈ tt := tt_of 2268 (by decide +kernel) rfl
theorem w_2270 : Cond.instanceMethod ⟨"SignalEngineModel", "placeOf", "(I)I"⟩ ∈ tt := tt_of 2270 (by decide +kernel) rfl
set_option maxRecDepth 100000 in
theorem w_2271 : Cond.code ⟨"SignalEngineModel", "placeOf", "(I)I"⟩ prog_15_method_85_code 2 (Option.some Jvm.ClassFile.FieldType.int) ∈ tt := tt_of 2271 rfl rfl
theorem wp_126 : Cond.selects "SignalEngineModel" ⟨"SignalEngineModel", "fails", "(ZZ)Z"⟩ ⟨"SignalEngineModel", "fails", "(ZZ)Z"⟩ ∈ tt := tt_sel 126 (by decide +kernel) rfl
theorem wp_149 : Cond.selects "SignalEngineModel" ⟨"SignalEngineModel", "placeOf", "(I)I"⟩ ⟨"SignalEngineModel", "placeOf", "(I)I"⟩ ∈ tt := tt_sel 149 (by decide +kernel) rfl
theorem xin {ws : List Cond} (h : ws.all (fun w => decide (w ∈ tables_1) && (goodWord w || xn_is w)) = true) : ∀ w ∈ ws, w ∈ tt ∨ w ∈ nn := fun w hw => by
  have h1 := List.all_eq_true.mp h w hw
  simp only [Bool.and_eq_true, Bool.or_eq_true, decide_eq_true_eq] at h1
  rcases h1 with ⟨h1, h2 | h2⟩
  · exact Or.inl (List.mem_filter.mpr ⟨List.mem_append_right _ h1, h2⟩)
  · exact Or.inr (List.mem_filter.mpr ⟨h1, h2⟩)
set_option maxRecDepth 100000 in
theorem exA_SignalEngine_142_two : xc_two "SignalEngine" 142 "java/lang/IllegalStateException" ex_up := by unfold xc_two; decide +kernel
set_option maxRecDepth 100000 in
theorem exA_SignalEngine_142 : ∀ w ∈ xc_ws "SignalEngine" 140 142 "java/lang/IllegalStateException" ex_up, w ∈ tt ∨ w ∈ nn := xin (by decide +kernel)
end
section
set_option maxHeartbeats 4000000 in
set_option maxRecDepth 100000 in
/-- SignalEngine.restart -/
theorem c_SE_restart0 (l : Launch) (hlt : l.stackTraces = false) (D : va_G) (ad : Nat → Nat) (de sz : Nat) (h0 : Nat) (fs : List Value) (hfl : fs.length = 14) (hf3 : xfa fs 3 (.null))   : xc_Met l ⟨"SignalEngine", "restart", "()I"⟩ (tw ⟨"SignalEngine", "restart", "()I"⟩ prog_1_method_10_code 2 (some (.int))) { frames := 6, cells := 1, slots := 6, locals := 90 } (va_Pc [.ref h0] (xp ad de D [(h0, .inr (0, fs))] [] sz)) (xc_Q "java/lang/IllegalStateException" (fun (_ : Unit) => True) (fun (_ : Unit) t => xq D (va_A [(h0, .inr (0, fs))] sz) [(h0, .inr (0, fs))] [] t) (va_A [(h0, .inr (0, fs))] sz)) 1 6 (va_A [(h0, .inr (0, fs))] sz) := by
  refine xMetT (by decide +kernel) (Nat.le_of_ble_eq_true rfl) ?_
  intro p e s m below meth c hx hb hr hlocks hout hml hown hts hsz hP hK hD hE hA ls hl
  have hS : va_S _ s.heap s.heap [] := va_S.rf (A := va_A [(h0, .inr (0, fs))] sz)
  have hl : lv_has ls 2 [(0, .ref h0)] := hl
  refine lv_aload_n hx hb (show decode prog_1_method_10_code 0 = .ok (.aload_n 0, 1) by decide +kernel) rfl (lv_at hl 0 rfl) ?_
  refine va_get (D := D) (ci := 0) (v := .null) (C := R_SE) (T := F_SE) (N := 14) hx hb hts i_SE hown hK hP 0 rfl rfl 3 (by decide +kernel) (hts _ w_45) (fun _ h9 => h9) hf3 (show decode prog_1_method_10_code 1 = .ok (.getfield 52, 3) by decide +kernel) ?_
  refine lv_ifnonnullN hx hb (show decode prog_1_method_10_code 4 = .ok (.ifnonnull 11, 3) by decide +kernel) ?_
  refine W.widen (k := 0) (n := 0) (by decide +kernel) (by decide +kernel) ?_
  exact xc_raise (own := "SignalEngine") (cls := "java/lang/IllegalStateException") (names := ex_up) (ia := 140) (ic := 142) hx hb hlt hown (by decide +kernel) (by decide +kernel) (fun w h => xn_at (exA_SignalEngine_142 w h) hts hE.1) exA_SignalEngine_142_two (hE.2.1.kept hS.2.1) (hl.1.trans hml.symm) (show decode prog_1_method_10_code 7 = .ok (.new 140, 3) by decide +kernel) (show decode prog_1_method_10_code 10 = .ok (.dup, 1) by decide +kernel) (show decode prog_1_method_10_code 11 = .ok (.invokespecial 142, 3) by decide +kernel) (show decode prog_1_method_10_code 14 = .ok (.athrow, 1) by decide +kernel) (fun x h => hout x h _) (Nat.le_of_ble_eq_true rfl) (Nat.le_of_ble_eq_true rfl) (Nat.le_of_ble_eq_true rfl) (Nat.le_of_ble_eq_true rfl) hS.2.2 (fun t hz hk hob hW => xc_fin (x := s.heap.size) hP hK hD hS hz hk hob hW) hlocks
set_option maxHeartbeats 4000000 in
set_option maxRecDepth 100000 in
/-- SignalEngine.instant -/
theorem c_SE_instant0 (l : Launch) (hlt : l.stackTraces = false) (D : va_G) (ad : Nat → Nat) (de sz : Nat) (h0 : Nat) (fs : List Value) (hfl : fs.length = 14) (hf3 : xfa fs 3 (.null))  (p0 : Int32) : xc_Met l ⟨"SignalEngine", "instant", "(I)I"⟩ (tw ⟨"SignalEngine", "instant", "(I)I"⟩ prog_1_method_12_code 3 (some (.int))) { frames := 6, cells := 1, slots := 6, locals := 90 } (va_Pc [.ref h0, .int p0] (xp ad de D [(h0, .inr (0, fs))] [] sz)) (xc_Q "java/lang/IllegalStateException" (fun (_ : Unit) => True) (fun (_ : Unit) t => xq D (va_A [(h0, .inr (0, fs))] sz) [(h0, .inr (0, fs))] [] t) (va_A [(h0, .inr (0, fs))] sz)) 1 6 (va_A [(h0, .inr (0, fs))] sz) := by
  refine xMetT (by decide +kernel) (Nat.le_of_ble_eq_true rfl) ?_
  intro p e s m below meth c hx hb hr hlocks hout hml hown hts hsz hP hK hD hE hA ls hl
  have hS : va_S _ s.heap s.heap [] := va_S.rf (A := va_A [(h0, .inr (0, fs))] sz)
  have hl : lv_has ls 3 [(0, .ref h0), (1, .int p0)] := hl
  refine lv_aload_n hx hb (show decode prog_1_method_12_code 0 = .ok (.aload_n 0, 1) by decide +kernel) rfl (lv_at hl 0 rfl) ?_
  refine va_get (D := D) (ci := 0) (v := .null) (C := R_SE) (T := F_SE) (N := 14) hx hb hts i_SE hown hK hP 0 rfl rfl 3 (by decide +kernel) (hts _ w_45) (fun _ h9 => h9) hf3 (show decode prog_1_method_12_code 1 = .ok (.getfield 52, 3) by decide +kernel) ?_
  refine lv_ifnullN (tgt := 14) hx hb (show decode prog_1_method_12_code 4 = .ok (.ifnull 10, 3) by decide +kernel) (by decide +kernel) ?_
  refine W.widen (k := 0) (n := 0) (by decide +kernel) (by decide +kernel) ?_
  exact xc_raise (own := "SignalEngine") (cls := "java/lang/IllegalStateException") (names := ex_up) (ia := 140) (ic := 142) hx hb hlt hown (by decide +kernel) (by decide +kernel) (fun w h => xn_at (exA_SignalEngine_142 w h) hts hE.1) exA_SignalEngine_142_two (hE.2.1.kept hS.2.1) (hl.1.trans hml.symm) (show decode prog_1_method_12_code 14 = .ok (.new 140, 3) by decide +kernel) (show decode prog_1_method_12_code 17 = .ok (.dup, 1) by decide +kernel) (show decode prog_1_method_12_code 18 = .ok (.invokespecial 142, 3) by decide +kernel) (show decode prog_1_method_12_code 21 = .ok (.athrow, 1) by decide +kernel) (fun x h => hout x h _) (Nat.le_of_ble_eq_true rfl) (Nat.le_of_ble_eq_true rfl) (Nat.le_of_ble_eq_true rfl) (Nat.le_of_ble_eq_true rfl) hS.2.2 (fun t hz hk hob hW => xc_fin (x := s.heap.size) hP hK hD hS hz hk hob hW) hlocks
set_option maxHeartbeats 4000000 in
set_option maxRecDepth 100000 in
/-- SignalEngine.go -/
theorem c_SE_go0 (l : Launch) (hlt : l.stackTraces = false) (D : va_G) (ad : Nat → Nat) (de sz : Nat) (h0 : Nat) (fs : List Value) (hfl : fs.length = 14) (hf12 : xfa fs 12 (.int 0))  (p0 : Int32) : xc_Met l ⟨"SignalEngine", "go", "(I)V"⟩ (tw ⟨"SignalEngine", "go", "(I)V"⟩ prog_1_method_15_code 2 none) { frames := 6, cells := 1, slots := 6, locals := 90 } (va_Pc [.ref h0, .int p0] (xp ad de D [(h0, .inr (0, fs))] [] sz)) (xc_Q "java/lang/IllegalStateException" (fun (_ : Unit) => True) (fun (_ : Unit) t => xq D (va_A [(h0, .inr (0, fs))] sz) [(h0, .inr (0, fs))] [] t) (va_A [(h0, .inr (0, fs))] sz)) 1 6 (va_A [(h0, .inr (0, fs))] sz) := by
  refine xMetT (by decide +kernel) (Nat.le_of_ble_eq_true rfl) ?_
  intro p e s m below meth c hx hb hr hlocks hout hml hown hts hsz hP hK hD hE hA ls hl
  have hS : va_S _ s.heap s.heap [] := va_S.rf (A := va_A [(h0, .inr (0, fs))] sz)
  have hl : lv_has ls 2 [(0, .ref h0), (1, .int p0)] := hl
  refine lv_aload_n hx hb (show decode prog_1_method_15_code 0 = .ok (.aload_n 0, 1) by decide +kernel) rfl (lv_at hl 0 rfl) ?_
  refine va_get (D := D) (ci := 0) (v := .int 0) (C := R_SE) (T := F_SE) (N := 14) hx hb hts i_SE hown hK hP 0 rfl rfl 12 (by decide +kernel) (hts _ w_54) (fun _ h9 => h9) hf12 (show decode prog_1_method_15_code 1 = .ok (.getfield 91, 3) by decide +kernel) ?_
  refine lv_if_ne (tgt := 15) hx hb (show decode prog_1_method_15_code 4 = .ok (.ifCond .ne 11, 3) by decide +kernel) (by decide +kernel) (fun c_1 => absurd c_1 (by decide +kernel)) (fun c_1 => ?_)
  refine W.widen (k := 0) (n := 0) (by decide +kernel) (by decide +kernel) ?_
  exact xc_raise (own := "SignalEngine") (cls := "java/lang/IllegalStateException") (names := ex_up) (ia := 140) (ic := 142) hx hb hlt hown (by decide +kernel) (by decide +kernel) (fun w h => xn_at (exA_SignalEngine_142 w h) hts hE.1) exA_SignalEngine_142_two (hE.2.1.kept hS.2.1) (hl.1.trans hml.symm) (show decode prog_1_method_15_code 7 = .ok (.new 140, 3) by decide +kernel) (show decode prog_1_method_15_code 10 = .ok (.dup, 1) by decide +kernel) (show decode prog_1_method_15_code 11 = .ok (.invokespecial 142, 3) by decide +kernel) (show decode prog_1_method_15_code 14 = .ok (.athrow, 1) by decide +kernel) (fun x h => hout x h _) (Nat.le_of_ble_eq_true rfl) (Nat.le_of_ble_eq_true rfl) (Nat.le_of_ble_eq_true rfl) (Nat.le_of_ble_eq_true rfl) hS.2.2 (fun t hz hk hob hW => xc_fin (x := s.heap.size) hP hK hD hS hz hk hob hW) hlocks
set_option maxHeartbeats 4000000 in
set_option maxRecDepth 100000 in
/-- SignalEngine.explore -/
theorem c_SE_explore0 (l : Launch) (hlt : l.stackTraces = false) (D : va_G) (ad : Nat → Nat) (de sz : Nat) (h0 : Nat) (fs : List Value) (hfl : fs.length = 14) (hf3 : xfa fs 3 (.null))   : xc_Met l ⟨"SignalEngine", "explore", "()I"⟩ (tw ⟨"SignalEngine", "explore", "()I"⟩ prog_1_method_16_code 1 (some (.int))) { frames := 6, cells := 1, slots := 6, locals := 90 } (va_Pc [.ref h0] (xp ad de D [(h0, .inr (0, fs))] [] sz)) (xc_Q "java/lang/IllegalStateException" (fun (_ : Unit) => True) (fun (_ : Unit) t => xq D (va_A [(h0, .inr (0, fs))] sz) [(h0, .inr (0, fs))] [] t) (va_A [(h0, .inr (0, fs))] sz)) 1 6 (va_A [(h0, .inr (0, fs))] sz) := by
  refine xMetT (by decide +kernel) (Nat.le_of_ble_eq_true rfl) ?_
  intro p e s m below meth c hx hb hr hlocks hout hml hown hts hsz hP hK hD hE hA ls hl
  have hS : va_S _ s.heap s.heap [] := va_S.rf (A := va_A [(h0, .inr (0, fs))] sz)
  have hl : lv_has ls 1 [(0, .ref h0)] := hl
  refine lv_aload_n hx hb (show decode prog_1_method_16_code 0 = .ok (.aload_n 0, 1) by decide +kernel) rfl (lv_at hl 0 rfl) ?_
  refine va_get (D := D) (ci := 0) (v := .null) (C := R_SE) (T := F_SE) (N := 14) hx hb hts i_SE hown hK hP 0 rfl rfl 3 (by decide +kernel) (hts _ w_45) (fun _ h9 => h9) hf3 (show decode prog_1_method_16_code 1 = .ok (.getfield 52, 3) by decide +kernel) ?_
  refine lv_ifnonnullN hx hb (show decode prog_1_method_16_code 4 = .ok (.ifnonnull 11, 3) by decide +kernel) ?_
  refine W.widen (k := 0) (n := 0) (by decide +kernel) (by decide +kernel) ?_
  exact xc_raise (own := "SignalEngine") (cls := "java/lang/IllegalStateException") (names := ex_up) (ia := 140) (ic := 142) hx hb hlt hown (by decide +kernel) (by decide +kernel) (fun w h => xn_at (exA_SignalEngine_142 w h) hts hE.1) exA_SignalEngine_142_two (hE.2.1.kept hS.2.1) (hl.1.trans hml.symm) (show decode prog_1_method_16_code 7 = .ok (.new 140, 3) by decide +kernel) (show decode prog_1_method_16_code 10 = .ok (.dup, 1) by decide +kernel) (show decode prog_1_method_16_code 11 = .ok (.invokespecial 142, 3) by decide +kernel) (show decode prog_1_method_16_code 14 = .ok (.athrow, 1) by decide +kernel) (fun x h => hout x h _) (Nat.le_of_ble_eq_true rfl) (Nat.le_of_ble_eq_true rfl) (Nat.le_of_ble_eq_true rfl) (Nat.le_of_ble_eq_true rfl) hS.2.2 (fun t hz hk hob hW => xc_fin (x := s.heap.size) hP hK hD hS hz hk hob hW) hlocks
set_option maxHeartbeats 4000000 in
set_option maxRecDepth 100000 in
/-- SignalEngine.next -/
theorem c_SE_next0 (l : Launch) (hlt : l.stackTraces = false) (D : va_G) (ad : Nat → Nat) (de sz : Nat) (h0 : Nat) (fs : List Value) (hfl : fs.length = 14) (hf12 : xfa fs 12 (.int 0))  (p0 : Int32) (p1 : Int32) : xc_Met l ⟨"SignalEngine", "next", "(II)I"⟩ (tw ⟨"SignalEngine", "next", "(II)I"⟩ prog_1_method_19_code 3 (some (.int))) { frames := 6, cells := 1, slots := 6, locals := 90 } (va_Pc [.ref h0, .int p0, .int p1] (xp ad de D [(h0, .inr (0, fs))] [] sz)) (xc_Q "java/lang/IllegalStateException" (fun (_ : Unit) => True) (fun (_ : Unit) t => xq D (va_A [(h0, .inr (0, fs))] sz) [(h0, .inr (0, fs))] [] t) (va_A [(h0, .inr (0, fs))] sz)) 1 6 (va_A [(h0, .inr (0, fs))] sz) := by
  refine xMetT (by decide +kernel) (Nat.le_of_ble_eq_true rfl) ?_
  intro p e s m below meth c hx hb hr hlocks hout hml hown hts hsz hP hK hD hE hA ls hl
  have hS : va_S _ s.heap s.heap [] := va_S.rf (A := va_A [(h0, .inr (0, fs))] sz)
  have hl : lv_has ls 3 [(0, .ref h0), (1, .int p0), (2, .int p1)] := hl
  refine lv_aload_n hx hb (show decode prog_1_method_19_code 0 = .ok (.aload_n 0, 1) by decide +kernel) rfl (lv_at hl 0 rfl) ?_
  refine va_get (D := D) (ci := 0) (v := .int 0) (C := R_SE) (T := F_SE) (N := 14) hx hb hts i_SE hown hK hP 0 rfl rfl 12 (by decide +kernel) (hts _ w_54) (fun _ h9 => h9) hf12 (show decode prog_1_method_19_code 1 = .ok (.getfield 91, 3) by decide +kernel) ?_
  refine lv_if_ne (tgt := 15) hx hb (show decode prog_1_method_19_code 4 = .ok (.ifCond .ne 11, 3) by decide +kernel) (by decide +kernel) (fun c_1 => absurd c_1 (by decide +kernel)) (fun c_1 => ?_)
  refine W.widen (k := 0) (n := 0) (by decide +kernel) (by decide +kernel) ?_
  exact xc_raise (own := "SignalEngine") (cls := "java/lang/IllegalStateException") (names := ex_up) (ia := 140) (ic := 142) hx hb hlt hown (by decide +kernel) (by decide +kernel) (fun w h => xn_at (exA_SignalEngine_142 w h) hts hE.1) exA_SignalEngine_142_two (hE.2.1.kept hS.2.1) (hl.1.trans hml.symm) (show decode prog_1_method_19_code 7 = .ok (.new 140, 3) by decide +kernel) (show decode prog_1_method_19_code 10 = .ok (.dup, 1) by decide +kernel) (show decode prog_1_method_19_code 11 = .ok (.invokespecial 142, 3) by decide +kernel) (show decode prog_1_method_19_code 14 = .ok (.athrow, 1) by decide +kernel) (fun x h => hout x h _) (Nat.le_of_ble_eq_true rfl) (Nat.le_of_ble_eq_true rfl) (Nat.le_of_ble_eq_true rfl) (Nat.le_of_ble_eq_true rfl) hS.2.2 (fun t hz hk hob hW => xc_fin (x := s.heap.size) hP hK hD hS hz hk hob hW) hlocks
set_option maxHeartbeats 4000000 in
set_option maxRecDepth 100000 in
/-- SignalEngine.shows -/
theorem c_SE_shows0 (l : Launch) (hlt : l.stackTraces = false) (D : va_G) (ad : Nat → Nat) (de sz : Nat) (h0 : Nat) (fs : List Value) (hfl : fs.length = 14) (hf12 : xfa fs 12 (.int 0))  (p0 : Int32) (p1 : Int32) : xc_Met l ⟨"SignalEngine", "shows", "(II)I"⟩ (tw ⟨"SignalEngine", "shows", "(II)I"⟩ prog_1_method_20_code 3 (some (.int))) { frames := 6, cells := 1, slots := 6, locals := 90 } (va_Pc [.ref h0, .int p0, .int p1] (xp ad de D [(h0, .inr (0, fs))] [] sz)) (xc_Q "java/lang/IllegalStateException" (fun (_ : Unit) => True) (fun (_ : Unit) t => xq D (va_A [(h0, .inr (0, fs))] sz) [(h0, .inr (0, fs))] [] t) (va_A [(h0, .inr (0, fs))] sz)) 1 6 (va_A [(h0, .inr (0, fs))] sz) := by
  refine xMetT (by decide +kernel) (Nat.le_of_ble_eq_true rfl) ?_
  intro p e s m below meth c hx hb hr hlocks hout hml hown hts hsz hP hK hD hE hA ls hl
  have hS : va_S _ s.heap s.heap [] := va_S.rf (A := va_A [(h0, .inr (0, fs))] sz)
  have hl : lv_has ls 3 [(0, .ref h0), (1, .int p0), (2, .int p1)] := hl
  refine lv_aload_n hx hb (show decode prog_1_method_20_code 0 = .ok (.aload_n 0, 1) by decide +kernel) rfl (lv_at hl 0 rfl) ?_
  refine va_get (D := D) (ci := 0) (v := .int 0) (C := R_SE) (T := F_SE) (N := 14) hx hb hts i_SE hown hK hP 0 rfl rfl 12 (by decide +kernel) (hts _ w_54) (fun _ h9 => h9) hf12 (show decode prog_1_method_20_code 1 = .ok (.getfield 91, 3) by decide +kernel) ?_
  refine lv_if_ne (tgt := 15) hx hb (show decode prog_1_method_20_code 4 = .ok (.ifCond .ne 11, 3) by decide +kernel) (by decide +kernel) (fun c_1 => absurd c_1 (by decide +kernel)) (fun c_1 => ?_)
  refine W.widen (k := 0) (n := 0) (by decide +kernel) (by decide +kernel) ?_
  exact xc_raise (own := "SignalEngine") (cls := "java/lang/IllegalStateException") (names := ex_up) (ia := 140) (ic := 142) hx hb hlt hown (by decide +kernel) (by decide +kernel) (fun w h => xn_at (exA_SignalEngine_142 w h) hts hE.1) exA_SignalEngine_142_two (hE.2.1.kept hS.2.1) (hl.1.trans hml.symm) (show decode prog_1_method_20_code 7 = .ok (.new 140, 3) by decide +kernel) (show decode prog_1_method_20_code 10 = .ok (.dup, 1) by decide +kernel) (show decode prog_1_method_20_code 11 = .ok (.invokespecial 142, 3) by decide +kernel) (show decode prog_1_method_20_code 14 = .ok (.athrow, 1) by decide +kernel) (fun x h => hout x h _) (Nat.le_of_ble_eq_true rfl) (Nat.le_of_ble_eq_true rfl) (Nat.le_of_ble_eq_true rfl) (Nat.le_of_ble_eq_true rfl) hS.2.2 (fun t hz hk hob hW => xc_fin (x := s.heap.size) hP hK hD hS hz hk hob hW) hlocks
set_option maxHeartbeats 4000000 in
set_option maxRecDepth 100000 in
/-- SignalEngine.classes -/
theorem c_SE_classes0 (l : Launch) (hlt : l.stackTraces = false) (D : va_G) (ad : Nat → Nat) (de sz : Nat) (h0 : Nat) (fs : List Value) (hfl : fs.length = 14) (hf12 : xfa fs 12 (.int 0))   : xc_Met l ⟨"SignalEngine", "classes", "()I"⟩ (tw ⟨"SignalEngine", "classes", "()I"⟩ prog_1_method_24_code 1 (some (.int))) { frames := 6, cells := 1, slots := 6, locals := 90 } (va_Pc [.ref h0] (xp ad de D [(h0, .inr (0, fs))] [] sz)) (xc_Q "java/lang/IllegalStateException" (fun (_ : Unit) => True) (fun (_ : Unit) t => xq D (va_A [(h0, .inr (0, fs))] sz) [(h0, .inr (0, fs))] [] t) (va_A [(h0, .inr (0, fs))] sz)) 1 6 (va_A [(h0, .inr (0, fs))] sz) := by
  refine xMetT (by decide +kernel) (Nat.le_of_ble_eq_true rfl) ?_
  intro p e s m below meth c hx hb hr hlocks hout hml hown hts hsz hP hK hD hE hA ls hl
  have hS : va_S _ s.heap s.heap [] := va_S.rf (A := va_A [(h0, .inr (0, fs))] sz)
  have hl : lv_has ls 1 [(0, .ref h0)] := hl
  refine lv_aload_n hx hb (show decode prog_1_method_24_code 0 = .ok (.aload_n 0, 1) by decide +kernel) rfl (lv_at hl 0 rfl) ?_
  refine va_get (D := D) (ci := 0) (v := .int 0) (C := R_SE) (T := F_SE) (N := 14) hx hb hts i_SE hown hK hP 0 rfl rfl 12 (by decide +kernel) (hts _ w_54) (fun _ h9 => h9) hf12 (show decode prog_1_method_24_code 1 = .ok (.getfield 91, 3) by decide +kernel) ?_
  refine lv_if_ne (tgt := 15) hx hb (show decode prog_1_method_24_code 4 = .ok (.ifCond .ne 11, 3) by decide +kernel) (by decide +kernel) (fun c_1 => absurd c_1 (by decide +kernel)) (fun c_1 => ?_)
  refine W.widen (k := 0) (n := 0) (by decide +kernel) (by decide +kernel) ?_
  exact xc_raise (own := "SignalEngine") (cls := "java/lang/IllegalStateException") (names := ex_up) (ia := 140) (ic := 142) hx hb hlt hown (by decide +kernel) (by decide +kernel) (fun w h => xn_at (exA_SignalEngine_142 w h) hts hE.1) exA_SignalEngine_142_two (hE.2.1.kept hS.2.1) (hl.1.trans hml.symm) (show decode prog_1_method_24_code 7 = .ok (.new 140, 3) by decide +kernel) (show decode prog_1_method_24_code 10 = .ok (.dup, 1) by decide +kernel) (show decode prog_1_method_24_code 11 = .ok (.invokespecial 142, 3) by decide +kernel) (show decode prog_1_method_24_code 14 = .ok (.athrow, 1) by decide +kernel) (fun x h => hout x h _) (Nat.le_of_ble_eq_true rfl) (Nat.le_of_ble_eq_true rfl) (Nat.le_of_ble_eq_true rfl) (Nat.le_of_ble_eq_true rfl) hS.2.2 (fun t hz hk hob hW => xc_fin (x := s.heap.size) hP hK hD hS hz hk hob hW) hlocks
set_option maxHeartbeats 4000000 in
set_option maxRecDepth 100000 in
/-- SignalEngine.lay -/
theorem c_SE_lay0 (l : Launch) (hlt : l.stackTraces = false) (D : va_G) (ad : Nat → Nat) (de sz : Nat) (h0 : Nat) (fs : List Value) (hfl : fs.length = 14) (hf12 : xfa fs 12 (.int 0))   : xc_Met l ⟨"SignalEngine", "lay", "()I"⟩ (tw ⟨"SignalEngine", "lay", "()I"⟩ prog_1_method_26_code 1 (some (.int))) { frames := 6, cells := 1, slots := 6, locals := 90 } (va_Pc [.ref h0] (xp ad de D [(h0, .inr (0, fs))] [] sz)) (xc_Q "java/lang/IllegalStateException" (fun (_ : Unit) => True) (fun (_ : Unit) t => xq D (va_A [(h0, .inr (0, fs))] sz) [(h0, .inr (0, fs))] [] t) (va_A [(h0, .inr (0, fs))] sz)) 1 6 (va_A [(h0, .inr (0, fs))] sz) := by
  refine xMetT (by decide +kernel) (Nat.le_of_ble_eq_true rfl) ?_
  intro p e s m below meth c hx hb hr hlocks hout hml hown hts hsz hP hK hD hE hA ls hl
  have hS : va_S _ s.heap s.heap [] := va_S.rf (A := va_A [(h0, .inr (0, fs))] sz)
  have hl : lv_has ls 1 [(0, .ref h0)] := hl
  refine lv_aload_n hx hb (show decode prog_1_method_26_code 0 = .ok (.aload_n 0, 1) by decide +kernel) rfl (lv_at hl 0 rfl) ?_
  refine va_get (D := D) (ci := 0) (v := .int 0) (C := R_SE) (T := F_SE) (N := 14) hx hb hts i_SE hown hK hP 0 rfl rfl 12 (by decide +kernel) (hts _ w_54) (fun _ h9 => h9) hf12 (show decode prog_1_method_26_code 1 = .ok (.getfield 91, 3) by decide +kernel) ?_
  refine lv_if_ne (tgt := 15) hx hb (show decode prog_1_method_26_code 4 = .ok (.ifCond .ne 11, 3) by decide +kernel) (by decide +kernel) (fun c_1 => absurd c_1 (by decide +kernel)) (fun c_1 => ?_)
  refine W.widen (k := 0) (n := 0) (by decide +kernel) (by decide +kernel) ?_
  exact xc_raise (own := "SignalEngine") (cls := "java/lang/IllegalStateException") (names := ex_up) (ia := 140) (ic := 142) hx hb hlt hown (by decide +kernel) (by decide +kernel) (fun w h => xn_at (exA_SignalEngine_142 w h) hts hE.1) exA_SignalEngine_142_two (hE.2.1.kept hS.2.1) (hl.1.trans hml.symm) (show decode prog_1_method_26_code 7 = .ok (.new 140, 3) by decide +kernel) (show decode prog_1_method_26_code 10 = .ok (.dup, 1) by decide +kernel) (show decode prog_1_method_26_code 11 = .ok (.invokespecial 142, 3) by decide +kernel) (show decode prog_1_method_26_code 14 = .ok (.athrow, 1) by decide +kernel) (fun x h => hout x h _) (Nat.le_of_ble_eq_true rfl) (Nat.le_of_ble_eq_true rfl) (Nat.le_of_ble_eq_true rfl) (Nat.le_of_ble_eq_true rfl) hS.2.2 (fun t hz hk hob hW => xc_fin (x := s.heap.size) hP hK hD hS hz hk hob hW) hlocks
set_option maxHeartbeats 4000000 in
set_option maxRecDepth 100000 in
/-- SignalEngine.pass -/
theorem c_SE_pass0 (l : Launch) (hlt : l.stackTraces = false) (D : va_G) (ad : Nat → Nat) (de sz : Nat) (h0 : Nat) (fs : List Value) (hfl : fs.length = 14) (hf13 : xfa fs 13 (.int 0))  (p0 : Int32) : xc_Met l ⟨"SignalEngine", "pass", "(I)J"⟩ (tw ⟨"SignalEngine", "pass", "(I)J"⟩ prog_1_method_27_code 2 (some (.long))) { frames := 6, cells := 1, slots := 6, locals := 90 } (va_Pc [.ref h0, .int p0] (xp ad de D [(h0, .inr (0, fs))] [] sz)) (xc_Q "java/lang/IllegalStateException" (fun (_ : Unit) => True) (fun (_ : Unit) t => xq D (va_A [(h0, .inr (0, fs))] sz) [(h0, .inr (0, fs))] [] t) (va_A [(h0, .inr (0, fs))] sz)) 1 6 (va_A [(h0, .inr (0, fs))] sz) := by
  refine xMetT (by decide +kernel) (Nat.le_of_ble_eq_true rfl) ?_
  intro p e s m below meth c hx hb hr hlocks hout hml hown hts hsz hP hK hD hE hA ls hl
  have hS : va_S _ s.heap s.heap [] := va_S.rf (A := va_A [(h0, .inr (0, fs))] sz)
  have hl : lv_has ls 2 [(0, .ref h0), (1, .int p0)] := hl
  refine lv_aload_n hx hb (show decode prog_1_method_27_code 0 = .ok (.aload_n 0, 1) by decide +kernel) rfl (lv_at hl 0 rfl) ?_
  refine va_get (D := D) (ci := 0) (v := .int 0) (C := R_SE) (T := F_SE) (N := 14) hx hb hts i_SE hown hK hP 0 rfl rfl 13 (by decide +kernel) (hts _ w_55) (fun _ h9 => h9) hf13 (show decode prog_1_method_27_code 1 = .ok (.getfield 94, 3) by decide +kernel) ?_
  refine lv_if_ne (tgt := 15) hx hb (show decode prog_1_method_27_code 4 = .ok (.ifCond .ne 11, 3) by decide +kernel) (by decide +kernel) (fun c_1 => absurd c_1 (by decide +kernel)) (fun c_1 => ?_)
  refine W.widen (k := 0) (n := 0) (by decide +kernel) (by decide +kernel) ?_
  exact xc_raise (own := "SignalEngine") (cls := "java/lang/IllegalStateException") (names := ex_up) (ia := 140) (ic := 142) hx hb hlt hown (by decide +kernel) (by decide +kernel) (fun w h => xn_at (exA_SignalEngine_142 w h) hts hE.1) exA_SignalEngine_142_two (hE.2.1.kept hS.2.1) (hl.1.trans hml.symm) (show decode prog_1_method_27_code 7 = .ok (.new 140, 3) by decide +kernel) (show decode prog_1_method_27_code 10 = .ok (.dup, 1) by decide +kernel) (show decode prog_1_method_27_code 11 = .ok (.invokespecial 142, 3) by decide +kernel) (show decode prog_1_method_27_code 14 = .ok (.athrow, 1) by decide +kernel) (fun x h => hout x h _) (Nat.le_of_ble_eq_true rfl) (Nat.le_of_ble_eq_true rfl) (Nat.le_of_ble_eq_true rfl) (Nat.le_of_ble_eq_true rfl) hS.2.2 (fun t hz hk hob hW => xc_fin (x := s.heap.size) hP hK hD hS hz hk hob hW) hlocks
end
section
set_option maxHeartbeats 4000000 in
set_option maxRecDepth 100000 in
/-- SignalEngine.end -/
theorem c_SE_end0 (l : Launch) (D : va_G) (ad : Nat → Nat) (de sz : Nat) (h0 : Nat) (fs : List Value) (hfl : fs.length = 14) (hf2 : xfa fs 2 (.int 0))  (p0 : Int32) : Met l ⟨"SignalEngine", "end", "(I)I"⟩ (tw ⟨"SignalEngine", "end", "(I)I"⟩ prog_1_method_4_code 2 (some (.int))) { frames := 0, cells := 0, slots := 0, locals := 0 } (va_Pc [.ref h0, .int p0] (xp ad de D [(h0, .inr (0, fs))] [] sz)) (va_Qi (fun (r : Int32) (_ : Unit) => r = (-1)) (fun (_ : Unit) t => xq D (va_A [(h0, .inr (0, fs))] sz) [(h0, .inr (0, fs))] [] t) (va_A [(h0, .inr (0, fs))] sz)) 0 0 (va_A [(h0, .inr (0, fs))] sz) := by
  refine xMet (by decide +kernel) (Nat.le_of_ble_eq_true rfl) ?_
  intro p e s m below meth c hx hb hr hlocks hin hml hown hts hsz hP hK hD hE hA ls hl
  have hS : va_S _ s.heap s.heap [] := va_S.rf (A := va_A [(h0, .inr (0, fs))] sz)
  have hl : lv_has ls 2 [(0, .ref h0), (1, .int p0)] := hl
  refine lv_aload_n hx hb (show decode prog_1_method_4_code 0 = .ok (.aload_n 0, 1) by decide +kernel) rfl (lv_at hl 0 rfl) ?_
  refine va_get (D := D) (ci := 0) (v := .int 0) (C := R_SE) (T := F_SE) (N := 14) hx hb hts i_SE hown hK hP 0 rfl rfl 2 (by decide +kernel) (hts _ w_44) (fun _ h9 => h9) hf2 (show decode prog_1_method_4_code 1 = .ok (.getfield 28, 3) by decide +kernel) ?_
  refine lv_if_eq (tgt := 17) hx hb (show decode prog_1_method_4_code 4 = .ok (.ifCond .eq 13, 3) by decide +kernel) (by decide +kernel) (fun c_1 => ?_) (fun c_1 => absurd c_1 (by decide +kernel))
  refine lv_iconst (v := (-1)) hx hb (show decode prog_1_method_4_code 17 = .ok (.iconst (-1), 1) by decide +kernel) (by decide +kernel) ?_
  exact W.iret (v := (-1)) hx hb hr (fun t ht hW => ⟨⟨(-1), (), rfl, rfl, by rw [ht]; exact hP, va_K.moved hW.alike hK, hD⟩, hS.F ht⟩) hS.2.2 (show decode prog_1_method_4_code 18 = .ok (.ireturn, 1) by decide +kernel)
set_option maxHeartbeats 4000000 in
set_option maxRecDepth 100000 in
/-- SignalEngine.node -/
theorem c_SE_node0 (l : Launch) (D : va_G) (ad : Nat → Nat) (de sz : Nat) (h0 : Nat) (fs : List Value) (hfl : fs.length = 14) (hf3 : xfa fs 3 (.null))  (p0 : Int32) (p1 : Int32) : Met l ⟨"SignalEngine", "node", "(II)I"⟩ (tw ⟨"SignalEngine", "node", "(II)I"⟩ prog_1_method_7_code 3 (some (.int))) { frames := 0, cells := 0, slots := 0, locals := 0 } (va_Pc [.ref h0, .int p0, .int p1] (xp ad de D [(h0, .inr (0, fs))] [] sz)) (va_Qi (fun (r : Int32) (_ : Unit) => r = (-1)) (fun (_ : Unit) t => xq D (va_A [(h0, .inr (0, fs))] sz) [(h0, .inr (0, fs))] [] t) (va_A [(h0, .inr (0, fs))] sz)) 0 0 (va_A [(h0, .inr (0, fs))] sz) := by
  refine xMet (by decide +kernel) (Nat.le_of_ble_eq_true rfl) ?_
  intro p e s m below meth c hx hb hr hlocks hin hml hown hts hsz hP hK hD hE hA ls hl
  have hS : va_S _ s.heap s.heap [] := va_S.rf (A := va_A [(h0, .inr (0, fs))] sz)
  have hl : lv_has ls 3 [(0, .ref h0), (1, .int p0), (2, .int p1)] := hl
  refine lv_aload_n hx hb (show decode prog_1_method_7_code 0 = .ok (.aload_n 0, 1) by decide +kernel) rfl (lv_at hl 0 rfl) ?_
  refine va_get (D := D) (ci := 0) (v := .null) (C := R_SE) (T := F_SE) (N := 14) hx hb hts i_SE hown hK hP 0 rfl rfl 3 (by decide +kernel) (hts _ w_45) (fun _ h9 => h9) hf3 (show decode prog_1_method_7_code 1 = .ok (.getfield 52, 3) by decide +kernel) ?_
  refine lv_ifnullN (tgt := 23) hx hb (show decode prog_1_method_7_code 4 = .ok (.ifnull 19, 3) by decide +kernel) (by decide +kernel) ?_
  refine lv_iconst (v := (-1)) hx hb (show decode prog_1_method_7_code 23 = .ok (.iconst (-1), 1) by decide +kernel) (by decide +kernel) ?_
  exact W.iret (v := (-1)) hx hb hr (fun t ht hW => ⟨⟨(-1), (), rfl, rfl, by rw [ht]; exact hP, va_K.moved hW.alike hK, hD⟩, hS.F ht⟩) hS.2.2 (show decode prog_1_method_7_code 24 = .ok (.ireturn, 1) by decide +kernel)
set_option maxHeartbeats 4000000 in
set_option maxRecDepth 100000 in
/-- SignalEngine.piece -/
theorem c_SE_piece0 (l : Launch) (D : va_G) (ad : Nat → Nat) (de sz : Nat) (h0 : Nat) (fs : List Value) (hfl : fs.length = 14) (hf3 : xfa fs 3 (.null))  (p0 : Int32) (p1 : Int32) : Met l ⟨"SignalEngine", "piece", "(II)I"⟩ (tw ⟨"SignalEngine", "piece", "(II)I"⟩ prog_1_method_8_code 3 (some (.int))) { frames := 0, cells := 0, slots := 0, locals := 0 } (va_Pc [.ref h0, .int p0, .int p1] (xp ad de D [(h0, .inr (0, fs))] [] sz)) (va_Qi (fun (r : Int32) (_ : Unit) => r = (-1)) (fun (_ : Unit) t => xq D (va_A [(h0, .inr (0, fs))] sz) [(h0, .inr (0, fs))] [] t) (va_A [(h0, .inr (0, fs))] sz)) 0 0 (va_A [(h0, .inr (0, fs))] sz) := by
  refine xMet (by decide +kernel) (Nat.le_of_ble_eq_true rfl) ?_
  intro p e s m below meth c hx hb hr hlocks hin hml hown hts hsz hP hK hD hE hA ls hl
  have hS : va_S _ s.heap s.heap [] := va_S.rf (A := va_A [(h0, .inr (0, fs))] sz)
  have hl : lv_has ls 3 [(0, .ref h0), (1, .int p0), (2, .int p1)] := hl
  refine lv_aload_n hx hb (show decode prog_1_method_8_code 0 = .ok (.aload_n 0, 1) by decide +kernel) rfl (lv_at hl 0 rfl) ?_
  refine va_get (D := D) (ci := 0) (v := .null) (C := R_SE) (T := F_SE) (N := 14) hx hb hts i_SE hown hK hP 0 rfl rfl 3 (by decide +kernel) (hts _ w_45) (fun _ h9 => h9) hf3 (show decode prog_1_method_8_code 1 = .ok (.getfield 52, 3) by decide +kernel) ?_
  refine lv_ifnullN (tgt := 25) hx hb (show decode prog_1_method_8_code 4 = .ok (.ifnull 21, 3) by decide +kernel) (by decide +kernel) ?_
  refine lv_iconst (v := (-1)) hx hb (show decode prog_1_method_8_code 25 = .ok (.iconst (-1), 1) by decide +kernel) (by decide +kernel) ?_
  exact W.iret (v := (-1)) hx hb hr (fun t ht hW => ⟨⟨(-1), (), rfl, rfl, by rw [ht]; exact hP, va_K.moved hW.alike hK, hD⟩, hS.F ht⟩) hS.2.2 (show decode prog_1_method_8_code 26 = .ok (.ireturn, 1) by decide +kernel)
set_option maxHeartbeats 4000000 in
set_option maxRecDepth 100000 in
/-- SignalEngine.letter -/
theorem c_SE_letter0 (l : Launch) (D : va_G) (ad : Nat → Nat) (de sz : Nat) (h0 : Nat) (fs : List Value) (hfl : fs.length = 14) (hf3 : xfa fs 3 (.null))  (p0 : Int32) (p1 : Int32) : Met l ⟨"SignalEngine", "letter", "(II)I"⟩ (tw ⟨"SignalEngine", "letter", "(II)I"⟩ prog_1_method_9_code 3 (some (.int))) { frames := 0, cells := 0, slots := 0, locals := 0 } (va_Pc [.ref h0, .int p0, .int p1] (xp ad de D [(h0, .inr (0, fs))] [] sz)) (va_Qi (fun (r : Int32) (_ : Unit) => r = (-1)) (fun (_ : Unit) t => xq D (va_A [(h0, .inr (0, fs))] sz) [(h0, .inr (0, fs))] [] t) (va_A [(h0, .inr (0, fs))] sz)) 0 0 (va_A [(h0, .inr (0, fs))] sz) := by
  refine xMet (by decide +kernel) (Nat.le_of_ble_eq_true rfl) ?_
  intro p e s m below meth c hx hb hr hlocks hin hml hown hts hsz hP hK hD hE hA ls hl
  have hS : va_S _ s.heap s.heap [] := va_S.rf (A := va_A [(h0, .inr (0, fs))] sz)
  have hl : lv_has ls 3 [(0, .ref h0), (1, .int p0), (2, .int p1)] := hl
  refine lv_aload_n hx hb (show decode prog_1_method_9_code 0 = .ok (.aload_n 0, 1) by decide +kernel) rfl (lv_at hl 0 rfl) ?_
  refine va_get (D := D) (ci := 0) (v := .null) (C := R_SE) (T := F_SE) (N := 14) hx hb hts i_SE hown hK hP 0 rfl rfl 3 (by decide +kernel) (hts _ w_45) (fun _ h9 => h9) hf3 (show decode prog_1_method_9_code 1 = .ok (.getfield 52, 3) by decide +kernel) ?_
  refine lv_ifnonnullN hx hb (show decode prog_1_method_9_code 4 = .ok (.ifnonnull 5, 3) by decide +kernel) ?_
  refine lv_iconst (v := (-1)) hx hb (show decode prog_1_method_9_code 7 = .ok (.iconst (-1), 1) by decide +kernel) (by decide +kernel) ?_
  exact W.iret (v := (-1)) hx hb hr (fun t ht hW => ⟨⟨(-1), (), rfl, rfl, by rw [ht]; exact hP, va_K.moved hW.alike hK, hD⟩, hS.F ht⟩) hS.2.2 (show decode prog_1_method_9_code 8 = .ok (.ireturn, 1) by decide +kernel)
set_option maxHeartbeats 4000000 in
set_option maxRecDepth 100000 in
/-- SignalEngine.status -/
theorem c_SE_status0 (l : Launch) (D : va_G) (ad : Nat → Nat) (de sz : Nat) (h0 : Nat) (fs : List Value) (hfl : fs.length = 14) (hf8 : xfa fs 8 (.null))  (p0 : Int32) : Met l ⟨"SignalEngine", "status", "(I)I"⟩ (tw ⟨"SignalEngine", "status", "(I)I"⟩ prog_1_method_13_code 2 (some (.int))) { frames := 0, cells := 0, slots := 0, locals := 0 } (va_Pc [.ref h0, .int p0] (xp ad de D [(h0, .inr (0, fs))] [] sz)) (va_Qi (fun (r : Int32) (_ : Unit) => r = 0) (fun (_ : Unit) t => xq D (va_A [(h0, .inr (0, fs))] sz) [(h0, .inr (0, fs))] [] t) (va_A [(h0, .inr (0, fs))] sz)) 0 0 (va_A [(h0, .inr (0, fs))] sz) := by
  refine xMet (by decide +kernel) (Nat.le_of_ble_eq_true rfl) ?_
  intro p e s m below meth c hx hb hr hlocks hin hml hown hts hsz hP hK hD hE hA ls hl
  have hS : va_S _ s.heap s.heap [] := va_S.rf (A := va_A [(h0, .inr (0, fs))] sz)
  have hl : lv_has ls 2 [(0, .ref h0), (1, .int p0)] := hl
  refine lv_aload_n hx hb (show decode prog_1_method_13_code 0 = .ok (.aload_n 0, 1) by decide +kernel) rfl (lv_at hl 0 rfl) ?_
  refine va_get (D := D) (ci := 0) (v := .null) (C := R_SE) (T := F_SE) (N := 14) hx hb hts i_SE hown hK hP 0 rfl rfl 8 (by decide +kernel) (hts _ w_50) (fun _ h9 => h9) hf8 (show decode prog_1_method_13_code 1 = .ok (.getfield 78, 3) by decide +kernel) ?_
  refine lv_ifnullN (tgt := 20) hx hb (show decode prog_1_method_13_code 4 = .ok (.ifnull 16, 3) by decide +kernel) (by decide +kernel) ?_
  refine lv_iconst (v := 0) hx hb (show decode prog_1_method_13_code 20 = .ok (.iconst 0, 1) by decide +kernel) (by decide +kernel) ?_
  refine lv_goto (tgt := 30) hx hb (show decode prog_1_method_13_code 21 = .ok (.goto 9, 3) by decide +kernel) (by decide +kernel) ?_
  exact W.iret (v := 0) hx hb hr (fun t ht hW => ⟨⟨0, (), rfl, rfl, by rw [ht]; exact hP, va_K.moved hW.alike hK, hD⟩, hS.F ht⟩) hS.2.2 (show decode prog_1_method_13_code 30 = .ok (.ireturn, 1) by decide +kernel)
set_option maxHeartbeats 4000000 in
set_option maxRecDepth 100000 in
/-- SignalEngine.selected -/
theorem c_SE_selected0 (l : Launch) (D : va_G) (ad : Nat → Nat) (de sz : Nat) (h0 : Nat) (fs : List Value) (hfl : fs.length = 14) (hf7 : xfa fs 7 (.null))  (p0 : Int32) : Met l ⟨"SignalEngine", "selected", "(I)Z"⟩ (tw ⟨"SignalEngine", "selected", "(I)Z"⟩ prog_1_method_14_code 2 (some (.boolean))) { frames := 0, cells := 0, slots := 0, locals := 0 } (va_Pc [.ref h0, .int p0] (xp ad de D [(h0, .inr (0, fs))] [] sz)) (va_Qi (fun (r : Int32) (_ : Unit) => r = 0) (fun (_ : Unit) t => xq D (va_A [(h0, .inr (0, fs))] sz) [(h0, .inr (0, fs))] [] t) (va_A [(h0, .inr (0, fs))] sz)) 0 0 (va_A [(h0, .inr (0, fs))] sz) := by
  refine xMet (by decide +kernel) (Nat.le_of_ble_eq_true rfl) ?_
  intro p e s m below meth c hx hb hr hlocks hin hml hown hts hsz hP hK hD hE hA ls hl
  have hS : va_S _ s.heap s.heap [] := va_S.rf (A := va_A [(h0, .inr (0, fs))] sz)
  have hl : lv_has ls 2 [(0, .ref h0), (1, .int p0)] := hl
  refine lv_aload_n hx hb (show decode prog_1_method_14_code 0 = .ok (.aload_n 0, 1) by decide +kernel) rfl (lv_at hl 0 rfl) ?_
  refine va_get (D := D) (ci := 0) (v := .null) (C := R_SE) (T := F_SE) (N := 14) hx hb hts i_SE hown hK hP 0 rfl rfl 7 (by decide +kernel) (hts _ w_49) (fun _ h9 => h9) hf7 (show decode prog_1_method_14_code 1 = .ok (.getfield 68, 3) by decide +kernel) ?_
  refine lv_ifnullN (tgt := 40) hx hb (show decode prog_1_method_14_code 4 = .ok (.ifnull 36, 3) by decide +kernel) (by decide +kernel) ?_
  refine lv_iconst (v := 0) hx hb (show decode prog_1_method_14_code 40 = .ok (.iconst 0, 1) by decide +kernel) (by decide +kernel) ?_
  exact W.zret (v := 0) hx hb hr (by decide +kernel) (fun t ht hW => ⟨⟨0, (), rfl, rfl, by rw [ht]; exact hP, va_K.moved hW.alike hK, hD⟩, hS.F ht⟩) hS.2.2 (show decode prog_1_method_14_code 41 = .ok (.ireturn, 1) by decide +kernel)
set_option maxHeartbeats 4000000 in
set_option maxRecDepth 100000 in
/-- SignalEngine.distance -/
theorem c_SE_distance0 (l : Launch) (D : va_G) (ad : Nat → Nat) (de sz : Nat) (h0 : Nat) (fs : List Value) (hfl : fs.length = 14) (hf12 : xfa fs 12 (.int 0))  (p0 : Int32) : Met l ⟨"SignalEngine", "distance", "(I)I"⟩ (tw ⟨"SignalEngine", "distance", "(I)I"⟩ prog_1_method_17_code 2 (some (.int))) { frames := 0, cells := 0, slots := 0, locals := 0 } (va_Pc [.ref h0, .int p0] (xp ad de D [(h0, .inr (0, fs))] [] sz)) (va_Qi (fun (r : Int32) (_ : Unit) => r = (-1)) (fun (_ : Unit) t => xq D (va_A [(h0, .inr (0, fs))] sz) [(h0, .inr (0, fs))] [] t) (va_A [(h0, .inr (0, fs))] sz)) 0 0 (va_A [(h0, .inr (0, fs))] sz) := by
  refine xMet (by decide +kernel) (Nat.le_of_ble_eq_true rfl) ?_
  intro p e s m below meth c hx hb hr hlocks hin hml hown hts hsz hP hK hD hE hA ls hl
  have hS : va_S _ s.heap s.heap [] := va_S.rf (A := va_A [(h0, .inr (0, fs))] sz)
  have hl : lv_has ls 2 [(0, .ref h0), (1, .int p0)] := hl
  refine lv_aload_n hx hb (show decode prog_1_method_17_code 0 = .ok (.aload_n 0, 1) by decide +kernel) rfl (lv_at hl 0 rfl) ?_
  refine va_get (D := D) (ci := 0) (v := .int 0) (C := R_SE) (T := F_SE) (N := 14) hx hb hts i_SE hown hK hP 0 rfl rfl 12 (by decide +kernel) (hts _ w_54) (fun _ h9 => h9) hf12 (show decode prog_1_method_17_code 1 = .ok (.getfield 91, 3) by decide +kernel) ?_
  refine lv_if_eq (tgt := 30) hx hb (show decode prog_1_method_17_code 4 = .ok (.ifCond .eq 26, 3) by decide +kernel) (by decide +kernel) (fun c_1 => ?_) (fun c_1 => absurd c_1 (by decide +kernel))
  refine lv_iconst (v := (-1)) hx hb (show decode prog_1_method_17_code 30 = .ok (.iconst (-1), 1) by decide +kernel) (by decide +kernel) ?_
  exact W.iret (v := (-1)) hx hb hr (fun t ht hW => ⟨⟨(-1), (), rfl, rfl, by rw [ht]; exact hP, va_K.moved hW.alike hK, hD⟩, hS.F ht⟩) hS.2.2 (show decode prog_1_method_17_code 31 = .ok (.ireturn, 1) by decide +kernel)
set_option maxHeartbeats 4000000 in
set_option maxRecDepth 100000 in
/-- SignalEngine.path -/
theorem c_SE_path0 (l : Launch) (D : va_G) (ad : Nat → Nat) (de sz : Nat) (h0 : Nat) (fs : List Value) (hfl : fs.length = 14) (hf12 : xfa fs 12 (.int 0))  (p0 : Int32) (p1 : Int32) : Met l ⟨"SignalEngine", "path", "(II)I"⟩ (tw ⟨"SignalEngine", "path", "(II)I"⟩ prog_1_method_18_code 3 (some (.int))) { frames := 0, cells := 0, slots := 0, locals := 0 } (va_Pc [.ref h0, .int p0, .int p1] (xp ad de D [(h0, .inr (0, fs))] [] sz)) (va_Qi (fun (r : Int32) (_ : Unit) => r = (-1)) (fun (_ : Unit) t => xq D (va_A [(h0, .inr (0, fs))] sz) [(h0, .inr (0, fs))] [] t) (va_A [(h0, .inr (0, fs))] sz)) 0 0 (va_A [(h0, .inr (0, fs))] sz) := by
  refine xMet (by decide +kernel) (Nat.le_of_ble_eq_true rfl) ?_
  intro p e s m below meth c hx hb hr hlocks hin hml hown hts hsz hP hK hD hE hA ls hl
  have hS : va_S _ s.heap s.heap [] := va_S.rf (A := va_A [(h0, .inr (0, fs))] sz)
  have hl : lv_has ls 3 [(0, .ref h0), (1, .int p0), (2, .int p1)] := hl
  refine lv_aload_n hx hb (show decode prog_1_method_18_code 0 = .ok (.aload_n 0, 1) by decide +kernel) rfl (lv_at hl 0 rfl) ?_
  refine va_get (D := D) (ci := 0) (v := .int 0) (C := R_SE) (T := F_SE) (N := 14) hx hb hts i_SE hown hK hP 0 rfl rfl 12 (by decide +kernel) (hts _ w_54) (fun _ h9 => h9) hf12 (show decode prog_1_method_18_code 1 = .ok (.getfield 91, 3) by decide +kernel) ?_
  refine lv_if_eq (tgt := 30) hx hb (show decode prog_1_method_18_code 4 = .ok (.ifCond .eq 26, 3) by decide +kernel) (by decide +kernel) (fun c_1 => ?_) (fun c_1 => absurd c_1 (by decide +kernel))
  refine lv_iconst (v := (-1)) hx hb (show decode prog_1_method_18_code 30 = .ok (.iconst (-1), 1) by decide +kernel) (by decide +kernel) ?_
  exact W.iret (v := (-1)) hx hb hr (fun t ht hW => ⟨⟨(-1), (), rfl, rfl, by rw [ht]; exact hP, va_K.moved hW.alike hK, hD⟩, hS.F ht⟩) hS.2.2 (show decode prog_1_method_18_code 31 = .ok (.ireturn, 1) by decide +kernel)
set_option maxHeartbeats 4000000 in
set_option maxRecDepth 100000 in
/-- SignalEngine.doubt -/
theorem c_SE_doubt0 (l : Launch) (D : va_G) (ad : Nat → Nat) (de sz : Nat) (h0 : Nat) (fs : List Value) (hfl : fs.length = 14) (hf12 : xfa fs 12 (.int 0))  (p0 : Int32) : Met l ⟨"SignalEngine", "doubt", "(I)I"⟩ (tw ⟨"SignalEngine", "doubt", "(I)I"⟩ prog_1_method_21_code 2 (some (.int))) { frames := 0, cells := 0, slots := 0, locals := 0 } (va_Pc [.ref h0, .int p0] (xp ad de D [(h0, .inr (0, fs))] [] sz)) (va_Qi (fun (r : Int32) (_ : Unit) => r = (-1)) (fun (_ : Unit) t => xq D (va_A [(h0, .inr (0, fs))] sz) [(h0, .inr (0, fs))] [] t) (va_A [(h0, .inr (0, fs))] sz)) 0 0 (va_A [(h0, .inr (0, fs))] sz) := by
  refine xMet (by decide +kernel) (Nat.le_of_ble_eq_true rfl) ?_
  intro p e s m below meth c hx hb hr hlocks hin hml hown hts hsz hP hK hD hE hA ls hl
  have hS : va_S _ s.heap s.heap [] := va_S.rf (A := va_A [(h0, .inr (0, fs))] sz)
  have hl : lv_has ls 2 [(0, .ref h0), (1, .int p0)] := hl
  refine lv_aload_n hx hb (show decode prog_1_method_21_code 0 = .ok (.aload_n 0, 1) by decide +kernel) rfl (lv_at hl 0 rfl) ?_
  refine va_get (D := D) (ci := 0) (v := .int 0) (C := R_SE) (T := F_SE) (N := 14) hx hb hts i_SE hown hK hP 0 rfl rfl 12 (by decide +kernel) (hts _ w_54) (fun _ h9 => h9) hf12 (show decode prog_1_method_21_code 1 = .ok (.getfield 91, 3) by decide +kernel) ?_
  refine lv_if_eq (tgt := 18) hx hb (show decode prog_1_method_21_code 4 = .ok (.ifCond .eq 14, 3) by decide +kernel) (by decide +kernel) (fun c_1 => ?_) (fun c_1 => absurd c_1 (by decide +kernel))
  refine lv_iconst (v := (-1)) hx hb (show decode prog_1_method_21_code 18 = .ok (.iconst (-1), 1) by decide +kernel) (by decide +kernel) ?_
  exact W.iret (v := (-1)) hx hb hr (fun t ht hW => ⟨⟨(-1), (), rfl, rfl, by rw [ht]; exact hP, va_K.moved hW.alike hK, hD⟩, hS.F ht⟩) hS.2.2 (show decode prog_1_method_21_code 19 = .ok (.ireturn, 1) by decide +kernel)
set_option maxHeartbeats 4000000 in
set_option maxRecDepth 100000 in
/-- SignalEngine.together -/
theorem c_SE_together0 (l : Launch) (D : va_G) (ad : Nat → Nat) (de sz : Nat) (h0 : Nat) (fs : List Value) (hfl : fs.length = 14) (hf12 : xfa fs 12 (.int 0))  (p0 : Int32) (p1 : Int32) : Met l ⟨"SignalEngine", "together", "(II)I"⟩ (tw ⟨"SignalEngine", "together", "(II)I"⟩ prog_1_method_23_code 3 (some (.int))) { frames := 0, cells := 0, slots := 0, locals := 0 } (va_Pc [.ref h0, .int p0, .int p1] (xp ad de D [(h0, .inr (0, fs))] [] sz)) (va_Qi (fun (r : Int32) (_ : Unit) => r = (-1)) (fun (_ : Unit) t => xq D (va_A [(h0, .inr (0, fs))] sz) [(h0, .inr (0, fs))] [] t) (va_A [(h0, .inr (0, fs))] sz)) 0 0 (va_A [(h0, .inr (0, fs))] sz) := by
  refine xMet (by decide +kernel) (Nat.le_of_ble_eq_true rfl) ?_
  intro p e s m below meth c hx hb hr hlocks hin hml hown hts hsz hP hK hD hE hA ls hl
  have hS : va_S _ s.heap s.heap [] := va_S.rf (A := va_A [(h0, .inr (0, fs))] sz)
  have hl : lv_has ls 3 [(0, .ref h0), (1, .int p0), (2, .int p1)] := hl
  refine lv_aload_n hx hb (show decode prog_1_method_23_code 0 = .ok (.aload_n 0, 1) by decide +kernel) rfl (lv_at hl 0 rfl) ?_
  refine va_get (D := D) (ci := 0) (v := .int 0) (C := R_SE) (T := F_SE) (N := 14) hx hb hts i_SE hown hK hP 0 rfl rfl 12 (by decide +kernel) (hts _ w_54) (fun _ h9 => h9) hf12 (show decode prog_1_method_23_code 1 = .ok (.getfield 91, 3) by decide +kernel) ?_
  refine lv_if_eq (tgt := 39) hx hb (show decode prog_1_method_23_code 4 = .ok (.ifCond .eq 35, 3) by decide +kernel) (by decide +kernel) (fun c_1 => ?_) (fun c_1 => absurd c_1 (by decide +kernel))
  refine lv_iconst (v := (-1)) hx hb (show decode prog_1_method_23_code 39 = .ok (.iconst (-1), 1) by decide +kernel) (by decide +kernel) ?_
  exact W.iret (v := (-1)) hx hb hr (fun t ht hW => ⟨⟨(-1), (), rfl, rfl, by rw [ht]; exact hP, va_K.moved hW.alike hK, hD⟩, hS.F ht⟩) hS.2.2 (show decode prog_1_method_23_code 40 = .ok (.ireturn, 1) by decide +kernel)
set_option maxHeartbeats 4000000 in
set_option maxRecDepth 100000 in
/-- SignalEngine.ever -/
theorem c_SE_ever0 (l : Launch) (D : va_G) (ad : Nat → Nat) (de sz : Nat) (h0 : Nat) (fs : List Value) (hfl : fs.length = 14) (hf12 : xfa fs 12 (.int 0))  (p0 : Int32) : Met l ⟨"SignalEngine", "ever", "(I)I"⟩ (tw ⟨"SignalEngine", "ever", "(I)I"⟩ prog_1_method_22_code 3 (some (.int))) { frames := 1, cells := 0, slots := 0, locals := 22 } (va_Pc [.ref h0, .int p0] (xp ad de D [(h0, .inr (0, fs))] [] sz)) (va_Qi (fun (r : Int32) (_ : Unit) => r = (-1)) (fun (_ : Unit) t => xq D (va_A [(h0, .inr (0, fs))] sz) [(h0, .inr (0, fs))] [] t) (va_A [(h0, .inr (0, fs))] sz)) 0 0 (va_A [(h0, .inr (0, fs))] sz) := by
  refine xMet (by decide +kernel) (Nat.le_of_ble_eq_true rfl) ?_
  intro p e s m below meth c hx hb hr hlocks hin hml hown hts hsz hP hK hD hE hA ls hl
  have hS : va_S _ s.heap s.heap [] := va_S.rf (A := va_A [(h0, .inr (0, fs))] sz)
  have hl : lv_has ls 3 [(0, .ref h0), (1, .int p0)] := hl
  refine lv_aload_n hx hb (show decode prog_1_method_22_code 0 = .ok (.aload_n 0, 1) by decide +kernel) rfl (lv_at hl 0 rfl) ?_
  refine lv_iload_n hx hb (show decode prog_1_method_22_code 1 = .ok (.iload_n 1, 1) by decide +kernel) rfl (lv_at hl 1 rfl) ?_
  refine lv_iload_n hx hb (show decode prog_1_method_22_code 2 = .ok (.iload_n 1, 1) by decide +kernel) rfl (lv_at hl 1 rfl) ?_
  refine xki (wr := []) (xrV (As := [.int p0, .int p0]) (rest := []) ⟨hx, hb, hml, hown, hts⟩ (c_SE_together0 l D ad de s.heap.size h0 fs hfl hf12 p0 p0) w_1095 w_1 w_1092 w_1093 w_1094 rfl rfl ⟨by decide +kernel, by decide +kernel, rfl⟩ ⟨by decide +kernel, by decide +kernel⟩ hP hK hD hE hS hA [0] [] rfl (by decide +kernel) rfl ⟨0, 0, _, _, rfl, rfl, rfl⟩ hl.1 rfl (Nat.le_of_ble_eq_true rfl) (show decode prog_1_method_22_code 3 = .ok (.invokevirtual 216, 3) by decide +kernel) ⟨by decide +kernel, by decide +kernel⟩) hP hK hD hS hA [0] [] rfl rfl (by decide +kernel) (by decide +kernel) (fun r_1 u_2 H locs hw_3 hP hK hD hS => ?_)
  obtain rfl : r_1 = (-1) := hw_3
  have hP : va_P D cl [(h0, .inr (0, fs))] H := hP
  have hD : va_D _ [(h0, .inr (0, fs))] := hD
  refine W.widen (k := 0) (n := 0) (by decide +kernel) (by decide +kernel) ?_
  refine lv_istore_n (lv' := [(2, .int (-1)), (0, .ref h0), (1, .int p0)]) hx hb (show decode prog_1_method_22_code 6 = .ok (.istore_n 2, 1) by decide +kernel) rfl hl (by decide +kernel) rfl (fun ls hl => ?_)
  refine lv_iload_n hx hb (show decode prog_1_method_22_code 7 = .ok (.iload_n 2, 1) by decide +kernel) rfl (lv_at hl 0 rfl) ?_
  refine lv_iconst (v := (-1)) hx hb (show decode prog_1_method_22_code 8 = .ok (.iconst (-1), 1) by decide +kernel) (by decide +kernel) ?_
  refine lv_icmp_eq (tgt := 16) hx hb (show decode prog_1_method_22_code 9 = .ok (.if_icmp .eq 7, 3) by decide +kernel) (by decide +kernel) (fun c_4 => ?_) (fun c_4 => absurd c_4 (by decide +kernel))
  refine lv_iload_n hx hb (show decode prog_1_method_22_code 16 = .ok (.iload_n 2, 1) by decide +kernel) rfl (lv_at hl 0 rfl) ?_
  exact W.iret (v := (-1)) hx hb hr (fun t ht hW => ⟨⟨(-1), (), rfl, rfl, by rw [ht]; exact hP, va_K.moved hW.alike hK, hD⟩, hS.F ht⟩) hS.2.2 (show decode prog_1_method_22_code 17 = .ok (.ireturn, 1) by decide +kernel)
set_option maxHeartbeats 4000000 in
set_option maxRecDepth 100000 in
/-- SignalEngine.alike -/
theorem c_SE_alike0 (l : Launch) (D : va_G) (ad : Nat → Nat) (de sz : Nat) (h0 : Nat) (fs : List Value) (hfl : fs.length = 14) (hf12 : xfa fs 12 (.int 0))  (p0 : Int32) : Met l ⟨"SignalEngine", "alike", "(I)I"⟩ (tw ⟨"SignalEngine", "alike", "(I)I"⟩ prog_1_method_25_code 2 (some (.int))) { frames := 0, cells := 0, slots := 0, locals := 0 } (va_Pc [.ref h0, .int p0] (xp ad de D [(h0, .inr (0, fs))] [] sz)) (va_Qi (fun (r : Int32) (_ : Unit) => r = (-1)) (fun (_ : Unit) t => xq D (va_A [(h0, .inr (0, fs))] sz) [(h0, .inr (0, fs))] [] t) (va_A [(h0, .inr (0, fs))] sz)) 0 0 (va_A [(h0, .inr (0, fs))] sz) := by
  refine xMet (by decide +kernel) (Nat.le_of_ble_eq_true rfl) ?_
  intro p e s m below meth c hx hb hr hlocks hin hml hown hts hsz hP hK hD hE hA ls hl
  have hS : va_S _ s.heap s.heap [] := va_S.rf (A := va_A [(h0, .inr (0, fs))] sz)
  have hl : lv_has ls 2 [(0, .ref h0), (1, .int p0)] := hl
  refine lv_aload_n hx hb (show decode prog_1_method_25_code 0 = .ok (.aload_n 0, 1) by decide +kernel) rfl (lv_at hl 0 rfl) ?_
  refine va_get (D := D) (ci := 0) (v := .int 0) (C := R_SE) (T := F_SE) (N := 14) hx hb hts i_SE hown hK hP 0 rfl rfl 12 (by decide +kernel) (hts _ w_54) (fun _ h9 => h9) hf12 (show decode prog_1_method_25_code 1 = .ok (.getfield 91, 3) by decide +kernel) ?_
  refine lv_if_eq (tgt := 30) hx hb (show decode prog_1_method_25_code 4 = .ok (.ifCond .eq 26, 3) by decide +kernel) (by decide +kernel) (fun c_1 => ?_) (fun c_1 => absurd c_1 (by decide +kernel))
  refine lv_iconst (v := (-1)) hx hb (show decode prog_1_method_25_code 30 = .ok (.iconst (-1), 1) by decide +kernel) (by decide +kernel) ?_
  exact W.iret (v := (-1)) hx hb hr (fun t ht hW => ⟨⟨(-1), (), rfl, rfl, by rw [ht]; exact hP, va_K.moved hW.alike hK, hD⟩, hS.F ht⟩) hS.2.2 (show decode prog_1_method_25_code 31 = .ok (.ireturn, 1) by decide +kernel)
set_option maxHeartbeats 4000000 in
set_option maxRecDepth 100000 in
/-- SignalEngine.level -/
theorem c_SE_level0 (l : Launch) (D : va_G) (ad : Nat → Nat) (de sz : Nat) (h0 : Nat) (fs : List Value) (hfl : fs.length = 14) (hf13 : xfa fs 13 (.int 0))  (p0 : Int32) : Met l ⟨"SignalEngine", "level", "(I)I"⟩ (tw ⟨"SignalEngine", "level", "(I)I"⟩ prog_1_method_28_code 2 (some (.int))) { frames := 0, cells := 0, slots := 0, locals := 0 } (va_Pc [.ref h0, .int p0] (xp ad de D [(h0, .inr (0, fs))] [] sz)) (va_Qi (fun (r : Int32) (_ : Unit) => r = 0) (fun (_ : Unit) t => xq D (va_A [(h0, .inr (0, fs))] sz) [(h0, .inr (0, fs))] [] t) (va_A [(h0, .inr (0, fs))] sz)) 0 0 (va_A [(h0, .inr (0, fs))] sz) := by
  refine xMet (by decide +kernel) (Nat.le_of_ble_eq_true rfl) ?_
  intro p e s m below meth c hx hb hr hlocks hin hml hown hts hsz hP hK hD hE hA ls hl
  have hS : va_S _ s.heap s.heap [] := va_S.rf (A := va_A [(h0, .inr (0, fs))] sz)
  have hl : lv_has ls 2 [(0, .ref h0), (1, .int p0)] := hl
  refine lv_aload_n hx hb (show decode prog_1_method_28_code 0 = .ok (.aload_n 0, 1) by decide +kernel) rfl (lv_at hl 0 rfl) ?_
  refine va_get (D := D) (ci := 0) (v := .int 0) (C := R_SE) (T := F_SE) (N := 14) hx hb hts i_SE hown hK hP 0 rfl rfl 13 (by decide +kernel) (hts _ w_55) (fun _ h9 => h9) hf13 (show decode prog_1_method_28_code 1 = .ok (.getfield 94, 3) by decide +kernel) ?_
  refine lv_if_eq (tgt := 32) hx hb (show decode prog_1_method_28_code 4 = .ok (.ifCond .eq 28, 3) by decide +kernel) (by decide +kernel) (fun c_1 => ?_) (fun c_1 => absurd c_1 (by decide +kernel))
  refine lv_iconst (v := 0) hx hb (show decode prog_1_method_28_code 32 = .ok (.iconst 0, 1) by decide +kernel) (by decide +kernel) ?_
  exact W.iret (v := 0) hx hb hr (fun t ht hW => ⟨⟨0, (), rfl, rfl, by rw [ht]; exact hP, va_K.moved hW.alike hK, hD⟩, hS.F ht⟩) hS.2.2 (show decode prog_1_method_28_code 33 = .ok (.ireturn, 1) by decide +kernel)
set_option maxHeartbeats 4000000 in
set_option maxRecDepth 100000 in
/-- SignalEngine.size -/
theorem c_SE_size0 (l : Launch) (D : va_G) (ad : Nat → Nat) (de sz : Nat) (h0 : Nat) (fs : List Value) (hfl : fs.length = 14) (hf13 : xfa fs 13 (.int 0))  (p0 : Int32) : Met l ⟨"SignalEngine", "size", "(I)I"⟩ (tw ⟨"SignalEngine", "size", "(I)I"⟩ prog_1_method_29_code 2 (some (.int))) { frames := 0, cells := 0, slots := 0, locals := 0 } (va_Pc [.ref h0, .int p0] (xp ad de D [(h0, .inr (0, fs))] [] sz)) (va_Qi (fun (r : Int32) (_ : Unit) => r = (-1)) (fun (_ : Unit) t => xq D (va_A [(h0, .inr (0, fs))] sz) [(h0, .inr (0, fs))] [] t) (va_A [(h0, .inr (0, fs))] sz)) 0 0 (va_A [(h0, .inr (0, fs))] sz) := by
  refine xMet (by decide +kernel) (Nat.le_of_ble_eq_true rfl) ?_
  intro p e s m below meth c hx hb hr hlocks hin hml hown hts hsz hP hK hD hE hA ls hl
  have hS : va_S _ s.heap s.heap [] := va_S.rf (A := va_A [(h0, .inr (0, fs))] sz)
  have hl : lv_has ls 2 [(0, .ref h0), (1, .int p0)] := hl
  refine lv_aload_n hx hb (show decode prog_1_method_29_code 0 = .ok (.aload_n 0, 1) by decide +kernel) rfl (lv_at hl 0 rfl) ?_
  refine va_get (D := D) (ci := 0) (v := .int 0) (C := R_SE) (T := F_SE) (N := 14) hx hb hts i_SE hown hK hP 0 rfl rfl 13 (by decide +kernel) (hts _ w_55) (fun _ h9 => h9) hf13 (show decode prog_1_method_29_code 1 = .ok (.getfield 94, 3) by decide +kernel) ?_
  refine lv_if_eq (tgt := 33) hx hb (show decode prog_1_method_29_code 4 = .ok (.ifCond .eq 29, 3) by decide +kernel) (by decide +kernel) (fun c_1 => ?_) (fun c_1 => absurd c_1 (by decide +kernel))
  refine lv_iconst (v := (-1)) hx hb (show decode prog_1_method_29_code 33 = .ok (.iconst (-1), 1) by decide +kernel) (by decide +kernel) ?_
  exact W.iret (v := (-1)) hx hb hr (fun t ht hW => ⟨⟨(-1), (), rfl, rfl, by rw [ht]; exact hP, va_K.moved hW.alike hK, hD⟩, hS.F ht⟩) hS.2.2 (show decode prog_1_method_29_code 34 = .ok (.ireturn, 1) by decide +kernel)
end
section
set_option maxHeartbeats 4000000 in
set_option maxRecDepth 100000 in
/-- SignalEngineModel.thrown -/
theorem c_MD_thrown1 (l : Launch) (D : va_G) (ad : Nat → Nat) (de sz : Nat) (h0 : Nat) (fs : List Value) (hfl : fs.length = 107) (hf0 : xfa fs 0 (.int 1))   : Met l ⟨"SignalEngineModel", "thrown", "()I"⟩ (tw ⟨"SignalEngineModel", "thrown", "()I"⟩ prog_15_method_2_code 1 (some (.int))) { frames := 0, cells := 0, slots := 0, locals := 0 } (va_Pc [.ref h0] (xp ad de D [(h0, .inr (1, fs))] [] sz)) (va_Qi (fun (r : Int32) (_ : Unit) => r = 1) (fun (_ : Unit) t => xq D (va_A [(h0, .inr (1, fs))] sz) [(h0, .inr (1, fs))] [] t) (va_A [(h0, .inr (1, fs))] sz)) 0 0 (va_A [(h0, .inr (1, fs))] sz) := by
  refine xMet (by decide +kernel) (Nat.le_of_ble_eq_true rfl) ?_
  intro p e s m below meth c hx hb hr hlocks hin hml hown hts hsz hP hK hD hE hA ls hl
  have hS : va_S _ s.heap s.heap [] := va_S.rf (A := va_A [(h0, .inr (1, fs))] sz)
  have hl : lv_has ls 1 [(0, .ref h0)] := hl
  refine lv_aload_n hx hb (show decode prog_15_method_2_code 0 = .ok (.aload_n 0, 1) by decide +kernel) rfl (lv_at hl 0 rfl) ?_
  refine va_get (D := D) (ci := 1) (v := .int 1) (C := R_MD) (T := F_MD) (N := 107) hx hb hts i_MD hown hK hP 0 rfl rfl 0 (by decide +kernel) (hts _ w_1562) (fun _ h9 => h9) hf0 (show decode prog_15_method_2_code 1 = .ok (.getfield 206, 3) by decide +kernel) ?_
  exact W.iret (v := 1) hx hb hr (fun t ht hW => ⟨⟨1, (), rfl, rfl, by rw [ht]; exact hP, va_K.moved hW.alike hK, hD⟩, hS.F ht⟩) hS.2.2 (show decode prog_15_method_2_code 4 = .ok (.ireturn, 1) by decide +kernel)
set_option maxHeartbeats 4000000 in
set_option maxRecDepth 100000 in
/-- SignalEngineModel.thrown -/
theorem c_MD_thrown0 (l : Launch) (D : va_G) (ad : Nat → Nat) (de sz : Nat) (h0 : Nat) (fs : List Value) (hfl : fs.length = 107) (hf0 : xfa fs 0 (.int 0))   : Met l ⟨"SignalEngineModel", "thrown", "()I"⟩ (tw ⟨"SignalEngineModel", "thrown", "()I"⟩ prog_15_method_2_code 1 (some (.int))) { frames := 0, cells := 0, slots := 0, locals := 0 } (va_Pc [.ref h0] (xp ad de D [(h0, .inr (1, fs))] [] sz)) (va_Qi (fun (r : Int32) (_ : Unit) => r = 0) (fun (_ : Unit) t => xq D (va_A [(h0, .inr (1, fs))] sz) [(h0, .inr (1, fs))] [] t) (va_A [(h0, .inr (1, fs))] sz)) 0 0 (va_A [(h0, .inr (1, fs))] sz) := by
  refine xMet (by decide +kernel) (Nat.le_of_ble_eq_true rfl) ?_
  intro p e s m below meth c hx hb hr hlocks hin hml hown hts hsz hP hK hD hE hA ls hl
  have hS : va_S _ s.heap s.heap [] := va_S.rf (A := va_A [(h0, .inr (1, fs))] sz)
  have hl : lv_has ls 1 [(0, .ref h0)] := hl
  refine lv_aload_n hx hb (show decode prog_15_method_2_code 0 = .ok (.aload_n 0, 1) by decide +kernel) rfl (lv_at hl 0 rfl) ?_
  refine va_get (D := D) (ci := 1) (v := .int 0) (C := R_MD) (T := F_MD) (N := 107) hx hb hts i_MD hown hK hP 0 rfl rfl 0 (by decide +kernel) (hts _ w_1562) (fun _ h9 => h9) hf0 (show decode prog_15_method_2_code 1 = .ok (.getfield 206, 3) by decide +kernel) ?_
  exact W.iret (v := 0) hx hb hr (fun t ht hW => ⟨⟨0, (), rfl, rfl, by rw [ht]; exact hP, va_K.moved hW.alike hK, hD⟩, hS.F ht⟩) hS.2.2 (show decode prog_15_method_2_code 4 = .ok (.ireturn, 1) by decide +kernel)
set_option maxHeartbeats 4000000 in
set_option maxRecDepth 100000 in
/-- SignalEngineModel.fails -/
theorem c_MD_fails10 (l : Launch) (D : va_G) (ad : Nat → Nat) (de sz : Nat) (h0 : Nat) (fs : List Value) (hfl : fs.length = 107)    : Met l ⟨"SignalEngineModel", "fails", "(ZZ)Z"⟩ (tw ⟨"SignalEngineModel", "fails", "(ZZ)Z"⟩ prog_15_method_3_code 3 (some (.boolean))) { frames := 0, cells := 0, slots := 0, locals := 0 } (va_Pc [.ref h0, .int 1, .int 0] (xp ad de D [(h0, .inr (1, fs))] [] sz)) (va_Qi (fun (r : Int32) (_ : Unit) => r = 1) (fun (_ : Unit) t => xq D (va_A [(h0, .inr (1, fs))] sz) [(h0, .inr (1, (fs.set 0 (.int 1))))] [] t) (va_A [(h0, .inr (1, fs))] sz)) 0 0 (va_A [(h0, .inr (1, fs))] sz) := by
  refine xMet (by decide +kernel) (Nat.le_of_ble_eq_true rfl) ?_
  intro p e s m below meth c hx hb hr hlocks hin hml hown hts hsz hP hK hD hE hA ls hl
  have hS : va_S _ s.heap s.heap [] := va_S.rf (A := va_A [(h0, .inr (1, fs))] sz)
  have hl : lv_has ls 3 [(0, .ref h0), (1, .int 1), (2, .int 0)] := hl
  refine lv_aload_n hx hb (show decode prog_15_method_3_code 0 = .ok (.aload_n 0, 1) by decide +kernel) rfl (lv_at hl 0 rfl) ?_
  refine lv_iload_n hx hb (show decode prog_15_method_3_code 1 = .ok (.iload_n 1, 1) by decide +kernel) rfl (lv_at hl 1 rfl) ?_
  refine lv_if_eq (tgt := 9) hx hb (show decode prog_15_method_3_code 2 = .ok (.ifCond .eq 7, 3) by decide +kernel) (by decide +kernel) (fun c_1 => absurd c_1 (by decide +kernel)) (fun c_1 => ?_)
  refine lv_iconst (v := 1) hx hb (show decode prog_15_method_3_code 5 = .ok (.iconst 1, 1) by decide +kernel) (by decide +kernel) ?_
  refine lv_goto (tgt := 18) hx hb (show decode prog_15_method_3_code 6 = .ok (.goto 12, 3) by decide +kernel) (by decide +kernel) ?_
  refine va_put (D := D) (ci := 1) (v := .int 1) (ty := .int) (C := R_MD) (T := F_MD) (N := 107) hx hb hts i_MD t_MD t_MD_ok n_MD hown hK hP hD hS 0 rfl rfl 0 (by decide +kernel) (hts _ w_1562) (fun _ h9 => h9) rfl (by decide +kernel) rfl rfl (by simp [hfl]) (show decode prog_15_method_3_code 18 = .ok (.putfield 206, 3) by decide +kernel) (fun H locs hP hD hS => ?_)
  have hP : va_P D cl [(h0, .inr (1, (fs.set 0 (.int 1))))] H := hP
  have hD : va_D _ [(h0, .inr (1, (fs.set 0 (.int 1))))] := hD
  refine lv_aload_n hx hb (show decode prog_15_method_3_code 21 = .ok (.aload_n 0, 1) by decide +kernel) rfl (lv_at hl 0 rfl) ?_
  refine va_get (D := D) (ci := 1) (v := .int 1) (C := R_MD) (T := F_MD) (N := 107) hx hb hts i_MD hown hK hP 0 rfl rfl 0 (by decide +kernel) (hts _ w_1562) (fun _ h9 => h9) (xg_eq (by simp [hfl])) (show decode prog_15_method_3_code 22 = .ok (.getfield 206, 3) by decide +kernel) ?_
  refine lv_if_le (tgt := 32) hx hb (show decode prog_15_method_3_code 25 = .ok (.ifCond .le 7, 3) by decide +kernel) (by decide +kernel) (fun c_2 => absurd c_2 (by decide +kernel)) (fun c_2 => ?_)
  refine lv_iconst (v := 1) hx hb (show decode prog_15_method_3_code 28 = .ok (.iconst 1, 1) by decide +kernel) (by decide +kernel) ?_
  refine lv_goto (tgt := 33) hx hb (show decode prog_15_method_3_code 29 = .ok (.goto 4, 3) by decide +kernel) (by decide +kernel) ?_
  exact W.zret (v := 1) hx hb hr (by decide +kernel) (fun t ht hW => ⟨⟨1, (), rfl, rfl, by rw [ht]; exact hP, va_K.moved hW.alike hK, hD⟩, hS.F ht⟩) hS.2.2 (show decode prog_15_method_3_code 33 = .ok (.ireturn, 1) by decide +kernel)
set_option maxHeartbeats 4000000 in
set_option maxRecDepth 100000 in
/-- SignalEngineModel.restart -/
theorem c_MD_restart0 (l : Launch) (D : va_G) (ad : Nat → Nat) (de sz : Nat) (h0 : Nat) (fs : List Value) (hfl : fs.length = 107) (hf41 : xfa fs 41 (.int 0))   : Met l ⟨"SignalEngineModel", "restart", "()I"⟩ (tw ⟨"SignalEngineModel", "restart", "()I"⟩ prog_15_method_79_code 2 (some (.int))) { frames := 1, cells := 0, slots := 0, locals := 22 } (va_Pc [.ref h0] (xp ad de D [(h0, .inr (1, fs))] [] sz)) (va_Qi (fun (r : Int32) (_ : Unit) => r = 0) (fun (_ : Unit) t => xq D (va_A [(h0, .inr (1, fs))] sz) [(h0, .inr (1, (fs.set 0 (.int 1))))] [] t) (va_A [(h0, .inr (1, fs))] sz)) 0 0 (va_A [(h0, .inr (1, fs))] sz) := by
  refine xMet (by decide +kernel) (Nat.le_of_ble_eq_true rfl) ?_
  intro p e s m below meth c hx hb hr hlocks hin hml hown hts hsz hP hK hD hE hA ls hl
  have hS : va_S _ s.heap s.heap [] := va_S.rf (A := va_A [(h0, .inr (1, fs))] sz)
  have hl : lv_has ls 2 [(0, .ref h0)] := hl
  refine lv_aload_n hx hb (show decode prog_15_method_79_code 0 = .ok (.aload_n 0, 1) by decide +kernel) rfl (lv_at hl 0 rfl) ?_
  refine lv_aload_n hx hb (show decode prog_15_method_79_code 1 = .ok (.aload_n 0, 1) by decide +kernel) rfl (lv_at hl 0 rfl) ?_
  refine va_get (D := D) (ci := 1) (v := .int 0) (C := R_MD) (T := F_MD) (N := 107) hx hb hts i_MD hown hK hP 0 rfl rfl 41 (by decide +kernel) (hts _ w_1603) (fun _ h9 => h9) hf41 (show decode prog_15_method_79_code 2 = .ok (.getfield 521, 3) by decide +kernel) ?_
  refine lv_if_ne (tgt := 12) hx hb (show decode prog_15_method_79_code 5 = .ok (.ifCond .ne 7, 3) by decide +kernel) (by decide +kernel) (fun c_1 => absurd c_1 (by decide +kernel)) (fun c_1 => ?_)
  refine lv_iconst (v := 1) hx hb (show decode prog_15_method_79_code 8 = .ok (.iconst 1, 1) by decide +kernel) (by decide +kernel) ?_
  refine lv_goto (tgt := 13) hx hb (show decode prog_15_method_79_code 9 = .ok (.goto 4, 3) by decide +kernel) (by decide +kernel) ?_
  refine lv_iconst (v := 0) hx hb (show decode prog_15_method_79_code 13 = .ok (.iconst 0, 1) by decide +kernel) (by decide +kernel) ?_
  refine xki (wr := []) (xrV (As := [.int 1, .int 0]) (rest := []) ⟨hx, hb, hml, hown, hts⟩ (c_MD_fails10 l D ad de s.heap.size h0 fs hfl) w_2155 w_2 w_2152 w_2154 wp_126 rfl rfl ⟨by decide +kernel, by decide +kernel, rfl⟩ ⟨by decide +kernel, by decide +kernel⟩ hP hK hD hE hS hA [0] [] rfl (by decide +kernel) rfl ⟨0, 1, _, _, rfl, rfl, rfl⟩ hl.1 rfl (Nat.le_of_ble_eq_true rfl) (show decode prog_15_method_79_code 14 = .ok (.invokevirtual 615, 3) by decide +kernel) ⟨by decide +kernel, by decide +kernel⟩) hP hK hD hS hA [0] [] rfl rfl (by decide +kernel) (by decide +kernel) (fun r_2 u_3 H locs hw_4 hP hK hD hS => ?_)
  obtain rfl : r_2 = 1 := hw_4
  have hP : va_P D cl [(h0, .inr (1, (fs.set 0 (.int 1))))] H := hP
  have hD : va_D _ [(h0, .inr (1, (fs.set 0 (.int 1))))] := hD
  refine W.widen (k := 0) (n := 0) (by decide +kernel) (by decide +kernel) ?_
  refine lv_if_eq (tgt := 22) hx hb (show decode prog_15_method_79_code 17 = .ok (.ifCond .eq 5, 3) by decide +kernel) (by decide +kernel) (fun c_5 => absurd c_5 (by decide +kernel)) (fun c_5 => ?_)
  refine lv_iconst (v := 0) hx hb (show decode prog_15_method_79_code 20 = .ok (.iconst 0, 1) by decide +kernel) (by decide +kernel) ?_
  exact W.iret (v := 0) hx hb hr (fun t ht hW => ⟨⟨0, (), rfl, rfl, by rw [ht]; exact hP, va_K.moved hW.alike hK, hD⟩, hS.F ht⟩) hS.2.2 (show decode prog_15_method_79_code 21 = .ok (.ireturn, 1) by decide +kernel)
set_option maxHeartbeats 4000000 in
set_option maxRecDepth 100000 in
/-- SignalEngineModel.instant -/
theorem c_MD_instant0 (l : Launch) (D : va_G) (ad : Nat → Nat) (de sz : Nat) (h0 : Nat) (fs : List Value) (hfl : fs.length = 107) (hf82 : xfa fs 82 (.int 0)) (hf45 : xfa fs 45 (.int 0))  (p0 : Int32) : Met l ⟨"SignalEngineModel", "instant", "(I)I"⟩ (tw ⟨"SignalEngineModel", "instant", "(I)I"⟩ prog_15_method_81_code 5 (some (.int))) { frames := 1, cells := 0, slots := 0, locals := 22 } (va_Pc [.ref h0, .int p0] (xp ad de D [(h0, .inr (1, fs))] [] sz)) (va_Qi (fun (r : Int32) (_ : Unit) => r = 0) (fun (_ : Unit) t => xq D (va_A [(h0, .inr (1, fs))] sz) [(h0, .inr (1, (fs.set 0 (.int 1))))] [] t) (va_A [(h0, .inr (1, fs))] sz)) 0 0 (va_A [(h0, .inr (1, fs))] sz) := by
  refine xMet (by decide +kernel) (Nat.le_of_ble_eq_true rfl) ?_
  intro p e s m below meth c hx hb hr hlocks hin hml hown hts hsz hP hK hD hE hA ls hl
  have hS : va_S _ s.heap s.heap [] := va_S.rf (A := va_A [(h0, .inr (1, fs))] sz)
  have hl : lv_has ls 5 [(0, .ref h0), (1, .int p0)] := hl
  refine lv_aload_n hx hb (show decode prog_15_method_81_code 0 = .ok (.aload_n 0, 1) by decide +kernel) rfl (lv_at hl 0 rfl) ?_
  refine va_get (D := D) (ci := 1) (v := .int 0) (C := R_MD) (T := F_MD) (N := 107) hx hb hts i_MD hown hK hP 0 rfl rfl 82 (by decide +kernel) (hts _ w_1644) (fun _ h9 => h9) hf82 (show decode prog_15_method_81_code 1 = .ok (.getfield 545, 3) by decide +kernel) ?_
  refine lv_iconst (v := 1) hx hb (show decode prog_15_method_81_code 4 = .ok (.iconst 1, 1) by decide +kernel) (by decide +kernel) ?_
  refine lv_icmp_ne (tgt := 12) hx hb (show decode prog_15_method_81_code 5 = .ok (.if_icmp .ne 7, 3) by decide +kernel) (by decide +kernel) (fun c_1 => ?_) (fun c_1 => absurd c_1 (by decide +kernel))
  refine lv_iconst (v := 0) hx hb (show decode prog_15_method_81_code 12 = .ok (.iconst 0, 1) by decide +kernel) (by decide +kernel) ?_
  refine lv_istore_n (lv' := [(2, .int 0), (0, .ref h0), (1, .int p0)]) hx hb (show decode prog_15_method_81_code 13 = .ok (.istore_n 2, 1) by decide +kernel) rfl hl (by decide +kernel) rfl (fun ls hl => ?_)
  refine lv_aload_n hx hb (show decode prog_15_method_81_code 14 = .ok (.aload_n 0, 1) by decide +kernel) rfl (lv_at hl 1 rfl) ?_
  refine lv_iload_n hx hb (show decode prog_15_method_81_code 15 = .ok (.iload_n 2, 1) by decide +kernel) rfl (lv_at hl 0 rfl) ?_
  refine lv_if_ne (tgt := 23) hx hb (show decode prog_15_method_81_code 16 = .ok (.ifCond .ne 7, 3) by decide +kernel) (by decide +kernel) (fun c_2 => absurd c_2 (by decide +kernel)) (fun c_2 => ?_)
  refine lv_iconst (v := 1) hx hb (show decode prog_15_method_81_code 19 = .ok (.iconst 1, 1) by decide +kernel) (by decide +kernel) ?_
  refine lv_goto (tgt := 24) hx hb (show decode prog_15_method_81_code 20 = .ok (.goto 4, 3) by decide +kernel) (by decide +kernel) ?_
  refine lv_iload_n hx hb (show decode prog_15_method_81_code 24 = .ok (.iload_n 2, 1) by decide +kernel) rfl (lv_at hl 0 rfl) ?_
  refine lv_if_eq (tgt := 40) hx hb (show decode prog_15_method_81_code 25 = .ok (.ifCond .eq 15, 3) by decide +kernel) (by decide +kernel) (fun c_3 => ?_) (fun c_3 => absurd c_3 (by decide +kernel))
  refine lv_iconst (v := 0) hx hb (show decode prog_15_method_81_code 40 = .ok (.iconst 0, 1) by decide +kernel) (by decide +kernel) ?_
  refine xki (wr := []) (xrV (As := [.int 1, .int 0]) (rest := []) ⟨hx, hb, hml, hown, hts⟩ (c_MD_fails10 l D ad de s.heap.size h0 fs hfl) w_2155 w_2 w_2152 w_2154 wp_126 rfl rfl ⟨by decide +kernel, by decide +kernel, rfl⟩ ⟨by decide +kernel, by decide +kernel⟩ hP hK hD hE hS hA [0] [] rfl (by decide +kernel) rfl ⟨0, 1, _, _, rfl, rfl, rfl⟩ hl.1 rfl (Nat.le_of_ble_eq_true rfl) (show decode prog_15_method_81_code 41 = .ok (.invokevirtual 615, 3) by decide +kernel) ⟨by decide +kernel, by decide +kernel⟩) hP hK hD hS hA [0] [] rfl rfl (by decide +kernel) (by decide +kernel) (fun r_4 u_5 H locs hw_6 hP hK hD hS => ?_)
  obtain rfl : r_4 = 1 := hw_6
  have hP : va_P D cl [(h0, .inr (1, (fs.set 0 (.int 1))))] H := hP
  have hD : va_D _ [(h0, .inr (1, (fs.set 0 (.int 1))))] := hD
  refine W.widen (k := 0) (n := 0) (by decide +kernel) (by decide +kernel) ?_
  refine lv_if_eq (tgt := 49) hx hb (show decode prog_15_method_81_code 44 = .ok (.ifCond .eq 5, 3) by decide +kernel) (by decide +kernel) (fun c_7 => absurd c_7 (by decide +kernel)) (fun c_7 => ?_)
  refine lv_iconst (v := 0) hx hb (show decode prog_15_method_81_code 47 = .ok (.iconst 0, 1) by decide +kernel) (by decide +kernel) ?_
  exact W.iret (v := 0) hx hb hr (fun t ht hW => ⟨⟨0, (), rfl, rfl, by rw [ht]; exact hP, va_K.moved hW.alike hK, hD⟩, hS.F ht⟩) hS.2.2 (show decode prog_15_method_81_code 48 = .ok (.ireturn, 1) by decide +kernel)
set_option maxHeartbeats 4000000 in
set_option maxRecDepth 100000 in
/-- SignalEngineModel.go -/
theorem c_MD_go0 (l : Launch) (D : va_G) (ad : Nat → Nat) (de sz : Nat) (h0 : Nat) (fs : List Value) (hfl : fs.length = 107) (hf85 : xfa fs 85 (.int 0))  (p0 : Int32) : Met l ⟨"SignalEngineModel", "go", "(I)V"⟩ (tw ⟨"SignalEngineModel", "go", "(I)V"⟩ prog_15_method_86_code 2 none) { frames := 1, cells := 0, slots := 0, locals := 22 } (va_Pc [.ref h0, .int p0] (xp ad de D [(h0, .inr (1, fs))] [] sz)) (va_Qv (fun (_ : Unit) => True) (fun (_ : Unit) t => xq D (va_A [(h0, .inr (1, fs))] sz) [(h0, .inr (1, (fs.set 0 (.int 1))))] [] t) (va_A [(h0, .inr (1, fs))] sz)) 0 0 (va_A [(h0, .inr (1, fs))] sz) := by
  refine xMet (by decide +kernel) (Nat.le_of_ble_eq_true rfl) ?_
  intro p e s m below meth c hx hb hr hlocks hin hml hown hts hsz hP hK hD hE hA ls hl
  have hS : va_S _ s.heap s.heap [] := va_S.rf (A := va_A [(h0, .inr (1, fs))] sz)
  have hl : lv_has ls 2 [(0, .ref h0), (1, .int p0)] := hl
  refine lv_aload_n hx hb (show decode prog_15_method_86_code 0 = .ok (.aload_n 0, 1) by decide +kernel) rfl (lv_at hl 0 rfl) ?_
  refine lv_aload_n hx hb (show decode prog_15_method_86_code 1 = .ok (.aload_n 0, 1) by decide +kernel) rfl (lv_at hl 0 rfl) ?_
  refine va_get (D := D) (ci := 1) (v := .int 0) (C := R_MD) (T := F_MD) (N := 107) hx hb hts i_MD hown hK hP 0 rfl rfl 85 (by decide +kernel) (hts _ w_1647) (fun _ h9 => h9) hf85 (show decode prog_15_method_86_code 2 = .ok (.getfield 518, 3) by decide +kernel) ?_
  refine lv_if_ne (tgt := 12) hx hb (show decode prog_15_method_86_code 5 = .ok (.ifCond .ne 7, 3) by decide +kernel) (by decide +kernel) (fun c_1 => absurd c_1 (by decide +kernel)) (fun c_1 => ?_)
  refine lv_iconst (v := 1) hx hb (show decode prog_15_method_86_code 8 = .ok (.iconst 1, 1) by decide +kernel) (by decide +kernel) ?_
  refine lv_goto (tgt := 13) hx hb (show decode prog_15_method_86_code 9 = .ok (.goto 4, 3) by decide +kernel) (by decide +kernel) ?_
  refine lv_aload_n hx hb (show decode prog_15_method_86_code 13 = .ok (.aload_n 0, 1) by decide +kernel) rfl (lv_at hl 0 rfl) ?_
  refine va_get (D := D) (ci := 1) (v := .int 0) (C := R_MD) (T := F_MD) (N := 107) hx hb hts i_MD hown hK hP 0 rfl rfl 85 (by decide +kernel) (hts _ w_1647) (fun _ h9 => h9) hf85 (show decode prog_15_method_86_code 14 = .ok (.getfield 518, 3) by decide +kernel) ?_
  refine lv_if_eq (tgt := 33) hx hb (show decode prog_15_method_86_code 17 = .ok (.ifCond .eq 16, 3) by decide +kernel) (by decide +kernel) (fun c_2 => ?_) (fun c_2 => absurd c_2 (by decide +kernel))
  refine lv_iconst (v := 0) hx hb (show decode prog_15_method_86_code 33 = .ok (.iconst 0, 1) by decide +kernel) (by decide +kernel) ?_
  refine xki (wr := []) (xrV (As := [.int 1, .int 0]) (rest := []) ⟨hx, hb, hml, hown, hts⟩ (c_MD_fails10 l D ad de s.heap.size h0 fs hfl) w_2155 w_2 w_2152 w_2154 wp_126 rfl rfl ⟨by decide +kernel, by decide +kernel, rfl⟩ ⟨by decide +kernel, by decide +kernel⟩ hP hK hD hE hS hA [0] [] rfl (by decide +kernel) rfl ⟨0, 1, _, _, rfl, rfl, rfl⟩ hl.1 rfl (Nat.le_of_ble_eq_true rfl) (show decode prog_15_method_86_code 34 = .ok (.invokevirtual 615, 3) by decide +kernel) ⟨by decide +kernel, by decide +kernel⟩) hP hK hD hS hA [0] [] rfl rfl (by decide +kernel) (by decide +kernel) (fun r_3 u_4 H locs hw_5 hP hK hD hS => ?_)
  obtain rfl : r_3 = 1 := hw_5
  have hP : va_P D cl [(h0, .inr (1, (fs.set 0 (.int 1))))] H := hP
  have hD : va_D _ [(h0, .inr (1, (fs.set 0 (.int 1))))] := hD
  refine W.widen (k := 0) (n := 0) (by decide +kernel) (by decide +kernel) ?_
  refine lv_if_eq (tgt := 41) hx hb (show decode prog_15_method_86_code 37 = .ok (.ifCond .eq 4, 3) by decide +kernel) (by decide +kernel) (fun c_6 => absurd c_6 (by decide +kernel)) (fun c_6 => ?_)
  exact W.vret hx hb hr (fun t ht hW => ⟨⟨(), rfl, trivial, by rw [ht]; exact hP, va_K.moved hW.alike hK, hD⟩, hS.F ht⟩) hS.2.2 (show decode prog_15_method_86_code 40 = .ok (.return_, 1) by decide +kernel)
set_option maxHeartbeats 4000000 in
set_option maxRecDepth 100000 in
/-- SignalEngineModel.explore -/
theorem c_MD_explore0 (l : Launch) (D : va_G) (ad : Nat → Nat) (de sz : Nat) (h0 : Nat) (fs : List Value) (hfl : fs.length = 107) (hf41 : xfa fs 41 (.int 0))   : Met l ⟨"SignalEngineModel", "explore", "()I"⟩ (tw ⟨"SignalEngineModel", "explore", "()I"⟩ prog_15_method_88_code 7 (some (.int))) { frames := 1, cells := 0, slots := 0, locals := 22 } (va_Pc [.ref h0] (xp ad de D [(h0, .inr (1, fs))] [] sz)) (va_Qi (fun (r : Int32) (_ : Unit) => r = 0) (fun (_ : Unit) t => xq D (va_A [(h0, .inr (1, fs))] sz) [(h0, .inr (1, (fs.set 0 (.int 1))))] [] t) (va_A [(h0, .inr (1, fs))] sz)) 0 0 (va_A [(h0, .inr (1, fs))] sz) := by
  refine xMet (by decide +kernel) (Nat.le_of_ble_eq_true rfl) ?_
  intro p e s m below meth c hx hb hr hlocks hin hml hown hts hsz hP hK hD hE hA ls hl
  have hS : va_S _ s.heap s.heap [] := va_S.rf (A := va_A [(h0, .inr (1, fs))] sz)
  have hl : lv_has ls 7 [(0, .ref h0)] := hl
  refine lv_aload_n hx hb (show decode prog_15_method_88_code 0 = .ok (.aload_n 0, 1) by decide +kernel) rfl (lv_at hl 0 rfl) ?_
  refine lv_aload_n hx hb (show decode prog_15_method_88_code 1 = .ok (.aload_n 0, 1) by decide +kernel) rfl (lv_at hl 0 rfl) ?_
  refine va_get (D := D) (ci := 1) (v := .int 0) (C := R_MD) (T := F_MD) (N := 107) hx hb hts i_MD hown hK hP 0 rfl rfl 41 (by decide +kernel) (hts _ w_1603) (fun _ h9 => h9) hf41 (show decode prog_15_method_88_code 2 = .ok (.getfield 521, 3) by decide +kernel) ?_
  refine lv_if_ne (tgt := 12) hx hb (show decode prog_15_method_88_code 5 = .ok (.ifCond .ne 7, 3) by decide +kernel) (by decide +kernel) (fun c_1 => absurd c_1 (by decide +kernel)) (fun c_1 => ?_)
  refine lv_iconst (v := 1) hx hb (show decode prog_15_method_88_code 8 = .ok (.iconst 1, 1) by decide +kernel) (by decide +kernel) ?_
  refine lv_goto (tgt := 13) hx hb (show decode prog_15_method_88_code 9 = .ok (.goto 4, 3) by decide +kernel) (by decide +kernel) ?_
  refine lv_iconst (v := 0) hx hb (show decode prog_15_method_88_code 13 = .ok (.iconst 0, 1) by decide +kernel) (by decide +kernel) ?_
  refine xki (wr := []) (xrV (As := [.int 1, .int 0]) (rest := []) ⟨hx, hb, hml, hown, hts⟩ (c_MD_fails10 l D ad de s.heap.size h0 fs hfl) w_2155 w_2 w_2152 w_2154 wp_126 rfl rfl ⟨by decide +kernel, by decide +kernel, rfl⟩ ⟨by decide +kernel, by decide +kernel⟩ hP hK hD hE hS hA [0] [] rfl (by decide +kernel) rfl ⟨0, 1, _, _, rfl, rfl, rfl⟩ hl.1 rfl (Nat.le_of_ble_eq_true rfl) (show decode prog_15_method_88_code 14 = .ok (.invokevirtual 615, 3) by decide +kernel) ⟨by decide +kernel, by decide +kernel⟩) hP hK hD hS hA [0] [] rfl rfl (by decide +kernel) (by decide +kernel) (fun r_2 u_3 H locs hw_4 hP hK hD hS => ?_)
  obtain rfl : r_2 = 1 := hw_4
  have hP : va_P D cl [(h0, .inr (1, (fs.set 0 (.int 1))))] H := hP
  have hD : va_D _ [(h0, .inr (1, (fs.set 0 (.int 1))))] := hD
  refine W.widen (k := 0) (n := 0) (by decide +kernel) (by decide +kernel) ?_
  refine lv_if_eq (tgt := 22) hx hb (show decode prog_15_method_88_code 17 = .ok (.ifCond .eq 5, 3) by decide +kernel) (by decide +kernel) (fun c_5 => absurd c_5 (by decide +kernel)) (fun c_5 => ?_)
  refine lv_iconst (v := 0) hx hb (show decode prog_15_method_88_code 20 = .ok (.iconst 0, 1) by decide +kernel) (by decide +kernel) ?_
  exact W.iret (v := 0) hx hb hr (fun t ht hW => ⟨⟨0, (), rfl, rfl, by rw [ht]; exact hP, va_K.moved hW.alike hK, hD⟩, hS.F ht⟩) hS.2.2 (show decode prog_15_method_88_code 21 = .ok (.ireturn, 1) by decide +kernel)
set_option maxHeartbeats 4000000 in
set_option maxRecDepth 100000 in
/-- SignalEngineModel.next -/
theorem c_MD_next0 (l : Launch) (D : va_G) (ad : Nat → Nat) (de sz : Nat) (h0 : Nat) (fs : List Value) (hfl : fs.length = 107) (hf85 : xfa fs 85 (.int 0))  (p0 : Int32) (p1 : Int32) : Met l ⟨"SignalEngineModel", "next", "(II)I"⟩ (tw ⟨"SignalEngineModel", "next", "(II)I"⟩ prog_15_method_95_code 3 (some (.int))) { frames := 1, cells := 0, slots := 0, locals := 22 } (va_Pc [.ref h0, .int p0, .int p1] (xp ad de D [(h0, .inr (1, fs))] [] sz)) (va_Qi (fun (r : Int32) (_ : Unit) => r = 0) (fun (_ : Unit) t => xq D (va_A [(h0, .inr (1, fs))] sz) [(h0, .inr (1, (fs.set 0 (.int 1))))] [] t) (va_A [(h0, .inr (1, fs))] sz)) 0 0 (va_A [(h0, .inr (1, fs))] sz) := by
  refine xMet (by decide +kernel) (Nat.le_of_ble_eq_true rfl) ?_
  intro p e s m below meth c hx hb hr hlocks hin hml hown hts hsz hP hK hD hE hA ls hl
  have hS : va_S _ s.heap s.heap [] := va_S.rf (A := va_A [(h0, .inr (1, fs))] sz)
  have hl : lv_has ls 3 [(0, .ref h0), (1, .int p0), (2, .int p1)] := hl
  refine lv_aload_n hx hb (show decode prog_15_method_95_code 0 = .ok (.aload_n 0, 1) by decide +kernel) rfl (lv_at hl 0 rfl) ?_
  refine lv_aload_n hx hb (show decode prog_15_method_95_code 1 = .ok (.aload_n 0, 1) by decide +kernel) rfl (lv_at hl 0 rfl) ?_
  refine va_get (D := D) (ci := 1) (v := .int 0) (C := R_MD) (T := F_MD) (N := 107) hx hb hts i_MD hown hK hP 0 rfl rfl 85 (by decide +kernel) (hts _ w_1647) (fun _ h9 => h9) hf85 (show decode prog_15_method_95_code 2 = .ok (.getfield 518, 3) by decide +kernel) ?_
  refine lv_if_ne (tgt := 12) hx hb (show decode prog_15_method_95_code 5 = .ok (.ifCond .ne 7, 3) by decide +kernel) (by decide +kernel) (fun c_1 => absurd c_1 (by decide +kernel)) (fun c_1 => ?_)
  refine lv_iconst (v := 1) hx hb (show decode prog_15_method_95_code 8 = .ok (.iconst 1, 1) by decide +kernel) (by decide +kernel) ?_
  refine lv_goto (tgt := 13) hx hb (show decode prog_15_method_95_code 9 = .ok (.goto 4, 3) by decide +kernel) (by decide +kernel) ?_
  refine lv_iconst (v := 0) hx hb (show decode prog_15_method_95_code 13 = .ok (.iconst 0, 1) by decide +kernel) (by decide +kernel) ?_
  refine xki (wr := []) (xrV (As := [.int 1, .int 0]) (rest := []) ⟨hx, hb, hml, hown, hts⟩ (c_MD_fails10 l D ad de s.heap.size h0 fs hfl) w_2155 w_2 w_2152 w_2154 wp_126 rfl rfl ⟨by decide +kernel, by decide +kernel, rfl⟩ ⟨by decide +kernel, by decide +kernel⟩ hP hK hD hE hS hA [0] [] rfl (by decide +kernel) rfl ⟨0, 1, _, _, rfl, rfl, rfl⟩ hl.1 rfl (Nat.le_of_ble_eq_true rfl) (show decode prog_15_method_95_code 14 = .ok (.invokevirtual 615, 3) by decide +kernel) ⟨by decide +kernel, by decide +kernel⟩) hP hK hD hS hA [0] [] rfl rfl (by decide +kernel) (by decide +kernel) (fun r_2 u_3 H locs hw_4 hP hK hD hS => ?_)
  obtain rfl : r_2 = 1 := hw_4
  have hP : va_P D cl [(h0, .inr (1, (fs.set 0 (.int 1))))] H := hP
  have hD : va_D _ [(h0, .inr (1, (fs.set 0 (.int 1))))] := hD
  refine W.widen (k := 0) (n := 0) (by decide +kernel) (by decide +kernel) ?_
  refine lv_if_eq (tgt := 24) hx hb (show decode prog_15_method_95_code 17 = .ok (.ifCond .eq 7, 3) by decide +kernel) (by decide +kernel) (fun c_5 => absurd c_5 (by decide +kernel)) (fun c_5 => ?_)
  refine lv_iconst (v := 0) hx hb (show decode prog_15_method_95_code 20 = .ok (.iconst 0, 1) by decide +kernel) (by decide +kernel) ?_
  refine lv_goto (tgt := 34) hx hb (show decode prog_15_method_95_code 21 = .ok (.goto 13, 3) by decide +kernel) (by decide +kernel) ?_
  exact W.iret (v := 0) hx hb hr (fun t ht hW => ⟨⟨0, (), rfl, rfl, by rw [ht]; exact hP, va_K.moved hW.alike hK, hD⟩, hS.F ht⟩) hS.2.2 (show decode prog_15_method_95_code 34 = .ok (.ireturn, 1) by decide +kernel)
set_option maxHeartbeats 4000000 in
set_option maxRecDepth 100000 in
/-- SignalEngineModel.shows -/
theorem c_MD_shows0 (l : Launch) (D : va_G) (ad : Nat → Nat) (de sz : Nat) (h0 : Nat) (fs : List Value) (hfl : fs.length = 107) (hf85 : xfa fs 85 (.int 0))  (p0 : Int32) (p1 : Int32) : Met l ⟨"SignalEngineModel", "shows", "(II)I"⟩ (tw ⟨"SignalEngineModel", "shows", "(II)I"⟩ prog_15_method_96_code 3 (some (.int))) { frames := 1, cells := 0, slots := 0, locals := 22 } (va_Pc [.ref h0, .int p0, .int p1] (xp ad de D [(h0, .inr (1, fs))] [] sz)) (va_Qi (fun (r : Int32) (_ : Unit) => r = 0) (fun (_ : Unit) t => xq D (va_A [(h0, .inr (1, fs))] sz) [(h0, .inr (1, (fs.set 0 (.int 1))))] [] t) (va_A [(h0, .inr (1, fs))] sz)) 0 0 (va_A [(h0, .inr (1, fs))] sz) := by
  refine xMet (by decide +kernel) (Nat.le_of_ble_eq_true rfl) ?_
  intro p e s m below meth c hx hb hr hlocks hin hml hown hts hsz hP hK hD hE hA ls hl
  have hS : va_S _ s.heap s.heap [] := va_S.rf (A := va_A [(h0, .inr (1, fs))] sz)
  have hl : lv_has ls 3 [(0, .ref h0), (1, .int p0), (2, .int p1)] := hl
  refine lv_aload_n hx hb (show decode prog_15_method_96_code 0 = .ok (.aload_n 0, 1) by decide +kernel) rfl (lv_at hl 0 rfl) ?_
  refine lv_aload_n hx hb (show decode prog_15_method_96_code 1 = .ok (.aload_n 0, 1) by decide +kernel) rfl (lv_at hl 0 rfl) ?_
  refine va_get (D := D) (ci := 1) (v := .int 0) (C := R_MD) (T := F_MD) (N := 107) hx hb hts i_MD hown hK hP 0 rfl rfl 85 (by decide +kernel) (hts _ w_1647) (fun _ h9 => h9) hf85 (show decode prog_15_method_96_code 2 = .ok (.getfield 518, 3) by decide +kernel) ?_
  refine lv_if_ne (tgt := 12) hx hb (show decode prog_15_method_96_code 5 = .ok (.ifCond .ne 7, 3) by decide +kernel) (by decide +kernel) (fun c_1 => absurd c_1 (by decide +kernel)) (fun c_1 => ?_)
  refine lv_iconst (v := 1) hx hb (show decode prog_15_method_96_code 8 = .ok (.iconst 1, 1) by decide +kernel) (by decide +kernel) ?_
  refine lv_goto (tgt := 13) hx hb (show decode prog_15_method_96_code 9 = .ok (.goto 4, 3) by decide +kernel) (by decide +kernel) ?_
  refine lv_iconst (v := 0) hx hb (show decode prog_15_method_96_code 13 = .ok (.iconst 0, 1) by decide +kernel) (by decide +kernel) ?_
  refine xki (wr := []) (xrV (As := [.int 1, .int 0]) (rest := []) ⟨hx, hb, hml, hown, hts⟩ (c_MD_fails10 l D ad de s.heap.size h0 fs hfl) w_2155 w_2 w_2152 w_2154 wp_126 rfl rfl ⟨by decide +kernel, by decide +kernel, rfl⟩ ⟨by decide +kernel, by decide +kernel⟩ hP hK hD hE hS hA [0] [] rfl (by decide +kernel) rfl ⟨0, 1, _, _, rfl, rfl, rfl⟩ hl.1 rfl (Nat.le_of_ble_eq_true rfl) (show decode prog_15_method_96_code 14 = .ok (.invokevirtual 615, 3) by decide +kernel) ⟨by decide +kernel, by decide +kernel⟩) hP hK hD hS hA [0] [] rfl rfl (by decide +kernel) (by decide +kernel) (fun r_2 u_3 H locs hw_4 hP hK hD hS => ?_)
  obtain rfl : r_2 = 1 := hw_4
  have hP : va_P D cl [(h0, .inr (1, (fs.set 0 (.int 1))))] H := hP
  have hD : va_D _ [(h0, .inr (1, (fs.set 0 (.int 1))))] := hD
  refine W.widen (k := 0) (n := 0) (by decide +kernel) (by decide +kernel) ?_
  refine lv_if_eq (tgt := 24) hx hb (show decode prog_15_method_96_code 17 = .ok (.ifCond .eq 7, 3) by decide +kernel) (by decide +kernel) (fun c_5 => absurd c_5 (by decide +kernel)) (fun c_5 => ?_)
  refine lv_iconst (v := 0) hx hb (show decode prog_15_method_96_code 20 = .ok (.iconst 0, 1) by decide +kernel) (by decide +kernel) ?_
  refine lv_goto (tgt := 34) hx hb (show decode prog_15_method_96_code 21 = .ok (.goto 13, 3) by decide +kernel) (by decide +kernel) ?_
  exact W.iret (v := 0) hx hb hr (fun t ht hW => ⟨⟨0, (), rfl, rfl, by rw [ht]; exact hP, va_K.moved hW.alike hK, hD⟩, hS.F ht⟩) hS.2.2 (show decode prog_15_method_96_code 34 = .ok (.ireturn, 1) by decide +kernel)
set_option maxHeartbeats 4000000 in
set_option maxRecDepth 100000 in
/-- SignalEngineModel.classes -/
theorem c_MD_classes0 (l : Launch) (D : va_G) (ad : Nat → Nat) (de sz : Nat) (h0 : Nat) (fs : List Value) (hfl : fs.length = 107) (hf85 : xfa fs 85 (.int 0))   : Met l ⟨"SignalEngineModel", "classes", "()I"⟩ (tw ⟨"SignalEngineModel", "classes", "()I"⟩ prog_15_method_102_code 3 (some (.int))) { frames := 1, cells := 0, slots := 0, locals := 22 } (va_Pc [.ref h0] (xp ad de D [(h0, .inr (1, fs))] [] sz)) (va_Qi (fun (r : Int32) (_ : Unit) => r = 0) (fun (_ : Unit) t => xq D (va_A [(h0, .inr (1, fs))] sz) [(h0, .inr (1, (fs.set 0 (.int 1))))] [] t) (va_A [(h0, .inr (1, fs))] sz)) 0 0 (va_A [(h0, .inr (1, fs))] sz) := by
  refine xMet (by decide +kernel) (Nat.le_of_ble_eq_true rfl) ?_
  intro p e s m below meth c hx hb hr hlocks hin hml hown hts hsz hP hK hD hE hA ls hl
  have hS : va_S _ s.heap s.heap [] := va_S.rf (A := va_A [(h0, .inr (1, fs))] sz)
  have hl : lv_has ls 3 [(0, .ref h0)] := hl
  refine lv_aload_n hx hb (show decode prog_15_method_102_code 0 = .ok (.aload_n 0, 1) by decide +kernel) rfl (lv_at hl 0 rfl) ?_
  refine lv_aload_n hx hb (show decode prog_15_method_102_code 1 = .ok (.aload_n 0, 1) by decide +kernel) rfl (lv_at hl 0 rfl) ?_
  refine va_get (D := D) (ci := 1) (v := .int 0) (C := R_MD) (T := F_MD) (N := 107) hx hb hts i_MD hown hK hP 0 rfl rfl 85 (by decide +kernel) (hts _ w_1647) (fun _ h9 => h9) hf85 (show decode prog_15_method_102_code 2 = .ok (.getfield 518, 3) by decide +kernel) ?_
  refine lv_if_ne (tgt := 12) hx hb (show decode prog_15_method_102_code 5 = .ok (.ifCond .ne 7, 3) by decide +kernel) (by decide +kernel) (fun c_1 => absurd c_1 (by decide +kernel)) (fun c_1 => ?_)
  refine lv_iconst (v := 1) hx hb (show decode prog_15_method_102_code 8 = .ok (.iconst 1, 1) by decide +kernel) (by decide +kernel) ?_
  refine lv_goto (tgt := 13) hx hb (show decode prog_15_method_102_code 9 = .ok (.goto 4, 3) by decide +kernel) (by decide +kernel) ?_
  refine lv_iconst (v := 0) hx hb (show decode prog_15_method_102_code 13 = .ok (.iconst 0, 1) by decide +kernel) (by decide +kernel) ?_
  refine xki (wr := []) (xrV (As := [.int 1, .int 0]) (rest := []) ⟨hx, hb, hml, hown, hts⟩ (c_MD_fails10 l D ad de s.heap.size h0 fs hfl) w_2155 w_2 w_2152 w_2154 wp_126 rfl rfl ⟨by decide +kernel, by decide +kernel, rfl⟩ ⟨by decide +kernel, by decide +kernel⟩ hP hK hD hE hS hA [0] [] rfl (by decide +kernel) rfl ⟨0, 1, _, _, rfl, rfl, rfl⟩ hl.1 rfl (Nat.le_of_ble_eq_true rfl) (show decode prog_15_method_102_code 14 = .ok (.invokevirtual 615, 3) by decide +kernel) ⟨by decide +kernel, by decide +kernel⟩) hP hK hD hS hA [0] [] rfl rfl (by decide +kernel) (by decide +kernel) (fun r_2 u_3 H locs hw_4 hP hK hD hS => ?_)
  obtain rfl : r_2 = 1 := hw_4
  have hP : va_P D cl [(h0, .inr (1, (fs.set 0 (.int 1))))] H := hP
  have hD : va_D _ [(h0, .inr (1, (fs.set 0 (.int 1))))] := hD
  refine W.widen (k := 0) (n := 0) (by decide +kernel) (by decide +kernel) ?_
  refine lv_if_eq (tgt := 22) hx hb (show decode prog_15_method_102_code 17 = .ok (.ifCond .eq 5, 3) by decide +kernel) (by decide +kernel) (fun c_5 => absurd c_5 (by decide +kernel)) (fun c_5 => ?_)
  refine lv_iconst (v := 0) hx hb (show decode prog_15_method_102_code 20 = .ok (.iconst 0, 1) by decide +kernel) (by decide +kernel) ?_
  exact W.iret (v := 0) hx hb hr (fun t ht hW => ⟨⟨0, (), rfl, rfl, by rw [ht]; exact hP, va_K.moved hW.alike hK, hD⟩, hS.F ht⟩) hS.2.2 (show decode prog_15_method_102_code 21 = .ok (.ireturn, 1) by decide +kernel)
set_option maxHeartbeats 4000000 in
set_option maxRecDepth 100000 in
/-- SignalEngineModel.lay -/
theorem c_MD_lay0 (l : Launch) (D : va_G) (ad : Nat → Nat) (de sz : Nat) (h0 : Nat) (fs : List Value) (hfl : fs.length = 107) (hf85 : xfa fs 85 (.int 0))   : Met l ⟨"SignalEngineModel", "lay", "()I"⟩ (tw ⟨"SignalEngineModel", "lay", "()I"⟩ prog_15_method_106_code 6 (some (.int))) { frames := 1, cells := 0, slots := 0, locals := 22 } (va_Pc [.ref h0] (xp ad de D [(h0, .inr (1, fs))] [] sz)) (va_Qi (fun (r : Int32) (_ : Unit) => r = 0) (fun (_ : Unit) t => xq D (va_A [(h0, .inr (1, fs))] sz) [(h0, .inr (1, (fs.set 0 (.int 1))))] [] t) (va_A [(h0, .inr (1, fs))] sz)) 0 0 (va_A [(h0, .inr (1, fs))] sz) := by
  refine xMet (by decide +kernel) (Nat.le_of_ble_eq_true rfl) ?_
  intro p e s m below meth c hx hb hr hlocks hin hml hown hts hsz hP hK hD hE hA ls hl
  have hS : va_S _ s.heap s.heap [] := va_S.rf (A := va_A [(h0, .inr (1, fs))] sz)
  have hl : lv_has ls 6 [(0, .ref h0)] := hl
  refine lv_aload_n hx hb (show decode prog_15_method_106_code 0 = .ok (.aload_n 0, 1) by decide +kernel) rfl (lv_at hl 0 rfl) ?_
  refine lv_aload_n hx hb (show decode prog_15_method_106_code 1 = .ok (.aload_n 0, 1) by decide +kernel) rfl (lv_at hl 0 rfl) ?_
  refine va_get (D := D) (ci := 1) (v := .int 0) (C := R_MD) (T := F_MD) (N := 107) hx hb hts i_MD hown hK hP 0 rfl rfl 85 (by decide +kernel) (hts _ w_1647) (fun _ h9 => h9) hf85 (show decode prog_15_method_106_code 2 = .ok (.getfield 518, 3) by decide +kernel) ?_
  refine lv_if_ne (tgt := 12) hx hb (show decode prog_15_method_106_code 5 = .ok (.ifCond .ne 7, 3) by decide +kernel) (by decide +kernel) (fun c_1 => absurd c_1 (by decide +kernel)) (fun c_1 => ?_)
  refine lv_iconst (v := 1) hx hb (show decode prog_15_method_106_code 8 = .ok (.iconst 1, 1) by decide +kernel) (by decide +kernel) ?_
  refine lv_goto (tgt := 13) hx hb (show decode prog_15_method_106_code 9 = .ok (.goto 4, 3) by decide +kernel) (by decide +kernel) ?_
  refine lv_iconst (v := 0) hx hb (show decode prog_15_method_106_code 13 = .ok (.iconst 0, 1) by decide +kernel) (by decide +kernel) ?_
  refine xki (wr := []) (xrV (As := [.int 1, .int 0]) (rest := []) ⟨hx, hb, hml, hown, hts⟩ (c_MD_fails10 l D ad de s.heap.size h0 fs hfl) w_2155 w_2 w_2152 w_2154 wp_126 rfl rfl ⟨by decide +kernel, by decide +kernel, rfl⟩ ⟨by decide +kernel, by decide +kernel⟩ hP hK hD hE hS hA [0] [] rfl (by decide +kernel) rfl ⟨0, 1, _, _, rfl, rfl, rfl⟩ hl.1 rfl (Nat.le_of_ble_eq_true rfl) (show decode prog_15_method_106_code 14 = .ok (.invokevirtual 615, 3) by decide +kernel) ⟨by decide +kernel, by decide +kernel⟩) hP hK hD hS hA [0] [] rfl rfl (by decide +kernel) (by decide +kernel) (fun r_2 u_3 H locs hw_4 hP hK hD hS => ?_)
  obtain rfl : r_2 = 1 := hw_4
  have hP : va_P D cl [(h0, .inr (1, (fs.set 0 (.int 1))))] H := hP
  have hD : va_D _ [(h0, .inr (1, (fs.set 0 (.int 1))))] := hD
  refine W.widen (k := 0) (n := 0) (by decide +kernel) (by decide +kernel) ?_
  refine lv_if_eq (tgt := 22) hx hb (show decode prog_15_method_106_code 17 = .ok (.ifCond .eq 5, 3) by decide +kernel) (by decide +kernel) (fun c_5 => absurd c_5 (by decide +kernel)) (fun c_5 => ?_)
  refine lv_iconst (v := 0) hx hb (show decode prog_15_method_106_code 20 = .ok (.iconst 0, 1) by decide +kernel) (by decide +kernel) ?_
  exact W.iret (v := 0) hx hb hr (fun t ht hW => ⟨⟨0, (), rfl, rfl, by rw [ht]; exact hP, va_K.moved hW.alike hK, hD⟩, hS.F ht⟩) hS.2.2 (show decode prog_15_method_106_code 21 = .ok (.ireturn, 1) by decide +kernel)
set_option maxHeartbeats 4000000 in
set_option maxRecDepth 100000 in
/-- SignalEngineModel.pass -/
theorem c_MD_pass0 (l : Launch) (D : va_G) (ad : Nat → Nat) (de sz : Nat) (h0 : Nat) (fs : List Value) (hfl : fs.length = 107) (hf86 : xfa fs 86 (.int 0))  (p0 : Int32) : Met l ⟨"SignalEngineModel", "pass", "(I)J"⟩ (tw ⟨"SignalEngineModel", "pass", "(I)J"⟩ prog_15_method_107_code 2 (some (.long))) { frames := 1, cells := 0, slots := 0, locals := 22 } (va_Pc [.ref h0, .int p0] (xp ad de D [(h0, .inr (1, fs))] [] sz)) (va_Ql (fun (r : Int64) (_ : Unit) => r = 0) (fun (_ : Unit) t => xq D (va_A [(h0, .inr (1, fs))] sz) [(h0, .inr (1, (fs.set 0 (.int 1))))] [] t) (va_A [(h0, .inr (1, fs))] sz)) 0 0 (va_A [(h0, .inr (1, fs))] sz) := by
  refine xMet (by decide +kernel) (Nat.le_of_ble_eq_true rfl) ?_
  intro p e s m below meth c hx hb hr hlocks hin hml hown hts hsz hP hK hD hE hA ls hl
  have hS : va_S _ s.heap s.heap [] := va_S.rf (A := va_A [(h0, .inr (1, fs))] sz)
  have hl : lv_has ls 2 [(0, .ref h0), (1, .int p0)] := hl
  refine lv_aload_n hx hb (show decode prog_15_method_107_code 0 = .ok (.aload_n 0, 1) by decide +kernel) rfl (lv_at hl 0 rfl) ?_
  refine lv_aload_n hx hb (show decode prog_15_method_107_code 1 = .ok (.aload_n 0, 1) by decide +kernel) rfl (lv_at hl 0 rfl) ?_
  refine va_get (D := D) (ci := 1) (v := .int 0) (C := R_MD) (T := F_MD) (N := 107) hx hb hts i_MD hown hK hP 0 rfl rfl 86 (by decide +kernel) (hts _ w_1648) (fun _ h9 => h9) hf86 (show decode prog_15_method_107_code 2 = .ok (.getfield 515, 3) by decide +kernel) ?_
  refine lv_if_ne (tgt := 12) hx hb (show decode prog_15_method_107_code 5 = .ok (.ifCond .ne 7, 3) by decide +kernel) (by decide +kernel) (fun c_1 => absurd c_1 (by decide +kernel)) (fun c_1 => ?_)
  refine lv_iconst (v := 1) hx hb (show decode prog_15_method_107_code 8 = .ok (.iconst 1, 1) by decide +kernel) (by decide +kernel) ?_
  refine lv_goto (tgt := 13) hx hb (show decode prog_15_method_107_code 9 = .ok (.goto 4, 3) by decide +kernel) (by decide +kernel) ?_
  refine lv_aload_n hx hb (show decode prog_15_method_107_code 13 = .ok (.aload_n 0, 1) by decide +kernel) rfl (lv_at hl 0 rfl) ?_
  refine va_get (D := D) (ci := 1) (v := .int 0) (C := R_MD) (T := F_MD) (N := 107) hx hb hts i_MD hown hK hP 0 rfl rfl 86 (by decide +kernel) (hts _ w_1648) (fun _ h9 => h9) hf86 (show decode prog_15_method_107_code 14 = .ok (.getfield 515, 3) by decide +kernel) ?_
  refine lv_if_eq (tgt := 35) hx hb (show decode prog_15_method_107_code 17 = .ok (.ifCond .eq 18, 3) by decide +kernel) (by decide +kernel) (fun c_2 => ?_) (fun c_2 => absurd c_2 (by decide +kernel))
  refine lv_iconst (v := 0) hx hb (show decode prog_15_method_107_code 35 = .ok (.iconst 0, 1) by decide +kernel) (by decide +kernel) ?_
  refine xki (wr := []) (xrV (As := [.int 1, .int 0]) (rest := []) ⟨hx, hb, hml, hown, hts⟩ (c_MD_fails10 l D ad de s.heap.size h0 fs hfl) w_2155 w_2 w_2152 w_2154 wp_126 rfl rfl ⟨by decide +kernel, by decide +kernel, rfl⟩ ⟨by decide +kernel, by decide +kernel⟩ hP hK hD hE hS hA [0] [] rfl (by decide +kernel) rfl ⟨0, 1, _, _, rfl, rfl, rfl⟩ hl.1 rfl (Nat.le_of_ble_eq_true rfl) (show decode prog_15_method_107_code 36 = .ok (.invokevirtual 615, 3) by decide +kernel) ⟨by decide +kernel, by decide +kernel⟩) hP hK hD hS hA [0] [] rfl rfl (by decide +kernel) (by decide +kernel) (fun r_3 u_4 H locs hw_5 hP hK hD hS => ?_)
  obtain rfl : r_3 = 1 := hw_5
  have hP : va_P D cl [(h0, .inr (1, (fs.set 0 (.int 1))))] H := hP
  have hD : va_D _ [(h0, .inr (1, (fs.set 0 (.int 1))))] := hD
  refine W.widen (k := 0) (n := 0) (by decide +kernel) (by decide +kernel) ?_
  refine lv_if_eq (tgt := 44) hx hb (show decode prog_15_method_107_code 39 = .ok (.ifCond .eq 5, 3) by decide +kernel) (by decide +kernel) (fun c_6 => absurd c_6 (by decide +kernel)) (fun c_6 => ?_)
  refine lv_lconst (v := 0) hx hb (show decode prog_15_method_107_code 42 = .ok (.lconst 0, 1) by decide +kernel) (by decide +kernel) ?_
  exact W.lret (v := 0) hx hb hr (fun t ht hW => ⟨⟨0, (), rfl, rfl, by rw [ht]; exact hP, va_K.moved hW.alike hK, hD⟩, hS.F ht⟩) hS.2.2 (show decode prog_15_method_107_code 43 = .ok (.lreturn, 1) by decide +kernel)
set_option maxHeartbeats 4000000 in
set_option maxRecDepth 100000 in
/-- SignalEngineModel.end -/
theorem c_MD_end0 (l : Launch) (D : va_G) (ad : Nat → Nat) (de sz : Nat) (h0 : Nat) (fs : List Value) (hfl : fs.length = 107) (hf3 : xfa fs 3 (.int 0))  (p0 : Int32) : Met l ⟨"SignalEngineModel", "end", "(I)I"⟩ (tw ⟨"SignalEngineModel", "end", "(I)I"⟩ prog_15_method_5_code 2 (some (.int))) { frames := 0, cells := 0, slots := 0, locals := 0 } (va_Pc [.ref h0, .int p0] (xp ad de D [(h0, .inr (1, fs))] [] sz)) (va_Qi (fun (r : Int32) (_ : Unit) => r = (-1)) (fun (_ : Unit) t => xq D (va_A [(h0, .inr (1, fs))] sz) [(h0, .inr (1, (fs.set 0 (.int 0))))] [] t) (va_A [(h0, .inr (1, fs))] sz)) 0 0 (va_A [(h0, .inr (1, fs))] sz) := by
  refine xMet (by decide +kernel) (Nat.le_of_ble_eq_true rfl) ?_
  intro p e s m below meth c hx hb hr hlocks hin hml hown hts hsz hP hK hD hE hA ls hl
  have hS : va_S _ s.heap s.heap [] := va_S.rf (A := va_A [(h0, .inr (1, fs))] sz)
  have hl : lv_has ls 2 [(0, .ref h0), (1, .int p0)] := hl
  refine lv_aload_n hx hb (show decode prog_15_method_5_code 0 = .ok (.aload_n 0, 1) by decide +kernel) rfl (lv_at hl 0 rfl) ?_
  refine lv_iconst (v := 0) hx hb (show decode prog_15_method_5_code 1 = .ok (.iconst 0, 1) by decide +kernel) (by decide +kernel) ?_
  refine va_put (D := D) (ci := 1) (v := .int 0) (ty := .int) (C := R_MD) (T := F_MD) (N := 107) hx hb hts i_MD t_MD t_MD_ok n_MD hown hK hP hD hS 0 rfl rfl 0 (by decide +kernel) (hts _ w_1562) (fun _ h9 => h9) rfl (by decide +kernel) rfl rfl (by simp [hfl]) (show decode prog_15_method_5_code 2 = .ok (.putfield 206, 3) by decide +kernel) (fun H locs hP hD hS => ?_)
  have hP : va_P D cl [(h0, .inr (1, (fs.set 0 (.int 0))))] H := hP
  have hD : va_D _ [(h0, .inr (1, (fs.set 0 (.int 0))))] := hD
  refine lv_aload_n hx hb (show decode prog_15_method_5_code 5 = .ok (.aload_n 0, 1) by decide +kernel) rfl (lv_at hl 0 rfl) ?_
  refine va_get (D := D) (ci := 1) (v := .int 0) (C := R_MD) (T := F_MD) (N := 107) hx hb hts i_MD hown hK hP 0 rfl rfl 3 (by decide +kernel) (hts _ w_1565) (fun _ h9 => h9) (xg_ne (by decide +kernel) hf3) (show decode prog_15_method_5_code 6 = .ok (.getfield 213, 3) by decide +kernel) ?_
  refine lv_if_eq (tgt := 22) hx hb (show decode prog_15_method_5_code 9 = .ok (.ifCond .eq 13, 3) by decide +kernel) (by decide +kernel) (fun c_1 => ?_) (fun c_1 => absurd c_1 (by decide +kernel))
  refine lv_iconst (v := (-1)) hx hb (show decode prog_15_method_5_code 22 = .ok (.iconst (-1), 1) by decide +kernel) (by decide +kernel) ?_
  exact W.iret (v := (-1)) hx hb hr (fun t ht hW => ⟨⟨(-1), (), rfl, rfl, by rw [ht]; exact hP, va_K.moved hW.alike hK, hD⟩, hS.F ht⟩) hS.2.2 (show decode prog_15_method_5_code 23 = .ok (.ireturn, 1) by decide +kernel)
set_option maxHeartbeats 4000000 in
set_option maxRecDepth 100000 in
/-- SignalEngineModel.node -/
theorem c_MD_node0 (l : Launch) (D : va_G) (ad : Nat → Nat) (de sz : Nat) (h0 : Nat) (fs : List Value) (hfl : fs.length = 107) (hf41 : xfa fs 41 (.int 0)) (hf42 : xfa fs 42 (.int 0))  (p0 : Int32) (p1 : Int32) : Met l ⟨"SignalEngineModel", "node", "(II)I"⟩ (tw ⟨"SignalEngineModel", "node", "(II)I"⟩ prog_15_method_60_code 3 (some (.int))) { frames := 0, cells := 0, slots := 0, locals := 0 } (va_Pc [.ref h0, .int p0, .int p1] (xp ad de D [(h0, .inr (1, fs))] [] sz)) (va_Qi (fun (r : Int32) (_ : Unit) => r = (-1)) (fun (_ : Unit) t => xq D (va_A [(h0, .inr (1, fs))] sz) [(h0, .inr (1, (fs.set 0 (.int 0))))] [] t) (va_A [(h0, .inr (1, fs))] sz)) 0 0 (va_A [(h0, .inr (1, fs))] sz) := by
  refine xMet (by decide +kernel) (Nat.le_of_ble_eq_true rfl) ?_
  intro p e s m below meth c hx hb hr hlocks hin hml hown hts hsz hP hK hD hE hA ls hl
  have hS : va_S _ s.heap s.heap [] := va_S.rf (A := va_A [(h0, .inr (1, fs))] sz)
  have hl : lv_has ls 3 [(0, .ref h0), (1, .int p0), (2, .int p1)] := hl
  refine lv_aload_n hx hb (show decode prog_15_method_60_code 0 = .ok (.aload_n 0, 1) by decide +kernel) rfl (lv_at hl 0 rfl) ?_
  refine lv_iconst (v := 0) hx hb (show decode prog_15_method_60_code 1 = .ok (.iconst 0, 1) by decide +kernel) (by decide +kernel) ?_
  refine va_put (D := D) (ci := 1) (v := .int 0) (ty := .int) (C := R_MD) (T := F_MD) (N := 107) hx hb hts i_MD t_MD t_MD_ok n_MD hown hK hP hD hS 0 rfl rfl 0 (by decide +kernel) (hts _ w_1562) (fun _ h9 => h9) rfl (by decide +kernel) rfl rfl (by simp [hfl]) (show decode prog_15_method_60_code 2 = .ok (.putfield 206, 3) by decide +kernel) (fun H locs hP hD hS => ?_)
  have hP : va_P D cl [(h0, .inr (1, (fs.set 0 (.int 0))))] H := hP
  have hD : va_D _ [(h0, .inr (1, (fs.set 0 (.int 0))))] := hD
  refine lv_iload_n hx hb (show decode prog_15_method_60_code 5 = .ok (.iload_n 1, 1) by decide +kernel) rfl (lv_at hl 1 rfl) ?_
  refine lv_if_lt (tgt := 17) hx hb (show decode prog_15_method_60_code 6 = .ok (.ifCond .lt 11, 3) by decide +kernel) (by decide +kernel) (fun c_1 => ?_) (fun c_1 => ?_)
  · skip
    refine lv_iconst (v := (-1)) hx hb (show decode prog_15_method_60_code 17 = .ok (.iconst (-1), 1) by decide +kernel) (by decide +kernel) ?_
    exact W.iret (v := (-1)) hx hb hr (fun t ht hW => ⟨⟨(-1), (), rfl, rfl, by rw [ht]; exact hP, va_K.moved hW.alike hK, hD⟩, hS.F ht⟩) hS.2.2 (show decode prog_15_method_60_code 18 = .ok (.ireturn, 1) by decide +kernel)
  · skip
    refine lv_iload_n hx hb (show decode prog_15_method_60_code 9 = .ok (.iload_n 1, 1) by decide +kernel) rfl (lv_at hl 1 rfl) ?_
    refine lv_aload_n hx hb (show decode prog_15_method_60_code 10 = .ok (.aload_n 0, 1) by decide +kernel) rfl (lv_at hl 0 rfl) ?_
    refine va_get (D := D) (ci := 1) (v := .int 0) (C := R_MD) (T := F_MD) (N := 107) hx hb hts i_MD hown hK hP 0 rfl rfl 42 (by decide +kernel) (hts _ w_1604) (fun _ h9 => h9) (xg_ne (by decide +kernel) hf42) (show decode prog_15_method_60_code 11 = .ok (.getfield 539, 3) by decide +kernel) ?_
    refine lv_icmp_lt (tgt := 19) hx hb (show decode prog_15_method_60_code 14 = .ok (.if_icmp .lt 5, 3) by decide +kernel) (by decide +kernel) (fun c_2 => absurd c_2 c_1) (fun c_2 => ?_)
    refine lv_iconst (v := (-1)) hx hb (show decode prog_15_method_60_code 17 = .ok (.iconst (-1), 1) by decide +kernel) (by decide +kernel) ?_
    exact W.iret (v := (-1)) hx hb hr (fun t ht hW => ⟨⟨(-1), (), rfl, rfl, by rw [ht]; exact hP, va_K.moved hW.alike hK, hD⟩, hS.F ht⟩) hS.2.2 (show decode prog_15_method_60_code 18 = .ok (.ireturn, 1) by decide +kernel)
set_option maxHeartbeats 4000000 in
set_option maxRecDepth 100000 in
/-- SignalEngineModel.piece -/
theorem c_MD_piece0 (l : Launch) (D : va_G) (ad : Nat → Nat) (de sz : Nat) (h0 : Nat) (fs : List Value) (hfl : fs.length = 107) (hf41 : xfa fs 41 (.int 0)) (hf43 : xfa fs 43 (.int 0))  (p0 : Int32) (p1 : Int32) : Met l ⟨"SignalEngineModel", "piece", "(II)I"⟩ (tw ⟨"SignalEngineModel", "piece", "(II)I"⟩ prog_15_method_61_code 3 (some (.int))) { frames := 0, cells := 0, slots := 0, locals := 0 } (va_Pc [.ref h0, .int p0, .int p1] (xp ad de D [(h0, .inr (1, fs))] [] sz)) (va_Qi (fun (r : Int32) (_ : Unit) => r = (-1)) (fun (_ : Unit) t => xq D (va_A [(h0, .inr (1, fs))] sz) [(h0, .inr (1, (fs.set 0 (.int 0))))] [] t) (va_A [(h0, .inr (1, fs))] sz)) 0 0 (va_A [(h0, .inr (1, fs))] sz) := by
  refine xMet (by decide +kernel) (Nat.le_of_ble_eq_true rfl) ?_
  intro p e s m below meth c hx hb hr hlocks hin hml hown hts hsz hP hK hD hE hA ls hl
  have hS : va_S _ s.heap s.heap [] := va_S.rf (A := va_A [(h0, .inr (1, fs))] sz)
  have hl : lv_has ls 3 [(0, .ref h0), (1, .int p0), (2, .int p1)] := hl
  refine lv_aload_n hx hb (show decode prog_15_method_61_code 0 = .ok (.aload_n 0, 1) by decide +kernel) rfl (lv_at hl 0 rfl) ?_
  refine lv_iconst (v := 0) hx hb (show decode prog_15_method_61_code 1 = .ok (.iconst 0, 1) by decide +kernel) (by decide +kernel) ?_
  refine va_put (D := D) (ci := 1) (v := .int 0) (ty := .int) (C := R_MD) (T := F_MD) (N := 107) hx hb hts i_MD t_MD t_MD_ok n_MD hown hK hP hD hS 0 rfl rfl 0 (by decide +kernel) (hts _ w_1562) (fun _ h9 => h9) rfl (by decide +kernel) rfl rfl (by simp [hfl]) (show decode prog_15_method_61_code 2 = .ok (.putfield 206, 3) by decide +kernel) (fun H locs hP hD hS => ?_)
  have hP : va_P D cl [(h0, .inr (1, (fs.set 0 (.int 0))))] H := hP
  have hD : va_D _ [(h0, .inr (1, (fs.set 0 (.int 0))))] := hD
  refine lv_iload_n hx hb (show decode prog_15_method_61_code 5 = .ok (.iload_n 1, 1) by decide +kernel) rfl (lv_at hl 1 rfl) ?_
  refine lv_if_lt (tgt := 17) hx hb (show decode prog_15_method_61_code 6 = .ok (.ifCond .lt 11, 3) by decide +kernel) (by decide +kernel) (fun c_1 => ?_) (fun c_1 => ?_)
  · skip
    refine lv_iconst (v := (-1)) hx hb (show decode prog_15_method_61_code 17 = .ok (.iconst (-1), 1) by decide +kernel) (by decide +kernel) ?_
    exact W.iret (v := (-1)) hx hb hr (fun t ht hW => ⟨⟨(-1), (), rfl, rfl, by rw [ht]; exact hP, va_K.moved hW.alike hK, hD⟩, hS.F ht⟩) hS.2.2 (show decode prog_15_method_61_code 18 = .ok (.ireturn, 1) by decide +kernel)
  · skip
    refine lv_iload_n hx hb (show decode prog_15_method_61_code 9 = .ok (.iload_n 1, 1) by decide +kernel) rfl (lv_at hl 1 rfl) ?_
    refine lv_aload_n hx hb (show decode prog_15_method_61_code 10 = .ok (.aload_n 0, 1) by decide +kernel) rfl (lv_at hl 0 rfl) ?_
    refine va_get (D := D) (ci := 1) (v := .int 0) (C := R_MD) (T := F_MD) (N := 107) hx hb hts i_MD hown hK hP 0 rfl rfl 43 (by decide +kernel) (hts _ w_1605) (fun _ h9 => h9) (xg_ne (by decide +kernel) hf43) (show decode prog_15_method_61_code 11 = .ok (.getfield 501, 3) by decide +kernel) ?_
    refine lv_icmp_lt (tgt := 19) hx hb (show decode prog_15_method_61_code 14 = .ok (.if_icmp .lt 5, 3) by decide +kernel) (by decide +kernel) (fun c_2 => absurd c_2 c_1) (fun c_2 => ?_)
    refine lv_iconst (v := (-1)) hx hb (show decode prog_15_method_61_code 17 = .ok (.iconst (-1), 1) by decide +kernel) (by decide +kernel) ?_
    exact W.iret (v := (-1)) hx hb hr (fun t ht hW => ⟨⟨(-1), (), rfl, rfl, by rw [ht]; exact hP, va_K.moved hW.alike hK, hD⟩, hS.F ht⟩) hS.2.2 (show decode prog_15_method_61_code 18 = .ok (.ireturn, 1) by decide +kernel)
set_option maxHeartbeats 4000000 in
set_option maxRecDepth 100000 in
/-- SignalEngineModel.letter -/
theorem c_MD_letter0 (l : Launch) (D : va_G) (ad : Nat → Nat) (de sz : Nat) (h0 : Nat) (fs : List Value) (hfl : fs.length = 107) (hf41 : xfa fs 41 (.int 0)) (hf44 : xfa fs 44 (.int 0))  (p0 : Int32) (p1 : Int32) : Met l ⟨"SignalEngineModel", "letter", "(II)I"⟩ (tw ⟨"SignalEngineModel", "letter", "(II)I"⟩ prog_15_method_62_code 3 (some (.int))) { frames := 0, cells := 0, slots := 0, locals := 0 } (va_Pc [.ref h0, .int p0, .int p1] (xp ad de D [(h0, .inr (1, fs))] [] sz)) (va_Qi (fun (r : Int32) (_ : Unit) => r = (-1)) (fun (_ : Unit) t => xq D (va_A [(h0, .inr (1, fs))] sz) [(h0, .inr (1, (fs.set 0 (.int 0))))] [] t) (va_A [(h0, .inr (1, fs))] sz)) 0 0 (va_A [(h0, .inr (1, fs))] sz) := by
  refine xMet (by decide +kernel) (Nat.le_of_ble_eq_true rfl) ?_
  intro p e s m below meth c hx hb hr hlocks hin hml hown hts hsz hP hK hD hE hA ls hl
  have hS : va_S _ s.heap s.heap [] := va_S.rf (A := va_A [(h0, .inr (1, fs))] sz)
  have hl : lv_has ls 3 [(0, .ref h0), (1, .int p0), (2, .int p1)] := hl
  refine lv_aload_n hx hb (show decode prog_15_method_62_code 0 = .ok (.aload_n 0, 1) by decide +kernel) rfl (lv_at hl 0 rfl) ?_
  refine lv_iconst (v := 0) hx hb (show decode prog_15_method_62_code 1 = .ok (.iconst 0, 1) by decide +kernel) (by decide +kernel) ?_
  refine va_put (D := D) (ci := 1) (v := .int 0) (ty := .int) (C := R_MD) (T := F_MD) (N := 107) hx hb hts i_MD t_MD t_MD_ok n_MD hown hK hP hD hS 0 rfl rfl 0 (by decide +kernel) (hts _ w_1562) (fun _ h9 => h9) rfl (by decide +kernel) rfl rfl (by simp [hfl]) (show decode prog_15_method_62_code 2 = .ok (.putfield 206, 3) by decide +kernel) (fun H locs hP hD hS => ?_)
  have hP : va_P D cl [(h0, .inr (1, (fs.set 0 (.int 0))))] H := hP
  have hD : va_D _ [(h0, .inr (1, (fs.set 0 (.int 0))))] := hD
  refine lv_iload_n hx hb (show decode prog_15_method_62_code 5 = .ok (.iload_n 1, 1) by decide +kernel) rfl (lv_at hl 1 rfl) ?_
  refine lv_if_lt (tgt := 31) hx hb (show decode prog_15_method_62_code 6 = .ok (.ifCond .lt 25, 3) by decide +kernel) (by decide +kernel) (fun c_1 => ?_) (fun c_1 => ?_)
  · skip
    refine lv_iconst (v := (-1)) hx hb (show decode prog_15_method_62_code 31 = .ok (.iconst (-1), 1) by decide +kernel) (by decide +kernel) ?_
    refine lv_goto (tgt := 46) hx hb (show decode prog_15_method_62_code 32 = .ok (.goto 14, 3) by decide +kernel) (by decide +kernel) ?_
    exact W.iret (v := (-1)) hx hb hr (fun t ht hW => ⟨⟨(-1), (), rfl, rfl, by rw [ht]; exact hP, va_K.moved hW.alike hK, hD⟩, hS.F ht⟩) hS.2.2 (show decode prog_15_method_62_code 46 = .ok (.ireturn, 1) by decide +kernel)
  · skip
    refine lv_iload_n hx hb (show decode prog_15_method_62_code 9 = .ok (.iload_n 1, 1) by decide +kernel) rfl (lv_at hl 1 rfl) ?_
    refine lv_aload_n hx hb (show decode prog_15_method_62_code 10 = .ok (.aload_n 0, 1) by decide +kernel) rfl (lv_at hl 0 rfl) ?_
    refine va_get (D := D) (ci := 1) (v := .int 0) (C := R_MD) (T := F_MD) (N := 107) hx hb hts i_MD hown hK hP 0 rfl rfl 44 (by decide +kernel) (hts _ w_1606) (fun _ h9 => h9) (xg_ne (by decide +kernel) hf44) (show decode prog_15_method_62_code 11 = .ok (.getfield 536, 3) by decide +kernel) ?_
    refine lv_icmp_ge (tgt := 31) hx hb (show decode prog_15_method_62_code 14 = .ok (.if_icmp .ge 17, 3) by decide +kernel) (by decide +kernel) (fun c_2 => ?_) (fun c_2 => absurd (Int32.not_lt.mp c_1) c_2)
    refine lv_iconst (v := (-1)) hx hb (show decode prog_15_method_62_code 31 = .ok (.iconst (-1), 1) by decide +kernel) (by decide +kernel) ?_
    refine lv_goto (tgt := 46) hx hb (show decode prog_15_method_62_code 32 = .ok (.goto 14, 3) by decide +kernel) (by decide +kernel) ?_
    exact W.iret (v := (-1)) hx hb hr (fun t ht hW => ⟨⟨(-1), (), rfl, rfl, by rw [ht]; exact hP, va_K.moved hW.alike hK, hD⟩, hS.F ht⟩) hS.2.2 (show decode prog_15_method_62_code 46 = .ok (.ireturn, 1) by decide +kernel)
set_option maxHeartbeats 4000000 in
set_option maxRecDepth 100000 in
/-- SignalEngineModel.status -/
theorem c_MD_status0 (l : Launch) (D : va_G) (ad : Nat → Nat) (de sz : Nat) (h0 : Nat) (fs : List Value) (hfl : fs.length = 107) (hf41 : xfa fs 41 (.int 0)) (hf45 : xfa fs 45 (.int 0)) (hf46 : xfa fs 46 (.int 0))  (p0 : Int32) : Met l ⟨"SignalEngineModel", "status", "(I)I"⟩ (tw ⟨"SignalEngineModel", "status", "(I)I"⟩ prog_15_method_82_code 2 (some (.int))) { frames := 0, cells := 0, slots := 0, locals := 0 } (va_Pc [.ref h0, .int p0] (xp ad de D [(h0, .inr (1, fs))] [] sz)) (va_Qi (fun (r : Int32) (_ : Unit) => r = 0) (fun (_ : Unit) t => xq D (va_A [(h0, .inr (1, fs))] sz) [(h0, .inr (1, (fs.set 0 (.int 0))))] [] t) (va_A [(h0, .inr (1, fs))] sz)) 0 0 (va_A [(h0, .inr (1, fs))] sz) := by
  refine xMet (by decide +kernel) (Nat.le_of_ble_eq_true rfl) ?_
  intro p e s m below meth c hx hb hr hlocks hin hml hown hts hsz hP hK hD hE hA ls hl
  have hS : va_S _ s.heap s.heap [] := va_S.rf (A := va_A [(h0, .inr (1, fs))] sz)
  have hl : lv_has ls 2 [(0, .ref h0), (1, .int p0)] := hl
  refine lv_aload_n hx hb (show decode prog_15_method_82_code 0 = .ok (.aload_n 0, 1) by decide +kernel) rfl (lv_at hl 0 rfl) ?_
  refine lv_iconst (v := 0) hx hb (show decode prog_15_method_82_code 1 = .ok (.iconst 0, 1) by decide +kernel) (by decide +kernel) ?_
  refine va_put (D := D) (ci := 1) (v := .int 0) (ty := .int) (C := R_MD) (T := F_MD) (N := 107) hx hb hts i_MD t_MD t_MD_ok n_MD hown hK hP hD hS 0 rfl rfl 0 (by decide +kernel) (hts _ w_1562) (fun _ h9 => h9) rfl (by decide +kernel) rfl rfl (by simp [hfl]) (show decode prog_15_method_82_code 2 = .ok (.putfield 206, 3) by decide +kernel) (fun H locs hP hD hS => ?_)
  have hP : va_P D cl [(h0, .inr (1, (fs.set 0 (.int 0))))] H := hP
  have hD : va_D _ [(h0, .inr (1, (fs.set 0 (.int 0))))] := hD
  refine lv_iload_n hx hb (show decode prog_15_method_82_code 5 = .ok (.iload_n 1, 1) by decide +kernel) rfl (lv_at hl 1 rfl) ?_
  refine lv_if_lt (tgt := 29) hx hb (show decode prog_15_method_82_code 6 = .ok (.ifCond .lt 23, 3) by decide +kernel) (by decide +kernel) (fun c_1 => ?_) (fun c_1 => ?_)
  · skip
    refine lv_iconst (v := 0) hx hb (show decode prog_15_method_82_code 29 = .ok (.iconst 0, 1) by decide +kernel) (by decide +kernel) ?_
    refine lv_goto (tgt := 39) hx hb (show decode prog_15_method_82_code 30 = .ok (.goto 9, 3) by decide +kernel) (by decide +kernel) ?_
    exact W.iret (v := 0) hx hb hr (fun t ht hW => ⟨⟨0, (), rfl, rfl, by rw [ht]; exact hP, va_K.moved hW.alike hK, hD⟩, hS.F ht⟩) hS.2.2 (show decode prog_15_method_82_code 39 = .ok (.ireturn, 1) by decide +kernel)
  · skip
    refine lv_iload_n hx hb (show decode prog_15_method_82_code 9 = .ok (.iload_n 1, 1) by decide +kernel) rfl (lv_at hl 1 rfl) ?_
    refine lv_aload_n hx hb (show decode prog_15_method_82_code 10 = .ok (.aload_n 0, 1) by decide +kernel) rfl (lv_at hl 0 rfl) ?_
    refine va_get (D := D) (ci := 1) (v := .int 0) (C := R_MD) (T := F_MD) (N := 107) hx hb hts i_MD hown hK hP 0 rfl rfl 45 (by decide +kernel) (hts _ w_1607) (fun _ h9 => h9) (xg_ne (by decide +kernel) hf45) (show decode prog_15_method_82_code 11 = .ok (.getfield 533, 3) by decide +kernel) ?_
    refine lv_aload_n hx hb (show decode prog_15_method_82_code 14 = .ok (.aload_n 0, 1) by decide +kernel) rfl (lv_at hl 0 rfl) ?_
    refine va_get (D := D) (ci := 1) (v := .int 0) (C := R_MD) (T := F_MD) (N := 107) hx hb hts i_MD hown hK hP 0 rfl rfl 46 (by decide +kernel) (hts _ w_1608) (fun _ h9 => h9) (xg_ne (by decide +kernel) hf46) (show decode prog_15_method_82_code 15 = .ok (.getfield 530, 3) by decide +kernel) ?_
    refine lv_iadd hx hb (show decode prog_15_method_82_code 18 = .ok (.iadd, 1) by decide +kernel) ?_
    refine xtopi (v := 0) (by decide +kernel) ?_
    refine lv_icmp_ge (tgt := 29) hx hb (show decode prog_15_method_82_code 19 = .ok (.if_icmp .ge 10, 3) by decide +kernel) (by decide +kernel) (fun c_2 => ?_) (fun c_2 => absurd (Int32.not_lt.mp c_1) c_2)
    refine lv_iconst (v := 0) hx hb (show decode prog_15_method_82_code 29 = .ok (.iconst 0, 1) by decide +kernel) (by decide +kernel) ?_
    refine lv_goto (tgt := 39) hx hb (show decode prog_15_method_82_code 30 = .ok (.goto 9, 3) by decide +kernel) (by decide +kernel) ?_
    exact W.iret (v := 0) hx hb hr (fun t ht hW => ⟨⟨0, (), rfl, rfl, by rw [ht]; exact hP, va_K.moved hW.alike hK, hD⟩, hS.F ht⟩) hS.2.2 (show decode prog_15_method_82_code 39 = .ok (.ireturn, 1) by decide +kernel)
set_option maxHeartbeats 4000000 in
set_option maxRecDepth 100000 in
/-- SignalEngineModel.selected -/
theorem c_MD_selected0 (l : Launch) (D : va_G) (ad : Nat → Nat) (de sz : Nat) (h0 : Nat) (fs : List Value) (hfl : fs.length = 107) (hf47 : xfa fs 47 (.int 0))  (p0 : Int32) : Met l ⟨"SignalEngineModel", "selected", "(I)Z"⟩ (tw ⟨"SignalEngineModel", "selected", "(I)Z"⟩ prog_15_method_83_code 2 (some (.boolean))) { frames := 0, cells := 0, slots := 0, locals := 0 } (va_Pc [.ref h0, .int p0] (xp ad de D [(h0, .inr (1, fs))] [] sz)) (va_Qi (fun (r : Int32) (_ : Unit) => r = 0) (fun (_ : Unit) t => xq D (va_A [(h0, .inr (1, fs))] sz) [(h0, .inr (1, (fs.set 0 (.int 0))))] [] t) (va_A [(h0, .inr (1, fs))] sz)) 0 0 (va_A [(h0, .inr (1, fs))] sz) := by
  refine xMet (by decide +kernel) (Nat.le_of_ble_eq_true rfl) ?_
  intro p e s m below meth c hx hb hr hlocks hin hml hown hts hsz hP hK hD hE hA ls hl
  have hS : va_S _ s.heap s.heap [] := va_S.rf (A := va_A [(h0, .inr (1, fs))] sz)
  have hl : lv_has ls 2 [(0, .ref h0), (1, .int p0)] := hl
  refine lv_aload_n hx hb (show decode prog_15_method_83_code 0 = .ok (.aload_n 0, 1) by decide +kernel) rfl (lv_at hl 0 rfl) ?_
  refine lv_iconst (v := 0) hx hb (show decode prog_15_method_83_code 1 = .ok (.iconst 0, 1) by decide +kernel) (by decide +kernel) ?_
  refine va_put (D := D) (ci := 1) (v := .int 0) (ty := .int) (C := R_MD) (T := F_MD) (N := 107) hx hb hts i_MD t_MD t_MD_ok n_MD hown hK hP hD hS 0 rfl rfl 0 (by decide +kernel) (hts _ w_1562) (fun _ h9 => h9) rfl (by decide +kernel) rfl rfl (by simp [hfl]) (show decode prog_15_method_83_code 2 = .ok (.putfield 206, 3) by decide +kernel) (fun H locs hP hD hS => ?_)
  have hP : va_P D cl [(h0, .inr (1, (fs.set 0 (.int 0))))] H := hP
  have hD : va_D _ [(h0, .inr (1, (fs.set 0 (.int 0))))] := hD
  refine lv_iload_n hx hb (show decode prog_15_method_83_code 5 = .ok (.iload_n 1, 1) by decide +kernel) rfl (lv_at hl 1 rfl) ?_
  refine lv_if_lt (tgt := 30) hx hb (show decode prog_15_method_83_code 6 = .ok (.ifCond .lt 24, 3) by decide +kernel) (by decide +kernel) (fun c_1 => ?_) (fun c_1 => ?_)
  · skip
    refine lv_iconst (v := 0) hx hb (show decode prog_15_method_83_code 30 = .ok (.iconst 0, 1) by decide +kernel) (by decide +kernel) ?_
    exact W.zret (v := 0) hx hb hr (by decide +kernel) (fun t ht hW => ⟨⟨0, (), rfl, rfl, by rw [ht]; exact hP, va_K.moved hW.alike hK, hD⟩, hS.F ht⟩) hS.2.2 (show decode prog_15_method_83_code 31 = .ok (.ireturn, 1) by decide +kernel)
  · skip
    refine lv_iload_n hx hb (show decode prog_15_method_83_code 9 = .ok (.iload_n 1, 1) by decide +kernel) rfl (lv_at hl 1 rfl) ?_
    refine lv_aload_n hx hb (show decode prog_15_method_83_code 10 = .ok (.aload_n 0, 1) by decide +kernel) rfl (lv_at hl 0 rfl) ?_
    refine va_get (D := D) (ci := 1) (v := .int 0) (C := R_MD) (T := F_MD) (N := 107) hx hb hts i_MD hown hK hP 0 rfl rfl 47 (by decide +kernel) (hts _ w_1609) (fun _ h9 => h9) (xg_ne (by decide +kernel) hf47) (show decode prog_15_method_83_code 11 = .ok (.getfield 498, 3) by decide +kernel) ?_
    refine lv_icmp_ge (tgt := 30) hx hb (show decode prog_15_method_83_code 14 = .ok (.if_icmp .ge 16, 3) by decide +kernel) (by decide +kernel) (fun c_2 => ?_) (fun c_2 => absurd (Int32.not_lt.mp c_1) c_2)
    refine lv_iconst (v := 0) hx hb (show decode prog_15_method_83_code 30 = .ok (.iconst 0, 1) by decide +kernel) (by decide +kernel) ?_
    exact W.zret (v := 0) hx hb hr (by decide +kernel) (fun t ht hW => ⟨⟨0, (), rfl, rfl, by rw [ht]; exact hP, va_K.moved hW.alike hK, hD⟩, hS.F ht⟩) hS.2.2 (show decode prog_15_method_83_code 31 = .ok (.ireturn, 1) by decide +kernel)
set_option maxHeartbeats 4000000 in
set_option maxRecDepth 100000 in
/-- SignalEngineModel.placeOf -/
theorem c_MD_placeOf0 (l : Launch) (D : va_G) (ad : Nat → Nat) (de sz : Nat) (h0 : Nat) (fs : List Value) (hfl : fs.length = 107) (hf85 : xfa fs 85 (.int 0))  (p0 : Int32) : Met l ⟨"SignalEngineModel", "placeOf", "(I)I"⟩ (tw ⟨"SignalEngineModel", "placeOf", "(I)I"⟩ prog_15_method_85_code 2 (some (.int))) { frames := 0, cells := 0, slots := 0, locals := 0 } (va_Pc [.ref h0, .int p0] (xp ad de D [(h0, .inr (1, fs))] [] sz)) (va_Qi (fun (r : Int32) (_ : Unit) => r = (-1)) (fun (_ : Unit) t => xq D (va_A [(h0, .inr (1, fs))] sz) [(h0, .inr (1, fs))] [] t) (va_A [(h0, .inr (1, fs))] sz)) 0 0 (va_A [(h0, .inr (1, fs))] sz) := by
  refine xMet (by decide +kernel) (Nat.le_of_ble_eq_true rfl) ?_
  intro p e s m below meth c hx hb hr hlocks hin hml hown hts hsz hP hK hD hE hA ls hl
  have hS : va_S _ s.heap s.heap [] := va_S.rf (A := va_A [(h0, .inr (1, fs))] sz)
  have hl : lv_has ls 2 [(0, .ref h0), (1, .int p0)] := hl
  refine lv_aload_n hx hb (show decode prog_15_method_85_code 0 = .ok (.aload_n 0, 1) by decide +kernel) rfl (lv_at hl 0 rfl) ?_
  refine va_get (D := D) (ci := 1) (v := .int 0) (C := R_MD) (T := F_MD) (N := 107) hx hb hts i_MD hown hK hP 0 rfl rfl 85 (by decide +kernel) (hts _ w_1647) (fun _ h9 => h9) hf85 (show decode prog_15_method_85_code 1 = .ok (.getfield 518, 3) by decide +kernel) ?_
  refine lv_if_eq (tgt := 15) hx hb (show decode prog_15_method_85_code 4 = .ok (.ifCond .eq 11, 3) by decide +kernel) (by decide +kernel) (fun c_1 => ?_) (fun c_1 => absurd c_1 (by decide +kernel))
  refine lv_iconst (v := (-1)) hx hb (show decode prog_15_method_85_code 15 = .ok (.iconst (-1), 1) by decide +kernel) (by decide +kernel) ?_
  exact W.iret (v := (-1)) hx hb hr (fun t ht hW => ⟨⟨(-1), (), rfl, rfl, by rw [ht]; exact hP, va_K.moved hW.alike hK, hD⟩, hS.F ht⟩) hS.2.2 (show decode prog_15_method_85_code 16 = .ok (.ireturn, 1) by decide +kernel)
set_option maxHeartbeats 4000000 in
set_option maxRecDepth 100000 in
/-- SignalEngineModel.distance -/
theorem c_MD_distance0 (l : Launch) (D : va_G) (ad : Nat → Nat) (de sz : Nat) (h0 : Nat) (fs : List Value) (hfl : fs.length = 107) (hf85 : xfa fs 85 (.int 0))  (p0 : Int32) : Met l ⟨"SignalEngineModel", "distance", "(I)I"⟩ (tw ⟨"SignalEngineModel", "distance", "(I)I"⟩ prog_15_method_92_code 3 (some (.int))) { frames := 1, cells := 0, slots := 0, locals := 21 } (va_Pc [.ref h0, .int p0] (xp ad de D [(h0, .inr (1, fs))] [] sz)) (va_Qi (fun (r : Int32) (_ : Unit) => r = (-1)) (fun (_ : Unit) t => xq D (va_A [(h0, .inr (1, fs))] sz) [(h0, .inr (1, (fs.set 0 (.int 0))))] [] t) (va_A [(h0, .inr (1, fs))] sz)) 0 0 (va_A [(h0, .inr (1, fs))] sz) := by
  refine xMet (by decide +kernel) (Nat.le_of_ble_eq_true rfl) ?_
  intro p e s m below meth c hx hb hr hlocks hin hml hown hts hsz hP hK hD hE hA ls hl
  have hS : va_S _ s.heap s.heap [] := va_S.rf (A := va_A [(h0, .inr (1, fs))] sz)
  have hl : lv_has ls 3 [(0, .ref h0), (1, .int p0)] := hl
  refine lv_aload_n hx hb (show decode prog_15_method_92_code 0 = .ok (.aload_n 0, 1) by decide +kernel) rfl (lv_at hl 0 rfl) ?_
  refine lv_iconst (v := 0) hx hb (show decode prog_15_method_92_code 1 = .ok (.iconst 0, 1) by decide +kernel) (by decide +kernel) ?_
  refine va_put (D := D) (ci := 1) (v := .int 0) (ty := .int) (C := R_MD) (T := F_MD) (N := 107) hx hb hts i_MD t_MD t_MD_ok n_MD hown hK hP hD hS 0 rfl rfl 0 (by decide +kernel) (hts _ w_1562) (fun _ h9 => h9) rfl (by decide +kernel) rfl rfl (by simp [hfl]) (show decode prog_15_method_92_code 2 = .ok (.putfield 206, 3) by decide +kernel) (fun H locs hP hD hS => ?_)
  have hP : va_P D cl [(h0, .inr (1, (fs.set 0 (.int 0))))] H := hP
  have hD : va_D _ [(h0, .inr (1, (fs.set 0 (.int 0))))] := hD
  refine lv_aload_n hx hb (show decode prog_15_method_92_code 5 = .ok (.aload_n 0, 1) by decide +kernel) rfl (lv_at hl 0 rfl) ?_
  refine lv_iload_n hx hb (show decode prog_15_method_92_code 6 = .ok (.iload_n 1, 1) by decide +kernel) rfl (lv_at hl 1 rfl) ?_
  refine xki (wr := []) (xrV (As := [.int p0]) (rest := []) ⟨hx, hb, hml, hown, hts⟩ (c_MD_placeOf0 l D ad de H.size h0 (fs.set 0 (.int 0)) (by simp [hfl]) (xg_ne (by decide +kernel) hf85) p0) w_2271 w_2 w_2268 w_2270 wp_149 rfl rfl ⟨by decide +kernel, by decide +kernel, rfl⟩ ⟨by decide +kernel, by decide +kernel⟩ hP hK hD hE hS hA [0] [] rfl (by decide +kernel) rfl ⟨0, 1, _, _, rfl, rfl, rfl⟩ hl.1 rfl (Nat.le_of_ble_eq_true rfl) (show decode prog_15_method_92_code 7 = .ok (.invokevirtual 648, 3) by decide +kernel) ⟨by decide +kernel, by decide +kernel⟩) hP hK hD hS hA [0] [] rfl rfl (by decide +kernel) (by decide +kernel) (fun r_1 u_2 H locs hw_3 hP hK hD hS => ?_)
  obtain rfl : r_1 = (-1) := hw_3
  have hP : va_P D cl [(h0, .inr (1, (fs.set 0 (.int 0))))] H := hP
  have hD : va_D _ [(h0, .inr (1, (fs.set 0 (.int 0))))] := hD
  refine W.widen (k := 0) (n := 0) (by decide +kernel) (by decide +kernel) ?_
  refine lv_istore_n (lv' := [(2, .int (-1)), (0, .ref h0), (1, .int p0)]) hx hb (show decode prog_15_method_92_code 10 = .ok (.istore_n 2, 1) by decide +kernel) rfl hl (by decide +kernel) rfl (fun ls hl => ?_)
  refine lv_iload_n hx hb (show decode prog_15_method_92_code 11 = .ok (.iload_n 2, 1) by decide +kernel) rfl (lv_at hl 0 rfl) ?_
  refine lv_iconst (v := (-1)) hx hb (show decode prog_15_method_92_code 12 = .ok (.iconst (-1), 1) by decide +kernel) (by decide +kernel) ?_
  refine lv_icmp_ne (tgt := 20) hx hb (show decode prog_15_method_92_code 13 = .ok (.if_icmp .ne 7, 3) by decide +kernel) (by decide +kernel) (fun c_4 => absurd c_4 (by decide +kernel)) (fun c_4 => ?_)
  refine lv_iconst (v := (-1)) hx hb (show decode prog_15_method_92_code 16 = .ok (.iconst (-1), 1) by decide +kernel) (by decide +kernel) ?_
  refine lv_goto (tgt := 26) hx hb (show decode prog_15_method_92_code 17 = .ok (.goto 9, 3) by decide +kernel) (by decide +kernel) ?_
  exact W.iret (v := (-1)) hx hb hr (fun t ht hW => ⟨⟨(-1), (), rfl, rfl, by rw [ht]; exact hP, va_K.moved hW.alike hK, hD⟩, hS.F ht⟩) hS.2.2 (show decode prog_15_method_92_code 26 = .ok (.ireturn, 1) by decide +kernel)
set_option maxHeartbeats 4000000 in
set_option maxRecDepth 100000 in
/-- SignalEngineModel.path -/
theorem c_MD_path0 (l : Launch) (D : va_G) (ad : Nat → Nat) (de sz : Nat) (h0 : Nat) (fs : List Value) (hfl : fs.length = 107) (hf85 : xfa fs 85 (.int 0))  (p0 : Int32) (p1 : Int32) : Met l ⟨"SignalEngineModel", "path", "(II)I"⟩ (tw ⟨"SignalEngineModel", "path", "(II)I"⟩ prog_15_method_93_code 4 (some (.int))) { frames := 1, cells := 0, slots := 0, locals := 21 } (va_Pc [.ref h0, .int p0, .int p1] (xp ad de D [(h0, .inr (1, fs))] [] sz)) (va_Qi (fun (r : Int32) (_ : Unit) => r = (-1)) (fun (_ : Unit) t => xq D (va_A [(h0, .inr (1, fs))] sz) [(h0, .inr (1, (fs.set 0 (.int 0))))] [] t) (va_A [(h0, .inr (1, fs))] sz)) 0 0 (va_A [(h0, .inr (1, fs))] sz) := by
  refine xMet (by decide +kernel) (Nat.le_of_ble_eq_true rfl) ?_
  intro p e s m below meth c hx hb hr hlocks hin hml hown hts hsz hP hK hD hE hA ls hl
  have hS : va_S _ s.heap s.heap [] := va_S.rf (A := va_A [(h0, .inr (1, fs))] sz)
  have hl : lv_has ls 4 [(0, .ref h0), (1, .int p0), (2, .int p1)] := hl
  refine lv_aload_n hx hb (show decode prog_15_method_93_code 0 = .ok (.aload_n 0, 1) by decide +kernel) rfl (lv_at hl 0 rfl) ?_
  refine lv_iconst (v := 0) hx hb (show decode prog_15_method_93_code 1 = .ok (.iconst 0, 1) by decide +kernel) (by decide +kernel) ?_
  refine va_put (D := D) (ci := 1) (v := .int 0) (ty := .int) (C := R_MD) (T := F_MD) (N := 107) hx hb hts i_MD t_MD t_MD_ok n_MD hown hK hP hD hS 0 rfl rfl 0 (by decide +kernel) (hts _ w_1562) (fun _ h9 => h9) rfl (by decide +kernel) rfl rfl (by simp [hfl]) (show decode prog_15_method_93_code 2 = .ok (.putfield 206, 3) by decide +kernel) (fun H locs hP hD hS => ?_)
  have hP : va_P D cl [(h0, .inr (1, (fs.set 0 (.int 0))))] H := hP
  have hD : va_D _ [(h0, .inr (1, (fs.set 0 (.int 0))))] := hD
  refine lv_aload_n hx hb (show decode prog_15_method_93_code 5 = .ok (.aload_n 0, 1) by decide +kernel) rfl (lv_at hl 0 rfl) ?_
  refine lv_iload_n hx hb (show decode prog_15_method_93_code 6 = .ok (.iload_n 1, 1) by decide +kernel) rfl (lv_at hl 1 rfl) ?_
  refine xki (wr := []) (xrV (As := [.int p0]) (rest := []) ⟨hx, hb, hml, hown, hts⟩ (c_MD_placeOf0 l D ad de H.size h0 (fs.set 0 (.int 0)) (by simp [hfl]) (xg_ne (by decide +kernel) hf85) p0) w_2271 w_2 w_2268 w_2270 wp_149 rfl rfl ⟨by decide +kernel, by decide +kernel, rfl⟩ ⟨by decide +kernel, by decide +kernel⟩ hP hK hD hE hS hA [0] [] rfl (by decide +kernel) rfl ⟨0, 1, _, _, rfl, rfl, rfl⟩ hl.1 rfl (Nat.le_of_ble_eq_true rfl) (show decode prog_15_method_93_code 7 = .ok (.invokevirtual 648, 3) by decide +kernel) ⟨by decide +kernel, by decide +kernel⟩) hP hK hD hS hA [0] [] rfl rfl (by decide +kernel) (by decide +kernel) (fun r_1 u_2 H locs hw_3 hP hK hD hS => ?_)
  obtain rfl : r_1 = (-1) := hw_3
  have hP : va_P D cl [(h0, .inr (1, (fs.set 0 (.int 0))))] H := hP
  have hD : va_D _ [(h0, .inr (1, (fs.set 0 (.int 0))))] := hD
  refine W.widen (k := 0) (n := 0) (by decide +kernel) (by decide +kernel) ?_
  refine lv_istore_n (lv' := [(3, .int (-1)), (0, .ref h0), (1, .int p0), (2, .int p1)]) hx hb (show decode prog_15_method_93_code 10 = .ok (.istore_n 3, 1) by decide +kernel) rfl hl (by decide +kernel) rfl (fun ls hl => ?_)
  refine lv_iload_n hx hb (show decode prog_15_method_93_code 11 = .ok (.iload_n 3, 1) by decide +kernel) rfl (lv_at hl 0 rfl) ?_
  refine lv_iconst (v := (-1)) hx hb (show decode prog_15_method_93_code 12 = .ok (.iconst (-1), 1) by decide +kernel) (by decide +kernel) ?_
  refine lv_icmp_eq (tgt := 30) hx hb (show decode prog_15_method_93_code 13 = .ok (.if_icmp .eq 17, 3) by decide +kernel) (by decide +kernel) (fun c_4 => ?_) (fun c_4 => absurd c_4 (by decide +kernel))
  refine lv_iconst (v := (-1)) hx hb (show decode prog_15_method_93_code 30 = .ok (.iconst (-1), 1) by decide +kernel) (by decide +kernel) ?_
  exact W.iret (v := (-1)) hx hb hr (fun t ht hW => ⟨⟨(-1), (), rfl, rfl, by rw [ht]; exact hP, va_K.moved hW.alike hK, hD⟩, hS.F ht⟩) hS.2.2 (show decode prog_15_method_93_code 31 = .ok (.ireturn, 1) by decide +kernel)
set_option maxHeartbeats 4000000 in
set_option maxRecDepth 100000 in
/-- SignalEngineModel.doubt -/
theorem c_MD_doubt0 (l : Launch) (D : va_G) (ad : Nat → Nat) (de sz : Nat) (h0 : Nat) (fs : List Value) (hfl : fs.length = 107) (hf87 : xfa fs 87 (.int 0)) (hf85 : xfa fs 85 (.int 0)) (hf45 : xfa fs 45 (.int 0))  (p0 : Int32) : Met l ⟨"SignalEngineModel", "doubt", "(I)I"⟩ (tw ⟨"SignalEngineModel", "doubt", "(I)I"⟩ prog_15_method_97_code 8 (some (.int))) { frames := 0, cells := 0, slots := 0, locals := 0 } (va_Pc [.ref h0, .int p0] (xp ad de D [(h0, .inr (1, fs))] [] sz)) (va_Qi (fun (r : Int32) (_ : Unit) => r = (-1)) (fun (_ : Unit) t => xq D (va_A [(h0, .inr (1, fs))] sz) [(h0, .inr (1, (fs.set 0 (.int 0))))] [] t) (va_A [(h0, .inr (1, fs))] sz)) 0 0 (va_A [(h0, .inr (1, fs))] sz) := by
  refine xMet (by decide +kernel) (Nat.le_of_ble_eq_true rfl) ?_
  intro p e s m below meth c hx hb hr hlocks hin hml hown hts hsz hP hK hD hE hA ls hl
  have hS : va_S _ s.heap s.heap [] := va_S.rf (A := va_A [(h0, .inr (1, fs))] sz)
  have hl : lv_has ls 8 [(0, .ref h0), (1, .int p0)] := hl
  refine lv_aload_n hx hb (show decode prog_15_method_97_code 0 = .ok (.aload_n 0, 1) by decide +kernel) rfl (lv_at hl 0 rfl) ?_
  refine lv_iconst (v := 0) hx hb (show decode prog_15_method_97_code 1 = .ok (.iconst 0, 1) by decide +kernel) (by decide +kernel) ?_
  refine va_put (D := D) (ci := 1) (v := .int 0) (ty := .int) (C := R_MD) (T := F_MD) (N := 107) hx hb hts i_MD t_MD t_MD_ok n_MD hown hK hP hD hS 0 rfl rfl 0 (by decide +kernel) (hts _ w_1562) (fun _ h9 => h9) rfl (by decide +kernel) rfl rfl (by simp [hfl]) (show decode prog_15_method_97_code 2 = .ok (.putfield 206, 3) by decide +kernel) (fun H locs hP hD hS => ?_)
  have hP : va_P D cl [(h0, .inr (1, (fs.set 0 (.int 0))))] H := hP
  have hD : va_D _ [(h0, .inr (1, (fs.set 0 (.int 0))))] := hD
  refine lv_iconst (v := (-1)) hx hb (show decode prog_15_method_97_code 5 = .ok (.iconst (-1), 1) by decide +kernel) (by decide +kernel) ?_
  refine lv_istore_n (lv' := [(2, .int (-1)), (0, .ref h0), (1, .int p0)]) hx hb (show decode prog_15_method_97_code 6 = .ok (.istore_n 2, 1) by decide +kernel) rfl hl (by decide +kernel) rfl (fun ls hl => ?_)
  refine lv_iconst (v := 0) hx hb (show decode prog_15_method_97_code 7 = .ok (.iconst 0, 1) by decide +kernel) (by decide +kernel) ?_
  refine lv_istore_n (lv' := [(3, .int 0), (2, .int (-1)), (0, .ref h0), (1, .int p0)]) hx hb (show decode prog_15_method_97_code 8 = .ok (.istore_n 3, 1) by decide +kernel) rfl hl (by decide +kernel) rfl (fun ls hl => ?_)
  refine lv_iconst (v := 0) hx hb (show decode prog_15_method_97_code 9 = .ok (.iconst 0, 1) by decide +kernel) (by decide +kernel) ?_
  refine lv_istore (lv' := [(4, .int 0), (3, .int 0), (2, .int (-1)), (0, .ref h0), (1, .int p0)]) hx hb (show decode prog_15_method_97_code 10 = .ok (.istore 4, 2) by decide +kernel) hl (by decide +kernel) rfl (fun ls hl => ?_)
  refine lv_iload hx hb (show decode prog_15_method_97_code 12 = .ok (.iload 4, 2) by decide +kernel) (lv_at hl 0 rfl) ?_
  refine lv_aload_n hx hb (show decode prog_15_method_97_code 14 = .ok (.aload_n 0, 1) by decide +kernel) rfl (lv_at hl 3 rfl) ?_
  refine va_get (D := D) (ci := 1) (v := .int 0) (C := R_MD) (T := F_MD) (N := 107) hx hb hts i_MD hown hK hP 0 rfl rfl 87 (by decide +kernel) (hts _ w_1649) (fun _ h9 => h9) (xg_ne (by decide +kernel) hf87) (show decode prog_15_method_97_code 15 = .ok (.getfield 527, 3) by decide +kernel) ?_
  refine lv_icmp_ge (tgt := 148) hx hb (show decode prog_15_method_97_code 18 = .ok (.if_icmp .ge 130, 3) by decide +kernel) (by decide +kernel) (fun c_1 => ?_) (fun c_1 => absurd c_1 (by decide +kernel))
  refine lv_iload_n hx hb (show decode prog_15_method_97_code 148 = .ok (.iload_n 2, 1) by decide +kernel) rfl (lv_at hl 2 rfl) ?_
  refine lv_iconst (v := (-1)) hx hb (show decode prog_15_method_97_code 149 = .ok (.iconst (-1), 1) by decide +kernel) (by decide +kernel) ?_
  refine lv_icmp_ne (tgt := 157) hx hb (show decode prog_15_method_97_code 150 = .ok (.if_icmp .ne 7, 3) by decide +kernel) (by decide +kernel) (fun c_2 => absurd c_2 (by decide +kernel)) (fun c_2 => ?_)
  refine lv_iconst (v := (-1)) hx hb (show decode prog_15_method_97_code 153 = .ok (.iconst (-1), 1) by decide +kernel) (by decide +kernel) ?_
  refine lv_goto (tgt := 194) hx hb (show decode prog_15_method_97_code 154 = .ok (.goto 40, 3) by decide +kernel) (by decide +kernel) ?_
  exact W.iret (v := (-1)) hx hb hr (fun t ht hW => ⟨⟨(-1), (), rfl, rfl, by rw [ht]; exact hP, va_K.moved hW.alike hK, hD⟩, hS.F ht⟩) hS.2.2 (show decode prog_15_method_97_code 194 = .ok (.ireturn, 1) by decide +kernel)
set_option maxHeartbeats 4000000 in
set_option maxRecDepth 100000 in
/-- SignalEngineModel.ever -/
theorem c_MD_ever0 (l : Launch) (D : va_G) (ad : Nat → Nat) (de sz : Nat) (h0 : Nat) (fs : List Value) (hfl : fs.length = 107) (hf85 : xfa fs 85 (.int 0)) (hf46 : xfa fs 46 (.int 0))  (p0 : Int32) : Met l ⟨"SignalEngineModel", "ever", "(I)I"⟩ (tw ⟨"SignalEngineModel", "ever", "(I)I"⟩ prog_15_method_99_code 3 (some (.int))) { frames := 0, cells := 0, slots := 0, locals := 0 } (va_Pc [.ref h0, .int p0] (xp ad de D [(h0, .inr (1, fs))] [] sz)) (va_Qi (fun (r : Int32) (_ : Unit) => r = (-1)) (fun (_ : Unit) t => xq D (va_A [(h0, .inr (1, fs))] sz) [(h0, .inr (1, (fs.set 0 (.int 0))))] [] t) (va_A [(h0, .inr (1, fs))] sz)) 0 0 (va_A [(h0, .inr (1, fs))] sz) := by
  refine xMet (by decide +kernel) (Nat.le_of_ble_eq_true rfl) ?_
  intro p e s m below meth c hx hb hr hlocks hin hml hown hts hsz hP hK hD hE hA ls hl
  have hS : va_S _ s.heap s.heap [] := va_S.rf (A := va_A [(h0, .inr (1, fs))] sz)
  have hl : lv_has ls 3 [(0, .ref h0), (1, .int p0)] := hl
  refine lv_aload_n hx hb (show decode prog_15_method_99_code 0 = .ok (.aload_n 0, 1) by decide +kernel) rfl (lv_at hl 0 rfl) ?_
  refine lv_iconst (v := 0) hx hb (show decode prog_15_method_99_code 1 = .ok (.iconst 0, 1) by decide +kernel) (by decide +kernel) ?_
  refine va_put (D := D) (ci := 1) (v := .int 0) (ty := .int) (C := R_MD) (T := F_MD) (N := 107) hx hb hts i_MD t_MD t_MD_ok n_MD hown hK hP hD hS 0 rfl rfl 0 (by decide +kernel) (hts _ w_1562) (fun _ h9 => h9) rfl (by decide +kernel) rfl rfl (by simp [hfl]) (show decode prog_15_method_99_code 2 = .ok (.putfield 206, 3) by decide +kernel) (fun H locs hP hD hS => ?_)
  have hP : va_P D cl [(h0, .inr (1, (fs.set 0 (.int 0))))] H := hP
  have hD : va_D _ [(h0, .inr (1, (fs.set 0 (.int 0))))] := hD
  refine lv_aload_n hx hb (show decode prog_15_method_99_code 5 = .ok (.aload_n 0, 1) by decide +kernel) rfl (lv_at hl 0 rfl) ?_
  refine va_get (D := D) (ci := 1) (v := .int 0) (C := R_MD) (T := F_MD) (N := 107) hx hb hts i_MD hown hK hP 0 rfl rfl 85 (by decide +kernel) (hts _ w_1647) (fun _ h9 => h9) (xg_ne (by decide +kernel) hf85) (show decode prog_15_method_99_code 6 = .ok (.getfield 518, 3) by decide +kernel) ?_
  refine lv_if_eq (tgt := 32) hx hb (show decode prog_15_method_99_code 9 = .ok (.ifCond .eq 23, 3) by decide +kernel) (by decide +kernel) (fun c_1 => ?_) (fun c_1 => absurd c_1 (by decide +kernel))
  refine lv_iconst (v := (-1)) hx hb (show decode prog_15_method_99_code 32 = .ok (.iconst (-1), 1) by decide +kernel) (by decide +kernel) ?_
  exact W.iret (v := (-1)) hx hb hr (fun t ht hW => ⟨⟨(-1), (), rfl, rfl, by rw [ht]; exact hP, va_K.moved hW.alike hK, hD⟩, hS.F ht⟩) hS.2.2 (show decode prog_15_method_99_code 33 = .ok (.ireturn, 1) by decide +kernel)
set_option maxHeartbeats 4000000 in
set_option maxRecDepth 100000 in
/-- SignalEngineModel.together -/
theorem c_MD_together0 (l : Launch) (D : va_G) (ad : Nat → Nat) (de sz : Nat) (h0 : Nat) (fs : List Value) (hfl : fs.length = 107) (hf85 : xfa fs 85 (.int 0)) (hf46 : xfa fs 46 (.int 0))  (p0 : Int32) (p1 : Int32) : Met l ⟨"SignalEngineModel", "together", "(II)I"⟩ (tw ⟨"SignalEngineModel", "together", "(II)I"⟩ prog_15_method_100_code 4 (some (.int))) { frames := 0, cells := 0, slots := 0, locals := 0 } (va_Pc [.ref h0, .int p0, .int p1] (xp ad de D [(h0, .inr (1, fs))] [] sz)) (va_Qi (fun (r : Int32) (_ : Unit) => r = (-1)) (fun (_ : Unit) t => xq D (va_A [(h0, .inr (1, fs))] sz) [(h0, .inr (1, (fs.set 0 (.int 0))))] [] t) (va_A [(h0, .inr (1, fs))] sz)) 0 0 (va_A [(h0, .inr (1, fs))] sz) := by
  refine xMet (by decide +kernel) (Nat.le_of_ble_eq_true rfl) ?_
  intro p e s m below meth c hx hb hr hlocks hin hml hown hts hsz hP hK hD hE hA ls hl
  have hS : va_S _ s.heap s.heap [] := va_S.rf (A := va_A [(h0, .inr (1, fs))] sz)
  have hl : lv_has ls 4 [(0, .ref h0), (1, .int p0), (2, .int p1)] := hl
  refine lv_aload_n hx hb (show decode prog_15_method_100_code 0 = .ok (.aload_n 0, 1) by decide +kernel) rfl (lv_at hl 0 rfl) ?_
  refine lv_iconst (v := 0) hx hb (show decode prog_15_method_100_code 1 = .ok (.iconst 0, 1) by decide +kernel) (by decide +kernel) ?_
  refine va_put (D := D) (ci := 1) (v := .int 0) (ty := .int) (C := R_MD) (T := F_MD) (N := 107) hx hb hts i_MD t_MD t_MD_ok n_MD hown hK hP hD hS 0 rfl rfl 0 (by decide +kernel) (hts _ w_1562) (fun _ h9 => h9) rfl (by decide +kernel) rfl rfl (by simp [hfl]) (show decode prog_15_method_100_code 2 = .ok (.putfield 206, 3) by decide +kernel) (fun H locs hP hD hS => ?_)
  have hP : va_P D cl [(h0, .inr (1, (fs.set 0 (.int 0))))] H := hP
  have hD : va_D _ [(h0, .inr (1, (fs.set 0 (.int 0))))] := hD
  refine lv_aload_n hx hb (show decode prog_15_method_100_code 5 = .ok (.aload_n 0, 1) by decide +kernel) rfl (lv_at hl 0 rfl) ?_
  refine va_get (D := D) (ci := 1) (v := .int 0) (C := R_MD) (T := F_MD) (N := 107) hx hb hts i_MD hown hK hP 0 rfl rfl 85 (by decide +kernel) (hts _ w_1647) (fun _ h9 => h9) (xg_ne (by decide +kernel) hf85) (show decode prog_15_method_100_code 6 = .ok (.getfield 518, 3) by decide +kernel) ?_
  refine lv_if_eq (tgt := 44) hx hb (show decode prog_15_method_100_code 9 = .ok (.ifCond .eq 35, 3) by decide +kernel) (by decide +kernel) (fun c_1 => ?_) (fun c_1 => absurd c_1 (by decide +kernel))
  refine lv_iconst (v := 1) hx hb (show decode prog_15_method_100_code 44 = .ok (.iconst 1, 1) by decide +kernel) (by decide +kernel) ?_
  refine lv_goto (tgt := 49) hx hb (show decode prog_15_method_100_code 45 = .ok (.goto 4, 3) by decide +kernel) (by decide +kernel) ?_
  refine lv_istore_n (lv' := [(3, .int 1), (0, .ref h0), (1, .int p0), (2, .int p1)]) hx hb (show decode prog_15_method_100_code 49 = .ok (.istore_n 3, 1) by decide +kernel) rfl hl (by decide +kernel) rfl (fun ls hl => ?_)
  refine lv_iload_n hx hb (show decode prog_15_method_100_code 50 = .ok (.iload_n 3, 1) by decide +kernel) rfl (lv_at hl 0 rfl) ?_
  refine lv_if_eq (tgt := 58) hx hb (show decode prog_15_method_100_code 51 = .ok (.ifCond .eq 7, 3) by decide +kernel) (by decide +kernel) (fun c_2 => absurd c_2 (by decide +kernel)) (fun c_2 => ?_)
  refine lv_iconst (v := (-1)) hx hb (show decode prog_15_method_100_code 54 = .ok (.iconst (-1), 1) by decide +kernel) (by decide +kernel) ?_
  refine lv_goto (tgt := 69) hx hb (show decode prog_15_method_100_code 55 = .ok (.goto 14, 3) by decide +kernel) (by decide +kernel) ?_
  exact W.iret (v := (-1)) hx hb hr (fun t ht hW => ⟨⟨(-1), (), rfl, rfl, by rw [ht]; exact hP, va_K.moved hW.alike hK, hD⟩, hS.F ht⟩) hS.2.2 (show decode prog_15_method_100_code 69 = .ok (.ireturn, 1) by decide +kernel)
set_option maxHeartbeats 4000000 in
set_option maxRecDepth 100000 in
/-- SignalEngineModel.alike -/
theorem c_MD_alike0 (l : Launch) (D : va_G) (ad : Nat → Nat) (de sz : Nat) (h0 : Nat) (fs : List Value) (hfl : fs.length = 107) (hf85 : xfa fs 85 (.int 0))  (p0 : Int32) : Met l ⟨"SignalEngineModel", "alike", "(I)I"⟩ (tw ⟨"SignalEngineModel", "alike", "(I)I"⟩ prog_15_method_103_code 3 (some (.int))) { frames := 1, cells := 0, slots := 0, locals := 21 } (va_Pc [.ref h0, .int p0] (xp ad de D [(h0, .inr (1, fs))] [] sz)) (va_Qi (fun (r : Int32) (_ : Unit) => r = (-1)) (fun (_ : Unit) t => xq D (va_A [(h0, .inr (1, fs))] sz) [(h0, .inr (1, (fs.set 0 (.int 0))))] [] t) (va_A [(h0, .inr (1, fs))] sz)) 0 0 (va_A [(h0, .inr (1, fs))] sz) := by
  refine xMet (by decide +kernel) (Nat.le_of_ble_eq_true rfl) ?_
  intro p e s m below meth c hx hb hr hlocks hin hml hown hts hsz hP hK hD hE hA ls hl
  have hS : va_S _ s.heap s.heap [] := va_S.rf (A := va_A [(h0, .inr (1, fs))] sz)
  have hl : lv_has ls 3 [(0, .ref h0), (1, .int p0)] := hl
  refine lv_aload_n hx hb (show decode prog_15_method_103_code 0 = .ok (.aload_n 0, 1) by decide +kernel) rfl (lv_at hl 0 rfl) ?_
  refine lv_iconst (v := 0) hx hb (show decode prog_15_method_103_code 1 = .ok (.iconst 0, 1) by decide +kernel) (by decide +kernel) ?_
  refine va_put (D := D) (ci := 1) (v := .int 0) (ty := .int) (C := R_MD) (T := F_MD) (N := 107) hx hb hts i_MD t_MD t_MD_ok n_MD hown hK hP hD hS 0 rfl rfl 0 (by decide +kernel) (hts _ w_1562) (fun _ h9 => h9) rfl (by decide +kernel) rfl rfl (by simp [hfl]) (show decode prog_15_method_103_code 2 = .ok (.putfield 206, 3) by decide +kernel) (fun H locs hP hD hS => ?_)
  have hP : va_P D cl [(h0, .inr (1, (fs.set 0 (.int 0))))] H := hP
  have hD : va_D _ [(h0, .inr (1, (fs.set 0 (.int 0))))] := hD
  refine lv_aload_n hx hb (show decode prog_15_method_103_code 5 = .ok (.aload_n 0, 1) by decide +kernel) rfl (lv_at hl 0 rfl) ?_
  refine lv_iload_n hx hb (show decode prog_15_method_103_code 6 = .ok (.iload_n 1, 1) by decide +kernel) rfl (lv_at hl 1 rfl) ?_
  refine xki (wr := []) (xrV (As := [.int p0]) (rest := []) ⟨hx, hb, hml, hown, hts⟩ (c_MD_placeOf0 l D ad de H.size h0 (fs.set 0 (.int 0)) (by simp [hfl]) (xg_ne (by decide +kernel) hf85) p0) w_2271 w_2 w_2268 w_2270 wp_149 rfl rfl ⟨by decide +kernel, by decide +kernel, rfl⟩ ⟨by decide +kernel, by decide +kernel⟩ hP hK hD hE hS hA [0] [] rfl (by decide +kernel) rfl ⟨0, 1, _, _, rfl, rfl, rfl⟩ hl.1 rfl (Nat.le_of_ble_eq_true rfl) (show decode prog_15_method_103_code 7 = .ok (.invokevirtual 648, 3) by decide +kernel) ⟨by decide +kernel, by decide +kernel⟩) hP hK hD hS hA [0] [] rfl rfl (by decide +kernel) (by decide +kernel) (fun r_1 u_2 H locs hw_3 hP hK hD hS => ?_)
  obtain rfl : r_1 = (-1) := hw_3
  have hP : va_P D cl [(h0, .inr (1, (fs.set 0 (.int 0))))] H := hP
  have hD : va_D _ [(h0, .inr (1, (fs.set 0 (.int 0))))] := hD
  refine W.widen (k := 0) (n := 0) (by decide +kernel) (by decide +kernel) ?_
  refine lv_istore_n (lv' := [(2, .int (-1)), (0, .ref h0), (1, .int p0)]) hx hb (show decode prog_15_method_103_code 10 = .ok (.istore_n 2, 1) by decide +kernel) rfl hl (by decide +kernel) rfl (fun ls hl => ?_)
  refine lv_iload_n hx hb (show decode prog_15_method_103_code 11 = .ok (.iload_n 2, 1) by decide +kernel) rfl (lv_at hl 0 rfl) ?_
  refine lv_iconst (v := (-1)) hx hb (show decode prog_15_method_103_code 12 = .ok (.iconst (-1), 1) by decide +kernel) (by decide +kernel) ?_
  refine lv_icmp_ne (tgt := 20) hx hb (show decode prog_15_method_103_code 13 = .ok (.if_icmp .ne 7, 3) by decide +kernel) (by decide +kernel) (fun c_4 => absurd c_4 (by decide +kernel)) (fun c_4 => ?_)
  refine lv_iconst (v := (-1)) hx hb (show decode prog_15_method_103_code 16 = .ok (.iconst (-1), 1) by decide +kernel) (by decide +kernel) ?_
  refine lv_goto (tgt := 25) hx hb (show decode prog_15_method_103_code 17 = .ok (.goto 8, 3) by decide +kernel) (by decide +kernel) ?_
  exact W.iret (v := (-1)) hx hb hr (fun t ht hW => ⟨⟨(-1), (), rfl, rfl, by rw [ht]; exact hP, va_K.moved hW.alike hK, hD⟩, hS.F ht⟩) hS.2.2 (show decode prog_15_method_103_code 25 = .ok (.ireturn, 1) by decide +kernel)
set_option maxHeartbeats 4000000 in
set_option maxRecDepth 100000 in
/-- SignalEngineModel.level -/
theorem c_MD_level0 (l : Launch) (D : va_G) (ad : Nat → Nat) (de sz : Nat) (h0 : Nat) (fs : List Value) (hfl : fs.length = 107) (hf106 : xfa fs 106 (.int 0)) (hf86 : xfa fs 86 (.int 0))  (p0 : Int32) : Met l ⟨"SignalEngineModel", "level", "(I)I"⟩ (tw ⟨"SignalEngineModel", "level", "(I)I"⟩ prog_15_method_108_code 4 (some (.int))) { frames := 0, cells := 0, slots := 0, locals := 0 } (va_Pc [.ref h0, .int p0] (xp ad de D [(h0, .inr (1, fs))] [] sz)) (va_Qi (fun (r : Int32) (_ : Unit) => r = 0) (fun (_ : Unit) t => xq D (va_A [(h0, .inr (1, fs))] sz) [(h0, .inr (1, (fs.set 0 (.int 0))))] [] t) (va_A [(h0, .inr (1, fs))] sz)) 0 0 (va_A [(h0, .inr (1, fs))] sz) := by
  refine xMet (by decide +kernel) (Nat.le_of_ble_eq_true rfl) ?_
  intro p e s m below meth c hx hb hr hlocks hin hml hown hts hsz hP hK hD hE hA ls hl
  have hS : va_S _ s.heap s.heap [] := va_S.rf (A := va_A [(h0, .inr (1, fs))] sz)
  have hl : lv_has ls 4 [(0, .ref h0), (1, .int p0)] := hl
  refine lv_aload_n hx hb (show decode prog_15_method_108_code 0 = .ok (.aload_n 0, 1) by decide +kernel) rfl (lv_at hl 0 rfl) ?_
  refine lv_iconst (v := 0) hx hb (show decode prog_15_method_108_code 1 = .ok (.iconst 0, 1) by decide +kernel) (by decide +kernel) ?_
  refine va_put (D := D) (ci := 1) (v := .int 0) (ty := .int) (C := R_MD) (T := F_MD) (N := 107) hx hb hts i_MD t_MD t_MD_ok n_MD hown hK hP hD hS 0 rfl rfl 0 (by decide +kernel) (hts _ w_1562) (fun _ h9 => h9) rfl (by decide +kernel) rfl rfl (by simp [hfl]) (show decode prog_15_method_108_code 2 = .ok (.putfield 206, 3) by decide +kernel) (fun H locs hP hD hS => ?_)
  have hP : va_P D cl [(h0, .inr (1, (fs.set 0 (.int 0))))] H := hP
  have hD : va_D _ [(h0, .inr (1, (fs.set 0 (.int 0))))] := hD
  refine lv_iconst (v := 0) hx hb (show decode prog_15_method_108_code 5 = .ok (.iconst 0, 1) by decide +kernel) (by decide +kernel) ?_
  refine lv_istore_n (lv' := [(2, .int 0), (0, .ref h0), (1, .int p0)]) hx hb (show decode prog_15_method_108_code 6 = .ok (.istore_n 2, 1) by decide +kernel) rfl hl (by decide +kernel) rfl (fun ls hl => ?_)
  refine lv_iconst (v := 0) hx hb (show decode prog_15_method_108_code 7 = .ok (.iconst 0, 1) by decide +kernel) (by decide +kernel) ?_
  refine lv_istore_n (lv' := [(3, .int 0), (2, .int 0), (0, .ref h0), (1, .int p0)]) hx hb (show decode prog_15_method_108_code 8 = .ok (.istore_n 3, 1) by decide +kernel) rfl hl (by decide +kernel) rfl (fun ls hl => ?_)
  refine lv_iload_n hx hb (show decode prog_15_method_108_code 9 = .ok (.iload_n 3, 1) by decide +kernel) rfl (lv_at hl 0 rfl) ?_
  refine lv_aload_n hx hb (show decode prog_15_method_108_code 10 = .ok (.aload_n 0, 1) by decide +kernel) rfl (lv_at hl 2 rfl) ?_
  refine va_get (D := D) (ci := 1) (v := .int 0) (C := R_MD) (T := F_MD) (N := 107) hx hb hts i_MD hown hK hP 0 rfl rfl 106 (by decide +kernel) (hts _ w_1668) (fun _ h9 => h9) (xg_ne (by decide +kernel) hf106) (show decode prog_15_method_108_code 11 = .ok (.getfield 524, 3) by decide +kernel) ?_
  refine lv_icmp_ge (tgt := 48) hx hb (show decode prog_15_method_108_code 14 = .ok (.if_icmp .ge 34, 3) by decide +kernel) (by decide +kernel) (fun c_1 => ?_) (fun c_1 => absurd c_1 (by decide +kernel))
  refine lv_iload_n hx hb (show decode prog_15_method_108_code 48 = .ok (.iload_n 2, 1) by decide +kernel) rfl (lv_at hl 1 rfl) ?_
  exact W.iret (v := 0) hx hb hr (fun t ht hW => ⟨⟨0, (), rfl, rfl, by rw [ht]; exact hP, va_K.moved hW.alike hK, hD⟩, hS.F ht⟩) hS.2.2 (show decode prog_15_method_108_code 49 = .ok (.ireturn, 1) by decide +kernel)
set_option maxHeartbeats 4000000 in
set_option maxRecDepth 100000 in
/-- SignalEngineModel.size -/
theorem c_MD_size0 (l : Launch) (D : va_G) (ad : Nat → Nat) (de sz : Nat) (h0 : Nat) (fs : List Value) (hfl : fs.length = 107) (hf86 : xfa fs 86 (.int 0)) (hf46 : xfa fs 46 (.int 0)) (hf47 : xfa fs 47 (.int 0))  (p0 : Int32) : Met l ⟨"SignalEngineModel", "size", "(I)I"⟩ (tw ⟨"SignalEngineModel", "size", "(I)I"⟩ prog_15_method_109_code 4 (some (.int))) { frames := 0, cells := 0, slots := 0, locals := 0 } (va_Pc [.ref h0, .int p0] (xp ad de D [(h0, .inr (1, fs))] [] sz)) (va_Qi (fun (r : Int32) (_ : Unit) => r = (-1)) (fun (_ : Unit) t => xq D (va_A [(h0, .inr (1, fs))] sz) [(h0, .inr (1, (fs.set 0 (.int 0))))] [] t) (va_A [(h0, .inr (1, fs))] sz)) 0 0 (va_A [(h0, .inr (1, fs))] sz) := by
  refine xMet (by decide +kernel) (Nat.le_of_ble_eq_true rfl) ?_
  intro p e s m below meth c hx hb hr hlocks hin hml hown hts hsz hP hK hD hE hA ls hl
  have hS : va_S _ s.heap s.heap [] := va_S.rf (A := va_A [(h0, .inr (1, fs))] sz)
  have hl : lv_has ls 4 [(0, .ref h0), (1, .int p0)] := hl
  refine lv_aload_n hx hb (show decode prog_15_method_109_code 0 = .ok (.aload_n 0, 1) by decide +kernel) rfl (lv_at hl 0 rfl) ?_
  refine lv_iconst (v := 0) hx hb (show decode prog_15_method_109_code 1 = .ok (.iconst 0, 1) by decide +kernel) (by decide +kernel) ?_
  refine va_put (D := D) (ci := 1) (v := .int 0) (ty := .int) (C := R_MD) (T := F_MD) (N := 107) hx hb hts i_MD t_MD t_MD_ok n_MD hown hK hP hD hS 0 rfl rfl 0 (by decide +kernel) (hts _ w_1562) (fun _ h9 => h9) rfl (by decide +kernel) rfl rfl (by simp [hfl]) (show decode prog_15_method_109_code 2 = .ok (.putfield 206, 3) by decide +kernel) (fun H locs hP hD hS => ?_)
  have hP : va_P D cl [(h0, .inr (1, (fs.set 0 (.int 0))))] H := hP
  have hD : va_D _ [(h0, .inr (1, (fs.set 0 (.int 0))))] := hD
  refine lv_aload_n hx hb (show decode prog_15_method_109_code 5 = .ok (.aload_n 0, 1) by decide +kernel) rfl (lv_at hl 0 rfl) ?_
  refine va_get (D := D) (ci := 1) (v := .int 0) (C := R_MD) (T := F_MD) (N := 107) hx hb hts i_MD hown hK hP 0 rfl rfl 86 (by decide +kernel) (hts _ w_1648) (fun _ h9 => h9) (xg_ne (by decide +kernel) hf86) (show decode prog_15_method_109_code 6 = .ok (.getfield 515, 3) by decide +kernel) ?_
  refine lv_if_eq (tgt := 29) hx hb (show decode prog_15_method_109_code 9 = .ok (.ifCond .eq 20, 3) by decide +kernel) (by decide +kernel) (fun c_1 => ?_) (fun c_1 => absurd c_1 (by decide +kernel))
  refine lv_iconst (v := (-1)) hx hb (show decode prog_15_method_109_code 29 = .ok (.iconst (-1), 1) by decide +kernel) (by decide +kernel) ?_
  exact W.iret (v := (-1)) hx hb hr (fun t ht hW => ⟨⟨(-1), (), rfl, rfl, by rw [ht]; exact hP, va_K.moved hW.alike hK, hD⟩, hS.F ht⟩) hS.2.2 (show decode prog_15_method_109_code 30 = .ok (.ireturn, 1) by decide +kernel)
end
section
/-! words that the walks use, each by its place; written by wip/gen -/
theorem w_42 : Cond.fieldLink "SignalEngine" 9 "SignalEngine" "tape" "[B" ∈ tt := tt_of 42 (by decide +kernel) rfl
theorem w_43 : Cond.fieldLink "SignalEngine" 13 "SignalEngine" "length" "I" ∈ tt := tt_of 43 (by decide +kernel) rfl
theorem w_90 : Cond.constant "SignalEngine" 17 (32768 : Int32) ∈ tt := tt_of 90 (by decide +kernel) rfl
theorem w_107 : Cond.methodLink "SignalEngine" 24 ⟨"SignalEngine", "append", "(I)V"⟩ ∈ tt := tt_of 107 (by decide +kernel) rfl
theorem w_109 : Cond.instanceMethod ⟨"SignalEngine", "append", "(I)V"⟩ ∈ tt := tt_of 109 (by decide +kernel) rfl
set_option maxRecDepth 100000 in
theorem w_110 : Cond.code ⟨"SignalEngine", "append", "(I)V"⟩ prog_1_method_3_code 3 (Option.none : Option Jvm.ClassFile.FieldType) ∈ tt := tt_of 110 rfl rfl
theorem w_1148 : Cond.classLink "SignalEngineLaw" 13 "java/lang/IllegalStateException" ∈ tt := tt_of 1148 (by decide +kernel) rfl
theorem w_1149 : Cond.methodLink "SignalEngineLaw" 7 ⟨"SignalEngine", "restart", "()I"⟩ ∈ tt := tt_of 1149 (by decide +kernel) rfl
theorem w_1150 : Cond.instanceMethod ⟨"SignalEngine", "restart", "()I"⟩ ∈ tt := tt_of 1150 (by decide +kernel) rfl
theorem w_1151 : Cond.selects "SignalEngine" ⟨"SignalEngine", "restart", "()I"⟩ ⟨"SignalEngine", "restart", "()I"⟩ ∈ tt := tt_of 1151 (by decide +kernel) rfl
set_option maxRecDepth 100000 in
theorem w_1152 : Cond.code ⟨"SignalEngine", "restart", "()I"⟩ prog_1_method_10_code 2 (Option.some Jvm.ClassFile.FieldType.int) ∈ tt := tt_of 1152 rfl rfl
theorem w_1179 : Cond.methodLink "SignalEngineLaw" 15 ⟨"SignalEngine", "instant", "(I)I"⟩ ∈ tt := tt_of 1179 (by decide +kernel) rfl
theorem w_1180 : Cond.instanceMethod ⟨"SignalEngine", "instant", "(I)I"⟩ ∈ tt := tt_of 1180 (by decide +kernel) rfl
theorem w_1181 : Cond.selects "SignalEngine" ⟨"SignalEngine", "instant", "(I)I"⟩ ⟨"SignalEngine", "instant", "(I)I"⟩ ∈ tt := tt_of 1181 (by decide +kernel) rfl
set_option maxRecDepth 100000 in
theorem w_1182 : Cond.code ⟨"SignalEngine", "instant", "(I)I"⟩ prog_1_method_12_code 3 (Option.some Jvm.ClassFile.FieldType.int) ∈ tt := tt_of 1182 rfl rfl
theorem w_1299 : Cond.methodLink "SignalEngineLaw" 21 ⟨"SignalEngine", "go", "(I)V"⟩ ∈ tt := tt_of 1299 (by decide +kernel) rfl
theorem w_1300 : Cond.instanceMethod ⟨"SignalEngine", "go", "(I)V"⟩ ∈ tt := tt_of 1300 (by decide +kernel) rfl
theorem w_1301 : Cond.selects "SignalEngine" ⟨"SignalEngine", "go", "(I)V"⟩ ⟨"SignalEngine", "go", "(I)V"⟩ ∈ tt := tt_of 1301 (by decide +kernel) rfl
set_option maxRecDepth 100000 in
theorem w_1302 : Cond.code ⟨"SignalEngine", "go", "(I)V"⟩ prog_1_method_15_code 2 (Option.none : Option Jvm.ClassFile.FieldType) ∈ tt := tt_of 1302 rfl rfl
theorem w_1306 : Cond.methodLink "SignalEngineLaw" 25 ⟨"SignalEngine", "explore", "()I"⟩ ∈ tt := tt_of 1306 (by decide +kernel) rfl
theorem w_1307 : Cond.instanceMethod ⟨"SignalEngine", "explore", "()I"⟩ ∈ tt := tt_of 1307 (by decide +kernel) rfl
theorem w_1308 : Cond.selects "SignalEngine" ⟨"SignalEngine", "explore", "()I"⟩ ⟨"SignalEngine", "explore", "()I"⟩ ∈ tt := tt_of 1308 (by decide +kernel) rfl
set_option maxRecDepth 100000 in
theorem w_1309 : Cond.code ⟨"SignalEngine", "explore", "()I"⟩ prog_1_method_16_code 1 (Option.some Jvm.ClassFile.FieldType.int) ∈ tt := tt_of 1309 rfl rfl
theorem w_1422 : Cond.methodLink "SignalEngineLaw" 28 ⟨"SignalEngine", "next", "(II)I"⟩ ∈ tt := tt_of 1422 (by decide +kernel) rfl
theorem w_1423 : Cond.instanceMethod ⟨"SignalEngine", "next", "(II)I"⟩ ∈ tt := tt_of 1423 (by decide +kernel) rfl
theorem w_1424 : Cond.selects "SignalEngine" ⟨"SignalEngine", "next", "(II)I"⟩ ⟨"SignalEngine", "next", "(II)I"⟩ ∈ tt := tt_of 1424 (by decide +kernel) rfl
set_option maxRecDepth 100000 in
theorem w_1425 : Cond.code ⟨"SignalEngine", "next", "(II)I"⟩ prog_1_method_19_code 3 (Option.some Jvm.ClassFile.FieldType.int) ∈ tt := tt_of 1425 rfl rfl
theorem w_1434 : Cond.methodLink "SignalEngineLaw" 32 ⟨"SignalEngine", "shows", "(II)I"⟩ ∈ tt := tt_of 1434 (by decide +kernel) rfl
theorem w_1435 : Cond.instanceMethod ⟨"SignalEngine", "shows", "(II)I"⟩ ∈ tt := tt_of 1435 (by decide +kernel) rfl
theorem w_1436 : Cond.selects "SignalEngine" ⟨"SignalEngine", "shows", "(II)I"⟩ ⟨"SignalEngine", "shows", "(II)I"⟩ ∈ tt := tt_of 1436 (by decide +kernel) rfl
set_option maxRecDepth 100000 in
theorem w_1437 : Cond.code ⟨"SignalEngine", "shows", "(II)I"⟩ prog_1_method_20_code 3 (Option.some Jvm.ClassFile.FieldType.int) ∈ tt := tt_of 1437 rfl rfl
theorem w_1441 : Cond.methodLink "SignalEngineLaw" 35 ⟨"SignalEngine", "classes", "()I"⟩ ∈ tt := tt_of 1441 (by decide +kernel) rfl
theorem w_1442 : Cond.instanceMethod ⟨"SignalEngine", "classes", "()I"⟩ ∈ tt := tt_of 1442 (by decide +kernel) rfl
theorem w_1443 : Cond.selects "SignalEngine" ⟨"SignalEngine", "classes", "()I"⟩ ⟨"SignalEngine", "classes", "()I"⟩ ∈ tt := tt_of 1443 (by decide +kernel) rfl
set_option maxRecDepth 100000 in
theorem w_1444 : Cond.code ⟨"SignalEngine", "classes", "()I"⟩ prog_1_method_24_code 1 (Option.some Jvm.ClassFile.FieldType.int) ∈ tt := tt_of 1444 rfl rfl
theorem w_1448 : Cond.methodLink "SignalEngineLaw" 38 ⟨"SignalEngine", "lay", "()I"⟩ ∈ tt := tt_of 1448 (by decide +kernel) rfl
theorem w_1449 : Cond.instanceMethod ⟨"SignalEngine", "lay", "()I"⟩ ∈ tt := tt_of 1449 (by decide +kernel) rfl
theorem w_1450 : Cond.selects "SignalEngine" ⟨"SignalEngine", "lay", "()I"⟩ ⟨"SignalEngine", "lay", "()I"⟩ ∈ tt := tt_of 1450 (by decide +kernel) rfl
set_option maxRecDepth 100000 in
theorem w_1451 : Cond.code ⟨"SignalEngine", "lay", "()I"⟩ prog_1_method_26_code 1 (Option.some Jvm.ClassFile.FieldType.int) ∈ tt := tt_of 1451 rfl rfl
theorem w_1540 : Cond.methodLink "SignalEngineLaw" 41 ⟨"SignalEngine", "pass", "(I)J"⟩ ∈ tt := tt_of 1540 (by decide +kernel) rfl
theorem w_1541 : Cond.instanceMethod ⟨"SignalEngine", "pass", "(I)J"⟩ ∈ tt := tt_of 1541 (by decide +kernel) rfl
theorem w_1542 : Cond.selects "SignalEngine" ⟨"SignalEngine", "pass", "(I)J"⟩ ⟨"SignalEngine", "pass", "(I)J"⟩ ∈ tt := tt_of 1542 (by decide +kernel) rfl
set_option maxRecDepth 100000 in
theorem w_1543 : Cond.code ⟨"SignalEngine", "pass", "(I)J"⟩ prog_1_method_27_code 2 (Option.some Jvm.ClassFile.FieldType.long) ∈ tt := tt_of 1543 rfl rfl
theorem w_1558 : Cond.constant "SignalEngineModel" 9 (32768 : Int32) ∈ tt := tt_of 1558 (by decide +kernel) rfl
theorem w_1563 : Cond.fieldLink "SignalEngineModel" 10 "SignalEngineModel" "tape" "[B" ∈ tt := tt_of 1563 (by decide +kernel) rfl
theorem w_1564 : Cond.fieldLink "SignalEngineModel" 210 "SignalEngineModel" "taped" "I" ∈ tt := tt_of 1564 (by decide +kernel) rfl
theorem w_1610 : Cond.fieldLink "SignalEngineModel" 507 "SignalEngineModel" "weights" "I" ∈ tt := tt_of 1610 (by decide +kernel) rfl
theorem w_1611 : Cond.fieldLink "SignalEngineModel" 504 "SignalEngineModel" "traps" "I" ∈ tt := tt_of 1611 (by decide +kernel) rfl
theorem w_1645 : Cond.fieldLink "SignalEngineModel" 542 "SignalEngineModel" "reactions" "I" ∈ tt := tt_of 1645 (by decide +kernel) rfl
theorem wp_0 : Cond.selects "SignalEngine" ⟨"SignalEngine", "append", "(I)V"⟩ ⟨"SignalEngine", "append", "(I)V"⟩ ∈ tt := tt_sel 0 (by decide +kernel) rfl
theorem dsw_prog_15_method_110_code_8 : decode prog_15_method_110_code 8 = .ok (.tableswitch 271 0 15 #[80, 85, 90, 95, 100, 115, 120, 125, 130, 148, 153, 158, 163, 198, 214, 255], 80) := by decide +kernel
/-- count(what) on an object without a program -/
def cnt (w : Int32) : Int32 := if w < 0 then -1 else if w ≤ 15 then 0 else -1
theorem cnt_out {w : Int32} (h : w.toInt < 0 ∨ 15 < w.toInt) : -1 = cnt w := by
  unfold cnt
  by_cases h0 : w < 0
  · rw [if_pos h0]
  · rw [if_neg h0]
    by_cases h1 : w ≤ 15
    · exfalso
      simp only [Int32.lt_iff_toInt_lt, Int32.le_iff_toInt_le] at h0 h1
      have e0 : (0 : Int32).toInt = 0 := by decide
      have e1 : (15 : Int32).toInt = 15 := by decide
      omega
    · rw [if_neg h1]
end
section
set_option maxHeartbeats 4000000 in
set_option maxRecDepth 100000 in
/-- SignalEngineLaw.restart -/
theorem c_LW_restart0 (l : Launch) (hlt : l.stackTraces = false) (D : va_G) (ad : Nat → Nat) (de sz : Nat) (h0 : Nat) (fs : List Value) (hfl : fs.length = 14) (hf3 : xfa fs 3 (.null))  (o0 : Nat) : Met l ⟨"SignalEngineLaw", "restart", "(LSignalEngine;[J)I"⟩ (.codeWith ⟨"SignalEngineLaw", "restart", "(LSignalEngine;[J)I"⟩ method_3_code 3 (some (.int)) [(0, 8, 11, 13)] :: tt) { frames := 7, cells := 1, slots := 6, locals := 111 } (va_Pc [.ref h0, .ref o0] (xp ad de D [(h0, .inr (0, fs))] [] sz)) (va_Qi (fun (r : Int32) (_ : Unit) => r = 1) (fun (_ : Unit) t => xq D (va_A [(h0, .inr (0, fs))] sz) [(h0, .inr (0, fs))] [] t) (va_A [(h0, .inr (0, fs))] sz)) 1 6 (va_A [(h0, .inr (0, fs))] sz) := by
  refine xMetH (by decide +kernel) (Nat.le_of_ble_eq_true rfl) ?_
  intro p e s m below meth c hx hb hr hlocks htab hml hown hts hsz hP hK hD hE hA ls hl
  have hS : va_S _ s.heap s.heap [] := va_S.rf (A := va_A [(h0, .inr (0, fs))] sz)
  have hl : lv_has ls 3 [(0, .ref h0), (1, .ref o0)] := hl
  refine lv_aload_n hx hb (show decode method_3_code 0 = .ok (.aload_n 1, 1) by decide +kernel) rfl (lv_at hl 1 rfl) ?_
  refine lv_iconst (v := 0) hx hb (show decode method_3_code 1 = .ok (.iconst 0, 1) by decide +kernel) (by decide +kernel) ?_
  refine lv_aload_n hx hb (show decode method_3_code 2 = .ok (.aload_n 0, 1) by decide +kernel) rfl (lv_at hl 0 rfl) ?_
  refine xkc (own := "SignalEngineLaw") (wr := []) (xrT (As := []) (rest := [.int 0, .ref o0]) ⟨hx, hb, hml, hown, hts⟩ (c_SE_restart0 l hlt D ad de s.heap.size h0 fs hfl hf3) w_1152 w_1 w_1149 w_1150 w_1151 rfl rfl ⟨by decide +kernel, by decide +kernel, rfl⟩ ⟨by decide +kernel, by decide +kernel⟩ hP hK hD hE hS hA [0] [] rfl (by decide +kernel) rfl ⟨0, 0, _, _, rfl, rfl, rfl⟩ hl.1 rfl (Nat.le_of_ble_eq_true rfl) (show decode method_3_code 3 = .ok (.invokevirtual 7, 3) by decide +kernel) ⟨by decide +kernel, by decide +kernel⟩) hP hK hD hS hA [0] [] rfl rfl (by decide +kernel) (by decide +kernel) hown htab (by decide +kernel) (by decide +kernel) (hts _ w_1148) (fun u x H locs hob hw hP hK hD hS => ?_)
  have hP : va_P D cl [(h0, .inr (0, fs))] H := hP
  have hD : va_D _ [(h0, .inr (0, fs))] := hD
  refine W.widen (k := 1) (n := 6) (by decide +kernel) (by decide +kernel) ?_
  refine lv_astore_n (lv' := [(2, .ref x), (0, .ref h0), (1, .ref o0)]) hx hb (show decode method_3_code 11 = .ok (.astore_n 2, 1) by decide +kernel) rfl hl (by decide +kernel) rfl (fun ls hl => ?_)
  refine lv_iconst (v := 1) hx hb (show decode method_3_code 12 = .ok (.iconst 1, 1) by decide +kernel) (by decide +kernel) ?_
  exact W.iret (v := 1) hx hb hr (fun t ht hW => ⟨⟨1, (), rfl, rfl, by rw [ht]; exact hP, va_K.moved hW.alike hK, hD⟩, hS.F ht⟩) hS.2.2 (show decode method_3_code 13 = .ok (.ireturn, 1) by decide +kernel)
set_option maxHeartbeats 4000000 in
set_option maxRecDepth 100000 in
/-- SignalEngineLaw.instant -/
theorem c_LW_instant0 (l : Launch) (hlt : l.stackTraces = false) (D : va_G) (ad : Nat → Nat) (de sz : Nat) (h0 : Nat) (fs : List Value) (hfl : fs.length = 14) (hf3 : xfa fs 3 (.null))  (p0 : Int32) (o1 : Nat) : Met l ⟨"SignalEngineLaw", "instant", "(LSignalEngine;I[J)I"⟩ (.codeWith ⟨"SignalEngineLaw", "instant", "(LSignalEngine;I[J)I"⟩ method_4_code 4 (some (.int)) [(0, 9, 12, 13), (0, 9, 15, 19)] :: tt) { frames := 7, cells := 1, slots := 6, locals := 112 } (va_Pc [.ref h0, .int p0, .ref o1] (xp ad de D [(h0, .inr (0, fs))] [] sz)) (va_Qi (fun (r : Int32) (_ : Unit) => r = 1) (fun (_ : Unit) t => xq D (va_A [(h0, .inr (0, fs))] sz) [(h0, .inr (0, fs))] [] t) (va_A [(h0, .inr (0, fs))] sz)) 1 6 (va_A [(h0, .inr (0, fs))] sz) := by
  refine xMetH (by decide +kernel) (Nat.le_of_ble_eq_true rfl) ?_
  intro p e s m below meth c hx hb hr hlocks htab hml hown hts hsz hP hK hD hE hA ls hl
  have hS : va_S _ s.heap s.heap [] := va_S.rf (A := va_A [(h0, .inr (0, fs))] sz)
  have hl : lv_has ls 4 [(0, .ref h0), (1, .int p0), (2, .ref o1)] := hl
  refine lv_aload_n hx hb (show decode method_4_code 0 = .ok (.aload_n 2, 1) by decide +kernel) rfl (lv_at hl 2 rfl) ?_
  refine lv_iconst (v := 0) hx hb (show decode method_4_code 1 = .ok (.iconst 0, 1) by decide +kernel) (by decide +kernel) ?_
  refine lv_aload_n hx hb (show decode method_4_code 2 = .ok (.aload_n 0, 1) by decide +kernel) rfl (lv_at hl 0 rfl) ?_
  refine lv_iload_n hx hb (show decode method_4_code 3 = .ok (.iload_n 1, 1) by decide +kernel) rfl (lv_at hl 1 rfl) ?_
  refine xkc (own := "SignalEngineLaw") (wr := []) (xrT (As := [.int p0]) (rest := [.int 0, .ref o1]) ⟨hx, hb, hml, hown, hts⟩ (c_SE_instant0 l hlt D ad de s.heap.size h0 fs hfl hf3 p0) w_1182 w_1 w_1179 w_1180 w_1181 rfl rfl ⟨by decide +kernel, by decide +kernel, rfl⟩ ⟨by decide +kernel, by decide +kernel⟩ hP hK hD hE hS hA [0] [] rfl (by decide +kernel) rfl ⟨0, 0, _, _, rfl, rfl, rfl⟩ hl.1 rfl (Nat.le_of_ble_eq_true rfl) (show decode method_4_code 4 = .ok (.invokevirtual 15, 3) by decide +kernel) ⟨by decide +kernel, by decide +kernel⟩) hP hK hD hS hA [0] [] rfl rfl (by decide +kernel) (by decide +kernel) hown htab (by decide +kernel) (by decide +kernel) (hts _ w_1148) (fun u x H locs hob hw hP hK hD hS => ?_)
  have hP : va_P D cl [(h0, .inr (0, fs))] H := hP
  have hD : va_D _ [(h0, .inr (0, fs))] := hD
  refine W.widen (k := 1) (n := 6) (by decide +kernel) (by decide +kernel) ?_
  refine lv_astore_n (lv' := [(3, .ref x), (0, .ref h0), (1, .int p0), (2, .ref o1)]) hx hb (show decode method_4_code 12 = .ok (.astore_n 3, 1) by decide +kernel) rfl hl (by decide +kernel) rfl (fun ls hl => ?_)
  refine lv_iconst (v := 1) hx hb (show decode method_4_code 13 = .ok (.iconst 1, 1) by decide +kernel) (by decide +kernel) ?_
  exact W.iret (v := 1) hx hb hr (fun t ht hW => ⟨⟨1, (), rfl, rfl, by rw [ht]; exact hP, va_K.moved hW.alike hK, hD⟩, hS.F ht⟩) hS.2.2 (show decode method_4_code 14 = .ok (.ireturn, 1) by decide +kernel)
set_option maxHeartbeats 4000000 in
set_option maxRecDepth 100000 in
/-- SignalEngineLaw.go -/
theorem c_LW_go0 (l : Launch) (hlt : l.stackTraces = false) (D : va_G) (ad : Nat → Nat) (de sz : Nat) (h0 : Nat) (fs : List Value) (hfl : fs.length = 14) (hf12 : xfa fs 12 (.int 0))  (p0 : Int32) : Met l ⟨"SignalEngineLaw", "go", "(LSignalEngine;I)I"⟩ (.codeWith ⟨"SignalEngineLaw", "go", "(LSignalEngine;I)I"⟩ method_5_code 3 (some (.int)) [(0, 5, 8, 13), (0, 5, 11, 19)] :: tt) { frames := 7, cells := 1, slots := 6, locals := 111 } (va_Pc [.ref h0, .int p0] (xp ad de D [(h0, .inr (0, fs))] [] sz)) (va_Qi (fun (r : Int32) (_ : Unit) => r = 1) (fun (_ : Unit) t => xq D (va_A [(h0, .inr (0, fs))] sz) [(h0, .inr (0, fs))] [] t) (va_A [(h0, .inr (0, fs))] sz)) 1 6 (va_A [(h0, .inr (0, fs))] sz) := by
  refine xMetH (by decide +kernel) (Nat.le_of_ble_eq_true rfl) ?_
  intro p e s m below meth c hx hb hr hlocks htab hml hown hts hsz hP hK hD hE hA ls hl
  have hS : va_S _ s.heap s.heap [] := va_S.rf (A := va_A [(h0, .inr (0, fs))] sz)
  have hl : lv_has ls 3 [(0, .ref h0), (1, .int p0)] := hl
  refine lv_aload_n hx hb (show decode method_5_code 0 = .ok (.aload_n 0, 1) by decide +kernel) rfl (lv_at hl 0 rfl) ?_
  refine lv_iload_n hx hb (show decode method_5_code 1 = .ok (.iload_n 1, 1) by decide +kernel) rfl (lv_at hl 1 rfl) ?_
  refine xkc (own := "SignalEngineLaw") (wr := []) (xrT (As := [.int p0]) (rest := []) ⟨hx, hb, hml, hown, hts⟩ (c_SE_go0 l hlt D ad de s.heap.size h0 fs hfl hf12 p0) w_1302 w_1 w_1299 w_1300 w_1301 rfl rfl ⟨by decide +kernel, by decide +kernel, rfl⟩ ⟨by decide +kernel, by decide +kernel⟩ hP hK hD hE hS hA [0] [] rfl (by decide +kernel) rfl ⟨0, 0, _, _, rfl, rfl, rfl⟩ hl.1 rfl (Nat.le_of_ble_eq_true rfl) (show decode method_5_code 2 = .ok (.invokevirtual 21, 3) by decide +kernel) ⟨by decide +kernel, by decide +kernel⟩) hP hK hD hS hA [0] [] rfl rfl (by decide +kernel) (by decide +kernel) hown htab (by decide +kernel) (by decide +kernel) (hts _ w_1148) (fun u x H locs hob hw hP hK hD hS => ?_)
  have hP : va_P D cl [(h0, .inr (0, fs))] H := hP
  have hD : va_D _ [(h0, .inr (0, fs))] := hD
  refine W.widen (k := 1) (n := 6) (by decide +kernel) (by decide +kernel) ?_
  refine lv_astore_n (lv' := [(2, .ref x), (0, .ref h0), (1, .int p0)]) hx hb (show decode method_5_code 8 = .ok (.astore_n 2, 1) by decide +kernel) rfl hl (by decide +kernel) rfl (fun ls hl => ?_)
  refine lv_iconst (v := 1) hx hb (show decode method_5_code 9 = .ok (.iconst 1, 1) by decide +kernel) (by decide +kernel) ?_
  exact W.iret (v := 1) hx hb hr (fun t ht hW => ⟨⟨1, (), rfl, rfl, by rw [ht]; exact hP, va_K.moved hW.alike hK, hD⟩, hS.F ht⟩) hS.2.2 (show decode method_5_code 10 = .ok (.ireturn, 1) by decide +kernel)
set_option maxHeartbeats 4000000 in
set_option maxRecDepth 100000 in
/-- SignalEngineLaw.explore -/
theorem c_LW_explore0 (l : Launch) (hlt : l.stackTraces = false) (D : va_G) (ad : Nat → Nat) (de sz : Nat) (h0 : Nat) (fs : List Value) (hfl : fs.length = 14) (hf3 : xfa fs 3 (.null))  (o0 : Nat) : Met l ⟨"SignalEngineLaw", "explore", "(LSignalEngine;[J)I"⟩ (.codeWith ⟨"SignalEngineLaw", "explore", "(LSignalEngine;[J)I"⟩ method_6_code 3 (some (.int)) [(0, 8, 11, 13)] :: tt) { frames := 7, cells := 1, slots := 6, locals := 110 } (va_Pc [.ref h0, .ref o0] (xp ad de D [(h0, .inr (0, fs))] [] sz)) (va_Qi (fun (r : Int32) (_ : Unit) => r = 1) (fun (_ : Unit) t => xq D (va_A [(h0, .inr (0, fs))] sz) [(h0, .inr (0, fs))] [] t) (va_A [(h0, .inr (0, fs))] sz)) 1 6 (va_A [(h0, .inr (0, fs))] sz) := by
  refine xMetH (by decide +kernel) (Nat.le_of_ble_eq_true rfl) ?_
  intro p e s m below meth c hx hb hr hlocks htab hml hown hts hsz hP hK hD hE hA ls hl
  have hS : va_S _ s.heap s.heap [] := va_S.rf (A := va_A [(h0, .inr (0, fs))] sz)
  have hl : lv_has ls 3 [(0, .ref h0), (1, .ref o0)] := hl
  refine lv_aload_n hx hb (show decode method_6_code 0 = .ok (.aload_n 1, 1) by decide +kernel) rfl (lv_at hl 1 rfl) ?_
  refine lv_iconst (v := 0) hx hb (show decode method_6_code 1 = .ok (.iconst 0, 1) by decide +kernel) (by decide +kernel) ?_
  refine lv_aload_n hx hb (show decode method_6_code 2 = .ok (.aload_n 0, 1) by decide +kernel) rfl (lv_at hl 0 rfl) ?_
  refine xkc (own := "SignalEngineLaw") (wr := []) (xrT (As := []) (rest := [.int 0, .ref o0]) ⟨hx, hb, hml, hown, hts⟩ (c_SE_explore0 l hlt D ad de s.heap.size h0 fs hfl hf3) w_1309 w_1 w_1306 w_1307 w_1308 rfl rfl ⟨by decide +kernel, by decide +kernel, rfl⟩ ⟨by decide +kernel, by decide +kernel⟩ hP hK hD hE hS hA [0] [] rfl (by decide +kernel) rfl ⟨0, 0, _, _, rfl, rfl, rfl⟩ hl.1 rfl (Nat.le_of_ble_eq_true rfl) (show decode method_6_code 3 = .ok (.invokevirtual 25, 3) by decide +kernel) ⟨by decide +kernel, by decide +kernel⟩) hP hK hD hS hA [0] [] rfl rfl (by decide +kernel) (by decide +kernel) hown htab (by decide +kernel) (by decide +kernel) (hts _ w_1148) (fun u x H locs hob hw hP hK hD hS => ?_)
  have hP : va_P D cl [(h0, .inr (0, fs))] H := hP
  have hD : va_D _ [(h0, .inr (0, fs))] := hD
  refine W.widen (k := 1) (n := 6) (by decide +kernel) (by decide +kernel) ?_
  refine lv_astore_n (lv' := [(2, .ref x), (0, .ref h0), (1, .ref o0)]) hx hb (show decode method_6_code 11 = .ok (.astore_n 2, 1) by decide +kernel) rfl hl (by decide +kernel) rfl (fun ls hl => ?_)
  refine lv_iconst (v := 1) hx hb (show decode method_6_code 12 = .ok (.iconst 1, 1) by decide +kernel) (by decide +kernel) ?_
  exact W.iret (v := 1) hx hb hr (fun t ht hW => ⟨⟨1, (), rfl, rfl, by rw [ht]; exact hP, va_K.moved hW.alike hK, hD⟩, hS.F ht⟩) hS.2.2 (show decode method_6_code 13 = .ok (.ireturn, 1) by decide +kernel)
set_option maxHeartbeats 4000000 in
set_option maxRecDepth 100000 in
/-- SignalEngineLaw.next -/
theorem c_LW_next0 (l : Launch) (hlt : l.stackTraces = false) (D : va_G) (ad : Nat → Nat) (de sz : Nat) (h0 : Nat) (fs : List Value) (hfl : fs.length = 14) (hf12 : xfa fs 12 (.int 0))  (p0 : Int32) (p1 : Int32) (o2 : Nat) : Met l ⟨"SignalEngineLaw", "next", "(LSignalEngine;II[J)I"⟩ (.codeWith ⟨"SignalEngineLaw", "next", "(LSignalEngine;II[J)I"⟩ method_7_code 5 (some (.int)) [(0, 10, 13, 13)] :: tt) { frames := 7, cells := 1, slots := 6, locals := 112 } (va_Pc [.ref h0, .int p0, .int p1, .ref o2] (xp ad de D [(h0, .inr (0, fs))] [] sz)) (va_Qi (fun (r : Int32) (_ : Unit) => r = 1) (fun (_ : Unit) t => xq D (va_A [(h0, .inr (0, fs))] sz) [(h0, .inr (0, fs))] [] t) (va_A [(h0, .inr (0, fs))] sz)) 1 6 (va_A [(h0, .inr (0, fs))] sz) := by
  refine xMetH (by decide +kernel) (Nat.le_of_ble_eq_true rfl) ?_
  intro p e s m below meth c hx hb hr hlocks htab hml hown hts hsz hP hK hD hE hA ls hl
  have hS : va_S _ s.heap s.heap [] := va_S.rf (A := va_A [(h0, .inr (0, fs))] sz)
  have hl : lv_has ls 5 [(0, .ref h0), (1, .int p0), (2, .int p1), (3, .ref o2)] := hl
  refine lv_aload_n hx hb (show decode method_7_code 0 = .ok (.aload_n 3, 1) by decide +kernel) rfl (lv_at hl 3 rfl) ?_
  refine lv_iconst (v := 0) hx hb (show decode method_7_code 1 = .ok (.iconst 0, 1) by decide +kernel) (by decide +kernel) ?_
  refine lv_aload_n hx hb (show decode method_7_code 2 = .ok (.aload_n 0, 1) by decide +kernel) rfl (lv_at hl 0 rfl) ?_
  refine lv_iload_n hx hb (show decode method_7_code 3 = .ok (.iload_n 1, 1) by decide +kernel) rfl (lv_at hl 1 rfl) ?_
  refine lv_iload_n hx hb (show decode method_7_code 4 = .ok (.iload_n 2, 1) by decide +kernel) rfl (lv_at hl 2 rfl) ?_
  refine xkc (own := "SignalEngineLaw") (wr := []) (xrT (As := [.int p0, .int p1]) (rest := [.int 0, .ref o2]) ⟨hx, hb, hml, hown, hts⟩ (c_SE_next0 l hlt D ad de s.heap.size h0 fs hfl hf12 p0 p1) w_1425 w_1 w_1422 w_1423 w_1424 rfl rfl ⟨by decide +kernel, by decide +kernel, rfl⟩ ⟨by decide +kernel, by decide +kernel⟩ hP hK hD hE hS hA [0] [] rfl (by decide +kernel) rfl ⟨0, 0, _, _, rfl, rfl, rfl⟩ hl.1 rfl (Nat.le_of_ble_eq_true rfl) (show decode method_7_code 5 = .ok (.invokevirtual 28, 3) by decide +kernel) ⟨by decide +kernel, by decide +kernel⟩) hP hK hD hS hA [0] [] rfl rfl (by decide +kernel) (by decide +kernel) hown htab (by decide +kernel) (by decide +kernel) (hts _ w_1148) (fun u x H locs hob hw hP hK hD hS => ?_)
  have hP : va_P D cl [(h0, .inr (0, fs))] H := hP
  have hD : va_D _ [(h0, .inr (0, fs))] := hD
  refine W.widen (k := 1) (n := 6) (by decide +kernel) (by decide +kernel) ?_
  refine lv_astore (lv' := [(4, .ref x), (0, .ref h0), (1, .int p0), (2, .int p1), (3, .ref o2)]) hx hb (show decode method_7_code 13 = .ok (.astore 4, 2) by decide +kernel) hl (by decide +kernel) rfl (fun ls hl => ?_)
  refine lv_iconst (v := 1) hx hb (show decode method_7_code 15 = .ok (.iconst 1, 1) by decide +kernel) (by decide +kernel) ?_
  exact W.iret (v := 1) hx hb hr (fun t ht hW => ⟨⟨1, (), rfl, rfl, by rw [ht]; exact hP, va_K.moved hW.alike hK, hD⟩, hS.F ht⟩) hS.2.2 (show decode method_7_code 16 = .ok (.ireturn, 1) by decide +kernel)
set_option maxHeartbeats 4000000 in
set_option maxRecDepth 100000 in
/-- SignalEngineLaw.shows -/
theorem c_LW_shows0 (l : Launch) (hlt : l.stackTraces = false) (D : va_G) (ad : Nat → Nat) (de sz : Nat) (h0 : Nat) (fs : List Value) (hfl : fs.length = 14) (hf12 : xfa fs 12 (.int 0))  (p0 : Int32) (p1 : Int32) (o2 : Nat) : Met l ⟨"SignalEngineLaw", "shows", "(LSignalEngine;II[J)I"⟩ (.codeWith ⟨"SignalEngineLaw", "shows", "(LSignalEngine;II[J)I"⟩ method_8_code 5 (some (.int)) [(0, 10, 13, 13)] :: tt) { frames := 7, cells := 1, slots := 6, locals := 112 } (va_Pc [.ref h0, .int p0, .int p1, .ref o2] (xp ad de D [(h0, .inr (0, fs))] [] sz)) (va_Qi (fun (r : Int32) (_ : Unit) => r = 1) (fun (_ : Unit) t => xq D (va_A [(h0, .inr (0, fs))] sz) [(h0, .inr (0, fs))] [] t) (va_A [(h0, .inr (0, fs))] sz)) 1 6 (va_A [(h0, .inr (0, fs))] sz) := by
  refine xMetH (by decide +kernel) (Nat.le_of_ble_eq_true rfl) ?_
  intro p e s m below meth c hx hb hr hlocks htab hml hown hts hsz hP hK hD hE hA ls hl
  have hS : va_S _ s.heap s.heap [] := va_S.rf (A := va_A [(h0, .inr (0, fs))] sz)
  have hl : lv_has ls 5 [(0, .ref h0), (1, .int p0), (2, .int p1), (3, .ref o2)] := hl
  refine lv_aload_n hx hb (show decode method_8_code 0 = .ok (.aload_n 3, 1) by decide +kernel) rfl (lv_at hl 3 rfl) ?_
  refine lv_iconst (v := 0) hx hb (show decode method_8_code 1 = .ok (.iconst 0, 1) by decide +kernel) (by decide +kernel) ?_
  refine lv_aload_n hx hb (show decode method_8_code 2 = .ok (.aload_n 0, 1) by decide +kernel) rfl (lv_at hl 0 rfl) ?_
  refine lv_iload_n hx hb (show decode method_8_code 3 = .ok (.iload_n 1, 1) by decide +kernel) rfl (lv_at hl 1 rfl) ?_
  refine lv_iload_n hx hb (show decode method_8_code 4 = .ok (.iload_n 2, 1) by decide +kernel) rfl (lv_at hl 2 rfl) ?_
  refine xkc (own := "SignalEngineLaw") (wr := []) (xrT (As := [.int p0, .int p1]) (rest := [.int 0, .ref o2]) ⟨hx, hb, hml, hown, hts⟩ (c_SE_shows0 l hlt D ad de s.heap.size h0 fs hfl hf12 p0 p1) w_1437 w_1 w_1434 w_1435 w_1436 rfl rfl ⟨by decide +kernel, by decide +kernel, rfl⟩ ⟨by decide +kernel, by decide +kernel⟩ hP hK hD hE hS hA [0] [] rfl (by decide +kernel) rfl ⟨0, 0, _, _, rfl, rfl, rfl⟩ hl.1 rfl (Nat.le_of_ble_eq_true rfl) (show decode method_8_code 5 = .ok (.invokevirtual 32, 3) by decide +kernel) ⟨by decide +kernel, by decide +kernel⟩) hP hK hD hS hA [0] [] rfl rfl (by decide +kernel) (by decide +kernel) hown htab (by decide +kernel) (by decide +kernel) (hts _ w_1148) (fun u x H locs hob hw hP hK hD hS => ?_)
  have hP : va_P D cl [(h0, .inr (0, fs))] H := hP
  have hD : va_D _ [(h0, .inr (0, fs))] := hD
  refine W.widen (k := 1) (n := 6) (by decide +kernel) (by decide +kernel) ?_
  refine lv_astore (lv' := [(4, .ref x), (0, .ref h0), (1, .int p0), (2, .int p1), (3, .ref o2)]) hx hb (show decode method_8_code 13 = .ok (.astore 4, 2) by decide +kernel) hl (by decide +kernel) rfl (fun ls hl => ?_)
  refine lv_iconst (v := 1) hx hb (show decode method_8_code 15 = .ok (.iconst 1, 1) by decide +kernel) (by decide +kernel) ?_
  exact W.iret (v := 1) hx hb hr (fun t ht hW => ⟨⟨1, (), rfl, rfl, by rw [ht]; exact hP, va_K.moved hW.alike hK, hD⟩, hS.F ht⟩) hS.2.2 (show decode method_8_code 16 = .ok (.ireturn, 1) by decide +kernel)
set_option maxHeartbeats 4000000 in
set_option maxRecDepth 100000 in
/-- SignalEngineLaw.classes -/
theorem c_LW_classes0 (l : Launch) (hlt : l.stackTraces = false) (D : va_G) (ad : Nat → Nat) (de sz : Nat) (h0 : Nat) (fs : List Value) (hfl : fs.length = 14) (hf12 : xfa fs 12 (.int 0))  (o0 : Nat) : Met l ⟨"SignalEngineLaw", "classes", "(LSignalEngine;[J)I"⟩ (.codeWith ⟨"SignalEngineLaw", "classes", "(LSignalEngine;[J)I"⟩ method_9_code 3 (some (.int)) [(0, 8, 11, 13)] :: tt) { frames := 7, cells := 1, slots := 6, locals := 110 } (va_Pc [.ref h0, .ref o0] (xp ad de D [(h0, .inr (0, fs))] [] sz)) (va_Qi (fun (r : Int32) (_ : Unit) => r = 1) (fun (_ : Unit) t => xq D (va_A [(h0, .inr (0, fs))] sz) [(h0, .inr (0, fs))] [] t) (va_A [(h0, .inr (0, fs))] sz)) 1 6 (va_A [(h0, .inr (0, fs))] sz) := by
  refine xMetH (by decide +kernel) (Nat.le_of_ble_eq_true rfl) ?_
  intro p e s m below meth c hx hb hr hlocks htab hml hown hts hsz hP hK hD hE hA ls hl
  have hS : va_S _ s.heap s.heap [] := va_S.rf (A := va_A [(h0, .inr (0, fs))] sz)
  have hl : lv_has ls 3 [(0, .ref h0), (1, .ref o0)] := hl
  refine lv_aload_n hx hb (show decode method_9_code 0 = .ok (.aload_n 1, 1) by decide +kernel) rfl (lv_at hl 1 rfl) ?_
  refine lv_iconst (v := 0) hx hb (show decode method_9_code 1 = .ok (.iconst 0, 1) by decide +kernel) (by decide +kernel) ?_
  refine lv_aload_n hx hb (show decode method_9_code 2 = .ok (.aload_n 0, 1) by decide +kernel) rfl (lv_at hl 0 rfl) ?_
  refine xkc (own := "SignalEngineLaw") (wr := []) (xrT (As := []) (rest := [.int 0, .ref o0]) ⟨hx, hb, hml, hown, hts⟩ (c_SE_classes0 l hlt D ad de s.heap.size h0 fs hfl hf12) w_1444 w_1 w_1441 w_1442 w_1443 rfl rfl ⟨by decide +kernel, by decide +kernel, rfl⟩ ⟨by decide +kernel, by decide +kernel⟩ hP hK hD hE hS hA [0] [] rfl (by decide +kernel) rfl ⟨0, 0, _, _, rfl, rfl, rfl⟩ hl.1 rfl (Nat.le_of_ble_eq_true rfl) (show decode method_9_code 3 = .ok (.invokevirtual 35, 3) by decide +kernel) ⟨by decide +kernel, by decide +kernel⟩) hP hK hD hS hA [0] [] rfl rfl (by decide +kernel) (by decide +kernel) hown htab (by decide +kernel) (by decide +kernel) (hts _ w_1148) (fun u x H locs hob hw hP hK hD hS => ?_)
  have hP : va_P D cl [(h0, .inr (0, fs))] H := hP
  have hD : va_D _ [(h0, .inr (0, fs))] := hD
  refine W.widen (k := 1) (n := 6) (by decide +kernel) (by decide +kernel) ?_
  refine lv_astore_n (lv' := [(2, .ref x), (0, .ref h0), (1, .ref o0)]) hx hb (show decode method_9_code 11 = .ok (.astore_n 2, 1) by decide +kernel) rfl hl (by decide +kernel) rfl (fun ls hl => ?_)
  refine lv_iconst (v := 1) hx hb (show decode method_9_code 12 = .ok (.iconst 1, 1) by decide +kernel) (by decide +kernel) ?_
  exact W.iret (v := 1) hx hb hr (fun t ht hW => ⟨⟨1, (), rfl, rfl, by rw [ht]; exact hP, va_K.moved hW.alike hK, hD⟩, hS.F ht⟩) hS.2.2 (show decode method_9_code 13 = .ok (.ireturn, 1) by decide +kernel)
set_option maxHeartbeats 4000000 in
set_option maxRecDepth 100000 in
/-- SignalEngineLaw.lay -/
theorem c_LW_lay0 (l : Launch) (hlt : l.stackTraces = false) (D : va_G) (ad : Nat → Nat) (de sz : Nat) (h0 : Nat) (fs : List Value) (hfl : fs.length = 14) (hf12 : xfa fs 12 (.int 0))  (o0 : Nat) : Met l ⟨"SignalEngineLaw", "lay", "(LSignalEngine;[J)I"⟩ (.codeWith ⟨"SignalEngineLaw", "lay", "(LSignalEngine;[J)I"⟩ method_10_code 3 (some (.int)) [(0, 8, 11, 13)] :: tt) { frames := 7, cells := 1, slots := 6, locals := 110 } (va_Pc [.ref h0, .ref o0] (xp ad de D [(h0, .inr (0, fs))] [] sz)) (va_Qi (fun (r : Int32) (_ : Unit) => r = 1) (fun (_ : Unit) t => xq D (va_A [(h0, .inr (0, fs))] sz) [(h0, .inr (0, fs))] [] t) (va_A [(h0, .inr (0, fs))] sz)) 1 6 (va_A [(h0, .inr (0, fs))] sz) := by
  refine xMetH (by decide +kernel) (Nat.le_of_ble_eq_true rfl) ?_
  intro p e s m below meth c hx hb hr hlocks htab hml hown hts hsz hP hK hD hE hA ls hl
  have hS : va_S _ s.heap s.heap [] := va_S.rf (A := va_A [(h0, .inr (0, fs))] sz)
  have hl : lv_has ls 3 [(0, .ref h0), (1, .ref o0)] := hl
  refine lv_aload_n hx hb (show decode method_10_code 0 = .ok (.aload_n 1, 1) by decide +kernel) rfl (lv_at hl 1 rfl) ?_
  refine lv_iconst (v := 0) hx hb (show decode method_10_code 1 = .ok (.iconst 0, 1) by decide +kernel) (by decide +kernel) ?_
  refine lv_aload_n hx hb (show decode method_10_code 2 = .ok (.aload_n 0, 1) by decide +kernel) rfl (lv_at hl 0 rfl) ?_
  refine xkc (own := "SignalEngineLaw") (wr := []) (xrT (As := []) (rest := [.int 0, .ref o0]) ⟨hx, hb, hml, hown, hts⟩ (c_SE_lay0 l hlt D ad de s.heap.size h0 fs hfl hf12) w_1451 w_1 w_1448 w_1449 w_1450 rfl rfl ⟨by decide +kernel, by decide +kernel, rfl⟩ ⟨by decide +kernel, by decide +kernel⟩ hP hK hD hE hS hA [0] [] rfl (by decide +kernel) rfl ⟨0, 0, _, _, rfl, rfl, rfl⟩ hl.1 rfl (Nat.le_of_ble_eq_true rfl) (show decode method_10_code 3 = .ok (.invokevirtual 38, 3) by decide +kernel) ⟨by decide +kernel, by decide +kernel⟩) hP hK hD hS hA [0] [] rfl rfl (by decide +kernel) (by decide +kernel) hown htab (by decide +kernel) (by decide +kernel) (hts _ w_1148) (fun u x H locs hob hw hP hK hD hS => ?_)
  have hP : va_P D cl [(h0, .inr (0, fs))] H := hP
  have hD : va_D _ [(h0, .inr (0, fs))] := hD
  refine W.widen (k := 1) (n := 6) (by decide +kernel) (by decide +kernel) ?_
  refine lv_astore_n (lv' := [(2, .ref x), (0, .ref h0), (1, .ref o0)]) hx hb (show decode method_10_code 11 = .ok (.astore_n 2, 1) by decide +kernel) rfl hl (by decide +kernel) rfl (fun ls hl => ?_)
  refine lv_iconst (v := 1) hx hb (show decode method_10_code 12 = .ok (.iconst 1, 1) by decide +kernel) (by decide +kernel) ?_
  exact W.iret (v := 1) hx hb hr (fun t ht hW => ⟨⟨1, (), rfl, rfl, by rw [ht]; exact hP, va_K.moved hW.alike hK, hD⟩, hS.F ht⟩) hS.2.2 (show decode method_10_code 13 = .ok (.ireturn, 1) by decide +kernel)
set_option maxHeartbeats 4000000 in
set_option maxRecDepth 100000 in
/-- SignalEngineLaw.pass -/
theorem c_LW_pass0 (l : Launch) (hlt : l.stackTraces = false) (D : va_G) (ad : Nat → Nat) (de sz : Nat) (h0 : Nat) (fs : List Value) (hfl : fs.length = 14) (hf13 : xfa fs 13 (.int 0))  (p0 : Int32) (o1 : Nat) : Met l ⟨"SignalEngineLaw", "pass", "(LSignalEngine;I[J)I"⟩ (.codeWith ⟨"SignalEngineLaw", "pass", "(LSignalEngine;I[J)I"⟩ method_11_code 4 (some (.int)) [(0, 8, 11, 13), (0, 8, 14, 19)] :: tt) { frames := 7, cells := 1, slots := 6, locals := 111 } (va_Pc [.ref h0, .int p0, .ref o1] (xp ad de D [(h0, .inr (0, fs))] [] sz)) (va_Qi (fun (r : Int32) (_ : Unit) => r = 1) (fun (_ : Unit) t => xq D (va_A [(h0, .inr (0, fs))] sz) [(h0, .inr (0, fs))] [] t) (va_A [(h0, .inr (0, fs))] sz)) 1 6 (va_A [(h0, .inr (0, fs))] sz) := by
  refine xMetH (by decide +kernel) (Nat.le_of_ble_eq_true rfl) ?_
  intro p e s m below meth c hx hb hr hlocks htab hml hown hts hsz hP hK hD hE hA ls hl
  have hS : va_S _ s.heap s.heap [] := va_S.rf (A := va_A [(h0, .inr (0, fs))] sz)
  have hl : lv_has ls 4 [(0, .ref h0), (1, .int p0), (2, .ref o1)] := hl
  refine lv_aload_n hx hb (show decode method_11_code 0 = .ok (.aload_n 2, 1) by decide +kernel) rfl (lv_at hl 2 rfl) ?_
  refine lv_iconst (v := 0) hx hb (show decode method_11_code 1 = .ok (.iconst 0, 1) by decide +kernel) (by decide +kernel) ?_
  refine lv_aload_n hx hb (show decode method_11_code 2 = .ok (.aload_n 0, 1) by decide +kernel) rfl (lv_at hl 0 rfl) ?_
  refine lv_iload_n hx hb (show decode method_11_code 3 = .ok (.iload_n 1, 1) by decide +kernel) rfl (lv_at hl 1 rfl) ?_
  refine xkc (own := "SignalEngineLaw") (wr := []) (xrT (As := [.int p0]) (rest := [.int 0, .ref o1]) ⟨hx, hb, hml, hown, hts⟩ (c_SE_pass0 l hlt D ad de s.heap.size h0 fs hfl hf13 p0) w_1543 w_1 w_1540 w_1541 w_1542 rfl rfl ⟨by decide +kernel, by decide +kernel, rfl⟩ ⟨by decide +kernel, by decide +kernel⟩ hP hK hD hE hS hA [0] [] rfl (by decide +kernel) rfl ⟨0, 0, _, _, rfl, rfl, rfl⟩ hl.1 rfl (Nat.le_of_ble_eq_true rfl) (show decode method_11_code 4 = .ok (.invokevirtual 41, 3) by decide +kernel) ⟨by decide +kernel, by decide +kernel⟩) hP hK hD hS hA [0] [] rfl rfl (by decide +kernel) (by decide +kernel) hown htab (by decide +kernel) (by decide +kernel) (hts _ w_1148) (fun u x H locs hob hw hP hK hD hS => ?_)
  have hP : va_P D cl [(h0, .inr (0, fs))] H := hP
  have hD : va_D _ [(h0, .inr (0, fs))] := hD
  refine W.widen (k := 1) (n := 6) (by decide +kernel) (by decide +kernel) ?_
  refine lv_astore_n (lv' := [(3, .ref x), (0, .ref h0), (1, .int p0), (2, .ref o1)]) hx hb (show decode method_11_code 11 = .ok (.astore_n 3, 1) by decide +kernel) rfl hl (by decide +kernel) rfl (fun ls hl => ?_)
  refine lv_iconst (v := 1) hx hb (show decode method_11_code 12 = .ok (.iconst 1, 1) by decide +kernel) (by decide +kernel) ?_
  exact W.iret (v := 1) hx hb hr (fun t ht hW => ⟨⟨1, (), rfl, rfl, by rw [ht]; exact hP, va_K.moved hW.alike hK, hD⟩, hS.F ht⟩) hS.2.2 (show decode method_11_code 13 = .ok (.ireturn, 1) by decide +kernel)
end
section
set_option maxHeartbeats 4000000 in
set_option maxRecDepth 100000 in
/-- SignalEngine.count -/
theorem c_SE_count0 (l : Launch) (D : va_G) (ad : Nat → Nat) (de sz : Nat) (h0 : Nat) (fs : List Value) (hfl : fs.length = 14) (hf1 : xfa fs 1 (.int 0)) (hf3 : xfa fs 3 (.null))  (p0 : Int32) : Met l ⟨"SignalEngine", "count", "(I)I"⟩ (tw ⟨"SignalEngine", "count", "(I)I"⟩ prog_1_method_30_code 2 (some (.int))) { frames := 0, cells := 0, slots := 0, locals := 0 } (va_Pc [.ref h0, .int p0] (xp ad de D [(h0, .inr (0, fs))] [] sz)) (va_Qi (fun (r : Int32) (_ : Unit) => r = cnt p0) (fun (_ : Unit) t => xq D (va_A [(h0, .inr (0, fs))] sz) [(h0, .inr (0, fs))] [] t) (va_A [(h0, .inr (0, fs))] sz)) 0 0 (va_A [(h0, .inr (0, fs))] sz) := by
  refine xMet (by decide +kernel) (Nat.le_of_ble_eq_true rfl) ?_
  intro p e s m below meth c hx hb hr hlocks hin hml hown hts hsz hP hK hD hE hA ls hl
  have hS : va_S _ s.heap s.heap [] := va_S.rf (A := va_A [(h0, .inr (0, fs))] sz)
  have hl : lv_has ls 2 [(0, .ref h0), (1, .int p0)] := hl
  refine lv_iload_n hx hb (show decode prog_1_method_30_code 0 = .ok (.iload_n 1, 1) by decide +kernel) rfl (lv_at hl 1 rfl) ?_
  refine lv_if_lt (tgt := 10) hx hb (show decode prog_1_method_30_code 1 = .ok (.ifCond .lt 9, 3) by decide +kernel) (by decide +kernel) (fun c_1 => ?_) (fun c_1 => ?_)
  · skip
    refine lv_iconst (v := (-1)) hx hb (show decode prog_1_method_30_code 10 = .ok (.iconst (-1), 1) by decide +kernel) (by decide +kernel) ?_
    exact W.iret (v := (-1)) hx hb hr (fun t ht hW => ⟨⟨(-1), (), rfl, (by simp [cnt, c_1]), by rw [ht]; exact hP, va_K.moved hW.alike hK, hD⟩, hS.F ht⟩) hS.2.2 (show decode prog_1_method_30_code 11 = .ok (.ireturn, 1) by decide +kernel)
  · skip
    refine lv_iload_n hx hb (show decode prog_1_method_30_code 4 = .ok (.iload_n 1, 1) by decide +kernel) rfl (lv_at hl 1 rfl) ?_
    refine lv_bipush (v := 15) hx hb (show decode prog_1_method_30_code 5 = .ok (.bipush 15, 2) by decide +kernel) (by decide +kernel) ?_
    refine lv_icmp_le (tgt := 12) hx hb (show decode prog_1_method_30_code 7 = .ok (.if_icmp .le 5, 3) by decide +kernel) (by decide +kernel) (fun c_2 => ?_) (fun c_2 => ?_)
    · skip
      refine lv_iload_n hx hb (show decode prog_1_method_30_code 12 = .ok (.iload_n 1, 1) by decide +kernel) rfl (lv_at hl 1 rfl) ?_
      refine lv_bipush (v := 9) hx hb (show decode prog_1_method_30_code 13 = .ok (.bipush 9, 2) by decide +kernel) (by decide +kernel) ?_
      refine lv_icmp_ne (tgt := 23) hx hb (show decode prog_1_method_30_code 15 = .ok (.if_icmp .ne 8, 3) by decide +kernel) (by decide +kernel) (fun c_3 => ?_) (fun c_3 => ?_)
      · skip
        refine lv_aload_n hx hb (show decode prog_1_method_30_code 23 = .ok (.aload_n 0, 1) by decide +kernel) rfl (lv_at hl 0 rfl) ?_
        refine va_get (D := D) (ci := 0) (v := .null) (C := R_SE) (T := F_SE) (N := 14) hx hb hts i_SE hown hK hP 0 rfl rfl 3 (by decide +kernel) (hts _ w_45) (fun _ h9 => h9) hf3 (show decode prog_1_method_30_code 24 = .ok (.getfield 52, 3) by decide +kernel) ?_
        refine lv_ifnonnullN hx hb (show decode prog_1_method_30_code 27 = .ok (.ifnonnull 5, 3) by decide +kernel) ?_
        refine lv_iconst (v := 0) hx hb (show decode prog_1_method_30_code 30 = .ok (.iconst 0, 1) by decide +kernel) (by decide +kernel) ?_
        exact W.iret (v := 0) hx hb hr (fun t ht hW => ⟨⟨0, (), rfl, (by simp [cnt, c_1, c_2, c_3]), by rw [ht]; exact hP, va_K.moved hW.alike hK, hD⟩, hS.F ht⟩) hS.2.2 (show decode prog_1_method_30_code 31 = .ok (.ireturn, 1) by decide +kernel)
      · skip
        refine lv_aload_n hx hb (show decode prog_1_method_30_code 18 = .ok (.aload_n 0, 1) by decide +kernel) rfl (lv_at hl 0 rfl) ?_
        refine va_get (D := D) (ci := 0) (v := .int 0) (C := R_SE) (T := F_SE) (N := 14) hx hb hts i_SE hown hK hP 0 rfl rfl 1 (by decide +kernel) (hts _ w_43) (fun _ h9 => h9) hf1 (show decode prog_1_method_30_code 19 = .ok (.getfield 13, 3) by decide +kernel) ?_
        exact W.iret (v := 0) hx hb hr (fun t ht hW => ⟨⟨0, (), rfl, (by simp [cnt, c_1, c_2, c_3]), by rw [ht]; exact hP, va_K.moved hW.alike hK, hD⟩, hS.F ht⟩) hS.2.2 (show decode prog_1_method_30_code 22 = .ok (.ireturn, 1) by decide +kernel)
    · skip
      refine lv_iconst (v := (-1)) hx hb (show decode prog_1_method_30_code 10 = .ok (.iconst (-1), 1) by decide +kernel) (by decide +kernel) ?_
      exact W.iret (v := (-1)) hx hb hr (fun t ht hW => ⟨⟨(-1), (), rfl, (by simp [cnt, c_1, c_2]), by rw [ht]; exact hP, va_K.moved hW.alike hK, hD⟩, hS.F ht⟩) hS.2.2 (show decode prog_1_method_30_code 11 = .ok (.ireturn, 1) by decide +kernel)
set_option maxHeartbeats 4000000 in
set_option maxRecDepth 100000 in
/-- SignalEngineModel.count -/
theorem c_MD_count_0 (l : Launch) (D : va_G) (ad : Nat → Nat) (de sz : Nat) (h0 : Nat) (fs : List Value) (hfl : fs.length = 107) (hf42 : xfa fs 42 (.int 0)) (hf43 : xfa fs 43 (.int 0)) (hf45 : xfa fs 45 (.int 0)) (hf46 : xfa fs 46 (.int 0)) (hf44 : xfa fs 44 (.int 0)) (hf47 : xfa fs 47 (.int 0)) (hf48 : xfa fs 48 (.int 0)) (hf49 : xfa fs 49 (.int 0)) (hf41 : xfa fs 41 (.int 0)) (hf2 : xfa fs 2 (.int 0)) (hf83 : xfa fs 83 (.int 0)) (hf82 : xfa fs 82 (.int 0)) (hf85 : xfa fs 85 (.int 0)) (hf87 : xfa fs 87 (.int 0)) (hf86 : xfa fs 86 (.int 0)) (hf106 : xfa fs 106 (.int 0))   : Met l ⟨"SignalEngineModel", "count", "(I)I"⟩ (tw ⟨"SignalEngineModel", "count", "(I)I"⟩ prog_15_method_110_code 4 (some (.int))) { frames := 0, cells := 0, slots := 0, locals := 0 } (va_Pc [.ref h0, .int 0] (xp ad de D [(h0, .inr (1, fs))] [] sz)) (va_Qi (fun (r : Int32) (_ : Unit) => r = cnt 0) (fun (_ : Unit) t => xq D (va_A [(h0, .inr (1, fs))] sz) [(h0, .inr (1, (fs.set 0 (.int 0))))] [] t) (va_A [(h0, .inr (1, fs))] sz)) 0 0 (va_A [(h0, .inr (1, fs))] sz) := by
  refine xMet (by decide +kernel) (Nat.le_of_ble_eq_true rfl) ?_
  intro p e s m below meth c hx hb hr hlocks hin hml hown hts hsz hP hK hD hE hA ls hl
  have hS : va_S _ s.heap s.heap [] := va_S.rf (A := va_A [(h0, .inr (1, fs))] sz)
  have hl : lv_has ls 4 [(0, .ref h0), (1, .int 0)] := hl
  refine lv_aload_n hx hb (show decode prog_15_method_110_code 0 = .ok (.aload_n 0, 1) by decide +kernel) rfl (lv_at hl 0 rfl) ?_
  refine lv_iconst (v := 0) hx hb (show decode prog_15_method_110_code 1 = .ok (.iconst 0, 1) by decide +kernel) (by decide +kernel) ?_
  refine va_put (D := D) (ci := 1) (v := .int 0) (ty := .int) (C := R_MD) (T := F_MD) (N := 107) hx hb hts i_MD t_MD t_MD_ok n_MD hown hK hP hD hS 0 rfl rfl 0 (by decide +kernel) (hts _ w_1562) (fun _ h9 => h9) rfl (by decide +kernel) rfl rfl (by simp [hfl]) (show decode prog_15_method_110_code 2 = .ok (.putfield 206, 3) by decide +kernel) (fun H locs hP hD hS => ?_)
  have hP : va_P D cl [(h0, .inr (1, (fs.set 0 (.int 0))))] H := hP
  have hD : va_D _ [(h0, .inr (1, (fs.set 0 (.int 0))))] := hD
  refine lv_iconst (v := 0) hx hb (show decode prog_15_method_110_code 5 = .ok (.iconst 0, 1) by decide +kernel) (by decide +kernel) ?_
  refine lv_istore_n (lv' := [(2, .int 0), (0, .ref h0), (1, .int 0)]) hx hb (show decode prog_15_method_110_code 6 = .ok (.istore_n 2, 1) by decide +kernel) rfl hl (by decide +kernel) rfl (fun ls hl => ?_)
  refine lv_iload_n hx hb (show decode prog_15_method_110_code 7 = .ok (.iload_n 1, 1) by decide +kernel) rfl (lv_at hl 2 rfl) ?_
  refine lv_tableIn (off := 80) (tgt := 88) hx hb dsw_prog_15_method_110_code_8 (by decide +kernel) (by decide +kernel) (by decide +kernel) (by decide +kernel) ?_
  refine lv_aload_n hx hb (show decode prog_15_method_110_code 88 = .ok (.aload_n 0, 1) by decide +kernel) rfl (lv_at hl 1 rfl) ?_
  refine va_get (D := D) (ci := 1) (v := .int 0) (C := R_MD) (T := F_MD) (N := 107) hx hb hts i_MD hown hK hP 0 rfl rfl 42 (by decide +kernel) (hts _ w_1604) (fun _ h9 => h9) (xg_ne (by decide +kernel) hf42) (show decode prog_15_method_110_code 89 = .ok (.getfield 539, 3) by decide +kernel) ?_
  exact W.iret (v := 0) hx hb hr (fun t ht hW => ⟨⟨0, (), rfl, (by decide +kernel), by rw [ht]; exact hP, va_K.moved hW.alike hK, hD⟩, hS.F ht⟩) hS.2.2 (show decode prog_15_method_110_code 92 = .ok (.ireturn, 1) by decide +kernel)
set_option maxHeartbeats 4000000 in
set_option maxRecDepth 100000 in
/-- SignalEngineModel.count -/
theorem c_MD_count_1 (l : Launch) (D : va_G) (ad : Nat → Nat) (de sz : Nat) (h0 : Nat) (fs : List Value) (hfl : fs.length = 107) (hf42 : xfa fs 42 (.int 0)) (hf43 : xfa fs 43 (.int 0)) (hf45 : xfa fs 45 (.int 0)) (hf46 : xfa fs 46 (.int 0)) (hf44 : xfa fs 44 (.int 0)) (hf47 : xfa fs 47 (.int 0)) (hf48 : xfa fs 48 (.int 0)) (hf49 : xfa fs 49 (.int 0)) (hf41 : xfa fs 41 (.int 0)) (hf2 : xfa fs 2 (.int 0)) (hf83 : xfa fs 83 (.int 0)) (hf82 : xfa fs 82 (.int 0)) (hf85 : xfa fs 85 (.int 0)) (hf87 : xfa fs 87 (.int 0)) (hf86 : xfa fs 86 (.int 0)) (hf106 : xfa fs 106 (.int 0))   : Met l ⟨"SignalEngineModel", "count", "(I)I"⟩ (tw ⟨"SignalEngineModel", "count", "(I)I"⟩ prog_15_method_110_code 4 (some (.int))) { frames := 0, cells := 0, slots := 0, locals := 0 } (va_Pc [.ref h0, .int 1] (xp ad de D [(h0, .inr (1, fs))] [] sz)) (va_Qi (fun (r : Int32) (_ : Unit) => r = cnt 1) (fun (_ : Unit) t => xq D (va_A [(h0, .inr (1, fs))] sz) [(h0, .inr (1, (fs.set 0 (.int 0))))] [] t) (va_A [(h0, .inr (1, fs))] sz)) 0 0 (va_A [(h0, .inr (1, fs))] sz) := by
  refine xMet (by decide +kernel) (Nat.le_of_ble_eq_true rfl) ?_
  intro p e s m below meth c hx hb hr hlocks hin hml hown hts hsz hP hK hD hE hA ls hl
  have hS : va_S _ s.heap s.heap [] := va_S.rf (A := va_A [(h0, .inr (1, fs))] sz)
  have hl : lv_has ls 4 [(0, .ref h0), (1, .int 1)] := hl
  refine lv_aload_n hx hb (show decode prog_15_method_110_code 0 = .ok (.aload_n 0, 1) by decide +kernel) rfl (lv_at hl 0 rfl) ?_
  refine lv_iconst (v := 0) hx hb (show decode prog_15_method_110_code 1 = .ok (.iconst 0, 1) by decide +kernel) (by decide +kernel) ?_
  refine va_put (D := D) (ci := 1) (v := .int 0) (ty := .int) (C := R_MD) (T := F_MD) (N := 107) hx hb hts i_MD t_MD t_MD_ok n_MD hown hK hP hD hS 0 rfl rfl 0 (by decide +kernel) (hts _ w_1562) (fun _ h9 => h9) rfl (by decide +kernel) rfl rfl (by simp [hfl]) (show decode prog_15_method_110_code 2 = .ok (.putfield 206, 3) by decide +kernel) (fun H locs hP hD hS => ?_)
  have hP : va_P D cl [(h0, .inr (1, (fs.set 0 (.int 0))))] H := hP
  have hD : va_D _ [(h0, .inr (1, (fs.set 0 (.int 0))))] := hD
  refine lv_iconst (v := 0) hx hb (show decode prog_15_method_110_code 5 = .ok (.iconst 0, 1) by decide +kernel) (by decide +kernel) ?_
  refine lv_istore_n (lv' := [(2, .int 0), (0, .ref h0), (1, .int 1)]) hx hb (show decode prog_15_method_110_code 6 = .ok (.istore_n 2, 1) by decide +kernel) rfl hl (by decide +kernel) rfl (fun ls hl => ?_)
  refine lv_iload_n hx hb (show decode prog_15_method_110_code 7 = .ok (.iload_n 1, 1) by decide +kernel) rfl (lv_at hl 2 rfl) ?_
  refine lv_tableIn (off := 85) (tgt := 93) hx hb dsw_prog_15_method_110_code_8 (by decide +kernel) (by decide +kernel) (by decide +kernel) (by decide +kernel) ?_
  refine lv_aload_n hx hb (show decode prog_15_method_110_code 93 = .ok (.aload_n 0, 1) by decide +kernel) rfl (lv_at hl 1 rfl) ?_
  refine va_get (D := D) (ci := 1) (v := .int 0) (C := R_MD) (T := F_MD) (N := 107) hx hb hts i_MD hown hK hP 0 rfl rfl 43 (by decide +kernel) (hts _ w_1605) (fun _ h9 => h9) (xg_ne (by decide +kernel) hf43) (show decode prog_15_method_110_code 94 = .ok (.getfield 501, 3) by decide +kernel) ?_
  exact W.iret (v := 0) hx hb hr (fun t ht hW => ⟨⟨0, (), rfl, (by decide +kernel), by rw [ht]; exact hP, va_K.moved hW.alike hK, hD⟩, hS.F ht⟩) hS.2.2 (show decode prog_15_method_110_code 97 = .ok (.ireturn, 1) by decide +kernel)
set_option maxHeartbeats 4000000 in
set_option maxRecDepth 100000 in
/-- SignalEngineModel.count -/
theorem c_MD_count_2 (l : Launch) (D : va_G) (ad : Nat → Nat) (de sz : Nat) (h0 : Nat) (fs : List Value) (hfl : fs.length = 107) (hf42 : xfa fs 42 (.int 0)) (hf43 : xfa fs 43 (.int 0)) (hf45 : xfa fs 45 (.int 0)) (hf46 : xfa fs 46 (.int 0)) (hf44 : xfa fs 44 (.int 0)) (hf47 : xfa fs 47 (.int 0)) (hf48 : xfa fs 48 (.int 0)) (hf49 : xfa fs 49 (.int 0)) (hf41 : xfa fs 41 (.int 0)) (hf2 : xfa fs 2 (.int 0)) (hf83 : xfa fs 83 (.int 0)) (hf82 : xfa fs 82 (.int 0)) (hf85 : xfa fs 85 (.int 0)) (hf87 : xfa fs 87 (.int 0)) (hf86 : xfa fs 86 (.int 0)) (hf106 : xfa fs 106 (.int 0))   : Met l ⟨"SignalEngineModel", "count", "(I)I"⟩ (tw ⟨"SignalEngineModel", "count", "(I)I"⟩ prog_15_method_110_code 4 (some (.int))) { frames := 0, cells := 0, slots := 0, locals := 0 } (va_Pc [.ref h0, .int 2] (xp ad de D [(h0, .inr (1, fs))] [] sz)) (va_Qi (fun (r : Int32) (_ : Unit) => r = cnt 2) (fun (_ : Unit) t => xq D (va_A [(h0, .inr (1, fs))] sz) [(h0, .inr (1, (fs.set 0 (.int 0))))] [] t) (va_A [(h0, .inr (1, fs))] sz)) 0 0 (va_A [(h0, .inr (1, fs))] sz) := by
  refine xMet (by decide +kernel) (Nat.le_of_ble_eq_true rfl) ?_
  intro p e s m below meth c hx hb hr hlocks hin hml hown hts hsz hP hK hD hE hA ls hl
  have hS : va_S _ s.heap s.heap [] := va_S.rf (A := va_A [(h0, .inr (1, fs))] sz)
  have hl : lv_has ls 4 [(0, .ref h0), (1, .int 2)] := hl
  refine lv_aload_n hx hb (show decode prog_15_method_110_code 0 = .ok (.aload_n 0, 1) by decide +kernel) rfl (lv_at hl 0 rfl) ?_
  refine lv_iconst (v := 0) hx hb (show decode prog_15_method_110_code 1 = .ok (.iconst 0, 1) by decide +kernel) (by decide +kernel) ?_
  refine va_put (D := D) (ci := 1) (v := .int 0) (ty := .int) (C := R_MD) (T := F_MD) (N := 107) hx hb hts i_MD t_MD t_MD_ok n_MD hown hK hP hD hS 0 rfl rfl 0 (by decide +kernel) (hts _ w_1562) (fun _ h9 => h9) rfl (by decide +kernel) rfl rfl (by simp [hfl]) (show decode prog_15_method_110_code 2 = .ok (.putfield 206, 3) by decide +kernel) (fun H locs hP hD hS => ?_)
  have hP : va_P D cl [(h0, .inr (1, (fs.set 0 (.int 0))))] H := hP
  have hD : va_D _ [(h0, .inr (1, (fs.set 0 (.int 0))))] := hD
  refine lv_iconst (v := 0) hx hb (show decode prog_15_method_110_code 5 = .ok (.iconst 0, 1) by decide +kernel) (by decide +kernel) ?_
  refine lv_istore_n (lv' := [(2, .int 0), (0, .ref h0), (1, .int 2)]) hx hb (show decode prog_15_method_110_code 6 = .ok (.istore_n 2, 1) by decide +kernel) rfl hl (by decide +kernel) rfl (fun ls hl => ?_)
  refine lv_iload_n hx hb (show decode prog_15_method_110_code 7 = .ok (.iload_n 1, 1) by decide +kernel) rfl (lv_at hl 2 rfl) ?_
  refine lv_tableIn (off := 90) (tgt := 98) hx hb dsw_prog_15_method_110_code_8 (by decide +kernel) (by decide +kernel) (by decide +kernel) (by decide +kernel) ?_
  refine lv_aload_n hx hb (show decode prog_15_method_110_code 98 = .ok (.aload_n 0, 1) by decide +kernel) rfl (lv_at hl 1 rfl) ?_
  refine va_get (D := D) (ci := 1) (v := .int 0) (C := R_MD) (T := F_MD) (N := 107) hx hb hts i_MD hown hK hP 0 rfl rfl 45 (by decide +kernel) (hts _ w_1607) (fun _ h9 => h9) (xg_ne (by decide +kernel) hf45) (show decode prog_15_method_110_code 99 = .ok (.getfield 533, 3) by decide +kernel) ?_
  exact W.iret (v := 0) hx hb hr (fun t ht hW => ⟨⟨0, (), rfl, (by decide +kernel), by rw [ht]; exact hP, va_K.moved hW.alike hK, hD⟩, hS.F ht⟩) hS.2.2 (show decode prog_15_method_110_code 102 = .ok (.ireturn, 1) by decide +kernel)
set_option maxHeartbeats 4000000 in
set_option maxRecDepth 100000 in
/-- SignalEngineModel.count -/
theorem c_MD_count_3 (l : Launch) (D : va_G) (ad : Nat → Nat) (de sz : Nat) (h0 : Nat) (fs : List Value) (hfl : fs.length = 107) (hf42 : xfa fs 42 (.int 0)) (hf43 : xfa fs 43 (.int 0)) (hf45 : xfa fs 45 (.int 0)) (hf46 : xfa fs 46 (.int 0)) (hf44 : xfa fs 44 (.int 0)) (hf47 : xfa fs 47 (.int 0)) (hf48 : xfa fs 48 (.int 0)) (hf49 : xfa fs 49 (.int 0)) (hf41 : xfa fs 41 (.int 0)) (hf2 : xfa fs 2 (.int 0)) (hf83 : xfa fs 83 (.int 0)) (hf82 : xfa fs 82 (.int 0)) (hf85 : xfa fs 85 (.int 0)) (hf87 : xfa fs 87 (.int 0)) (hf86 : xfa fs 86 (.int 0)) (hf106 : xfa fs 106 (.int 0))   : Met l ⟨"SignalEngineModel", "count", "(I)I"⟩ (tw ⟨"SignalEngineModel", "count", "(I)I"⟩ prog_15_method_110_code 4 (some (.int))) { frames := 0, cells := 0, slots := 0, locals := 0 } (va_Pc [.ref h0, .int 3] (xp ad de D [(h0, .inr (1, fs))] [] sz)) (va_Qi (fun (r : Int32) (_ : Unit) => r = cnt 3) (fun (_ : Unit) t => xq D (va_A [(h0, .inr (1, fs))] sz) [(h0, .inr (1, (fs.set 0 (.int 0))))] [] t) (va_A [(h0, .inr (1, fs))] sz)) 0 0 (va_A [(h0, .inr (1, fs))] sz) := by
  refine xMet (by decide +kernel) (Nat.le_of_ble_eq_true rfl) ?_
  intro p e s m below meth c hx hb hr hlocks hin hml hown hts hsz hP hK hD hE hA ls hl
  have hS : va_S _ s.heap s.heap [] := va_S.rf (A := va_A [(h0, .inr (1, fs))] sz)
  have hl : lv_has ls 4 [(0, .ref h0), (1, .int 3)] := hl
  refine lv_aload_n hx hb (show decode prog_15_method_110_code 0 = .ok (.aload_n 0, 1) by decide +kernel) rfl (lv_at hl 0 rfl) ?_
  refine lv_iconst (v := 0) hx hb (show decode prog_15_method_110_code 1 = .ok (.iconst 0, 1) by decide +kernel) (by decide +kernel) ?_
  refine va_put (D := D) (ci := 1) (v := .int 0) (ty := .int) (C := R_MD) (T := F_MD) (N := 107) hx hb hts i_MD t_MD t_MD_ok n_MD hown hK hP hD hS 0 rfl rfl 0 (by decide +kernel) (hts _ w_1562) (fun _ h9 => h9) rfl (by decide +kernel) rfl rfl (by simp [hfl]) (show decode prog_15_method_110_code 2 = .ok (.putfield 206, 3) by decide +kernel) (fun H locs hP hD hS => ?_)
  have hP : va_P D cl [(h0, .inr (1, (fs.set 0 (.int 0))))] H := hP
  have hD : va_D _ [(h0, .inr (1, (fs.set 0 (.int 0))))] := hD
  refine lv_iconst (v := 0) hx hb (show decode prog_15_method_110_code 5 = .ok (.iconst 0, 1) by decide +kernel) (by decide +kernel) ?_
  refine lv_istore_n (lv' := [(2, .int 0), (0, .ref h0), (1, .int 3)]) hx hb (show decode prog_15_method_110_code 6 = .ok (.istore_n 2, 1) by decide +kernel) rfl hl (by decide +kernel) rfl (fun ls hl => ?_)
  refine lv_iload_n hx hb (show decode prog_15_method_110_code 7 = .ok (.iload_n 1, 1) by decide +kernel) rfl (lv_at hl 2 rfl) ?_
  refine lv_tableIn (off := 95) (tgt := 103) hx hb dsw_prog_15_method_110_code_8 (by decide +kernel) (by decide +kernel) (by decide +kernel) (by decide +kernel) ?_
  refine lv_aload_n hx hb (show decode prog_15_method_110_code 103 = .ok (.aload_n 0, 1) by decide +kernel) rfl (lv_at hl 1 rfl) ?_
  refine va_get (D := D) (ci := 1) (v := .int 0) (C := R_MD) (T := F_MD) (N := 107) hx hb hts i_MD hown hK hP 0 rfl rfl 46 (by decide +kernel) (hts _ w_1608) (fun _ h9 => h9) (xg_ne (by decide +kernel) hf46) (show decode prog_15_method_110_code 104 = .ok (.getfield 530, 3) by decide +kernel) ?_
  exact W.iret (v := 0) hx hb hr (fun t ht hW => ⟨⟨0, (), rfl, (by decide +kernel), by rw [ht]; exact hP, va_K.moved hW.alike hK, hD⟩, hS.F ht⟩) hS.2.2 (show decode prog_15_method_110_code 107 = .ok (.ireturn, 1) by decide +kernel)
set_option maxHeartbeats 4000000 in
set_option maxRecDepth 100000 in
/-- SignalEngineModel.count -/
theorem c_MD_count_4 (l : Launch) (D : va_G) (ad : Nat → Nat) (de sz : Nat) (h0 : Nat) (fs : List Value) (hfl : fs.length = 107) (hf42 : xfa fs 42 (.int 0)) (hf43 : xfa fs 43 (.int 0)) (hf45 : xfa fs 45 (.int 0)) (hf46 : xfa fs 46 (.int 0)) (hf44 : xfa fs 44 (.int 0)) (hf47 : xfa fs 47 (.int 0)) (hf48 : xfa fs 48 (.int 0)) (hf49 : xfa fs 49 (.int 0)) (hf41 : xfa fs 41 (.int 0)) (hf2 : xfa fs 2 (.int 0)) (hf83 : xfa fs 83 (.int 0)) (hf82 : xfa fs 82 (.int 0)) (hf85 : xfa fs 85 (.int 0)) (hf87 : xfa fs 87 (.int 0)) (hf86 : xfa fs 86 (.int 0)) (hf106 : xfa fs 106 (.int 0))   : Met l ⟨"SignalEngineModel", "count", "(I)I"⟩ (tw ⟨"SignalEngineModel", "count", "(I)I"⟩ prog_15_method_110_code 4 (some (.int))) { frames := 0, cells := 0, slots := 0, locals := 0 } (va_Pc [.ref h0, .int 4] (xp ad de D [(h0, .inr (1, fs))] [] sz)) (va_Qi (fun (r : Int32) (_ : Unit) => r = cnt 4) (fun (_ : Unit) t => xq D (va_A [(h0, .inr (1, fs))] sz) [(h0, .inr (1, (fs.set 0 (.int 0))))] [] t) (va_A [(h0, .inr (1, fs))] sz)) 0 0 (va_A [(h0, .inr (1, fs))] sz) := by
  refine xMet (by decide +kernel) (Nat.le_of_ble_eq_true rfl) ?_
  intro p e s m below meth c hx hb hr hlocks hin hml hown hts hsz hP hK hD hE hA ls hl
  have hS : va_S _ s.heap s.heap [] := va_S.rf (A := va_A [(h0, .inr (1, fs))] sz)
  have hl : lv_has ls 4 [(0, .ref h0), (1, .int 4)] := hl
  refine lv_aload_n hx hb (show decode prog_15_method_110_code 0 = .ok (.aload_n 0, 1) by decide +kernel) rfl (lv_at hl 0 rfl) ?_
  refine lv_iconst (v := 0) hx hb (show decode prog_15_method_110_code 1 = .ok (.iconst 0, 1) by decide +kernel) (by decide +kernel) ?_
  refine va_put (D := D) (ci := 1) (v := .int 0) (ty := .int) (C := R_MD) (T := F_MD) (N := 107) hx hb hts i_MD t_MD t_MD_ok n_MD hown hK hP hD hS 0 rfl rfl 0 (by decide +kernel) (hts _ w_1562) (fun _ h9 => h9) rfl (by decide +kernel) rfl rfl (by simp [hfl]) (show decode prog_15_method_110_code 2 = .ok (.putfield 206, 3) by decide +kernel) (fun H locs hP hD hS => ?_)
  have hP : va_P D cl [(h0, .inr (1, (fs.set 0 (.int 0))))] H := hP
  have hD : va_D _ [(h0, .inr (1, (fs.set 0 (.int 0))))] := hD
  refine lv_iconst (v := 0) hx hb (show decode prog_15_method_110_code 5 = .ok (.iconst 0, 1) by decide +kernel) (by decide +kernel) ?_
  refine lv_istore_n (lv' := [(2, .int 0), (0, .ref h0), (1, .int 4)]) hx hb (show decode prog_15_method_110_code 6 = .ok (.istore_n 2, 1) by decide +kernel) rfl hl (by decide +kernel) rfl (fun ls hl => ?_)
  refine lv_iload_n hx hb (show decode prog_15_method_110_code 7 = .ok (.iload_n 1, 1) by decide +kernel) rfl (lv_at hl 2 rfl) ?_
  refine lv_tableIn (off := 100) (tgt := 108) hx hb dsw_prog_15_method_110_code_8 (by decide +kernel) (by decide +kernel) (by decide +kernel) (by decide +kernel) ?_
  refine lv_aload_n hx hb (show decode prog_15_method_110_code 108 = .ok (.aload_n 0, 1) by decide +kernel) rfl (lv_at hl 1 rfl) ?_
  refine va_get (D := D) (ci := 1) (v := .int 0) (C := R_MD) (T := F_MD) (N := 107) hx hb hts i_MD hown hK hP 0 rfl rfl 44 (by decide +kernel) (hts _ w_1606) (fun _ h9 => h9) (xg_ne (by decide +kernel) hf44) (show decode prog_15_method_110_code 109 = .ok (.getfield 536, 3) by decide +kernel) ?_
  refine lv_aload_n hx hb (show decode prog_15_method_110_code 112 = .ok (.aload_n 0, 1) by decide +kernel) rfl (lv_at hl 1 rfl) ?_
  refine va_get (D := D) (ci := 1) (v := .int 0) (C := R_MD) (T := F_MD) (N := 107) hx hb hts i_MD hown hK hP 0 rfl rfl 45 (by decide +kernel) (hts _ w_1607) (fun _ h9 => h9) (xg_ne (by decide +kernel) hf45) (show decode prog_15_method_110_code 113 = .ok (.getfield 533, 3) by decide +kernel) ?_
  refine lv_isub hx hb (show decode prog_15_method_110_code 116 = .ok (.isub, 1) by decide +kernel) ?_
  refine xtopi (v := 0) (by decide +kernel) ?_
  refine lv_aload_n hx hb (show decode prog_15_method_110_code 117 = .ok (.aload_n 0, 1) by decide +kernel) rfl (lv_at hl 1 rfl) ?_
  refine va_get (D := D) (ci := 1) (v := .int 0) (C := R_MD) (T := F_MD) (N := 107) hx hb hts i_MD hown hK hP 0 rfl rfl 46 (by decide +kernel) (hts _ w_1608) (fun _ h9 => h9) (xg_ne (by decide +kernel) hf46) (show decode prog_15_method_110_code 118 = .ok (.getfield 530, 3) by decide +kernel) ?_
  refine lv_isub hx hb (show decode prog_15_method_110_code 121 = .ok (.isub, 1) by decide +kernel) ?_
  refine xtopi (v := 0) (by decide +kernel) ?_
  exact W.iret (v := 0) hx hb hr (fun t ht hW => ⟨⟨0, (), rfl, (by decide +kernel), by rw [ht]; exact hP, va_K.moved hW.alike hK, hD⟩, hS.F ht⟩) hS.2.2 (show decode prog_15_method_110_code 122 = .ok (.ireturn, 1) by decide +kernel)
set_option maxHeartbeats 4000000 in
set_option maxRecDepth 100000 in
/-- SignalEngineModel.count -/
theorem c_MD_count_5 (l : Launch) (D : va_G) (ad : Nat → Nat) (de sz : Nat) (h0 : Nat) (fs : List Value) (hfl : fs.length = 107) (hf42 : xfa fs 42 (.int 0)) (hf43 : xfa fs 43 (.int 0)) (hf45 : xfa fs 45 (.int 0)) (hf46 : xfa fs 46 (.int 0)) (hf44 : xfa fs 44 (.int 0)) (hf47 : xfa fs 47 (.int 0)) (hf48 : xfa fs 48 (.int 0)) (hf49 : xfa fs 49 (.int 0)) (hf41 : xfa fs 41 (.int 0)) (hf2 : xfa fs 2 (.int 0)) (hf83 : xfa fs 83 (.int 0)) (hf82 : xfa fs 82 (.int 0)) (hf85 : xfa fs 85 (.int 0)) (hf87 : xfa fs 87 (.int 0)) (hf86 : xfa fs 86 (.int 0)) (hf106 : xfa fs 106 (.int 0))   : Met l ⟨"SignalEngineModel", "count", "(I)I"⟩ (tw ⟨"SignalEngineModel", "count", "(I)I"⟩ prog_15_method_110_code 4 (some (.int))) { frames := 0, cells := 0, slots := 0, locals := 0 } (va_Pc [.ref h0, .int 5] (xp ad de D [(h0, .inr (1, fs))] [] sz)) (va_Qi (fun (r : Int32) (_ : Unit) => r = cnt 5) (fun (_ : Unit) t => xq D (va_A [(h0, .inr (1, fs))] sz) [(h0, .inr (1, (fs.set 0 (.int 0))))] [] t) (va_A [(h0, .inr (1, fs))] sz)) 0 0 (va_A [(h0, .inr (1, fs))] sz) := by
  refine xMet (by decide +kernel) (Nat.le_of_ble_eq_true rfl) ?_
  intro p e s m below meth c hx hb hr hlocks hin hml hown hts hsz hP hK hD hE hA ls hl
  have hS : va_S _ s.heap s.heap [] := va_S.rf (A := va_A [(h0, .inr (1, fs))] sz)
  have hl : lv_has ls 4 [(0, .ref h0), (1, .int 5)] := hl
  refine lv_aload_n hx hb (show decode prog_15_method_110_code 0 = .ok (.aload_n 0, 1) by decide +kernel) rfl (lv_at hl 0 rfl) ?_
  refine lv_iconst (v := 0) hx hb (show decode prog_15_method_110_code 1 = .ok (.iconst 0, 1) by decide +kernel) (by decide +kernel) ?_
  refine va_put (D := D) (ci := 1) (v := .int 0) (ty := .int) (C := R_MD) (T := F_MD) (N := 107) hx hb hts i_MD t_MD t_MD_ok n_MD hown hK hP hD hS 0 rfl rfl 0 (by decide +kernel) (hts _ w_1562) (fun _ h9 => h9) rfl (by decide +kernel) rfl rfl (by simp [hfl]) (show decode prog_15_method_110_code 2 = .ok (.putfield 206, 3) by decide +kernel) (fun H locs hP hD hS => ?_)
  have hP : va_P D cl [(h0, .inr (1, (fs.set 0 (.int 0))))] H := hP
  have hD : va_D _ [(h0, .inr (1, (fs.set 0 (.int 0))))] := hD
  refine lv_iconst (v := 0) hx hb (show decode prog_15_method_110_code 5 = .ok (.iconst 0, 1) by decide +kernel) (by decide +kernel) ?_
  refine lv_istore_n (lv' := [(2, .int 0), (0, .ref h0), (1, .int 5)]) hx hb (show decode prog_15_method_110_code 6 = .ok (.istore_n 2, 1) by decide +kernel) rfl hl (by decide +kernel) rfl (fun ls hl => ?_)
  refine lv_iload_n hx hb (show decode prog_15_method_110_code 7 = .ok (.iload_n 1, 1) by decide +kernel) rfl (lv_at hl 2 rfl) ?_
  refine lv_tableIn (off := 115) (tgt := 123) hx hb dsw_prog_15_method_110_code_8 (by decide +kernel) (by decide +kernel) (by decide +kernel) (by decide +kernel) ?_
  refine lv_aload_n hx hb (show decode prog_15_method_110_code 123 = .ok (.aload_n 0, 1) by decide +kernel) rfl (lv_at hl 1 rfl) ?_
  refine va_get (D := D) (ci := 1) (v := .int 0) (C := R_MD) (T := F_MD) (N := 107) hx hb hts i_MD hown hK hP 0 rfl rfl 47 (by decide +kernel) (hts _ w_1609) (fun _ h9 => h9) (xg_ne (by decide +kernel) hf47) (show decode prog_15_method_110_code 124 = .ok (.getfield 498, 3) by decide +kernel) ?_
  exact W.iret (v := 0) hx hb hr (fun t ht hW => ⟨⟨0, (), rfl, (by decide +kernel), by rw [ht]; exact hP, va_K.moved hW.alike hK, hD⟩, hS.F ht⟩) hS.2.2 (show decode prog_15_method_110_code 127 = .ok (.ireturn, 1) by decide +kernel)
set_option maxHeartbeats 4000000 in
set_option maxRecDepth 100000 in
/-- SignalEngineModel.count -/
theorem c_MD_count_6 (l : Launch) (D : va_G) (ad : Nat → Nat) (de sz : Nat) (h0 : Nat) (fs : List Value) (hfl : fs.length = 107) (hf42 : xfa fs 42 (.int 0)) (hf43 : xfa fs 43 (.int 0)) (hf45 : xfa fs 45 (.int 0)) (hf46 : xfa fs 46 (.int 0)) (hf44 : xfa fs 44 (.int 0)) (hf47 : xfa fs 47 (.int 0)) (hf48 : xfa fs 48 (.int 0)) (hf49 : xfa fs 49 (.int 0)) (hf41 : xfa fs 41 (.int 0)) (hf2 : xfa fs 2 (.int 0)) (hf83 : xfa fs 83 (.int 0)) (hf82 : xfa fs 82 (.int 0)) (hf85 : xfa fs 85 (.int 0)) (hf87 : xfa fs 87 (.int 0)) (hf86 : xfa fs 86 (.int 0)) (hf106 : xfa fs 106 (.int 0))   : Met l ⟨"SignalEngineModel", "count", "(I)I"⟩ (tw ⟨"SignalEngineModel", "count", "(I)I"⟩ prog_15_method_110_code 4 (some (.int))) { frames := 0, cells := 0, slots := 0, locals := 0 } (va_Pc [.ref h0, .int 6] (xp ad de D [(h0, .inr (1, fs))] [] sz)) (va_Qi (fun (r : Int32) (_ : Unit) => r = cnt 6) (fun (_ : Unit) t => xq D (va_A [(h0, .inr (1, fs))] sz) [(h0, .inr (1, (fs.set 0 (.int 0))))] [] t) (va_A [(h0, .inr (1, fs))] sz)) 0 0 (va_A [(h0, .inr (1, fs))] sz) := by
  refine xMet (by decide +kernel) (Nat.le_of_ble_eq_true rfl) ?_
  intro p e s m below meth c hx hb hr hlocks hin hml hown hts hsz hP hK hD hE hA ls hl
  have hS : va_S _ s.heap s.heap [] := va_S.rf (A := va_A [(h0, .inr (1, fs))] sz)
  have hl : lv_has ls 4 [(0, .ref h0), (1, .int 6)] := hl
  refine lv_aload_n hx hb (show decode prog_15_method_110_code 0 = .ok (.aload_n 0, 1) by decide +kernel) rfl (lv_at hl 0 rfl) ?_
  refine lv_iconst (v := 0) hx hb (show decode prog_15_method_110_code 1 = .ok (.iconst 0, 1) by decide +kernel) (by decide +kernel) ?_
  refine va_put (D := D) (ci := 1) (v := .int 0) (ty := .int) (C := R_MD) (T := F_MD) (N := 107) hx hb hts i_MD t_MD t_MD_ok n_MD hown hK hP hD hS 0 rfl rfl 0 (by decide +kernel) (hts _ w_1562) (fun _ h9 => h9) rfl (by decide +kernel) rfl rfl (by simp [hfl]) (show decode prog_15_method_110_code 2 = .ok (.putfield 206, 3) by decide +kernel) (fun H locs hP hD hS => ?_)
  have hP : va_P D cl [(h0, .inr (1, (fs.set 0 (.int 0))))] H := hP
  have hD : va_D _ [(h0, .inr (1, (fs.set 0 (.int 0))))] := hD
  refine lv_iconst (v := 0) hx hb (show decode prog_15_method_110_code 5 = .ok (.iconst 0, 1) by decide +kernel) (by decide +kernel) ?_
  refine lv_istore_n (lv' := [(2, .int 0), (0, .ref h0), (1, .int 6)]) hx hb (show decode prog_15_method_110_code 6 = .ok (.istore_n 2, 1) by decide +kernel) rfl hl (by decide +kernel) rfl (fun ls hl => ?_)
  refine lv_iload_n hx hb (show decode prog_15_method_110_code 7 = .ok (.iload_n 1, 1) by decide +kernel) rfl (lv_at hl 2 rfl) ?_
  refine lv_tableIn (off := 120) (tgt := 128) hx hb dsw_prog_15_method_110_code_8 (by decide +kernel) (by decide +kernel) (by decide +kernel) (by decide +kernel) ?_
  refine lv_aload_n hx hb (show decode prog_15_method_110_code 128 = .ok (.aload_n 0, 1) by decide +kernel) rfl (lv_at hl 1 rfl) ?_
  refine va_get (D := D) (ci := 1) (v := .int 0) (C := R_MD) (T := F_MD) (N := 107) hx hb hts i_MD hown hK hP 0 rfl rfl 48 (by decide +kernel) (hts _ w_1610) (fun _ h9 => h9) (xg_ne (by decide +kernel) hf48) (show decode prog_15_method_110_code 129 = .ok (.getfield 507, 3) by decide +kernel) ?_
  exact W.iret (v := 0) hx hb hr (fun t ht hW => ⟨⟨0, (), rfl, (by decide +kernel), by rw [ht]; exact hP, va_K.moved hW.alike hK, hD⟩, hS.F ht⟩) hS.2.2 (show decode prog_15_method_110_code 132 = .ok (.ireturn, 1) by decide +kernel)
set_option maxHeartbeats 4000000 in
set_option maxRecDepth 100000 in
/-- SignalEngineModel.count -/
theorem c_MD_count_7 (l : Launch) (D : va_G) (ad : Nat → Nat) (de sz : Nat) (h0 : Nat) (fs : List Value) (hfl : fs.length = 107) (hf42 : xfa fs 42 (.int 0)) (hf43 : xfa fs 43 (.int 0)) (hf45 : xfa fs 45 (.int 0)) (hf46 : xfa fs 46 (.int 0)) (hf44 : xfa fs 44 (.int 0)) (hf47 : xfa fs 47 (.int 0)) (hf48 : xfa fs 48 (.int 0)) (hf49 : xfa fs 49 (.int 0)) (hf41 : xfa fs 41 (.int 0)) (hf2 : xfa fs 2 (.int 0)) (hf83 : xfa fs 83 (.int 0)) (hf82 : xfa fs 82 (.int 0)) (hf85 : xfa fs 85 (.int 0)) (hf87 : xfa fs 87 (.int 0)) (hf86 : xfa fs 86 (.int 0)) (hf106 : xfa fs 106 (.int 0))   : Met l ⟨"SignalEngineModel", "count", "(I)I"⟩ (tw ⟨"SignalEngineModel", "count", "(I)I"⟩ prog_15_method_110_code 4 (some (.int))) { frames := 0, cells := 0, slots := 0, locals := 0 } (va_Pc [.ref h0, .int 7] (xp ad de D [(h0, .inr (1, fs))] [] sz)) (va_Qi (fun (r : Int32) (_ : Unit) => r = cnt 7) (fun (_ : Unit) t => xq D (va_A [(h0, .inr (1, fs))] sz) [(h0, .inr (1, (fs.set 0 (.int 0))))] [] t) (va_A [(h0, .inr (1, fs))] sz)) 0 0 (va_A [(h0, .inr (1, fs))] sz) := by
  refine xMet (by decide +kernel) (Nat.le_of_ble_eq_true rfl) ?_
  intro p e s m below meth c hx hb hr hlocks hin hml hown hts hsz hP hK hD hE hA ls hl
  have hS : va_S _ s.heap s.heap [] := va_S.rf (A := va_A [(h0, .inr (1, fs))] sz)
  have hl : lv_has ls 4 [(0, .ref h0), (1, .int 7)] := hl
  refine lv_aload_n hx hb (show decode prog_15_method_110_code 0 = .ok (.aload_n 0, 1) by decide +kernel) rfl (lv_at hl 0 rfl) ?_
  refine lv_iconst (v := 0) hx hb (show decode prog_15_method_110_code 1 = .ok (.iconst 0, 1) by decide +kernel) (by decide +kernel) ?_
  refine va_put (D := D) (ci := 1) (v := .int 0) (ty := .int) (C := R_MD) (T := F_MD) (N := 107) hx hb hts i_MD t_MD t_MD_ok n_MD hown hK hP hD hS 0 rfl rfl 0 (by decide +kernel) (hts _ w_1562) (fun _ h9 => h9) rfl (by decide +kernel) rfl rfl (by simp [hfl]) (show decode prog_15_method_110_code 2 = .ok (.putfield 206, 3) by decide +kernel) (fun H locs hP hD hS => ?_)
  have hP : va_P D cl [(h0, .inr (1, (fs.set 0 (.int 0))))] H := hP
  have hD : va_D _ [(h0, .inr (1, (fs.set 0 (.int 0))))] := hD
  refine lv_iconst (v := 0) hx hb (show decode prog_15_method_110_code 5 = .ok (.iconst 0, 1) by decide +kernel) (by decide +kernel) ?_
  refine lv_istore_n (lv' := [(2, .int 0), (0, .ref h0), (1, .int 7)]) hx hb (show decode prog_15_method_110_code 6 = .ok (.istore_n 2, 1) by decide +kernel) rfl hl (by decide +kernel) rfl (fun ls hl => ?_)
  refine lv_iload_n hx hb (show decode prog_15_method_110_code 7 = .ok (.iload_n 1, 1) by decide +kernel) rfl (lv_at hl 2 rfl) ?_
  refine lv_tableIn (off := 125) (tgt := 133) hx hb dsw_prog_15_method_110_code_8 (by decide +kernel) (by decide +kernel) (by decide +kernel) (by decide +kernel) ?_
  refine lv_aload_n hx hb (show decode prog_15_method_110_code 133 = .ok (.aload_n 0, 1) by decide +kernel) rfl (lv_at hl 1 rfl) ?_
  refine va_get (D := D) (ci := 1) (v := .int 0) (C := R_MD) (T := F_MD) (N := 107) hx hb hts i_MD hown hK hP 0 rfl rfl 49 (by decide +kernel) (hts _ w_1611) (fun _ h9 => h9) (xg_ne (by decide +kernel) hf49) (show decode prog_15_method_110_code 134 = .ok (.getfield 504, 3) by decide +kernel) ?_
  exact W.iret (v := 0) hx hb hr (fun t ht hW => ⟨⟨0, (), rfl, (by decide +kernel), by rw [ht]; exact hP, va_K.moved hW.alike hK, hD⟩, hS.F ht⟩) hS.2.2 (show decode prog_15_method_110_code 137 = .ok (.ireturn, 1) by decide +kernel)
set_option maxHeartbeats 4000000 in
set_option maxRecDepth 100000 in
/-- SignalEngineModel.count -/
theorem c_MD_count_8 (l : Launch) (D : va_G) (ad : Nat → Nat) (de sz : Nat) (h0 : Nat) (fs : List Value) (hfl : fs.length = 107) (hf42 : xfa fs 42 (.int 0)) (hf43 : xfa fs 43 (.int 0)) (hf45 : xfa fs 45 (.int 0)) (hf46 : xfa fs 46 (.int 0)) (hf44 : xfa fs 44 (.int 0)) (hf47 : xfa fs 47 (.int 0)) (hf48 : xfa fs 48 (.int 0)) (hf49 : xfa fs 49 (.int 0)) (hf41 : xfa fs 41 (.int 0)) (hf2 : xfa fs 2 (.int 0)) (hf83 : xfa fs 83 (.int 0)) (hf82 : xfa fs 82 (.int 0)) (hf85 : xfa fs 85 (.int 0)) (hf87 : xfa fs 87 (.int 0)) (hf86 : xfa fs 86 (.int 0)) (hf106 : xfa fs 106 (.int 0))   : Met l ⟨"SignalEngineModel", "count", "(I)I"⟩ (tw ⟨"SignalEngineModel", "count", "(I)I"⟩ prog_15_method_110_code 4 (some (.int))) { frames := 0, cells := 0, slots := 0, locals := 0 } (va_Pc [.ref h0, .int 8] (xp ad de D [(h0, .inr (1, fs))] [] sz)) (va_Qi (fun (r : Int32) (_ : Unit) => r = cnt 8) (fun (_ : Unit) t => xq D (va_A [(h0, .inr (1, fs))] sz) [(h0, .inr (1, (fs.set 0 (.int 0))))] [] t) (va_A [(h0, .inr (1, fs))] sz)) 0 0 (va_A [(h0, .inr (1, fs))] sz) := by
  refine xMet (by decide +kernel) (Nat.le_of_ble_eq_true rfl) ?_
  intro p e s m below meth c hx hb hr hlocks hin hml hown hts hsz hP hK hD hE hA ls hl
  have hS : va_S _ s.heap s.heap [] := va_S.rf (A := va_A [(h0, .inr (1, fs))] sz)
  have hl : lv_has ls 4 [(0, .ref h0), (1, .int 8)] := hl
  refine lv_aload_n hx hb (show decode prog_15_method_110_code 0 = .ok (.aload_n 0, 1) by decide +kernel) rfl (lv_at hl 0 rfl) ?_
  refine lv_iconst (v := 0) hx hb (show decode prog_15_method_110_code 1 = .ok (.iconst 0, 1) by decide +kernel) (by decide +kernel) ?_
  refine va_put (D := D) (ci := 1) (v := .int 0) (ty := .int) (C := R_MD) (T := F_MD) (N := 107) hx hb hts i_MD t_MD t_MD_ok n_MD hown hK hP hD hS 0 rfl rfl 0 (by decide +kernel) (hts _ w_1562) (fun _ h9 => h9) rfl (by decide +kernel) rfl rfl (by simp [hfl]) (show decode prog_15_method_110_code 2 = .ok (.putfield 206, 3) by decide +kernel) (fun H locs hP hD hS => ?_)
  have hP : va_P D cl [(h0, .inr (1, (fs.set 0 (.int 0))))] H := hP
  have hD : va_D _ [(h0, .inr (1, (fs.set 0 (.int 0))))] := hD
  refine lv_iconst (v := 0) hx hb (show decode prog_15_method_110_code 5 = .ok (.iconst 0, 1) by decide +kernel) (by decide +kernel) ?_
  refine lv_istore_n (lv' := [(2, .int 0), (0, .ref h0), (1, .int 8)]) hx hb (show decode prog_15_method_110_code 6 = .ok (.istore_n 2, 1) by decide +kernel) rfl hl (by decide +kernel) rfl (fun ls hl => ?_)
  refine lv_iload_n hx hb (show decode prog_15_method_110_code 7 = .ok (.iload_n 1, 1) by decide +kernel) rfl (lv_at hl 2 rfl) ?_
  refine lv_tableIn (off := 130) (tgt := 138) hx hb dsw_prog_15_method_110_code_8 (by decide +kernel) (by decide +kernel) (by decide +kernel) (by decide +kernel) ?_
  refine lv_aload_n hx hb (show decode prog_15_method_110_code 138 = .ok (.aload_n 0, 1) by decide +kernel) rfl (lv_at hl 1 rfl) ?_
  refine va_get (D := D) (ci := 1) (v := .int 0) (C := R_MD) (T := F_MD) (N := 107) hx hb hts i_MD hown hK hP 0 rfl rfl 41 (by decide +kernel) (hts _ w_1603) (fun _ h9 => h9) (xg_ne (by decide +kernel) hf41) (show decode prog_15_method_110_code 139 = .ok (.getfield 521, 3) by decide +kernel) ?_
  refine lv_if_eq (tgt := 154) hx hb (show decode prog_15_method_110_code 142 = .ok (.ifCond .eq 12, 3) by decide +kernel) (by decide +kernel) (fun c_1 => ?_) (fun c_1 => absurd c_1 (by decide +kernel))
  refine lv_iconst (v := 0) hx hb (show decode prog_15_method_110_code 154 = .ok (.iconst 0, 1) by decide +kernel) (by decide +kernel) ?_
  exact W.iret (v := 0) hx hb hr (fun t ht hW => ⟨⟨0, (), rfl, (by decide +kernel), by rw [ht]; exact hP, va_K.moved hW.alike hK, hD⟩, hS.F ht⟩) hS.2.2 (show decode prog_15_method_110_code 155 = .ok (.ireturn, 1) by decide +kernel)
set_option maxHeartbeats 4000000 in
set_option maxRecDepth 100000 in
/-- SignalEngineModel.count -/
theorem c_MD_count_9 (l : Launch) (D : va_G) (ad : Nat → Nat) (de sz : Nat) (h0 : Nat) (fs : List Value) (hfl : fs.length = 107) (hf42 : xfa fs 42 (.int 0)) (hf43 : xfa fs 43 (.int 0)) (hf45 : xfa fs 45 (.int 0)) (hf46 : xfa fs 46 (.int 0)) (hf44 : xfa fs 44 (.int 0)) (hf47 : xfa fs 47 (.int 0)) (hf48 : xfa fs 48 (.int 0)) (hf49 : xfa fs 49 (.int 0)) (hf41 : xfa fs 41 (.int 0)) (hf2 : xfa fs 2 (.int 0)) (hf83 : xfa fs 83 (.int 0)) (hf82 : xfa fs 82 (.int 0)) (hf85 : xfa fs 85 (.int 0)) (hf87 : xfa fs 87 (.int 0)) (hf86 : xfa fs 86 (.int 0)) (hf106 : xfa fs 106 (.int 0))   : Met l ⟨"SignalEngineModel", "count", "(I)I"⟩ (tw ⟨"SignalEngineModel", "count", "(I)I"⟩ prog_15_method_110_code 4 (some (.int))) { frames := 0, cells := 0, slots := 0, locals := 0 } (va_Pc [.ref h0, .int 9] (xp ad de D [(h0, .inr (1, fs))] [] sz)) (va_Qi (fun (r : Int32) (_ : Unit) => r = cnt 9) (fun (_ : Unit) t => xq D (va_A [(h0, .inr (1, fs))] sz) [(h0, .inr (1, (fs.set 0 (.int 0))))] [] t) (va_A [(h0, .inr (1, fs))] sz)) 0 0 (va_A [(h0, .inr (1, fs))] sz) := by
  refine xMet (by decide +kernel) (Nat.le_of_ble_eq_true rfl) ?_
  intro p e s m below meth c hx hb hr hlocks hin hml hown hts hsz hP hK hD hE hA ls hl
  have hS : va_S _ s.heap s.heap [] := va_S.rf (A := va_A [(h0, .inr (1, fs))] sz)
  have hl : lv_has ls 4 [(0, .ref h0), (1, .int 9)] := hl
  refine lv_aload_n hx hb (show decode prog_15_method_110_code 0 = .ok (.aload_n 0, 1) by decide +kernel) rfl (lv_at hl 0 rfl) ?_
  refine lv_iconst (v := 0) hx hb (show decode prog_15_method_110_code 1 = .ok (.iconst 0, 1) by decide +kernel) (by decide +kernel) ?_
  refine va_put (D := D) (ci := 1) (v := .int 0) (ty := .int) (C := R_MD) (T := F_MD) (N := 107) hx hb hts i_MD t_MD t_MD_ok n_MD hown hK hP hD hS 0 rfl rfl 0 (by decide +kernel) (hts _ w_1562) (fun _ h9 => h9) rfl (by decide +kernel) rfl rfl (by simp [hfl]) (show decode prog_15_method_110_code 2 = .ok (.putfield 206, 3) by decide +kernel) (fun H locs hP hD hS => ?_)
  have hP : va_P D cl [(h0, .inr (1, (fs.set 0 (.int 0))))] H := hP
  have hD : va_D _ [(h0, .inr (1, (fs.set 0 (.int 0))))] := hD
  refine lv_iconst (v := 0) hx hb (show decode prog_15_method_110_code 5 = .ok (.iconst 0, 1) by decide +kernel) (by decide +kernel) ?_
  refine lv_istore_n (lv' := [(2, .int 0), (0, .ref h0), (1, .int 9)]) hx hb (show decode prog_15_method_110_code 6 = .ok (.istore_n 2, 1) by decide +kernel) rfl hl (by decide +kernel) rfl (fun ls hl => ?_)
  refine lv_iload_n hx hb (show decode prog_15_method_110_code 7 = .ok (.iload_n 1, 1) by decide +kernel) rfl (lv_at hl 2 rfl) ?_
  refine lv_tableIn (off := 148) (tgt := 156) hx hb dsw_prog_15_method_110_code_8 (by decide +kernel) (by decide +kernel) (by decide +kernel) (by decide +kernel) ?_
  refine lv_aload_n hx hb (show decode prog_15_method_110_code 156 = .ok (.aload_n 0, 1) by decide +kernel) rfl (lv_at hl 1 rfl) ?_
  refine va_get (D := D) (ci := 1) (v := .int 0) (C := R_MD) (T := F_MD) (N := 107) hx hb hts i_MD hown hK hP 0 rfl rfl 2 (by decide +kernel) (hts _ w_1564) (fun _ h9 => h9) (xg_ne (by decide +kernel) hf2) (show decode prog_15_method_110_code 157 = .ok (.getfield 210, 3) by decide +kernel) ?_
  exact W.iret (v := 0) hx hb hr (fun t ht hW => ⟨⟨0, (), rfl, (by decide +kernel), by rw [ht]; exact hP, va_K.moved hW.alike hK, hD⟩, hS.F ht⟩) hS.2.2 (show decode prog_15_method_110_code 160 = .ok (.ireturn, 1) by decide +kernel)
set_option maxHeartbeats 4000000 in
set_option maxRecDepth 100000 in
/-- SignalEngineModel.count -/
theorem c_MD_count_10 (l : Launch) (D : va_G) (ad : Nat → Nat) (de sz : Nat) (h0 : Nat) (fs : List Value) (hfl : fs.length = 107) (hf42 : xfa fs 42 (.int 0)) (hf43 : xfa fs 43 (.int 0)) (hf45 : xfa fs 45 (.int 0)) (hf46 : xfa fs 46 (.int 0)) (hf44 : xfa fs 44 (.int 0)) (hf47 : xfa fs 47 (.int 0)) (hf48 : xfa fs 48 (.int 0)) (hf49 : xfa fs 49 (.int 0)) (hf41 : xfa fs 41 (.int 0)) (hf2 : xfa fs 2 (.int 0)) (hf83 : xfa fs 83 (.int 0)) (hf82 : xfa fs 82 (.int 0)) (hf85 : xfa fs 85 (.int 0)) (hf87 : xfa fs 87 (.int 0)) (hf86 : xfa fs 86 (.int 0)) (hf106 : xfa fs 106 (.int 0))   : Met l ⟨"SignalEngineModel", "count", "(I)I"⟩ (tw ⟨"SignalEngineModel", "count", "(I)I"⟩ prog_15_method_110_code 4 (some (.int))) { frames := 0, cells := 0, slots := 0, locals := 0 } (va_Pc [.ref h0, .int 10] (xp ad de D [(h0, .inr (1, fs))] [] sz)) (va_Qi (fun (r : Int32) (_ : Unit) => r = cnt 10) (fun (_ : Unit) t => xq D (va_A [(h0, .inr (1, fs))] sz) [(h0, .inr (1, (fs.set 0 (.int 0))))] [] t) (va_A [(h0, .inr (1, fs))] sz)) 0 0 (va_A [(h0, .inr (1, fs))] sz) := by
  refine xMet (by decide +kernel) (Nat.le_of_ble_eq_true rfl) ?_
  intro p e s m below meth c hx hb hr hlocks hin hml hown hts hsz hP hK hD hE hA ls hl
  have hS : va_S _ s.heap s.heap [] := va_S.rf (A := va_A [(h0, .inr (1, fs))] sz)
  have hl : lv_has ls 4 [(0, .ref h0), (1, .int 10)] := hl
  refine lv_aload_n hx hb (show decode prog_15_method_110_code 0 = .ok (.aload_n 0, 1) by decide +kernel) rfl (lv_at hl 0 rfl) ?_
  refine lv_iconst (v := 0) hx hb (show decode prog_15_method_110_code 1 = .ok (.iconst 0, 1) by decide +kernel) (by decide +kernel) ?_
  refine va_put (D := D) (ci := 1) (v := .int 0) (ty := .int) (C := R_MD) (T := F_MD) (N := 107) hx hb hts i_MD t_MD t_MD_ok n_MD hown hK hP hD hS 0 rfl rfl 0 (by decide +kernel) (hts _ w_1562) (fun _ h9 => h9) rfl (by decide +kernel) rfl rfl (by simp [hfl]) (show decode prog_15_method_110_code 2 = .ok (.putfield 206, 3) by decide +kernel) (fun H locs hP hD hS => ?_)
  have hP : va_P D cl [(h0, .inr (1, (fs.set 0 (.int 0))))] H := hP
  have hD : va_D _ [(h0, .inr (1, (fs.set 0 (.int 0))))] := hD
  refine lv_iconst (v := 0) hx hb (show decode prog_15_method_110_code 5 = .ok (.iconst 0, 1) by decide +kernel) (by decide +kernel) ?_
  refine lv_istore_n (lv' := [(2, .int 0), (0, .ref h0), (1, .int 10)]) hx hb (show decode prog_15_method_110_code 6 = .ok (.istore_n 2, 1) by decide +kernel) rfl hl (by decide +kernel) rfl (fun ls hl => ?_)
  refine lv_iload_n hx hb (show decode prog_15_method_110_code 7 = .ok (.iload_n 1, 1) by decide +kernel) rfl (lv_at hl 2 rfl) ?_
  refine lv_tableIn (off := 153) (tgt := 161) hx hb dsw_prog_15_method_110_code_8 (by decide +kernel) (by decide +kernel) (by decide +kernel) (by decide +kernel) ?_
  refine lv_aload_n hx hb (show decode prog_15_method_110_code 161 = .ok (.aload_n 0, 1) by decide +kernel) rfl (lv_at hl 1 rfl) ?_
  refine va_get (D := D) (ci := 1) (v := .int 0) (C := R_MD) (T := F_MD) (N := 107) hx hb hts i_MD hown hK hP 0 rfl rfl 83 (by decide +kernel) (hts _ w_1645) (fun _ h9 => h9) (xg_ne (by decide +kernel) hf83) (show decode prog_15_method_110_code 162 = .ok (.getfield 542, 3) by decide +kernel) ?_
  exact W.iret (v := 0) hx hb hr (fun t ht hW => ⟨⟨0, (), rfl, (by decide +kernel), by rw [ht]; exact hP, va_K.moved hW.alike hK, hD⟩, hS.F ht⟩) hS.2.2 (show decode prog_15_method_110_code 165 = .ok (.ireturn, 1) by decide +kernel)
set_option maxHeartbeats 4000000 in
set_option maxRecDepth 100000 in
/-- SignalEngineModel.count -/
theorem c_MD_count_11 (l : Launch) (D : va_G) (ad : Nat → Nat) (de sz : Nat) (h0 : Nat) (fs : List Value) (hfl : fs.length = 107) (hf42 : xfa fs 42 (.int 0)) (hf43 : xfa fs 43 (.int 0)) (hf45 : xfa fs 45 (.int 0)) (hf46 : xfa fs 46 (.int 0)) (hf44 : xfa fs 44 (.int 0)) (hf47 : xfa fs 47 (.int 0)) (hf48 : xfa fs 48 (.int 0)) (hf49 : xfa fs 49 (.int 0)) (hf41 : xfa fs 41 (.int 0)) (hf2 : xfa fs 2 (.int 0)) (hf83 : xfa fs 83 (.int 0)) (hf82 : xfa fs 82 (.int 0)) (hf85 : xfa fs 85 (.int 0)) (hf87 : xfa fs 87 (.int 0)) (hf86 : xfa fs 86 (.int 0)) (hf106 : xfa fs 106 (.int 0))   : Met l ⟨"SignalEngineModel", "count", "(I)I"⟩ (tw ⟨"SignalEngineModel", "count", "(I)I"⟩ prog_15_method_110_code 4 (some (.int))) { frames := 0, cells := 0, slots := 0, locals := 0 } (va_Pc [.ref h0, .int 11] (xp ad de D [(h0, .inr (1, fs))] [] sz)) (va_Qi (fun (r : Int32) (_ : Unit) => r = cnt 11) (fun (_ : Unit) t => xq D (va_A [(h0, .inr (1, fs))] sz) [(h0, .inr (1, (fs.set 0 (.int 0))))] [] t) (va_A [(h0, .inr (1, fs))] sz)) 0 0 (va_A [(h0, .inr (1, fs))] sz) := by
  refine xMet (by decide +kernel) (Nat.le_of_ble_eq_true rfl) ?_
  intro p e s m below meth c hx hb hr hlocks hin hml hown hts hsz hP hK hD hE hA ls hl
  have hS : va_S _ s.heap s.heap [] := va_S.rf (A := va_A [(h0, .inr (1, fs))] sz)
  have hl : lv_has ls 4 [(0, .ref h0), (1, .int 11)] := hl
  refine lv_aload_n hx hb (show decode prog_15_method_110_code 0 = .ok (.aload_n 0, 1) by decide +kernel) rfl (lv_at hl 0 rfl) ?_
  refine lv_iconst (v := 0) hx hb (show decode prog_15_method_110_code 1 = .ok (.iconst 0, 1) by decide +kernel) (by decide +kernel) ?_
  refine va_put (D := D) (ci := 1) (v := .int 0) (ty := .int) (C := R_MD) (T := F_MD) (N := 107) hx hb hts i_MD t_MD t_MD_ok n_MD hown hK hP hD hS 0 rfl rfl 0 (by decide +kernel) (hts _ w_1562) (fun _ h9 => h9) rfl (by decide +kernel) rfl rfl (by simp [hfl]) (show decode prog_15_method_110_code 2 = .ok (.putfield 206, 3) by decide +kernel) (fun H locs hP hD hS => ?_)
  have hP : va_P D cl [(h0, .inr (1, (fs.set 0 (.int 0))))] H := hP
  have hD : va_D _ [(h0, .inr (1, (fs.set 0 (.int 0))))] := hD
  refine lv_iconst (v := 0) hx hb (show decode prog_15_method_110_code 5 = .ok (.iconst 0, 1) by decide +kernel) (by decide +kernel) ?_
  refine lv_istore_n (lv' := [(2, .int 0), (0, .ref h0), (1, .int 11)]) hx hb (show decode prog_15_method_110_code 6 = .ok (.istore_n 2, 1) by decide +kernel) rfl hl (by decide +kernel) rfl (fun ls hl => ?_)
  refine lv_iload_n hx hb (show decode prog_15_method_110_code 7 = .ok (.iload_n 1, 1) by decide +kernel) rfl (lv_at hl 2 rfl) ?_
  refine lv_tableIn (off := 158) (tgt := 166) hx hb dsw_prog_15_method_110_code_8 (by decide +kernel) (by decide +kernel) (by decide +kernel) (by decide +kernel) ?_
  refine lv_aload_n hx hb (show decode prog_15_method_110_code 166 = .ok (.aload_n 0, 1) by decide +kernel) rfl (lv_at hl 1 rfl) ?_
  refine va_get (D := D) (ci := 1) (v := .int 0) (C := R_MD) (T := F_MD) (N := 107) hx hb hts i_MD hown hK hP 0 rfl rfl 82 (by decide +kernel) (hts _ w_1644) (fun _ h9 => h9) (xg_ne (by decide +kernel) hf82) (show decode prog_15_method_110_code 167 = .ok (.getfield 545, 3) by decide +kernel) ?_
  exact W.iret (v := 0) hx hb hr (fun t ht hW => ⟨⟨0, (), rfl, (by decide +kernel), by rw [ht]; exact hP, va_K.moved hW.alike hK, hD⟩, hS.F ht⟩) hS.2.2 (show decode prog_15_method_110_code 170 = .ok (.ireturn, 1) by decide +kernel)
set_option maxHeartbeats 4000000 in
set_option maxRecDepth 100000 in
/-- SignalEngineModel.count -/
theorem c_MD_count_12 (l : Launch) (D : va_G) (ad : Nat → Nat) (de sz : Nat) (h0 : Nat) (fs : List Value) (hfl : fs.length = 107) (hf42 : xfa fs 42 (.int 0)) (hf43 : xfa fs 43 (.int 0)) (hf45 : xfa fs 45 (.int 0)) (hf46 : xfa fs 46 (.int 0)) (hf44 : xfa fs 44 (.int 0)) (hf47 : xfa fs 47 (.int 0)) (hf48 : xfa fs 48 (.int 0)) (hf49 : xfa fs 49 (.int 0)) (hf41 : xfa fs 41 (.int 0)) (hf2 : xfa fs 2 (.int 0)) (hf83 : xfa fs 83 (.int 0)) (hf82 : xfa fs 82 (.int 0)) (hf85 : xfa fs 85 (.int 0)) (hf87 : xfa fs 87 (.int 0)) (hf86 : xfa fs 86 (.int 0)) (hf106 : xfa fs 106 (.int 0))   : Met l ⟨"SignalEngineModel", "count", "(I)I"⟩ (tw ⟨"SignalEngineModel", "count", "(I)I"⟩ prog_15_method_110_code 4 (some (.int))) { frames := 0, cells := 0, slots := 0, locals := 0 } (va_Pc [.ref h0, .int 12] (xp ad de D [(h0, .inr (1, fs))] [] sz)) (va_Qi (fun (r : Int32) (_ : Unit) => r = cnt 12) (fun (_ : Unit) t => xq D (va_A [(h0, .inr (1, fs))] sz) [(h0, .inr (1, (fs.set 0 (.int 0))))] [] t) (va_A [(h0, .inr (1, fs))] sz)) 0 0 (va_A [(h0, .inr (1, fs))] sz) := by
  refine xMet (by decide +kernel) (Nat.le_of_ble_eq_true rfl) ?_
  intro p e s m below meth c hx hb hr hlocks hin hml hown hts hsz hP hK hD hE hA ls hl
  have hS : va_S _ s.heap s.heap [] := va_S.rf (A := va_A [(h0, .inr (1, fs))] sz)
  have hl : lv_has ls 4 [(0, .ref h0), (1, .int 12)] := hl
  refine lv_aload_n hx hb (show decode prog_15_method_110_code 0 = .ok (.aload_n 0, 1) by decide +kernel) rfl (lv_at hl 0 rfl) ?_
  refine lv_iconst (v := 0) hx hb (show decode prog_15_method_110_code 1 = .ok (.iconst 0, 1) by decide +kernel) (by decide +kernel) ?_
  refine va_put (D := D) (ci := 1) (v := .int 0) (ty := .int) (C := R_MD) (T := F_MD) (N := 107) hx hb hts i_MD t_MD t_MD_ok n_MD hown hK hP hD hS 0 rfl rfl 0 (by decide +kernel) (hts _ w_1562) (fun _ h9 => h9) rfl (by decide +kernel) rfl rfl (by simp [hfl]) (show decode prog_15_method_110_code 2 = .ok (.putfield 206, 3) by decide +kernel) (fun H locs hP hD hS => ?_)
  have hP : va_P D cl [(h0, .inr (1, (fs.set 0 (.int 0))))] H := hP
  have hD : va_D _ [(h0, .inr (1, (fs.set 0 (.int 0))))] := hD
  refine lv_iconst (v := 0) hx hb (show decode prog_15_method_110_code 5 = .ok (.iconst 0, 1) by decide +kernel) (by decide +kernel) ?_
  refine lv_istore_n (lv' := [(2, .int 0), (0, .ref h0), (1, .int 12)]) hx hb (show decode prog_15_method_110_code 6 = .ok (.istore_n 2, 1) by decide +kernel) rfl hl (by decide +kernel) rfl (fun ls hl => ?_)
  refine lv_iload_n hx hb (show decode prog_15_method_110_code 7 = .ok (.iload_n 1, 1) by decide +kernel) rfl (lv_at hl 2 rfl) ?_
  refine lv_tableIn (off := 163) (tgt := 171) hx hb dsw_prog_15_method_110_code_8 (by decide +kernel) (by decide +kernel) (by decide +kernel) (by decide +kernel) ?_
  refine lv_iconst (v := 0) hx hb (show decode prog_15_method_110_code 171 = .ok (.iconst 0, 1) by decide +kernel) (by decide +kernel) ?_
  refine lv_istore_n (lv' := [(3, .int 0), (2, .int 0), (0, .ref h0), (1, .int 12)]) hx hb (show decode prog_15_method_110_code 172 = .ok (.istore_n 3, 1) by decide +kernel) rfl hl (by decide +kernel) rfl (fun ls hl => ?_)
  refine lv_iload_n hx hb (show decode prog_15_method_110_code 173 = .ok (.iload_n 3, 1) by decide +kernel) rfl (lv_at hl 0 rfl) ?_
  refine lv_aload_n hx hb (show decode prog_15_method_110_code 174 = .ok (.aload_n 0, 1) by decide +kernel) rfl (lv_at hl 2 rfl) ?_
  refine va_get (D := D) (ci := 1) (v := .int 0) (C := R_MD) (T := F_MD) (N := 107) hx hb hts i_MD hown hK hP 0 rfl rfl 47 (by decide +kernel) (hts _ w_1609) (fun _ h9 => h9) (xg_ne (by decide +kernel) hf47) (show decode prog_15_method_110_code 175 = .ok (.getfield 498, 3) by decide +kernel) ?_
  refine lv_icmp_ge (tgt := 204) hx hb (show decode prog_15_method_110_code 178 = .ok (.if_icmp .ge 26, 3) by decide +kernel) (by decide +kernel) (fun c_1 => ?_) (fun c_1 => absurd c_1 (by decide +kernel))
  refine lv_iload_n hx hb (show decode prog_15_method_110_code 204 = .ok (.iload_n 2, 1) by decide +kernel) rfl (lv_at hl 1 rfl) ?_
  exact W.iret (v := 0) hx hb hr (fun t ht hW => ⟨⟨0, (), rfl, (by decide +kernel), by rw [ht]; exact hP, va_K.moved hW.alike hK, hD⟩, hS.F ht⟩) hS.2.2 (show decode prog_15_method_110_code 205 = .ok (.ireturn, 1) by decide +kernel)
set_option maxHeartbeats 4000000 in
set_option maxRecDepth 100000 in
/-- SignalEngineModel.count -/
theorem c_MD_count_13 (l : Launch) (D : va_G) (ad : Nat → Nat) (de sz : Nat) (h0 : Nat) (fs : List Value) (hfl : fs.length = 107) (hf42 : xfa fs 42 (.int 0)) (hf43 : xfa fs 43 (.int 0)) (hf45 : xfa fs 45 (.int 0)) (hf46 : xfa fs 46 (.int 0)) (hf44 : xfa fs 44 (.int 0)) (hf47 : xfa fs 47 (.int 0)) (hf48 : xfa fs 48 (.int 0)) (hf49 : xfa fs 49 (.int 0)) (hf41 : xfa fs 41 (.int 0)) (hf2 : xfa fs 2 (.int 0)) (hf83 : xfa fs 83 (.int 0)) (hf82 : xfa fs 82 (.int 0)) (hf85 : xfa fs 85 (.int 0)) (hf87 : xfa fs 87 (.int 0)) (hf86 : xfa fs 86 (.int 0)) (hf106 : xfa fs 106 (.int 0))   : Met l ⟨"SignalEngineModel", "count", "(I)I"⟩ (tw ⟨"SignalEngineModel", "count", "(I)I"⟩ prog_15_method_110_code 4 (some (.int))) { frames := 0, cells := 0, slots := 0, locals := 0 } (va_Pc [.ref h0, .int 13] (xp ad de D [(h0, .inr (1, fs))] [] sz)) (va_Qi (fun (r : Int32) (_ : Unit) => r = cnt 13) (fun (_ : Unit) t => xq D (va_A [(h0, .inr (1, fs))] sz) [(h0, .inr (1, (fs.set 0 (.int 0))))] [] t) (va_A [(h0, .inr (1, fs))] sz)) 0 0 (va_A [(h0, .inr (1, fs))] sz) := by
  refine xMet (by decide +kernel) (Nat.le_of_ble_eq_true rfl) ?_
  intro p e s m below meth c hx hb hr hlocks hin hml hown hts hsz hP hK hD hE hA ls hl
  have hS : va_S _ s.heap s.heap [] := va_S.rf (A := va_A [(h0, .inr (1, fs))] sz)
  have hl : lv_has ls 4 [(0, .ref h0), (1, .int 13)] := hl
  refine lv_aload_n hx hb (show decode prog_15_method_110_code 0 = .ok (.aload_n 0, 1) by decide +kernel) rfl (lv_at hl 0 rfl) ?_
  refine lv_iconst (v := 0) hx hb (show decode prog_15_method_110_code 1 = .ok (.iconst 0, 1) by decide +kernel) (by decide +kernel) ?_
  refine va_put (D := D) (ci := 1) (v := .int 0) (ty := .int) (C := R_MD) (T := F_MD) (N := 107) hx hb hts i_MD t_MD t_MD_ok n_MD hown hK hP hD hS 0 rfl rfl 0 (by decide +kernel) (hts _ w_1562) (fun _ h9 => h9) rfl (by decide +kernel) rfl rfl (by simp [hfl]) (show decode prog_15_method_110_code 2 = .ok (.putfield 206, 3) by decide +kernel) (fun H locs hP hD hS => ?_)
  have hP : va_P D cl [(h0, .inr (1, (fs.set 0 (.int 0))))] H := hP
  have hD : va_D _ [(h0, .inr (1, (fs.set 0 (.int 0))))] := hD
  refine lv_iconst (v := 0) hx hb (show decode prog_15_method_110_code 5 = .ok (.iconst 0, 1) by decide +kernel) (by decide +kernel) ?_
  refine lv_istore_n (lv' := [(2, .int 0), (0, .ref h0), (1, .int 13)]) hx hb (show decode prog_15_method_110_code 6 = .ok (.istore_n 2, 1) by decide +kernel) rfl hl (by decide +kernel) rfl (fun ls hl => ?_)
  refine lv_iload_n hx hb (show decode prog_15_method_110_code 7 = .ok (.iload_n 1, 1) by decide +kernel) rfl (lv_at hl 2 rfl) ?_
  refine lv_tableIn (off := 198) (tgt := 206) hx hb dsw_prog_15_method_110_code_8 (by decide +kernel) (by decide +kernel) (by decide +kernel) (by decide +kernel) ?_
  refine lv_aload_n hx hb (show decode prog_15_method_110_code 206 = .ok (.aload_n 0, 1) by decide +kernel) rfl (lv_at hl 1 rfl) ?_
  refine va_get (D := D) (ci := 1) (v := .int 0) (C := R_MD) (T := F_MD) (N := 107) hx hb hts i_MD hown hK hP 0 rfl rfl 85 (by decide +kernel) (hts _ w_1647) (fun _ h9 => h9) (xg_ne (by decide +kernel) hf85) (show decode prog_15_method_110_code 207 = .ok (.getfield 518, 3) by decide +kernel) ?_
  refine lv_if_eq (tgt := 220) hx hb (show decode prog_15_method_110_code 210 = .ok (.ifCond .eq 10, 3) by decide +kernel) (by decide +kernel) (fun c_1 => ?_) (fun c_1 => absurd c_1 (by decide +kernel))
  refine lv_iconst (v := 0) hx hb (show decode prog_15_method_110_code 220 = .ok (.iconst 0, 1) by decide +kernel) (by decide +kernel) ?_
  exact W.iret (v := 0) hx hb hr (fun t ht hW => ⟨⟨0, (), rfl, (by decide +kernel), by rw [ht]; exact hP, va_K.moved hW.alike hK, hD⟩, hS.F ht⟩) hS.2.2 (show decode prog_15_method_110_code 221 = .ok (.ireturn, 1) by decide +kernel)
set_option maxHeartbeats 4000000 in
set_option maxRecDepth 100000 in
/-- SignalEngineModel.count -/
theorem c_MD_count_14 (l : Launch) (D : va_G) (ad : Nat → Nat) (de sz : Nat) (h0 : Nat) (fs : List Value) (hfl : fs.length = 107) (hf42 : xfa fs 42 (.int 0)) (hf43 : xfa fs 43 (.int 0)) (hf45 : xfa fs 45 (.int 0)) (hf46 : xfa fs 46 (.int 0)) (hf44 : xfa fs 44 (.int 0)) (hf47 : xfa fs 47 (.int 0)) (hf48 : xfa fs 48 (.int 0)) (hf49 : xfa fs 49 (.int 0)) (hf41 : xfa fs 41 (.int 0)) (hf2 : xfa fs 2 (.int 0)) (hf83 : xfa fs 83 (.int 0)) (hf82 : xfa fs 82 (.int 0)) (hf85 : xfa fs 85 (.int 0)) (hf87 : xfa fs 87 (.int 0)) (hf86 : xfa fs 86 (.int 0)) (hf106 : xfa fs 106 (.int 0))   : Met l ⟨"SignalEngineModel", "count", "(I)I"⟩ (tw ⟨"SignalEngineModel", "count", "(I)I"⟩ prog_15_method_110_code 4 (some (.int))) { frames := 0, cells := 0, slots := 0, locals := 0 } (va_Pc [.ref h0, .int 14] (xp ad de D [(h0, .inr (1, fs))] [] sz)) (va_Qi (fun (r : Int32) (_ : Unit) => r = cnt 14) (fun (_ : Unit) t => xq D (va_A [(h0, .inr (1, fs))] sz) [(h0, .inr (1, (fs.set 0 (.int 0))))] [] t) (va_A [(h0, .inr (1, fs))] sz)) 0 0 (va_A [(h0, .inr (1, fs))] sz) := by
  refine xMet (by decide +kernel) (Nat.le_of_ble_eq_true rfl) ?_
  intro p e s m below meth c hx hb hr hlocks hin hml hown hts hsz hP hK hD hE hA ls hl
  have hS : va_S _ s.heap s.heap [] := va_S.rf (A := va_A [(h0, .inr (1, fs))] sz)
  have hl : lv_has ls 4 [(0, .ref h0), (1, .int 14)] := hl
  refine lv_aload_n hx hb (show decode prog_15_method_110_code 0 = .ok (.aload_n 0, 1) by decide +kernel) rfl (lv_at hl 0 rfl) ?_
  refine lv_iconst (v := 0) hx hb (show decode prog_15_method_110_code 1 = .ok (.iconst 0, 1) by decide +kernel) (by decide +kernel) ?_
  refine va_put (D := D) (ci := 1) (v := .int 0) (ty := .int) (C := R_MD) (T := F_MD) (N := 107) hx hb hts i_MD t_MD t_MD_ok n_MD hown hK hP hD hS 0 rfl rfl 0 (by decide +kernel) (hts _ w_1562) (fun _ h9 => h9) rfl (by decide +kernel) rfl rfl (by simp [hfl]) (show decode prog_15_method_110_code 2 = .ok (.putfield 206, 3) by decide +kernel) (fun H locs hP hD hS => ?_)
  have hP : va_P D cl [(h0, .inr (1, (fs.set 0 (.int 0))))] H := hP
  have hD : va_D _ [(h0, .inr (1, (fs.set 0 (.int 0))))] := hD
  refine lv_iconst (v := 0) hx hb (show decode prog_15_method_110_code 5 = .ok (.iconst 0, 1) by decide +kernel) (by decide +kernel) ?_
  refine lv_istore_n (lv' := [(2, .int 0), (0, .ref h0), (1, .int 14)]) hx hb (show decode prog_15_method_110_code 6 = .ok (.istore_n 2, 1) by decide +kernel) rfl hl (by decide +kernel) rfl (fun ls hl => ?_)
  refine lv_iload_n hx hb (show decode prog_15_method_110_code 7 = .ok (.iload_n 1, 1) by decide +kernel) rfl (lv_at hl 2 rfl) ?_
  refine lv_tableIn (off := 214) (tgt := 222) hx hb dsw_prog_15_method_110_code_8 (by decide +kernel) (by decide +kernel) (by decide +kernel) (by decide +kernel) ?_
  refine lv_iconst (v := 0) hx hb (show decode prog_15_method_110_code 222 = .ok (.iconst 0, 1) by decide +kernel) (by decide +kernel) ?_
  refine lv_istore_n (lv' := [(3, .int 0), (2, .int 0), (0, .ref h0), (1, .int 14)]) hx hb (show decode prog_15_method_110_code 223 = .ok (.istore_n 3, 1) by decide +kernel) rfl hl (by decide +kernel) rfl (fun ls hl => ?_)
  refine lv_iload_n hx hb (show decode prog_15_method_110_code 224 = .ok (.iload_n 3, 1) by decide +kernel) rfl (lv_at hl 0 rfl) ?_
  refine lv_aload_n hx hb (show decode prog_15_method_110_code 225 = .ok (.aload_n 0, 1) by decide +kernel) rfl (lv_at hl 2 rfl) ?_
  refine va_get (D := D) (ci := 1) (v := .int 0) (C := R_MD) (T := F_MD) (N := 107) hx hb hts i_MD hown hK hP 0 rfl rfl 87 (by decide +kernel) (hts _ w_1649) (fun _ h9 => h9) (xg_ne (by decide +kernel) hf87) (show decode prog_15_method_110_code 226 = .ok (.getfield 527, 3) by decide +kernel) ?_
  refine lv_icmp_ge (tgt := 261) hx hb (show decode prog_15_method_110_code 229 = .ok (.if_icmp .ge 32, 3) by decide +kernel) (by decide +kernel) (fun c_1 => ?_) (fun c_1 => absurd c_1 (by decide +kernel))
  refine lv_iload_n hx hb (show decode prog_15_method_110_code 261 = .ok (.iload_n 2, 1) by decide +kernel) rfl (lv_at hl 1 rfl) ?_
  exact W.iret (v := 0) hx hb hr (fun t ht hW => ⟨⟨0, (), rfl, (by decide +kernel), by rw [ht]; exact hP, va_K.moved hW.alike hK, hD⟩, hS.F ht⟩) hS.2.2 (show decode prog_15_method_110_code 262 = .ok (.ireturn, 1) by decide +kernel)
set_option maxHeartbeats 4000000 in
set_option maxRecDepth 100000 in
/-- SignalEngineModel.count -/
theorem c_MD_count_15 (l : Launch) (D : va_G) (ad : Nat → Nat) (de sz : Nat) (h0 : Nat) (fs : List Value) (hfl : fs.length = 107) (hf42 : xfa fs 42 (.int 0)) (hf43 : xfa fs 43 (.int 0)) (hf45 : xfa fs 45 (.int 0)) (hf46 : xfa fs 46 (.int 0)) (hf44 : xfa fs 44 (.int 0)) (hf47 : xfa fs 47 (.int 0)) (hf48 : xfa fs 48 (.int 0)) (hf49 : xfa fs 49 (.int 0)) (hf41 : xfa fs 41 (.int 0)) (hf2 : xfa fs 2 (.int 0)) (hf83 : xfa fs 83 (.int 0)) (hf82 : xfa fs 82 (.int 0)) (hf85 : xfa fs 85 (.int 0)) (hf87 : xfa fs 87 (.int 0)) (hf86 : xfa fs 86 (.int 0)) (hf106 : xfa fs 106 (.int 0))   : Met l ⟨"SignalEngineModel", "count", "(I)I"⟩ (tw ⟨"SignalEngineModel", "count", "(I)I"⟩ prog_15_method_110_code 4 (some (.int))) { frames := 0, cells := 0, slots := 0, locals := 0 } (va_Pc [.ref h0, .int 15] (xp ad de D [(h0, .inr (1, fs))] [] sz)) (va_Qi (fun (r : Int32) (_ : Unit) => r = cnt 15) (fun (_ : Unit) t => xq D (va_A [(h0, .inr (1, fs))] sz) [(h0, .inr (1, (fs.set 0 (.int 0))))] [] t) (va_A [(h0, .inr (1, fs))] sz)) 0 0 (va_A [(h0, .inr (1, fs))] sz) := by
  refine xMet (by decide +kernel) (Nat.le_of_ble_eq_true rfl) ?_
  intro p e s m below meth c hx hb hr hlocks hin hml hown hts hsz hP hK hD hE hA ls hl
  have hS : va_S _ s.heap s.heap [] := va_S.rf (A := va_A [(h0, .inr (1, fs))] sz)
  have hl : lv_has ls 4 [(0, .ref h0), (1, .int 15)] := hl
  refine lv_aload_n hx hb (show decode prog_15_method_110_code 0 = .ok (.aload_n 0, 1) by decide +kernel) rfl (lv_at hl 0 rfl) ?_
  refine lv_iconst (v := 0) hx hb (show decode prog_15_method_110_code 1 = .ok (.iconst 0, 1) by decide +kernel) (by decide +kernel) ?_
  refine va_put (D := D) (ci := 1) (v := .int 0) (ty := .int) (C := R_MD) (T := F_MD) (N := 107) hx hb hts i_MD t_MD t_MD_ok n_MD hown hK hP hD hS 0 rfl rfl 0 (by decide +kernel) (hts _ w_1562) (fun _ h9 => h9) rfl (by decide +kernel) rfl rfl (by simp [hfl]) (show decode prog_15_method_110_code 2 = .ok (.putfield 206, 3) by decide +kernel) (fun H locs hP hD hS => ?_)
  have hP : va_P D cl [(h0, .inr (1, (fs.set 0 (.int 0))))] H := hP
  have hD : va_D _ [(h0, .inr (1, (fs.set 0 (.int 0))))] := hD
  refine lv_iconst (v := 0) hx hb (show decode prog_15_method_110_code 5 = .ok (.iconst 0, 1) by decide +kernel) (by decide +kernel) ?_
  refine lv_istore_n (lv' := [(2, .int 0), (0, .ref h0), (1, .int 15)]) hx hb (show decode prog_15_method_110_code 6 = .ok (.istore_n 2, 1) by decide +kernel) rfl hl (by decide +kernel) rfl (fun ls hl => ?_)
  refine lv_iload_n hx hb (show decode prog_15_method_110_code 7 = .ok (.iload_n 1, 1) by decide +kernel) rfl (lv_at hl 2 rfl) ?_
  refine lv_tableIn (off := 255) (tgt := 263) hx hb dsw_prog_15_method_110_code_8 (by decide +kernel) (by decide +kernel) (by decide +kernel) (by decide +kernel) ?_
  refine lv_aload_n hx hb (show decode prog_15_method_110_code 263 = .ok (.aload_n 0, 1) by decide +kernel) rfl (lv_at hl 1 rfl) ?_
  refine va_get (D := D) (ci := 1) (v := .int 0) (C := R_MD) (T := F_MD) (N := 107) hx hb hts i_MD hown hK hP 0 rfl rfl 86 (by decide +kernel) (hts _ w_1648) (fun _ h9 => h9) (xg_ne (by decide +kernel) hf86) (show decode prog_15_method_110_code 264 = .ok (.getfield 515, 3) by decide +kernel) ?_
  refine lv_if_eq (tgt := 277) hx hb (show decode prog_15_method_110_code 267 = .ok (.ifCond .eq 10, 3) by decide +kernel) (by decide +kernel) (fun c_1 => ?_) (fun c_1 => absurd c_1 (by decide +kernel))
  refine lv_iconst (v := 0) hx hb (show decode prog_15_method_110_code 277 = .ok (.iconst 0, 1) by decide +kernel) (by decide +kernel) ?_
  exact W.iret (v := 0) hx hb hr (fun t ht hW => ⟨⟨0, (), rfl, (by decide +kernel), by rw [ht]; exact hP, va_K.moved hW.alike hK, hD⟩, hS.F ht⟩) hS.2.2 (show decode prog_15_method_110_code 278 = .ok (.ireturn, 1) by decide +kernel)
set_option maxHeartbeats 4000000 in
set_option maxRecDepth 100000 in
/-- SignalEngineModel.count -/
theorem c_MD_count_x (l : Launch) (D : va_G) (ad : Nat → Nat) (de sz : Nat) (h0 : Nat) (fs : List Value) (hfl : fs.length = 107) (hf42 : xfa fs 42 (.int 0)) (hf43 : xfa fs 43 (.int 0)) (hf45 : xfa fs 45 (.int 0)) (hf46 : xfa fs 46 (.int 0)) (hf44 : xfa fs 44 (.int 0)) (hf47 : xfa fs 47 (.int 0)) (hf48 : xfa fs 48 (.int 0)) (hf49 : xfa fs 49 (.int 0)) (hf41 : xfa fs 41 (.int 0)) (hf2 : xfa fs 2 (.int 0)) (hf83 : xfa fs 83 (.int 0)) (hf82 : xfa fs 82 (.int 0)) (hf85 : xfa fs 85 (.int 0)) (hf87 : xfa fs 87 (.int 0)) (hf86 : xfa fs 86 (.int 0)) (hf106 : xfa fs 106 (.int 0))  (p0 : Int32) (ho : p0.toInt < 0 ∨ 15 < p0.toInt) : Met l ⟨"SignalEngineModel", "count", "(I)I"⟩ (tw ⟨"SignalEngineModel", "count", "(I)I"⟩ prog_15_method_110_code 4 (some (.int))) { frames := 0, cells := 0, slots := 0, locals := 0 } (va_Pc [.ref h0, .int p0] (xp ad de D [(h0, .inr (1, fs))] [] sz)) (va_Qi (fun (r : Int32) (_ : Unit) => r = cnt p0) (fun (_ : Unit) t => xq D (va_A [(h0, .inr (1, fs))] sz) [(h0, .inr (1, (fs.set 0 (.int 0))))] [] t) (va_A [(h0, .inr (1, fs))] sz)) 0 0 (va_A [(h0, .inr (1, fs))] sz) := by
  refine xMet (by decide +kernel) (Nat.le_of_ble_eq_true rfl) ?_
  intro p e s m below meth c hx hb hr hlocks hin hml hown hts hsz hP hK hD hE hA ls hl
  have hS : va_S _ s.heap s.heap [] := va_S.rf (A := va_A [(h0, .inr (1, fs))] sz)
  have hl : lv_has ls 4 [(0, .ref h0), (1, .int p0)] := hl
  refine lv_aload_n hx hb (show decode prog_15_method_110_code 0 = .ok (.aload_n 0, 1) by decide +kernel) rfl (lv_at hl 0 rfl) ?_
  refine lv_iconst (v := 0) hx hb (show decode prog_15_method_110_code 1 = .ok (.iconst 0, 1) by decide +kernel) (by decide +kernel) ?_
  refine va_put (D := D) (ci := 1) (v := .int 0) (ty := .int) (C := R_MD) (T := F_MD) (N := 107) hx hb hts i_MD t_MD t_MD_ok n_MD hown hK hP hD hS 0 rfl rfl 0 (by decide +kernel) (hts _ w_1562) (fun _ h9 => h9) rfl (by decide +kernel) rfl rfl (by simp [hfl]) (show decode prog_15_method_110_code 2 = .ok (.putfield 206, 3) by decide +kernel) (fun H locs hP hD hS => ?_)
  have hP : va_P D cl [(h0, .inr (1, (fs.set 0 (.int 0))))] H := hP
  have hD : va_D _ [(h0, .inr (1, (fs.set 0 (.int 0))))] := hD
  refine lv_iconst (v := 0) hx hb (show decode prog_15_method_110_code 5 = .ok (.iconst 0, 1) by decide +kernel) (by decide +kernel) ?_
  refine lv_istore_n (lv' := [(2, .int 0), (0, .ref h0), (1, .int p0)]) hx hb (show decode prog_15_method_110_code 6 = .ok (.istore_n 2, 1) by decide +kernel) rfl hl (by decide +kernel) rfl (fun ls hl => ?_)
  refine lv_iload_n hx hb (show decode prog_15_method_110_code 7 = .ok (.iload_n 1, 1) by decide +kernel) rfl (lv_at hl 2 rfl) ?_
  refine lv_tableOut (tgt := 279) hx hb dsw_prog_15_method_110_code_8 ho (by decide +kernel) ?_
  refine lv_iconst (v := (-1)) hx hb (show decode prog_15_method_110_code 279 = .ok (.iconst (-1), 1) by decide +kernel) (by decide +kernel) ?_
  exact W.iret (v := (-1)) hx hb hr (fun t ht hW => ⟨⟨(-1), (), rfl, (cnt_out ho), by rw [ht]; exact hP, va_K.moved hW.alike hK, hD⟩, hS.F ht⟩) hS.2.2 (show decode prog_15_method_110_code 280 = .ok (.ireturn, 1) by decide +kernel)
end
section
set_option maxHeartbeats 4000000 in
set_option maxRecDepth 100000 in
/-- SignalEngine.append -/
theorem c_SE_append0 (l : Launch) (D : va_G) (ad : Nat → Nat) (de sz : Nat) (h0 : Nat) (fs : List Value) (hfl : fs.length = 14) (hf1 : xfa fs 1 (.int 0)) (q0 : Nat) (cA0 : ClassId) (f0 : Nat → Int32) (ha0 : xfa fs 0 (.ref q0)) (p0 : Int32) : Met l ⟨"SignalEngine", "append", "(I)V"⟩ (tw ⟨"SignalEngine", "append", "(I)V"⟩ prog_1_method_3_code 3 none) { frames := 0, cells := 0, slots := 0, locals := 0 } (va_Pc [.ref h0, .int p0] (xp ad de D [(h0, .inr (0, fs)), (q0, .inl (cA0, 80, .inl f0))] [(cA0, .byte)] sz)) (va_Qv (fun (_ : (Nat → Int32)) => True) (fun (u : (Nat → Int32)) t => xq D (va_A [(h0, .inr (0, fs)), (q0, .inl (cA0, 80, .inl f0))] sz) [(h0, .inr (0, ((((fs.set 1 (.int 1)).set 1 (.int 2)).set 1 (.int 3)).set 1 (.int 4)))), (q0, .inl (cA0, 80, .inl u))] [(cA0, .byte)] t) (va_A [(h0, .inr (0, fs)), (q0, .inl (cA0, 80, .inl f0))] sz)) 0 0 (va_A [(h0, .inr (0, fs)), (q0, .inl (cA0, 80, .inl f0))] sz) := by
  refine xMet (by decide +kernel) (Nat.le_of_ble_eq_true rfl) ?_
  intro p e s m below meth c hx hb hr hlocks hin hml hown hts hsz hP hK hD hE hA ls hl
  have hS : va_S _ s.heap s.heap [] := va_S.rf (A := va_A [(h0, .inr (0, fs)), (q0, .inl (cA0, 80, .inl f0))] sz)
  have hl : lv_has ls 3 [(0, .ref h0), (1, .int p0)] := hl
  refine lv_bipush (v := 24) hx hb (show decode prog_1_method_3_code 0 = .ok (.bipush 24, 2) by decide +kernel) (by decide +kernel) ?_
  refine lv_istore_n (lv' := [(2, .int 24), (0, .ref h0), (1, .int p0)]) hx hb (show decode prog_1_method_3_code 2 = .ok (.istore_n 2, 1) by decide +kernel) rfl hl (by decide +kernel) rfl (fun ls hl => ?_)
  refine lv_iload_n hx hb (show decode prog_1_method_3_code 3 = .ok (.iload_n 2, 1) by decide +kernel) rfl (lv_at hl 0 rfl) ?_
  refine lv_if_lt (tgt := 36) hx hb (show decode prog_1_method_3_code 4 = .ok (.ifCond .lt 32, 3) by decide +kernel) (by decide +kernel) (fun c_1 => absurd c_1 (by decide +kernel)) (fun c_1 => ?_)
  refine lv_aload_n hx hb (show decode prog_1_method_3_code 7 = .ok (.aload_n 0, 1) by decide +kernel) rfl (lv_at hl 1 rfl) ?_
  refine va_get (D := D) (ci := 0) (v := .ref q0) (C := R_SE) (T := F_SE) (N := 14) hx hb hts i_SE hown hK hP 0 rfl rfl 0 (by decide +kernel) (hts _ w_42) (fun _ h9 => h9) ha0 (show decode prog_1_method_3_code 8 = .ok (.getfield 9, 3) by decide +kernel) ?_
  refine lv_aload_n hx hb (show decode prog_1_method_3_code 11 = .ok (.aload_n 0, 1) by decide +kernel) rfl (lv_at hl 1 rfl) ?_
  refine va_get (D := D) (ci := 0) (v := .int 0) (C := R_SE) (T := F_SE) (N := 14) hx hb hts i_SE hown hK hP 0 rfl rfl 1 (by decide +kernel) (hts _ w_43) (fun _ h9 => h9) hf1 (show decode prog_1_method_3_code 12 = .ok (.getfield 13, 3) by decide +kernel) ?_
  refine lv_iload_n hx hb (show decode prog_1_method_3_code 15 = .ok (.iload_n 1, 1) by decide +kernel) rfl (lv_at hl 2 rfl) ?_
  refine lv_iload_n hx hb (show decode prog_1_method_3_code 16 = .ok (.iload_n 2, 1) by decide +kernel) rfl (lv_at hl 0 rfl) ?_
  refine lv_iushr hx hb (show decode prog_1_method_3_code 17 = .ok (.iushr, 1) by decide +kernel) rfl ?_
  refine lv_topi (fun z_2 _ => ?_)
  refine lv_i2b hx hb (show decode prog_1_method_3_code 18 = .ok (.i2b, 1) by decide +kernel) rfl ?_
  refine lv_topi (fun z_3 _ => ?_)
  refine va_bast hx hb hK hP hD hS 1 0 rfl rfl (by unfold vp_in; decide) (show decode prog_1_method_3_code 19 = .ok (.bastore, 1) by decide +kernel) (fun H locs hP hD hS => ?_)
  obtain ⟨g_4, hP, hD⟩ : ∃ g_4 : Nat → Int32, va_P D cl [(h0, .inr (0, fs)), (q0, .inl (cA0, 80, .inl g_4))] H ∧ va_D _ [(h0, .inr (0, fs)), (q0, .inl (cA0, 80, .inl g_4))] := ⟨_, hP, hD⟩
  refine lv_aload_n hx hb (show decode prog_1_method_3_code 20 = .ok (.aload_n 0, 1) by decide +kernel) rfl (lv_at hl 1 rfl) ?_
  refine lv_dup hx hb (show decode prog_1_method_3_code 21 = .ok (.dup, 1) by decide +kernel) rfl ?_
  refine va_get (D := D) (ci := 0) (v := .int 0) (C := R_SE) (T := F_SE) (N := 14) hx hb hts i_SE hown hK hP 0 rfl rfl 1 (by decide +kernel) (hts _ w_43) (fun _ h9 => h9) hf1 (show decode prog_1_method_3_code 22 = .ok (.getfield 13, 3) by decide +kernel) ?_
  refine lv_iconst (v := 1) hx hb (show decode prog_1_method_3_code 25 = .ok (.iconst 1, 1) by decide +kernel) (by decide +kernel) ?_
  refine lv_iadd hx hb (show decode prog_1_method_3_code 26 = .ok (.iadd, 1) by decide +kernel) ?_
  refine xtopi (v := 1) (by decide +kernel) ?_
  refine va_put (D := D) (ci := 0) (v := .int 1) (ty := .int) (C := R_SE) (T := F_SE) (N := 14) hx hb hts i_SE t_SE t_SE_ok n_SE hown hK hP hD hS 0 rfl rfl 1 (by decide +kernel) (hts _ w_43) (fun _ h9 => h9) rfl (by decide +kernel) rfl rfl (by simp [hfl]) (show decode prog_1_method_3_code 27 = .ok (.putfield 13, 3) by decide +kernel) (fun H locs hP hD hS => ?_)
  have hP : va_P D cl [(h0, .inr (0, (fs.set 1 (.int 1)))), (q0, .inl (cA0, 80, .inl g_4))] H := hP
  have hD : va_D _ [(h0, .inr (0, (fs.set 1 (.int 1)))), (q0, .inl (cA0, 80, .inl g_4))] := hD
  refine lv_iinc (v := 16) (lv' := [(2, .int 16), (0, .ref h0), (1, .int p0)]) hx hb (show decode prog_1_method_3_code 30 = .ok (.iinc 2 (-8), 3) by decide +kernel) hl (k := 0) rfl (by decide +kernel) (by decide +kernel) rfl (fun ls hl => ?_)
  refine lv_goto (tgt := 3) hx hb (show decode prog_1_method_3_code 33 = .ok (.goto (-30), 3) by decide +kernel) (by decide +kernel) ?_
  refine lv_iload_n hx hb (show decode prog_1_method_3_code 3 = .ok (.iload_n 2, 1) by decide +kernel) rfl (lv_at hl 0 rfl) ?_
  refine lv_if_lt (tgt := 36) hx hb (show decode prog_1_method_3_code 4 = .ok (.ifCond .lt 32, 3) by decide +kernel) (by decide +kernel) (fun c_5 => absurd c_5 (by decide +kernel)) (fun c_5 => ?_)
  refine lv_aload_n hx hb (show decode prog_1_method_3_code 7 = .ok (.aload_n 0, 1) by decide +kernel) rfl (lv_at hl 1 rfl) ?_
  refine va_get (D := D) (ci := 0) (v := .ref q0) (C := R_SE) (T := F_SE) (N := 14) hx hb hts i_SE hown hK hP 0 rfl rfl 0 (by decide +kernel) (hts _ w_42) (fun _ h9 => h9) (xg_ne (by decide +kernel) ha0) (show decode prog_1_method_3_code 8 = .ok (.getfield 9, 3) by decide +kernel) ?_
  refine lv_aload_n hx hb (show decode prog_1_method_3_code 11 = .ok (.aload_n 0, 1) by decide +kernel) rfl (lv_at hl 1 rfl) ?_
  refine va_get (D := D) (ci := 0) (v := .int 1) (C := R_SE) (T := F_SE) (N := 14) hx hb hts i_SE hown hK hP 0 rfl rfl 1 (by decide +kernel) (hts _ w_43) (fun _ h9 => h9) (xg_eq (by simp [hfl])) (show decode prog_1_method_3_code 12 = .ok (.getfield 13, 3) by decide +kernel) ?_
  refine lv_iload_n hx hb (show decode prog_1_method_3_code 15 = .ok (.iload_n 1, 1) by decide +kernel) rfl (lv_at hl 2 rfl) ?_
  refine lv_iload_n hx hb (show decode prog_1_method_3_code 16 = .ok (.iload_n 2, 1) by decide +kernel) rfl (lv_at hl 0 rfl) ?_
  refine lv_iushr hx hb (show decode prog_1_method_3_code 17 = .ok (.iushr, 1) by decide +kernel) rfl ?_
  refine lv_topi (fun z_6 _ => ?_)
  refine lv_i2b hx hb (show decode prog_1_method_3_code 18 = .ok (.i2b, 1) by decide +kernel) rfl ?_
  refine lv_topi (fun z_7 _ => ?_)
  refine va_bast hx hb hK hP hD hS 1 0 rfl rfl (by unfold vp_in; decide) (show decode prog_1_method_3_code 19 = .ok (.bastore, 1) by decide +kernel) (fun H locs hP hD hS => ?_)
  obtain ⟨g_8, hP, hD⟩ : ∃ g_8 : Nat → Int32, va_P D cl [(h0, .inr (0, (fs.set 1 (.int 1)))), (q0, .inl (cA0, 80, .inl g_8))] H ∧ va_D _ [(h0, .inr (0, (fs.set 1 (.int 1)))), (q0, .inl (cA0, 80, .inl g_8))] := ⟨_, hP, hD⟩
  refine lv_aload_n hx hb (show decode prog_1_method_3_code 20 = .ok (.aload_n 0, 1) by decide +kernel) rfl (lv_at hl 1 rfl) ?_
  refine lv_dup hx hb (show decode prog_1_method_3_code 21 = .ok (.dup, 1) by decide +kernel) rfl ?_
  refine va_get (D := D) (ci := 0) (v := .int 1) (C := R_SE) (T := F_SE) (N := 14) hx hb hts i_SE hown hK hP 0 rfl rfl 1 (by decide +kernel) (hts _ w_43) (fun _ h9 => h9) (xg_eq (by simp [hfl])) (show decode prog_1_method_3_code 22 = .ok (.getfield 13, 3) by decide +kernel) ?_
  refine lv_iconst (v := 1) hx hb (show decode prog_1_method_3_code 25 = .ok (.iconst 1, 1) by decide +kernel) (by decide +kernel) ?_
  refine lv_iadd hx hb (show decode prog_1_method_3_code 26 = .ok (.iadd, 1) by decide +kernel) ?_
  refine xtopi (v := 2) (by decide +kernel) ?_
  refine va_put (D := D) (ci := 0) (v := .int 2) (ty := .int) (C := R_SE) (T := F_SE) (N := 14) hx hb hts i_SE t_SE t_SE_ok n_SE hown hK hP hD hS 0 rfl rfl 1 (by decide +kernel) (hts _ w_43) (fun _ h9 => h9) rfl (by decide +kernel) rfl rfl (by simp [hfl]) (show decode prog_1_method_3_code 27 = .ok (.putfield 13, 3) by decide +kernel) (fun H locs hP hD hS => ?_)
  have hP : va_P D cl [(h0, .inr (0, ((fs.set 1 (.int 1)).set 1 (.int 2)))), (q0, .inl (cA0, 80, .inl g_8))] H := hP
  have hD : va_D _ [(h0, .inr (0, ((fs.set 1 (.int 1)).set 1 (.int 2)))), (q0, .inl (cA0, 80, .inl g_8))] := hD
  refine lv_iinc (v := 8) (lv' := [(2, .int 8), (0, .ref h0), (1, .int p0)]) hx hb (show decode prog_1_method_3_code 30 = .ok (.iinc 2 (-8), 3) by decide +kernel) hl (k := 0) rfl (by decide +kernel) (by decide +kernel) rfl (fun ls hl => ?_)
  refine lv_goto (tgt := 3) hx hb (show decode prog_1_method_3_code 33 = .ok (.goto (-30), 3) by decide +kernel) (by decide +kernel) ?_
  refine lv_iload_n hx hb (show decode prog_1_method_3_code 3 = .ok (.iload_n 2, 1) by decide +kernel) rfl (lv_at hl 0 rfl) ?_
  refine lv_if_lt (tgt := 36) hx hb (show decode prog_1_method_3_code 4 = .ok (.ifCond .lt 32, 3) by decide +kernel) (by decide +kernel) (fun c_9 => absurd c_9 (by decide +kernel)) (fun c_9 => ?_)
  refine lv_aload_n hx hb (show decode prog_1_method_3_code 7 = .ok (.aload_n 0, 1) by decide +kernel) rfl (lv_at hl 1 rfl) ?_
  refine va_get (D := D) (ci := 0) (v := .ref q0) (C := R_SE) (T := F_SE) (N := 14) hx hb hts i_SE hown hK hP 0 rfl rfl 0 (by decide +kernel) (hts _ w_42) (fun _ h9 => h9) (xg_ne (by decide +kernel) (xg_ne (by decide +kernel) ha0)) (show decode prog_1_method_3_code 8 = .ok (.getfield 9, 3) by decide +kernel) ?_
  refine lv_aload_n hx hb (show decode prog_1_method_3_code 11 = .ok (.aload_n 0, 1) by decide +kernel) rfl (lv_at hl 1 rfl) ?_
  refine va_get (D := D) (ci := 0) (v := .int 2) (C := R_SE) (T := F_SE) (N := 14) hx hb hts i_SE hown hK hP 0 rfl rfl 1 (by decide +kernel) (hts _ w_43) (fun _ h9 => h9) (xg_eq (by simp [hfl])) (show decode prog_1_method_3_code 12 = .ok (.getfield 13, 3) by decide +kernel) ?_
  refine lv_iload_n hx hb (show decode prog_1_method_3_code 15 = .ok (.iload_n 1, 1) by decide +kernel) rfl (lv_at hl 2 rfl) ?_
  refine lv_iload_n hx hb (show decode prog_1_method_3_code 16 = .ok (.iload_n 2, 1) by decide +kernel) rfl (lv_at hl 0 rfl) ?_
  refine lv_iushr hx hb (show decode prog_1_method_3_code 17 = .ok (.iushr, 1) by decide +kernel) rfl ?_
  refine lv_topi (fun z_10 _ => ?_)
  refine lv_i2b hx hb (show decode prog_1_method_3_code 18 = .ok (.i2b, 1) by decide +kernel) rfl ?_
  refine lv_topi (fun z_11 _ => ?_)
  refine va_bast hx hb hK hP hD hS 1 0 rfl rfl (by unfold vp_in; decide) (show decode prog_1_method_3_code 19 = .ok (.bastore, 1) by decide +kernel) (fun H locs hP hD hS => ?_)
  obtain ⟨g_12, hP, hD⟩ : ∃ g_12 : Nat → Int32, va_P D cl [(h0, .inr (0, ((fs.set 1 (.int 1)).set 1 (.int 2)))), (q0, .inl (cA0, 80, .inl g_12))] H ∧ va_D _ [(h0, .inr (0, ((fs.set 1 (.int 1)).set 1 (.int 2)))), (q0, .inl (cA0, 80, .inl g_12))] := ⟨_, hP, hD⟩
  refine lv_aload_n hx hb (show decode prog_1_method_3_code 20 = .ok (.aload_n 0, 1) by decide +kernel) rfl (lv_at hl 1 rfl) ?_
  refine lv_dup hx hb (show decode prog_1_method_3_code 21 = .ok (.dup, 1) by decide +kernel) rfl ?_
  refine va_get (D := D) (ci := 0) (v := .int 2) (C := R_SE) (T := F_SE) (N := 14) hx hb hts i_SE hown hK hP 0 rfl rfl 1 (by decide +kernel) (hts _ w_43) (fun _ h9 => h9) (xg_eq (by simp [hfl])) (show decode prog_1_method_3_code 22 = .ok (.getfield 13, 3) by decide +kernel) ?_
  refine lv_iconst (v := 1) hx hb (show decode prog_1_method_3_code 25 = .ok (.iconst 1, 1) by decide +kernel) (by decide +kernel) ?_
  refine lv_iadd hx hb (show decode prog_1_method_3_code 26 = .ok (.iadd, 1) by decide +kernel) ?_
  refine xtopi (v := 3) (by decide +kernel) ?_
  refine va_put (D := D) (ci := 0) (v := .int 3) (ty := .int) (C := R_SE) (T := F_SE) (N := 14) hx hb hts i_SE t_SE t_SE_ok n_SE hown hK hP hD hS 0 rfl rfl 1 (by decide +kernel) (hts _ w_43) (fun _ h9 => h9) rfl (by decide +kernel) rfl rfl (by simp [hfl]) (show decode prog_1_method_3_code 27 = .ok (.putfield 13, 3) by decide +kernel) (fun H locs hP hD hS => ?_)
  have hP : va_P D cl [(h0, .inr (0, (((fs.set 1 (.int 1)).set 1 (.int 2)).set 1 (.int 3)))), (q0, .inl (cA0, 80, .inl g_12))] H := hP
  have hD : va_D _ [(h0, .inr (0, (((fs.set 1 (.int 1)).set 1 (.int 2)).set 1 (.int 3)))), (q0, .inl (cA0, 80, .inl g_12))] := hD
  refine lv_iinc (v := 0) (lv' := [(2, .int 0), (0, .ref h0), (1, .int p0)]) hx hb (show decode prog_1_method_3_code 30 = .ok (.iinc 2 (-8), 3) by decide +kernel) hl (k := 0) rfl (by decide +kernel) (by decide +kernel) rfl (fun ls hl => ?_)
  refine lv_goto (tgt := 3) hx hb (show decode prog_1_method_3_code 33 = .ok (.goto (-30), 3) by decide +kernel) (by decide +kernel) ?_
  refine lv_iload_n hx hb (show decode prog_1_method_3_code 3 = .ok (.iload_n 2, 1) by decide +kernel) rfl (lv_at hl 0 rfl) ?_
  refine lv_if_lt (tgt := 36) hx hb (show decode prog_1_method_3_code 4 = .ok (.ifCond .lt 32, 3) by decide +kernel) (by decide +kernel) (fun c_13 => absurd c_13 (by decide +kernel)) (fun c_13 => ?_)
  refine lv_aload_n hx hb (show decode prog_1_method_3_code 7 = .ok (.aload_n 0, 1) by decide +kernel) rfl (lv_at hl 1 rfl) ?_
  refine va_get (D := D) (ci := 0) (v := .ref q0) (C := R_SE) (T := F_SE) (N := 14) hx hb hts i_SE hown hK hP 0 rfl rfl 0 (by decide +kernel) (hts _ w_42) (fun _ h9 => h9) (xg_ne (by decide +kernel) (xg_ne (by decide +kernel) (xg_ne (by decide +kernel) ha0))) (show decode prog_1_method_3_code 8 = .ok (.getfield 9, 3) by decide +kernel) ?_
  refine lv_aload_n hx hb (show decode prog_1_method_3_code 11 = .ok (.aload_n 0, 1) by decide +kernel) rfl (lv_at hl 1 rfl) ?_
  refine va_get (D := D) (ci := 0) (v := .int 3) (C := R_SE) (T := F_SE) (N := 14) hx hb hts i_SE hown hK hP 0 rfl rfl 1 (by decide +kernel) (hts _ w_43) (fun _ h9 => h9) (xg_eq (by simp [hfl])) (show decode prog_1_method_3_code 12 = .ok (.getfield 13, 3) by decide +kernel) ?_
  refine lv_iload_n hx hb (show decode prog_1_method_3_code 15 = .ok (.iload_n 1, 1) by decide +kernel) rfl (lv_at hl 2 rfl) ?_
  refine lv_iload_n hx hb (show decode prog_1_method_3_code 16 = .ok (.iload_n 2, 1) by decide +kernel) rfl (lv_at hl 0 rfl) ?_
  refine lv_iushr hx hb (show decode prog_1_method_3_code 17 = .ok (.iushr, 1) by decide +kernel) rfl ?_
  refine lv_topi (fun z_14 _ => ?_)
  refine lv_i2b hx hb (show decode prog_1_method_3_code 18 = .ok (.i2b, 1) by decide +kernel) rfl ?_
  refine lv_topi (fun z_15 _ => ?_)
  refine va_bast hx hb hK hP hD hS 1 0 rfl rfl (by unfold vp_in; decide) (show decode prog_1_method_3_code 19 = .ok (.bastore, 1) by decide +kernel) (fun H locs hP hD hS => ?_)
  obtain ⟨g_16, hP, hD⟩ : ∃ g_16 : Nat → Int32, va_P D cl [(h0, .inr (0, (((fs.set 1 (.int 1)).set 1 (.int 2)).set 1 (.int 3)))), (q0, .inl (cA0, 80, .inl g_16))] H ∧ va_D _ [(h0, .inr (0, (((fs.set 1 (.int 1)).set 1 (.int 2)).set 1 (.int 3)))), (q0, .inl (cA0, 80, .inl g_16))] := ⟨_, hP, hD⟩
  refine lv_aload_n hx hb (show decode prog_1_method_3_code 20 = .ok (.aload_n 0, 1) by decide +kernel) rfl (lv_at hl 1 rfl) ?_
  refine lv_dup hx hb (show decode prog_1_method_3_code 21 = .ok (.dup, 1) by decide +kernel) rfl ?_
  refine va_get (D := D) (ci := 0) (v := .int 3) (C := R_SE) (T := F_SE) (N := 14) hx hb hts i_SE hown hK hP 0 rfl rfl 1 (by decide +kernel) (hts _ w_43) (fun _ h9 => h9) (xg_eq (by simp [hfl])) (show decode prog_1_method_3_code 22 = .ok (.getfield 13, 3) by decide +kernel) ?_
  refine lv_iconst (v := 1) hx hb (show decode prog_1_method_3_code 25 = .ok (.iconst 1, 1) by decide +kernel) (by decide +kernel) ?_
  refine lv_iadd hx hb (show decode prog_1_method_3_code 26 = .ok (.iadd, 1) by decide +kernel) ?_
  refine xtopi (v := 4) (by decide +kernel) ?_
  refine va_put (D := D) (ci := 0) (v := .int 4) (ty := .int) (C := R_SE) (T := F_SE) (N := 14) hx hb hts i_SE t_SE t_SE_ok n_SE hown hK hP hD hS 0 rfl rfl 1 (by decide +kernel) (hts _ w_43) (fun _ h9 => h9) rfl (by decide +kernel) rfl rfl (by simp [hfl]) (show decode prog_1_method_3_code 27 = .ok (.putfield 13, 3) by decide +kernel) (fun H locs hP hD hS => ?_)
  have hP : va_P D cl [(h0, .inr (0, ((((fs.set 1 (.int 1)).set 1 (.int 2)).set 1 (.int 3)).set 1 (.int 4)))), (q0, .inl (cA0, 80, .inl g_16))] H := hP
  have hD : va_D _ [(h0, .inr (0, ((((fs.set 1 (.int 1)).set 1 (.int 2)).set 1 (.int 3)).set 1 (.int 4)))), (q0, .inl (cA0, 80, .inl g_16))] := hD
  refine lv_iinc (v := (-8)) (lv' := [(2, .int (-8)), (0, .ref h0), (1, .int p0)]) hx hb (show decode prog_1_method_3_code 30 = .ok (.iinc 2 (-8), 3) by decide +kernel) hl (k := 0) rfl (by decide +kernel) (by decide +kernel) rfl (fun ls hl => ?_)
  refine lv_goto (tgt := 3) hx hb (show decode prog_1_method_3_code 33 = .ok (.goto (-30), 3) by decide +kernel) (by decide +kernel) ?_
  refine lv_iload_n hx hb (show decode prog_1_method_3_code 3 = .ok (.iload_n 2, 1) by decide +kernel) rfl (lv_at hl 0 rfl) ?_
  refine lv_if_lt (tgt := 36) hx hb (show decode prog_1_method_3_code 4 = .ok (.ifCond .lt 32, 3) by decide +kernel) (by decide +kernel) (fun c_17 => ?_) (fun c_17 => absurd c_17 (by decide +kernel))
  exact W.vret hx hb hr (fun t ht hW => ⟨⟨g_16, rfl, trivial, by rw [ht]; exact hP, va_K.moved hW.alike hK, hD⟩, hS.F ht⟩) hS.2.2 (show decode prog_1_method_3_code 36 = .ok (.return_, 1) by decide +kernel)
set_option maxHeartbeats 4000000 in
set_option maxRecDepth 100000 in
/-- SignalEngine.append -/
theorem c_SE_append1 (l : Launch) (D : va_G) (ad : Nat → Nat) (de sz : Nat) (h0 : Nat) (fs : List Value) (hfl : fs.length = 14) (hf1 : xfa fs 1 (.int 4)) (q0 : Nat) (cA0 : ClassId) (f0 : Nat → Int32) (ha0 : xfa fs 0 (.ref q0)) (p0 : Int32) : Met l ⟨"SignalEngine", "append", "(I)V"⟩ (tw ⟨"SignalEngine", "append", "(I)V"⟩ prog_1_method_3_code 3 none) { frames := 0, cells := 0, slots := 0, locals := 0 } (va_Pc [.ref h0, .int p0] (xp ad de D [(h0, .inr (0, fs)), (q0, .inl (cA0, 80, .inl f0))] [(cA0, .byte)] sz)) (va_Qv (fun (_ : (Nat → Int32)) => True) (fun (u : (Nat → Int32)) t => xq D (va_A [(h0, .inr (0, fs)), (q0, .inl (cA0, 80, .inl f0))] sz) [(h0, .inr (0, ((((fs.set 1 (.int 5)).set 1 (.int 6)).set 1 (.int 7)).set 1 (.int 8)))), (q0, .inl (cA0, 80, .inl u))] [(cA0, .byte)] t) (va_A [(h0, .inr (0, fs)), (q0, .inl (cA0, 80, .inl f0))] sz)) 0 0 (va_A [(h0, .inr (0, fs)), (q0, .inl (cA0, 80, .inl f0))] sz) := by
  refine xMet (by decide +kernel) (Nat.le_of_ble_eq_true rfl) ?_
  intro p e s m below meth c hx hb hr hlocks hin hml hown hts hsz hP hK hD hE hA ls hl
  have hS : va_S _ s.heap s.heap [] := va_S.rf (A := va_A [(h0, .inr (0, fs)), (q0, .inl (cA0, 80, .inl f0))] sz)
  have hl : lv_has ls 3 [(0, .ref h0), (1, .int p0)] := hl
  refine lv_bipush (v := 24) hx hb (show decode prog_1_method_3_code 0 = .ok (.bipush 24, 2) by decide +kernel) (by decide +kernel) ?_
  refine lv_istore_n (lv' := [(2, .int 24), (0, .ref h0), (1, .int p0)]) hx hb (show decode prog_1_method_3_code 2 = .ok (.istore_n 2, 1) by decide +kernel) rfl hl (by decide +kernel) rfl (fun ls hl => ?_)
  refine lv_iload_n hx hb (show decode prog_1_method_3_code 3 = .ok (.iload_n 2, 1) by decide +kernel) rfl (lv_at hl 0 rfl) ?_
  refine lv_if_lt (tgt := 36) hx hb (show decode prog_1_method_3_code 4 = .ok (.ifCond .lt 32, 3) by decide +kernel) (by decide +kernel) (fun c_1 => absurd c_1 (by decide +kernel)) (fun c_1 => ?_)
  refine lv_aload_n hx hb (show decode prog_1_method_3_code 7 = .ok (.aload_n 0, 1) by decide +kernel) rfl (lv_at hl 1 rfl) ?_
  refine va_get (D := D) (ci := 0) (v := .ref q0) (C := R_SE) (T := F_SE) (N := 14) hx hb hts i_SE hown hK hP 0 rfl rfl 0 (by decide +kernel) (hts _ w_42) (fun _ h9 => h9) ha0 (show decode prog_1_method_3_code 8 = .ok (.getfield 9, 3) by decide +kernel) ?_
  refine lv_aload_n hx hb (show decode prog_1_method_3_code 11 = .ok (.aload_n 0, 1) by decide +kernel) rfl (lv_at hl 1 rfl) ?_
  refine va_get (D := D) (ci := 0) (v := .int 4) (C := R_SE) (T := F_SE) (N := 14) hx hb hts i_SE hown hK hP 0 rfl rfl 1 (by decide +kernel) (hts _ w_43) (fun _ h9 => h9) hf1 (show decode prog_1_method_3_code 12 = .ok (.getfield 13, 3) by decide +kernel) ?_
  refine lv_iload_n hx hb (show decode prog_1_method_3_code 15 = .ok (.iload_n 1, 1) by decide +kernel) rfl (lv_at hl 2 rfl) ?_
  refine lv_iload_n hx hb (show decode prog_1_method_3_code 16 = .ok (.iload_n 2, 1) by decide +kernel) rfl (lv_at hl 0 rfl) ?_
  refine lv_iushr hx hb (show decode prog_1_method_3_code 17 = .ok (.iushr, 1) by decide +kernel) rfl ?_
  refine lv_topi (fun z_2 _ => ?_)
  refine lv_i2b hx hb (show decode prog_1_method_3_code 18 = .ok (.i2b, 1) by decide +kernel) rfl ?_
  refine lv_topi (fun z_3 _ => ?_)
  refine va_bast hx hb hK hP hD hS 1 0 rfl rfl (by unfold vp_in; decide) (show decode prog_1_method_3_code 19 = .ok (.bastore, 1) by decide +kernel) (fun H locs hP hD hS => ?_)
  obtain ⟨g_4, hP, hD⟩ : ∃ g_4 : Nat → Int32, va_P D cl [(h0, .inr (0, fs)), (q0, .inl (cA0, 80, .inl g_4))] H ∧ va_D _ [(h0, .inr (0, fs)), (q0, .inl (cA0, 80, .inl g_4))] := ⟨_, hP, hD⟩
  refine lv_aload_n hx hb (show decode prog_1_method_3_code 20 = .ok (.aload_n 0, 1) by decide +kernel) rfl (lv_at hl 1 rfl) ?_
  refine lv_dup hx hb (show decode prog_1_method_3_code 21 = .ok (.dup, 1) by decide +kernel) rfl ?_
  refine va_get (D := D) (ci := 0) (v := .int 4) (C := R_SE) (T := F_SE) (N := 14) hx hb hts i_SE hown hK hP 0 rfl rfl 1 (by decide +kernel) (hts _ w_43) (fun _ h9 => h9) hf1 (show decode prog_1_method_3_code 22 = .ok (.getfield 13, 3) by decide +kernel) ?_
  refine lv_iconst (v := 1) hx hb (show decode prog_1_method_3_code 25 = .ok (.iconst 1, 1) by decide +kernel) (by decide +kernel) ?_
  refine lv_iadd hx hb (show decode prog_1_method_3_code 26 = .ok (.iadd, 1) by decide +kernel) ?_
  refine xtopi (v := 5) (by decide +kernel) ?_
  refine va_put (D := D) (ci := 0) (v := .int 5) (ty := .int) (C := R_SE) (T := F_SE) (N := 14) hx hb hts i_SE t_SE t_SE_ok n_SE hown hK hP hD hS 0 rfl rfl 1 (by decide +kernel) (hts _ w_43) (fun _ h9 => h9) rfl (by decide +kernel) rfl rfl (by simp [hfl]) (show decode prog_1_method_3_code 27 = .ok (.putfield 13, 3) by decide +kernel) (fun H locs hP hD hS => ?_)
  have hP : va_P D cl [(h0, .inr (0, (fs.set 1 (.int 5)))), (q0, .inl (cA0, 80, .inl g_4))] H := hP
  have hD : va_D _ [(h0, .inr (0, (fs.set 1 (.int 5)))), (q0, .inl (cA0, 80, .inl g_4))] := hD
  refine lv_iinc (v := 16) (lv' := [(2, .int 16), (0, .ref h0), (1, .int p0)]) hx hb (show decode prog_1_method_3_code 30 = .ok (.iinc 2 (-8), 3) by decide +kernel) hl (k := 0) rfl (by decide +kernel) (by decide +kernel) rfl (fun ls hl => ?_)
  refine lv_goto (tgt := 3) hx hb (show decode prog_1_method_3_code 33 = .ok (.goto (-30), 3) by decide +kernel) (by decide +kernel) ?_
  refine lv_iload_n hx hb (show decode prog_1_method_3_code 3 = .ok (.iload_n 2, 1) by decide +kernel) rfl (lv_at hl 0 rfl) ?_
  refine lv_if_lt (tgt := 36) hx hb (show decode prog_1_method_3_code 4 = .ok (.ifCond .lt 32, 3) by decide +kernel) (by decide +kernel) (fun c_5 => absurd c_5 (by decide +kernel)) (fun c_5 => ?_)
  refine lv_aload_n hx hb (show decode prog_1_method_3_code 7 = .ok (.aload_n 0, 1) by decide +kernel) rfl (lv_at hl 1 rfl) ?_
  refine va_get (D := D) (ci := 0) (v := .ref q0) (C := R_SE) (T := F_SE) (N := 14) hx hb hts i_SE hown hK hP 0 rfl rfl 0 (by decide +kernel) (hts _ w_42) (fun _ h9 => h9) (xg_ne (by decide +kernel) ha0) (show decode prog_1_method_3_code 8 = .ok (.getfield 9, 3) by decide +kernel) ?_
  refine lv_aload_n hx hb (show decode prog_1_method_3_code 11 = .ok (.aload_n 0, 1) by decide +kernel) rfl (lv_at hl 1 rfl) ?_
  refine va_get (D := D) (ci := 0) (v := .int 5) (C := R_SE) (T := F_SE) (N := 14) hx hb hts i_SE hown hK hP 0 rfl rfl 1 (by decide +kernel) (hts _ w_43) (fun _ h9 => h9) (xg_eq (by simp [hfl])) (show decode prog_1_method_3_code 12 = .ok (.getfield 13, 3) by decide +kernel) ?_
  refine lv_iload_n hx hb (show decode prog_1_method_3_code 15 = .ok (.iload_n 1, 1) by decide +kernel) rfl (lv_at hl 2 rfl) ?_
  refine lv_iload_n hx hb (show decode prog_1_method_3_code 16 = .ok (.iload_n 2, 1) by decide +kernel) rfl (lv_at hl 0 rfl) ?_
  refine lv_iushr hx hb (show decode prog_1_method_3_code 17 = .ok (.iushr, 1) by decide +kernel) rfl ?_
  refine lv_topi (fun z_6 _ => ?_)
  refine lv_i2b hx hb (show decode prog_1_method_3_code 18 = .ok (.i2b, 1) by decide +kernel) rfl ?_
  refine lv_topi (fun z_7 _ => ?_)
  refine va_bast hx hb hK hP hD hS 1 0 rfl rfl (by unfold vp_in; decide) (show decode prog_1_method_3_code 19 = .ok (.bastore, 1) by decide +kernel) (fun H locs hP hD hS => ?_)
  obtain ⟨g_8, hP, hD⟩ : ∃ g_8 : Nat → Int32, va_P D cl [(h0, .inr (0, (fs.set 1 (.int 5)))), (q0, .inl (cA0, 80, .inl g_8))] H ∧ va_D _ [(h0, .inr (0, (fs.set 1 (.int 5)))), (q0, .inl (cA0, 80, .inl g_8))] := ⟨_, hP, hD⟩
  refine lv_aload_n hx hb (show decode prog_1_method_3_code 20 = .ok (.aload_n 0, 1) by decide +kernel) rfl (lv_at hl 1 rfl) ?_
  refine lv_dup hx hb (show decode prog_1_method_3_code 21 = .ok (.dup, 1) by decide +kernel) rfl ?_
  refine va_get (D := D) (ci := 0) (v := .int 5) (C := R_SE) (T := F_SE) (N := 14) hx hb hts i_SE hown hK hP 0 rfl rfl 1 (by decide +kernel) (hts _ w_43) (fun _ h9 => h9) (xg_eq (by simp [hfl])) (show decode prog_1_method_3_code 22 = .ok (.getfield 13, 3) by decide +kernel) ?_
  refine lv_iconst (v := 1) hx hb (show decode prog_1_method_3_code 25 = .ok (.iconst 1, 1) by decide +kernel) (by decide +kernel) ?_
  refine lv_iadd hx hb (show decode prog_1_method_3_code 26 = .ok (.iadd, 1) by decide +kernel) ?_
  refine xtopi (v := 6) (by decide +kernel) ?_
  refine va_put (D := D) (ci := 0) (v := .int 6) (ty := .int) (C := R_SE) (T := F_SE) (N := 14) hx hb hts i_SE t_SE t_SE_ok n_SE hown hK hP hD hS 0 rfl rfl 1 (by decide +kernel) (hts _ w_43) (fun _ h9 => h9) rfl (by decide +kernel) rfl rfl (by simp [hfl]) (show decode prog_1_method_3_code 27 = .ok (.putfield 13, 3) by decide +kernel) (fun H locs hP hD hS => ?_)
  have hP : va_P D cl [(h0, .inr (0, ((fs.set 1 (.int 5)).set 1 (.int 6)))), (q0, .inl (cA0, 80, .inl g_8))] H := hP
  have hD : va_D _ [(h0, .inr (0, ((fs.set 1 (.int 5)).set 1 (.int 6)))), (q0, .inl (cA0, 80, .inl g_8))] := hD
  refine lv_iinc (v := 8) (lv' := [(2, .int 8), (0, .ref h0), (1, .int p0)]) hx hb (show decode prog_1_method_3_code 30 = .ok (.iinc 2 (-8), 3) by decide +kernel) hl (k := 0) rfl (by decide +kernel) (by decide +kernel) rfl (fun ls hl => ?_)
  refine lv_goto (tgt := 3) hx hb (show decode prog_1_method_3_code 33 = .ok (.goto (-30), 3) by decide +kernel) (by decide +kernel) ?_
  refine lv_iload_n hx hb (show decode prog_1_method_3_code 3 = .ok (.iload_n 2, 1) by decide +kernel) rfl (lv_at hl 0 rfl) ?_
  refine lv_if_lt (tgt := 36) hx hb (show decode prog_1_method_3_code 4 = .ok (.ifCond .lt 32, 3) by decide +kernel) (by decide +kernel) (fun c_9 => absurd c_9 (by decide +kernel)) (fun c_9 => ?_)
  refine lv_aload_n hx hb (show decode prog_1_method_3_code 7 = .ok (.aload_n 0, 1) by decide +kernel) rfl (lv_at hl 1 rfl) ?_
  refine va_get (D := D) (ci := 0) (v := .ref q0) (C := R_SE) (T := F_SE) (N := 14) hx hb hts i_SE hown hK hP 0 rfl rfl 0 (by decide +kernel) (hts _ w_42) (fun _ h9 => h9) (xg_ne (by decide +kernel) (xg_ne (by decide +kernel) ha0)) (show decode prog_1_method_3_code 8 = .ok (.getfield 9, 3) by decide +kernel) ?_
  refine lv_aload_n hx hb (show decode prog_1_method_3_code 11 = .ok (.aload_n 0, 1) by decide +kernel) rfl (lv_at hl 1 rfl) ?_
  refine va_get (D := D) (ci := 0) (v := .int 6) (C := R_SE) (T := F_SE) (N := 14) hx hb hts i_SE hown hK hP 0 rfl rfl 1 (by decide +kernel) (hts _ w_43) (fun _ h9 => h9) (xg_eq (by simp [hfl])) (show decode prog_1_method_3_code 12 = .ok (.getfield 13, 3) by decide +kernel) ?_
  refine lv_iload_n hx hb (show decode prog_1_method_3_code 15 = .ok (.iload_n 1, 1) by decide +kernel) rfl (lv_at hl 2 rfl) ?_
  refine lv_iload_n hx hb (show decode prog_1_method_3_code 16 = .ok (.iload_n 2, 1) by decide +kernel) rfl (lv_at hl 0 rfl) ?_
  refine lv_iushr hx hb (show decode prog_1_method_3_code 17 = .ok (.iushr, 1) by decide +kernel) rfl ?_
  refine lv_topi (fun z_10 _ => ?_)
  refine lv_i2b hx hb (show decode prog_1_method_3_code 18 = .ok (.i2b, 1) by decide +kernel) rfl ?_
  refine lv_topi (fun z_11 _ => ?_)
  refine va_bast hx hb hK hP hD hS 1 0 rfl rfl (by unfold vp_in; decide) (show decode prog_1_method_3_code 19 = .ok (.bastore, 1) by decide +kernel) (fun H locs hP hD hS => ?_)
  obtain ⟨g_12, hP, hD⟩ : ∃ g_12 : Nat → Int32, va_P D cl [(h0, .inr (0, ((fs.set 1 (.int 5)).set 1 (.int 6)))), (q0, .inl (cA0, 80, .inl g_12))] H ∧ va_D _ [(h0, .inr (0, ((fs.set 1 (.int 5)).set 1 (.int 6)))), (q0, .inl (cA0, 80, .inl g_12))] := ⟨_, hP, hD⟩
  refine lv_aload_n hx hb (show decode prog_1_method_3_code 20 = .ok (.aload_n 0, 1) by decide +kernel) rfl (lv_at hl 1 rfl) ?_
  refine lv_dup hx hb (show decode prog_1_method_3_code 21 = .ok (.dup, 1) by decide +kernel) rfl ?_
  refine va_get (D := D) (ci := 0) (v := .int 6) (C := R_SE) (T := F_SE) (N := 14) hx hb hts i_SE hown hK hP 0 rfl rfl 1 (by decide +kernel) (hts _ w_43) (fun _ h9 => h9) (xg_eq (by simp [hfl])) (show decode prog_1_method_3_code 22 = .ok (.getfield 13, 3) by decide +kernel) ?_
  refine lv_iconst (v := 1) hx hb (show decode prog_1_method_3_code 25 = .ok (.iconst 1, 1) by decide +kernel) (by decide +kernel) ?_
  refine lv_iadd hx hb (show decode prog_1_method_3_code 26 = .ok (.iadd, 1) by decide +kernel) ?_
  refine xtopi (v := 7) (by decide +kernel) ?_
  refine va_put (D := D) (ci := 0) (v := .int 7) (ty := .int) (C := R_SE) (T := F_SE) (N := 14) hx hb hts i_SE t_SE t_SE_ok n_SE hown hK hP hD hS 0 rfl rfl 1 (by decide +kernel) (hts _ w_43) (fun _ h9 => h9) rfl (by decide +kernel) rfl rfl (by simp [hfl]) (show decode prog_1_method_3_code 27 = .ok (.putfield 13, 3) by decide +kernel) (fun H locs hP hD hS => ?_)
  have hP : va_P D cl [(h0, .inr (0, (((fs.set 1 (.int 5)).set 1 (.int 6)).set 1 (.int 7)))), (q0, .inl (cA0, 80, .inl g_12))] H := hP
  have hD : va_D _ [(h0, .inr (0, (((fs.set 1 (.int 5)).set 1 (.int 6)).set 1 (.int 7)))), (q0, .inl (cA0, 80, .inl g_12))] := hD
  refine lv_iinc (v := 0) (lv' := [(2, .int 0), (0, .ref h0), (1, .int p0)]) hx hb (show decode prog_1_method_3_code 30 = .ok (.iinc 2 (-8), 3) by decide +kernel) hl (k := 0) rfl (by decide +kernel) (by decide +kernel) rfl (fun ls hl => ?_)
  refine lv_goto (tgt := 3) hx hb (show decode prog_1_method_3_code 33 = .ok (.goto (-30), 3) by decide +kernel) (by decide +kernel) ?_
  refine lv_iload_n hx hb (show decode prog_1_method_3_code 3 = .ok (.iload_n 2, 1) by decide +kernel) rfl (lv_at hl 0 rfl) ?_
  refine lv_if_lt (tgt := 36) hx hb (show decode prog_1_method_3_code 4 = .ok (.ifCond .lt 32, 3) by decide +kernel) (by decide +kernel) (fun c_13 => absurd c_13 (by decide +kernel)) (fun c_13 => ?_)
  refine lv_aload_n hx hb (show decode prog_1_method_3_code 7 = .ok (.aload_n 0, 1) by decide +kernel) rfl (lv_at hl 1 rfl) ?_
  refine va_get (D := D) (ci := 0) (v := .ref q0) (C := R_SE) (T := F_SE) (N := 14) hx hb hts i_SE hown hK hP 0 rfl rfl 0 (by decide +kernel) (hts _ w_42) (fun _ h9 => h9) (xg_ne (by decide +kernel) (xg_ne (by decide +kernel) (xg_ne (by decide +kernel) ha0))) (show decode prog_1_method_3_code 8 = .ok (.getfield 9, 3) by decide +kernel) ?_
  refine lv_aload_n hx hb (show decode prog_1_method_3_code 11 = .ok (.aload_n 0, 1) by decide +kernel) rfl (lv_at hl 1 rfl) ?_
  refine va_get (D := D) (ci := 0) (v := .int 7) (C := R_SE) (T := F_SE) (N := 14) hx hb hts i_SE hown hK hP 0 rfl rfl 1 (by decide +kernel) (hts _ w_43) (fun _ h9 => h9) (xg_eq (by simp [hfl])) (show decode prog_1_method_3_code 12 = .ok (.getfield 13, 3) by decide +kernel) ?_
  refine lv_iload_n hx hb (show decode prog_1_method_3_code 15 = .ok (.iload_n 1, 1) by decide +kernel) rfl (lv_at hl 2 rfl) ?_
  refine lv_iload_n hx hb (show decode prog_1_method_3_code 16 = .ok (.iload_n 2, 1) by decide +kernel) rfl (lv_at hl 0 rfl) ?_
  refine lv_iushr hx hb (show decode prog_1_method_3_code 17 = .ok (.iushr, 1) by decide +kernel) rfl ?_
  refine lv_topi (fun z_14 _ => ?_)
  refine lv_i2b hx hb (show decode prog_1_method_3_code 18 = .ok (.i2b, 1) by decide +kernel) rfl ?_
  refine lv_topi (fun z_15 _ => ?_)
  refine va_bast hx hb hK hP hD hS 1 0 rfl rfl (by unfold vp_in; decide) (show decode prog_1_method_3_code 19 = .ok (.bastore, 1) by decide +kernel) (fun H locs hP hD hS => ?_)
  obtain ⟨g_16, hP, hD⟩ : ∃ g_16 : Nat → Int32, va_P D cl [(h0, .inr (0, (((fs.set 1 (.int 5)).set 1 (.int 6)).set 1 (.int 7)))), (q0, .inl (cA0, 80, .inl g_16))] H ∧ va_D _ [(h0, .inr (0, (((fs.set 1 (.int 5)).set 1 (.int 6)).set 1 (.int 7)))), (q0, .inl (cA0, 80, .inl g_16))] := ⟨_, hP, hD⟩
  refine lv_aload_n hx hb (show decode prog_1_method_3_code 20 = .ok (.aload_n 0, 1) by decide +kernel) rfl (lv_at hl 1 rfl) ?_
  refine lv_dup hx hb (show decode prog_1_method_3_code 21 = .ok (.dup, 1) by decide +kernel) rfl ?_
  refine va_get (D := D) (ci := 0) (v := .int 7) (C := R_SE) (T := F_SE) (N := 14) hx hb hts i_SE hown hK hP 0 rfl rfl 1 (by decide +kernel) (hts _ w_43) (fun _ h9 => h9) (xg_eq (by simp [hfl])) (show decode prog_1_method_3_code 22 = .ok (.getfield 13, 3) by decide +kernel) ?_
  refine lv_iconst (v := 1) hx hb (show decode prog_1_method_3_code 25 = .ok (.iconst 1, 1) by decide +kernel) (by decide +kernel) ?_
  refine lv_iadd hx hb (show decode prog_1_method_3_code 26 = .ok (.iadd, 1) by decide +kernel) ?_
  refine xtopi (v := 8) (by decide +kernel) ?_
  refine va_put (D := D) (ci := 0) (v := .int 8) (ty := .int) (C := R_SE) (T := F_SE) (N := 14) hx hb hts i_SE t_SE t_SE_ok n_SE hown hK hP hD hS 0 rfl rfl 1 (by decide +kernel) (hts _ w_43) (fun _ h9 => h9) rfl (by decide +kernel) rfl rfl (by simp [hfl]) (show decode prog_1_method_3_code 27 = .ok (.putfield 13, 3) by decide +kernel) (fun H locs hP hD hS => ?_)
  have hP : va_P D cl [(h0, .inr (0, ((((fs.set 1 (.int 5)).set 1 (.int 6)).set 1 (.int 7)).set 1 (.int 8)))), (q0, .inl (cA0, 80, .inl g_16))] H := hP
  have hD : va_D _ [(h0, .inr (0, ((((fs.set 1 (.int 5)).set 1 (.int 6)).set 1 (.int 7)).set 1 (.int 8)))), (q0, .inl (cA0, 80, .inl g_16))] := hD
  refine lv_iinc (v := (-8)) (lv' := [(2, .int (-8)), (0, .ref h0), (1, .int p0)]) hx hb (show decode prog_1_method_3_code 30 = .ok (.iinc 2 (-8), 3) by decide +kernel) hl (k := 0) rfl (by decide +kernel) (by decide +kernel) rfl (fun ls hl => ?_)
  refine lv_goto (tgt := 3) hx hb (show decode prog_1_method_3_code 33 = .ok (.goto (-30), 3) by decide +kernel) (by decide +kernel) ?_
  refine lv_iload_n hx hb (show decode prog_1_method_3_code 3 = .ok (.iload_n 2, 1) by decide +kernel) rfl (lv_at hl 0 rfl) ?_
  refine lv_if_lt (tgt := 36) hx hb (show decode prog_1_method_3_code 4 = .ok (.ifCond .lt 32, 3) by decide +kernel) (by decide +kernel) (fun c_17 => ?_) (fun c_17 => absurd c_17 (by decide +kernel))
  exact W.vret hx hb hr (fun t ht hW => ⟨⟨g_16, rfl, trivial, by rw [ht]; exact hP, va_K.moved hW.alike hK, hD⟩, hS.F ht⟩) hS.2.2 (show decode prog_1_method_3_code 36 = .ok (.return_, 1) by decide +kernel)
set_option maxHeartbeats 4000000 in
set_option maxRecDepth 100000 in
/-- SignalEngine.append -/
theorem c_SE_append2 (l : Launch) (D : va_G) (ad : Nat → Nat) (de sz : Nat) (h0 : Nat) (fs : List Value) (hfl : fs.length = 14) (hf1 : xfa fs 1 (.int 8)) (q0 : Nat) (cA0 : ClassId) (f0 : Nat → Int32) (ha0 : xfa fs 0 (.ref q0)) (p0 : Int32) : Met l ⟨"SignalEngine", "append", "(I)V"⟩ (tw ⟨"SignalEngine", "append", "(I)V"⟩ prog_1_method_3_code 3 none) { frames := 0, cells := 0, slots := 0, locals := 0 } (va_Pc [.ref h0, .int p0] (xp ad de D [(h0, .inr (0, fs)), (q0, .inl (cA0, 80, .inl f0))] [(cA0, .byte)] sz)) (va_Qv (fun (_ : (Nat → Int32)) => True) (fun (u : (Nat → Int32)) t => xq D (va_A [(h0, .inr (0, fs)), (q0, .inl (cA0, 80, .inl f0))] sz) [(h0, .inr (0, ((((fs.set 1 (.int 9)).set 1 (.int 10)).set 1 (.int 11)).set 1 (.int 12)))), (q0, .inl (cA0, 80, .inl u))] [(cA0, .byte)] t) (va_A [(h0, .inr (0, fs)), (q0, .inl (cA0, 80, .inl f0))] sz)) 0 0 (va_A [(h0, .inr (0, fs)), (q0, .inl (cA0, 80, .inl f0))] sz) := by
  refine xMet (by decide +kernel) (Nat.le_of_ble_eq_true rfl) ?_
  intro p e s m below meth c hx hb hr hlocks hin hml hown hts hsz hP hK hD hE hA ls hl
  have hS : va_S _ s.heap s.heap [] := va_S.rf (A := va_A [(h0, .inr (0, fs)), (q0, .inl (cA0, 80, .inl f0))] sz)
  have hl : lv_has ls 3 [(0, .ref h0), (1, .int p0)] := hl
  refine lv_bipush (v := 24) hx hb (show decode prog_1_method_3_code 0 = .ok (.bipush 24, 2) by decide +kernel) (by decide +kernel) ?_
  refine lv_istore_n (lv' := [(2, .int 24), (0, .ref h0), (1, .int p0)]) hx hb (show decode prog_1_method_3_code 2 = .ok (.istore_n 2, 1) by decide +kernel) rfl hl (by decide +kernel) rfl (fun ls hl => ?_)
  refine lv_iload_n hx hb (show decode prog_1_method_3_code 3 = .ok (.iload_n 2, 1) by decide +kernel) rfl (lv_at hl 0 rfl) ?_
  refine lv_if_lt (tgt := 36) hx hb (show decode prog_1_method_3_code 4 = .ok (.ifCond .lt 32, 3) by decide +kernel) (by decide +kernel) (fun c_1 => absurd c_1 (by decide +kernel)) (fun c_1 => ?_)
  refine lv_aload_n hx hb (show decode prog_1_method_3_code 7 = .ok (.aload_n 0, 1) by decide +kernel) rfl (lv_at hl 1 rfl) ?_
  refine va_get (D := D) (ci := 0) (v := .ref q0) (C := R_SE) (T := F_SE) (N := 14) hx hb hts i_SE hown hK hP 0 rfl rfl 0 (by decide +kernel) (hts _ w_42) (fun _ h9 => h9) ha0 (show decode prog_1_method_3_code 8 = .ok (.getfield 9, 3) by decide +kernel) ?_
  refine lv_aload_n hx hb (show decode prog_1_method_3_code 11 = .ok (.aload_n 0, 1) by decide +kernel) rfl (lv_at hl 1 rfl) ?_
  refine va_get (D := D) (ci := 0) (v := .int 8) (C := R_SE) (T := F_SE) (N := 14) hx hb hts i_SE hown hK hP 0 rfl rfl 1 (by decide +kernel) (hts _ w_43) (fun _ h9 => h9) hf1 (show decode prog_1_method_3_code 12 = .ok (.getfield 13, 3) by decide +kernel) ?_
  refine lv_iload_n hx hb (show decode prog_1_method_3_code 15 = .ok (.iload_n 1, 1) by decide +kernel) rfl (lv_at hl 2 rfl) ?_
  refine lv_iload_n hx hb (show decode prog_1_method_3_code 16 = .ok (.iload_n 2, 1) by decide +kernel) rfl (lv_at hl 0 rfl) ?_
  refine lv_iushr hx hb (show decode prog_1_method_3_code 17 = .ok (.iushr, 1) by decide +kernel) rfl ?_
  refine lv_topi (fun z_2 _ => ?_)
  refine lv_i2b hx hb (show decode prog_1_method_3_code 18 = .ok (.i2b, 1) by decide +kernel) rfl ?_
  refine lv_topi (fun z_3 _ => ?_)
  refine va_bast hx hb hK hP hD hS 1 0 rfl rfl (by unfold vp_in; decide) (show decode prog_1_method_3_code 19 = .ok (.bastore, 1) by decide +kernel) (fun H locs hP hD hS => ?_)
  obtain ⟨g_4, hP, hD⟩ : ∃ g_4 : Nat → Int32, va_P D cl [(h0, .inr (0, fs)), (q0, .inl (cA0, 80, .inl g_4))] H ∧ va_D _ [(h0, .inr (0, fs)), (q0, .inl (cA0, 80, .inl g_4))] := ⟨_, hP, hD⟩
  refine lv_aload_n hx hb (show decode prog_1_method_3_code 20 = .ok (.aload_n 0, 1) by decide +kernel) rfl (lv_at hl 1 rfl) ?_
  refine lv_dup hx hb (show decode prog_1_method_3_code 21 = .ok (.dup, 1) by decide +kernel) rfl ?_
  refine va_get (D := D) (ci := 0) (v := .int 8) (C := R_SE) (T := F_SE) (N := 14) hx hb hts i_SE hown hK hP 0 rfl rfl 1 (by decide +kernel) (hts _ w_43) (fun _ h9 => h9) hf1 (show decode prog_1_method_3_code 22 = .ok (.getfield 13, 3) by decide +kernel) ?_
  refine lv_iconst (v := 1) hx hb (show decode prog_1_method_3_code 25 = .ok (.iconst 1, 1) by decide +kernel) (by decide +kernel) ?_
  refine lv_iadd hx hb (show decode prog_1_method_3_code 26 = .ok (.iadd, 1) by decide +kernel) ?_
  refine xtopi (v := 9) (by decide +kernel) ?_
  refine va_put (D := D) (ci := 0) (v := .int 9) (ty := .int) (C := R_SE) (T := F_SE) (N := 14) hx hb hts i_SE t_SE t_SE_ok n_SE hown hK hP hD hS 0 rfl rfl 1 (by decide +kernel) (hts _ w_43) (fun _ h9 => h9) rfl (by decide +kernel) rfl rfl (by simp [hfl]) (show decode prog_1_method_3_code 27 = .ok (.putfield 13, 3) by decide +kernel) (fun H locs hP hD hS => ?_)
  have hP : va_P D cl [(h0, .inr (0, (fs.set 1 (.int 9)))), (q0, .inl (cA0, 80, .inl g_4))] H := hP
  have hD : va_D _ [(h0, .inr (0, (fs.set 1 (.int 9)))), (q0, .inl (cA0, 80, .inl g_4))] := hD
  refine lv_iinc (v := 16) (lv' := [(2, .int 16), (0, .ref h0), (1, .int p0)]) hx hb (show decode prog_1_method_3_code 30 = .ok (.iinc 2 (-8), 3) by decide +kernel) hl (k := 0) rfl (by decide +kernel) (by decide +kernel) rfl (fun ls hl => ?_)
  refine lv_goto (tgt := 3) hx hb (show decode prog_1_method_3_code 33 = .ok (.goto (-30), 3) by decide +kernel) (by decide +kernel) ?_
  refine lv_iload_n hx hb (show decode prog_1_method_3_code 3 = .ok (.iload_n 2, 1) by decide +kernel) rfl (lv_at hl 0 rfl) ?_
  refine lv_if_lt (tgt := 36) hx hb (show decode prog_1_method_3_code 4 = .ok (.ifCond .lt 32, 3) by decide +kernel) (by decide +kernel) (fun c_5 => absurd c_5 (by decide +kernel)) (fun c_5 => ?_)
  refine lv_aload_n hx hb (show decode prog_1_method_3_code 7 = .ok (.aload_n 0, 1) by decide +kernel) rfl (lv_at hl 1 rfl) ?_
  refine va_get (D := D) (ci := 0) (v := .ref q0) (C := R_SE) (T := F_SE) (N := 14) hx hb hts i_SE hown hK hP 0 rfl rfl 0 (by decide +kernel) (hts _ w_42) (fun _ h9 => h9) (xg_ne (by decide +kernel) ha0) (show decode prog_1_method_3_code 8 = .ok (.getfield 9, 3) by decide +kernel) ?_
  refine lv_aload_n hx hb (show decode prog_1_method_3_code 11 = .ok (.aload_n 0, 1) by decide +kernel) rfl (lv_at hl 1 rfl) ?_
  refine va_get (D := D) (ci := 0) (v := .int 9) (C := R_SE) (T := F_SE) (N := 14) hx hb hts i_SE hown hK hP 0 rfl rfl 1 (by decide +kernel) (hts _ w_43) (fun _ h9 => h9) (xg_eq (by simp [hfl])) (show decode prog_1_method_3_code 12 = .ok (.getfield 13, 3) by decide +kernel) ?_
  refine lv_iload_n hx hb (show decode prog_1_method_3_code 15 = .ok (.iload_n 1, 1) by decide +kernel) rfl (lv_at hl 2 rfl) ?_
  refine lv_iload_n hx hb (show decode prog_1_method_3_code 16 = .ok (.iload_n 2, 1) by decide +kernel) rfl (lv_at hl 0 rfl) ?_
  refine lv_iushr hx hb (show decode prog_1_method_3_code 17 = .ok (.iushr, 1) by decide +kernel) rfl ?_
  refine lv_topi (fun z_6 _ => ?_)
  refine lv_i2b hx hb (show decode prog_1_method_3_code 18 = .ok (.i2b, 1) by decide +kernel) rfl ?_
  refine lv_topi (fun z_7 _ => ?_)
  refine va_bast hx hb hK hP hD hS 1 0 rfl rfl (by unfold vp_in; decide) (show decode prog_1_method_3_code 19 = .ok (.bastore, 1) by decide +kernel) (fun H locs hP hD hS => ?_)
  obtain ⟨g_8, hP, hD⟩ : ∃ g_8 : Nat → Int32, va_P D cl [(h0, .inr (0, (fs.set 1 (.int 9)))), (q0, .inl (cA0, 80, .inl g_8))] H ∧ va_D _ [(h0, .inr (0, (fs.set 1 (.int 9)))), (q0, .inl (cA0, 80, .inl g_8))] := ⟨_, hP, hD⟩
  refine lv_aload_n hx hb (show decode prog_1_method_3_code 20 = .ok (.aload_n 0, 1) by decide +kernel) rfl (lv_at hl 1 rfl) ?_
  refine lv_dup hx hb (show decode prog_1_method_3_code 21 = .ok (.dup, 1) by decide +kernel) rfl ?_
  refine va_get (D := D) (ci := 0) (v := .int 9) (C := R_SE) (T := F_SE) (N := 14) hx hb hts i_SE hown hK hP 0 rfl rfl 1 (by decide +kernel) (hts _ w_43) (fun _ h9 => h9) (xg_eq (by simp [hfl])) (show decode prog_1_method_3_code 22 = .ok (.getfield 13, 3) by decide +kernel) ?_
  refine lv_iconst (v := 1) hx hb (show decode prog_1_method_3_code 25 = .ok (.iconst 1, 1) by decide +kernel) (by decide +kernel) ?_
  refine lv_iadd hx hb (show decode prog_1_method_3_code 26 = .ok (.iadd, 1) by decide +kernel) ?_
  refine xtopi (v := 10) (by decide +kernel) ?_
  refine va_put (D := D) (ci := 0) (v := .int 10) (ty := .int) (C := R_SE) (T := F_SE) (N := 14) hx hb hts i_SE t_SE t_SE_ok n_SE hown hK hP hD hS 0 rfl rfl 1 (by decide +kernel) (hts _ w_43) (fun _ h9 => h9) rfl (by decide +kernel) rfl rfl (by simp [hfl]) (show decode prog_1_method_3_code 27 = .ok (.putfield 13, 3) by decide +kernel) (fun H locs hP hD hS => ?_)
  have hP : va_P D cl [(h0, .inr (0, ((fs.set 1 (.int 9)).set 1 (.int 10)))), (q0, .inl (cA0, 80, .inl g_8))] H := hP
  have hD : va_D _ [(h0, .inr (0, ((fs.set 1 (.int 9)).set 1 (.int 10)))), (q0, .inl (cA0, 80, .inl g_8))] := hD
  refine lv_iinc (v := 8) (lv' := [(2, .int 8), (0, .ref h0), (1, .int p0)]) hx hb (show decode prog_1_method_3_code 30 = .ok (.iinc 2 (-8), 3) by decide +kernel) hl (k := 0) rfl (by decide +kernel) (by decide +kernel) rfl (fun ls hl => ?_)
  refine lv_goto (tgt := 3) hx hb (show decode prog_1_method_3_code 33 = .ok (.goto (-30), 3) by decide +kernel) (by decide +kernel) ?_
  refine lv_iload_n hx hb (show decode prog_1_method_3_code 3 = .ok (.iload_n 2, 1) by decide +kernel) rfl (lv_at hl 0 rfl) ?_
  refine lv_if_lt (tgt := 36) hx hb (show decode prog_1_method_3_code 4 = .ok (.ifCond .lt 32, 3) by decide +kernel) (by decide +kernel) (fun c_9 => absurd c_9 (by decide +kernel)) (fun c_9 => ?_)
  refine lv_aload_n hx hb (show decode prog_1_method_3_code 7 = .ok (.aload_n 0, 1) by decide +kernel) rfl (lv_at hl 1 rfl) ?_
  refine va_get (D := D) (ci := 0) (v := .ref q0) (C := R_SE) (T := F_SE) (N := 14) hx hb hts i_SE hown hK hP 0 rfl rfl 0 (by decide +kernel) (hts _ w_42) (fun _ h9 => h9) (xg_ne (by decide +kernel) (xg_ne (by decide +kernel) ha0)) (show decode prog_1_method_3_code 8 = .ok (.getfield 9, 3) by decide +kernel) ?_
  refine lv_aload_n hx hb (show decode prog_1_method_3_code 11 = .ok (.aload_n 0, 1) by decide +kernel) rfl (lv_at hl 1 rfl) ?_
  refine va_get (D := D) (ci := 0) (v := .int 10) (C := R_SE) (T := F_SE) (N := 14) hx hb hts i_SE hown hK hP 0 rfl rfl 1 (by decide +kernel) (hts _ w_43) (fun _ h9 => h9) (xg_eq (by simp [hfl])) (show decode prog_1_method_3_code 12 = .ok (.getfield 13, 3) by decide +kernel) ?_
  refine lv_iload_n hx hb (show decode prog_1_method_3_code 15 = .ok (.iload_n 1, 1) by decide +kernel) rfl (lv_at hl 2 rfl) ?_
  refine lv_iload_n hx hb (show decode prog_1_method_3_code 16 = .ok (.iload_n 2, 1) by decide +kernel) rfl (lv_at hl 0 rfl) ?_
  refine lv_iushr hx hb (show decode prog_1_method_3_code 17 = .ok (.iushr, 1) by decide +kernel) rfl ?_
  refine lv_topi (fun z_10 _ => ?_)
  refine lv_i2b hx hb (show decode prog_1_method_3_code 18 = .ok (.i2b, 1) by decide +kernel) rfl ?_
  refine lv_topi (fun z_11 _ => ?_)
  refine va_bast hx hb hK hP hD hS 1 0 rfl rfl (by unfold vp_in; decide) (show decode prog_1_method_3_code 19 = .ok (.bastore, 1) by decide +kernel) (fun H locs hP hD hS => ?_)
  obtain ⟨g_12, hP, hD⟩ : ∃ g_12 : Nat → Int32, va_P D cl [(h0, .inr (0, ((fs.set 1 (.int 9)).set 1 (.int 10)))), (q0, .inl (cA0, 80, .inl g_12))] H ∧ va_D _ [(h0, .inr (0, ((fs.set 1 (.int 9)).set 1 (.int 10)))), (q0, .inl (cA0, 80, .inl g_12))] := ⟨_, hP, hD⟩
  refine lv_aload_n hx hb (show decode prog_1_method_3_code 20 = .ok (.aload_n 0, 1) by decide +kernel) rfl (lv_at hl 1 rfl) ?_
  refine lv_dup hx hb (show decode prog_1_method_3_code 21 = .ok (.dup, 1) by decide +kernel) rfl ?_
  refine va_get (D := D) (ci := 0) (v := .int 10) (C := R_SE) (T := F_SE) (N := 14) hx hb hts i_SE hown hK hP 0 rfl rfl 1 (by decide +kernel) (hts _ w_43) (fun _ h9 => h9) (xg_eq (by simp [hfl])) (show decode prog_1_method_3_code 22 = .ok (.getfield 13, 3) by decide +kernel) ?_
  refine lv_iconst (v := 1) hx hb (show decode prog_1_method_3_code 25 = .ok (.iconst 1, 1) by decide +kernel) (by decide +kernel) ?_
  refine lv_iadd hx hb (show decode prog_1_method_3_code 26 = .ok (.iadd, 1) by decide +kernel) ?_
  refine xtopi (v := 11) (by decide +kernel) ?_
  refine va_put (D := D) (ci := 0) (v := .int 11) (ty := .int) (C := R_SE) (T := F_SE) (N := 14) hx hb hts i_SE t_SE t_SE_ok n_SE hown hK hP hD hS 0 rfl rfl 1 (by decide +kernel) (hts _ w_43) (fun _ h9 => h9) rfl (by decide +kernel) rfl rfl (by simp [hfl]) (show decode prog_1_method_3_code 27 = .ok (.putfield 13, 3) by decide +kernel) (fun H locs hP hD hS => ?_)
  have hP : va_P D cl [(h0, .inr (0, (((fs.set 1 (.int 9)).set 1 (.int 10)).set 1 (.int 11)))), (q0, .inl (cA0, 80, .inl g_12))] H := hP
  have hD : va_D _ [(h0, .inr (0, (((fs.set 1 (.int 9)).set 1 (.int 10)).set 1 (.int 11)))), (q0, .inl (cA0, 80, .inl g_12))] := hD
  refine lv_iinc (v := 0) (lv' := [(2, .int 0), (0, .ref h0), (1, .int p0)]) hx hb (show decode prog_1_method_3_code 30 = .ok (.iinc 2 (-8), 3) by decide +kernel) hl (k := 0) rfl (by decide +kernel) (by decide +kernel) rfl (fun ls hl => ?_)
  refine lv_goto (tgt := 3) hx hb (show decode prog_1_method_3_code 33 = .ok (.goto (-30), 3) by decide +kernel) (by decide +kernel) ?_
  refine lv_iload_n hx hb (show decode prog_1_method_3_code 3 = .ok (.iload_n 2, 1) by decide +kernel) rfl (lv_at hl 0 rfl) ?_
  refine lv_if_lt (tgt := 36) hx hb (show decode prog_1_method_3_code 4 = .ok (.ifCond .lt 32, 3) by decide +kernel) (by decide +kernel) (fun c_13 => absurd c_13 (by decide +kernel)) (fun c_13 => ?_)
  refine lv_aload_n hx hb (show decode prog_1_method_3_code 7 = .ok (.aload_n 0, 1) by decide +kernel) rfl (lv_at hl 1 rfl) ?_
  refine va_get (D := D) (ci := 0) (v := .ref q0) (C := R_SE) (T := F_SE) (N := 14) hx hb hts i_SE hown hK hP 0 rfl rfl 0 (by decide +kernel) (hts _ w_42) (fun _ h9 => h9) (xg_ne (by decide +kernel) (xg_ne (by decide +kernel) (xg_ne (by decide +kernel) ha0))) (show decode prog_1_method_3_code 8 = .ok (.getfield 9, 3) by decide +kernel) ?_
  refine lv_aload_n hx hb (show decode prog_1_method_3_code 11 = .ok (.aload_n 0, 1) by decide +kernel) rfl (lv_at hl 1 rfl) ?_
  refine va_get (D := D) (ci := 0) (v := .int 11) (C := R_SE) (T := F_SE) (N := 14) hx hb hts i_SE hown hK hP 0 rfl rfl 1 (by decide +kernel) (hts _ w_43) (fun _ h9 => h9) (xg_eq (by simp [hfl])) (show decode prog_1_method_3_code 12 = .ok (.getfield 13, 3) by decide +kernel) ?_
  refine lv_iload_n hx hb (show decode prog_1_method_3_code 15 = .ok (.iload_n 1, 1) by decide +kernel) rfl (lv_at hl 2 rfl) ?_
  refine lv_iload_n hx hb (show decode prog_1_method_3_code 16 = .ok (.iload_n 2, 1) by decide +kernel) rfl (lv_at hl 0 rfl) ?_
  refine lv_iushr hx hb (show decode prog_1_method_3_code 17 = .ok (.iushr, 1) by decide +kernel) rfl ?_
  refine lv_topi (fun z_14 _ => ?_)
  refine lv_i2b hx hb (show decode prog_1_method_3_code 18 = .ok (.i2b, 1) by decide +kernel) rfl ?_
  refine lv_topi (fun z_15 _ => ?_)
  refine va_bast hx hb hK hP hD hS 1 0 rfl rfl (by unfold vp_in; decide) (show decode prog_1_method_3_code 19 = .ok (.bastore, 1) by decide +kernel) (fun H locs hP hD hS => ?_)
  obtain ⟨g_16, hP, hD⟩ : ∃ g_16 : Nat → Int32, va_P D cl [(h0, .inr (0, (((fs.set 1 (.int 9)).set 1 (.int 10)).set 1 (.int 11)))), (q0, .inl (cA0, 80, .inl g_16))] H ∧ va_D _ [(h0, .inr (0, (((fs.set 1 (.int 9)).set 1 (.int 10)).set 1 (.int 11)))), (q0, .inl (cA0, 80, .inl g_16))] := ⟨_, hP, hD⟩
  refine lv_aload_n hx hb (show decode prog_1_method_3_code 20 = .ok (.aload_n 0, 1) by decide +kernel) rfl (lv_at hl 1 rfl) ?_
  refine lv_dup hx hb (show decode prog_1_method_3_code 21 = .ok (.dup, 1) by decide +kernel) rfl ?_
  refine va_get (D := D) (ci := 0) (v := .int 11) (C := R_SE) (T := F_SE) (N := 14) hx hb hts i_SE hown hK hP 0 rfl rfl 1 (by decide +kernel) (hts _ w_43) (fun _ h9 => h9) (xg_eq (by simp [hfl])) (show decode prog_1_method_3_code 22 = .ok (.getfield 13, 3) by decide +kernel) ?_
  refine lv_iconst (v := 1) hx hb (show decode prog_1_method_3_code 25 = .ok (.iconst 1, 1) by decide +kernel) (by decide +kernel) ?_
  refine lv_iadd hx hb (show decode prog_1_method_3_code 26 = .ok (.iadd, 1) by decide +kernel) ?_
  refine xtopi (v := 12) (by decide +kernel) ?_
  refine va_put (D := D) (ci := 0) (v := .int 12) (ty := .int) (C := R_SE) (T := F_SE) (N := 14) hx hb hts i_SE t_SE t_SE_ok n_SE hown hK hP hD hS 0 rfl rfl 1 (by decide +kernel) (hts _ w_43) (fun _ h9 => h9) rfl (by decide +kernel) rfl rfl (by simp [hfl]) (show decode prog_1_method_3_code 27 = .ok (.putfield 13, 3) by decide +kernel) (fun H locs hP hD hS => ?_)
  have hP : va_P D cl [(h0, .inr (0, ((((fs.set 1 (.int 9)).set 1 (.int 10)).set 1 (.int 11)).set 1 (.int 12)))), (q0, .inl (cA0, 80, .inl g_16))] H := hP
  have hD : va_D _ [(h0, .inr (0, ((((fs.set 1 (.int 9)).set 1 (.int 10)).set 1 (.int 11)).set 1 (.int 12)))), (q0, .inl (cA0, 80, .inl g_16))] := hD
  refine lv_iinc (v := (-8)) (lv' := [(2, .int (-8)), (0, .ref h0), (1, .int p0)]) hx hb (show decode prog_1_method_3_code 30 = .ok (.iinc 2 (-8), 3) by decide +kernel) hl (k := 0) rfl (by decide +kernel) (by decide +kernel) rfl (fun ls hl => ?_)
  refine lv_goto (tgt := 3) hx hb (show decode prog_1_method_3_code 33 = .ok (.goto (-30), 3) by decide +kernel) (by decide +kernel) ?_
  refine lv_iload_n hx hb (show decode prog_1_method_3_code 3 = .ok (.iload_n 2, 1) by decide +kernel) rfl (lv_at hl 0 rfl) ?_
  refine lv_if_lt (tgt := 36) hx hb (show decode prog_1_method_3_code 4 = .ok (.ifCond .lt 32, 3) by decide +kernel) (by decide +kernel) (fun c_17 => ?_) (fun c_17 => absurd c_17 (by decide +kernel))
  exact W.vret hx hb hr (fun t ht hW => ⟨⟨g_16, rfl, trivial, by rw [ht]; exact hP, va_K.moved hW.alike hK, hD⟩, hS.F ht⟩) hS.2.2 (show decode prog_1_method_3_code 36 = .ok (.return_, 1) by decide +kernel)
set_option maxHeartbeats 4000000 in
set_option maxRecDepth 100000 in
/-- SignalEngine.append -/
theorem c_SE_append3 (l : Launch) (D : va_G) (ad : Nat → Nat) (de sz : Nat) (h0 : Nat) (fs : List Value) (hfl : fs.length = 14) (hf1 : xfa fs 1 (.int 12)) (q0 : Nat) (cA0 : ClassId) (f0 : Nat → Int32) (ha0 : xfa fs 0 (.ref q0)) (p0 : Int32) : Met l ⟨"SignalEngine", "append", "(I)V"⟩ (tw ⟨"SignalEngine", "append", "(I)V"⟩ prog_1_method_3_code 3 none) { frames := 0, cells := 0, slots := 0, locals := 0 } (va_Pc [.ref h0, .int p0] (xp ad de D [(h0, .inr (0, fs)), (q0, .inl (cA0, 80, .inl f0))] [(cA0, .byte)] sz)) (va_Qv (fun (_ : (Nat → Int32)) => True) (fun (u : (Nat → Int32)) t => xq D (va_A [(h0, .inr (0, fs)), (q0, .inl (cA0, 80, .inl f0))] sz) [(h0, .inr (0, ((((fs.set 1 (.int 13)).set 1 (.int 14)).set 1 (.int 15)).set 1 (.int 16)))), (q0, .inl (cA0, 80, .inl u))] [(cA0, .byte)] t) (va_A [(h0, .inr (0, fs)), (q0, .inl (cA0, 80, .inl f0))] sz)) 0 0 (va_A [(h0, .inr (0, fs)), (q0, .inl (cA0, 80, .inl f0))] sz) := by
  refine xMet (by decide +kernel) (Nat.le_of_ble_eq_true rfl) ?_
  intro p e s m below meth c hx hb hr hlocks hin hml hown hts hsz hP hK hD hE hA ls hl
  have hS : va_S _ s.heap s.heap [] := va_S.rf (A := va_A [(h0, .inr (0, fs)), (q0, .inl (cA0, 80, .inl f0))] sz)
  have hl : lv_has ls 3 [(0, .ref h0), (1, .int p0)] := hl
  refine lv_bipush (v := 24) hx hb (show decode prog_1_method_3_code 0 = .ok (.bipush 24, 2) by decide +kernel) (by decide +kernel) ?_
  refine lv_istore_n (lv' := [(2, .int 24), (0, .ref h0), (1, .int p0)]) hx hb (show decode prog_1_method_3_code 2 = .ok (.istore_n 2, 1) by decide +kernel) rfl hl (by decide +kernel) rfl (fun ls hl => ?_)
  refine lv_iload_n hx hb (show decode prog_1_method_3_code 3 = .ok (.iload_n 2, 1) by decide +kernel) rfl (lv_at hl 0 rfl) ?_
  refine lv_if_lt (tgt := 36) hx hb (show decode prog_1_method_3_code 4 = .ok (.ifCond .lt 32, 3) by decide +kernel) (by decide +kernel) (fun c_1 => absurd c_1 (by decide +kernel)) (fun c_1 => ?_)
  refine lv_aload_n hx hb (show decode prog_1_method_3_code 7 = .ok (.aload_n 0, 1) by decide +kernel) rfl (lv_at hl 1 rfl) ?_
  refine va_get (D := D) (ci := 0) (v := .ref q0) (C := R_SE) (T := F_SE) (N := 14) hx hb hts i_SE hown hK hP 0 rfl rfl 0 (by decide +kernel) (hts _ w_42) (fun _ h9 => h9) ha0 (show decode prog_1_method_3_code 8 = .ok (.getfield 9, 3) by decide +kernel) ?_
  refine lv_aload_n hx hb (show decode prog_1_method_3_code 11 = .ok (.aload_n 0, 1) by decide +kernel) rfl (lv_at hl 1 rfl) ?_
  refine va_get (D := D) (ci := 0) (v := .int 12) (C := R_SE) (T := F_SE) (N := 14) hx hb hts i_SE hown hK hP 0 rfl rfl 1 (by decide +kernel) (hts _ w_43) (fun _ h9 => h9) hf1 (show decode prog_1_method_3_code 12 = .ok (.getfield 13, 3) by decide +kernel) ?_
  refine lv_iload_n hx hb (show decode prog_1_method_3_code 15 = .ok (.iload_n 1, 1) by decide +kernel) rfl (lv_at hl 2 rfl) ?_
  refine lv_iload_n hx hb (show decode prog_1_method_3_code 16 = .ok (.iload_n 2, 1) by decide +kernel) rfl (lv_at hl 0 rfl) ?_
  refine lv_iushr hx hb (show decode prog_1_method_3_code 17 = .ok (.iushr, 1) by decide +kernel) rfl ?_
  refine lv_topi (fun z_2 _ => ?_)
  refine lv_i2b hx hb (show decode prog_1_method_3_code 18 = .ok (.i2b, 1) by decide +kernel) rfl ?_
  refine lv_topi (fun z_3 _ => ?_)
  refine va_bast hx hb hK hP hD hS 1 0 rfl rfl (by unfold vp_in; decide) (show decode prog_1_method_3_code 19 = .ok (.bastore, 1) by decide +kernel) (fun H locs hP hD hS => ?_)
  obtain ⟨g_4, hP, hD⟩ : ∃ g_4 : Nat → Int32, va_P D cl [(h0, .inr (0, fs)), (q0, .inl (cA0, 80, .inl g_4))] H ∧ va_D _ [(h0, .inr (0, fs)), (q0, .inl (cA0, 80, .inl g_4))] := ⟨_, hP, hD⟩
  refine lv_aload_n hx hb (show decode prog_1_method_3_code 20 = .ok (.aload_n 0, 1) by decide +kernel) rfl (lv_at hl 1 rfl) ?_
  refine lv_dup hx hb (show decode prog_1_method_3_code 21 = .ok (.dup, 1) by decide +kernel) rfl ?_
  refine va_get (D := D) (ci := 0) (v := .int 12) (C := R_SE) (T := F_SE) (N := 14) hx hb hts i_SE hown hK hP 0 rfl rfl 1 (by decide +kernel) (hts _ w_43) (fun _ h9 => h9) hf1 (show decode prog_1_method_3_code 22 = .ok (.getfield 13, 3) by decide +kernel) ?_
  refine lv_iconst (v := 1) hx hb (show decode prog_1_method_3_code 25 = .ok (.iconst 1, 1) by decide +kernel) (by decide +kernel) ?_
  refine lv_iadd hx hb (show decode prog_1_method_3_code 26 = .ok (.iadd, 1) by decide +kernel) ?_
  refine xtopi (v := 13) (by decide +kernel) ?_
  refine va_put (D := D) (ci := 0) (v := .int 13) (ty := .int) (C := R_SE) (T := F_SE) (N := 14) hx hb hts i_SE t_SE t_SE_ok n_SE hown hK hP hD hS 0 rfl rfl 1 (by decide +kernel) (hts _ w_43) (fun _ h9 => h9) rfl (by decide +kernel) rfl rfl (by simp [hfl]) (show decode prog_1_method_3_code 27 = .ok (.putfield 13, 3) by decide +kernel) (fun H locs hP hD hS => ?_)
  have hP : va_P D cl [(h0, .inr (0, (fs.set 1 (.int 13)))), (q0, .inl (cA0, 80, .inl g_4))] H := hP
  have hD : va_D _ [(h0, .inr (0, (fs.set 1 (.int 13)))), (q0, .inl (cA0, 80, .inl g_4))] := hD
  refine lv_iinc (v := 16) (lv' := [(2, .int 16), (0, .ref h0), (1, .int p0)]) hx hb (show decode prog_1_method_3_code 30 = .ok (.iinc 2 (-8), 3) by decide +kernel) hl (k := 0) rfl (by decide +kernel) (by decide +kernel) rfl (fun ls hl => ?_)
  refine lv_goto (tgt := 3) hx hb (show decode prog_1_method_3_code 33 = .ok (.goto (-30), 3) by decide +kernel) (by decide +kernel) ?_
  refine lv_iload_n hx hb (show decode prog_1_method_3_code 3 = .ok (.iload_n 2, 1) by decide +kernel) rfl (lv_at hl 0 rfl) ?_
  refine lv_if_lt (tgt := 36) hx hb (show decode prog_1_method_3_code 4 = .ok (.ifCond .lt 32, 3) by decide +kernel) (by decide +kernel) (fun c_5 => absurd c_5 (by decide +kernel)) (fun c_5 => ?_)
  refine lv_aload_n hx hb (show decode prog_1_method_3_code 7 = .ok (.aload_n 0, 1) by decide +kernel) rfl (lv_at hl 1 rfl) ?_
  refine va_get (D := D) (ci := 0) (v := .ref q0) (C := R_SE) (T := F_SE) (N := 14) hx hb hts i_SE hown hK hP 0 rfl rfl 0 (by decide +kernel) (hts _ w_42) (fun _ h9 => h9) (xg_ne (by decide +kernel) ha0) (show decode prog_1_method_3_code 8 = .ok (.getfield 9, 3) by decide +kernel) ?_
  refine lv_aload_n hx hb (show decode prog_1_method_3_code 11 = .ok (.aload_n 0, 1) by decide +kernel) rfl (lv_at hl 1 rfl) ?_
  refine va_get (D := D) (ci := 0) (v := .int 13) (C := R_SE) (T := F_SE) (N := 14) hx hb hts i_SE hown hK hP 0 rfl rfl 1 (by decide +kernel) (hts _ w_43) (fun _ h9 => h9) (xg_eq (by simp [hfl])) (show decode prog_1_method_3_code 12 = .ok (.getfield 13, 3) by decide +kernel) ?_
  refine lv_iload_n hx hb (show decode prog_1_method_3_code 15 = .ok (.iload_n 1, 1) by decide +kernel) rfl (lv_at hl 2 rfl) ?_
  refine lv_iload_n hx hb (show decode prog_1_method_3_code 16 = .ok (.iload_n 2, 1) by decide +kernel) rfl (lv_at hl 0 rfl) ?_
  refine lv_iushr hx hb (show decode prog_1_method_3_code 17 = .ok (.iushr, 1) by decide +kernel) rfl ?_
  refine lv_topi (fun z_6 _ => ?_)
  refine lv_i2b hx hb (show decode prog_1_method_3_code 18 = .ok (.i2b, 1) by decide +kernel) rfl ?_
  refine lv_topi (fun z_7 _ => ?_)
  refine va_bast hx hb hK hP hD hS 1 0 rfl rfl (by unfold vp_in; decide) (show decode prog_1_method_3_code 19 = .ok (.bastore, 1) by decide +kernel) (fun H locs hP hD hS => ?_)
  obtain ⟨g_8, hP, hD⟩ : ∃ g_8 : Nat → Int32, va_P D cl [(h0, .inr (0, (fs.set 1 (.int 13)))), (q0, .inl (cA0, 80, .inl g_8))] H ∧ va_D _ [(h0, .inr (0, (fs.set 1 (.int 13)))), (q0, .inl (cA0, 80, .inl g_8))] := ⟨_, hP, hD⟩
  refine lv_aload_n hx hb (show decode prog_1_method_3_code 20 = .ok (.aload_n 0, 1) by decide +kernel) rfl (lv_at hl 1 rfl) ?_
  refine lv_dup hx hb (show decode prog_1_method_3_code 21 = .ok (.dup, 1) by decide +kernel) rfl ?_
  refine va_get (D := D) (ci := 0) (v := .int 13) (C := R_SE) (T := F_SE) (N := 14) hx hb hts i_SE hown hK hP 0 rfl rfl 1 (by decide +kernel) (hts _ w_43) (fun _ h9 => h9) (xg_eq (by simp [hfl])) (show decode prog_1_method_3_code 22 = .ok (.getfield 13, 3) by decide +kernel) ?_
  refine lv_iconst (v := 1) hx hb (show decode prog_1_method_3_code 25 = .ok (.iconst 1, 1) by decide +kernel) (by decide +kernel) ?_
  refine lv_iadd hx hb (show decode prog_1_method_3_code 26 = .ok (.iadd, 1) by decide +kernel) ?_
  refine xtopi (v := 14) (by decide +kernel) ?_
  refine va_put (D := D) (ci := 0) (v := .int 14) (ty := .int) (C := R_SE) (T := F_SE) (N := 14) hx hb hts i_SE t_SE t_SE_ok n_SE hown hK hP hD hS 0 rfl rfl 1 (by decide +kernel) (hts _ w_43) (fun _ h9 => h9) rfl (by decide +kernel) rfl rfl (by simp [hfl]) (show decode prog_1_method_3_code 27 = .ok (.putfield 13, 3) by decide +kernel) (fun H locs hP hD hS => ?_)
  have hP : va_P D cl [(h0, .inr (0, ((fs.set 1 (.int 13)).set 1 (.int 14)))), (q0, .inl (cA0, 80, .inl g_8))] H := hP
  have hD : va_D _ [(h0, .inr (0, ((fs.set 1 (.int 13)).set 1 (.int 14)))), (q0, .inl (cA0, 80, .inl g_8))] := hD
  refine lv_iinc (v := 8) (lv' := [(2, .int 8), (0, .ref h0), (1, .int p0)]) hx hb (show decode prog_1_method_3_code 30 = .ok (.iinc 2 (-8), 3) by decide +kernel) hl (k := 0) rfl (by decide +kernel) (by decide +kernel) rfl (fun ls hl => ?_)
  refine lv_goto (tgt := 3) hx hb (show decode prog_1_method_3_code 33 = .ok (.goto (-30), 3) by decide +kernel) (by decide +kernel) ?_
  refine lv_iload_n hx hb (show decode prog_1_method_3_code 3 = .ok (.iload_n 2, 1) by decide +kernel) rfl (lv_at hl 0 rfl) ?_
  refine lv_if_lt (tgt := 36) hx hb (show decode prog_1_method_3_code 4 = .ok (.ifCond .lt 32, 3) by decide +kernel) (by decide +kernel) (fun c_9 => absurd c_9 (by decide +kernel)) (fun c_9 => ?_)
  refine lv_aload_n hx hb (show decode prog_1_method_3_code 7 = .ok (.aload_n 0, 1) by decide +kernel) rfl (lv_at hl 1 rfl) ?_
  refine va_get (D := D) (ci := 0) (v := .ref q0) (C := R_SE) (T := F_SE) (N := 14) hx hb hts i_SE hown hK hP 0 rfl rfl 0 (by decide +kernel) (hts _ w_42) (fun _ h9 => h9) (xg_ne (by decide +kernel) (xg_ne (by decide +kernel) ha0)) (show decode prog_1_method_3_code 8 = .ok (.getfield 9, 3) by decide +kernel) ?_
  refine lv_aload_n hx hb (show decode prog_1_method_3_code 11 = .ok (.aload_n 0, 1) by decide +kernel) rfl (lv_at hl 1 rfl) ?_
  refine va_get (D := D) (ci := 0) (v := .int 14) (C := R_SE) (T := F_SE) (N := 14) hx hb hts i_SE hown hK hP 0 rfl rfl 1 (by decide +kernel) (hts _ w_43) (fun _ h9 => h9) (xg_eq (by simp [hfl])) (show decode prog_1_method_3_code 12 = .ok (.getfield 13, 3) by decide +kernel) ?_
  refine lv_iload_n hx hb (show decode prog_1_method_3_code 15 = .ok (.iload_n 1, 1) by decide +kernel) rfl (lv_at hl 2 rfl) ?_
  refine lv_iload_n hx hb (show decode prog_1_method_3_code 16 = .ok (.iload_n 2, 1) by decide +kernel) rfl (lv_at hl 0 rfl) ?_
  refine lv_iushr hx hb (show decode prog_1_method_3_code 17 = .ok (.iushr, 1) by decide +kernel) rfl ?_
  refine lv_topi (fun z_10 _ => ?_)
  refine lv_i2b hx hb (show decode prog_1_method_3_code 18 = .ok (.i2b, 1) by decide +kernel) rfl ?_
  refine lv_topi (fun z_11 _ => ?_)
  refine va_bast hx hb hK hP hD hS 1 0 rfl rfl (by unfold vp_in; decide) (show decode prog_1_method_3_code 19 = .ok (.bastore, 1) by decide +kernel) (fun H locs hP hD hS => ?_)
  obtain ⟨g_12, hP, hD⟩ : ∃ g_12 : Nat → Int32, va_P D cl [(h0, .inr (0, ((fs.set 1 (.int 13)).set 1 (.int 14)))), (q0, .inl (cA0, 80, .inl g_12))] H ∧ va_D _ [(h0, .inr (0, ((fs.set 1 (.int 13)).set 1 (.int 14)))), (q0, .inl (cA0, 80, .inl g_12))] := ⟨_, hP, hD⟩
  refine lv_aload_n hx hb (show decode prog_1_method_3_code 20 = .ok (.aload_n 0, 1) by decide +kernel) rfl (lv_at hl 1 rfl) ?_
  refine lv_dup hx hb (show decode prog_1_method_3_code 21 = .ok (.dup, 1) by decide +kernel) rfl ?_
  refine va_get (D := D) (ci := 0) (v := .int 14) (C := R_SE) (T := F_SE) (N := 14) hx hb hts i_SE hown hK hP 0 rfl rfl 1 (by decide +kernel) (hts _ w_43) (fun _ h9 => h9) (xg_eq (by simp [hfl])) (show decode prog_1_method_3_code 22 = .ok (.getfield 13, 3) by decide +kernel) ?_
  refine lv_iconst (v := 1) hx hb (show decode prog_1_method_3_code 25 = .ok (.iconst 1, 1) by decide +kernel) (by decide +kernel) ?_
  refine lv_iadd hx hb (show decode prog_1_method_3_code 26 = .ok (.iadd, 1) by decide +kernel) ?_
  refine xtopi (v := 15) (by decide +kernel) ?_
  refine va_put (D := D) (ci := 0) (v := .int 15) (ty := .int) (C := R_SE) (T := F_SE) (N := 14) hx hb hts i_SE t_SE t_SE_ok n_SE hown hK hP hD hS 0 rfl rfl 1 (by decide +kernel) (hts _ w_43) (fun _ h9 => h9) rfl (by decide +kernel) rfl rfl (by simp [hfl]) (show decode prog_1_method_3_code 27 = .ok (.putfield 13, 3) by decide +kernel) (fun H locs hP hD hS => ?_)
  have hP : va_P D cl [(h0, .inr (0, (((fs.set 1 (.int 13)).set 1 (.int 14)).set 1 (.int 15)))), (q0, .inl (cA0, 80, .inl g_12))] H := hP
  have hD : va_D _ [(h0, .inr (0, (((fs.set 1 (.int 13)).set 1 (.int 14)).set 1 (.int 15)))), (q0, .inl (cA0, 80, .inl g_12))] := hD
  refine lv_iinc (v := 0) (lv' := [(2, .int 0), (0, .ref h0), (1, .int p0)]) hx hb (show decode prog_1_method_3_code 30 = .ok (.iinc 2 (-8), 3) by decide +kernel) hl (k := 0) rfl (by decide +kernel) (by decide +kernel) rfl (fun ls hl => ?_)
  refine lv_goto (tgt := 3) hx hb (show decode prog_1_method_3_code 33 = .ok (.goto (-30), 3) by decide +kernel) (by decide +kernel) ?_
  refine lv_iload_n hx hb (show decode prog_1_method_3_code 3 = .ok (.iload_n 2, 1) by decide +kernel) rfl (lv_at hl 0 rfl) ?_
  refine lv_if_lt (tgt := 36) hx hb (show decode prog_1_method_3_code 4 = .ok (.ifCond .lt 32, 3) by decide +kernel) (by decide +kernel) (fun c_13 => absurd c_13 (by decide +kernel)) (fun c_13 => ?_)
  refine lv_aload_n hx hb (show decode prog_1_method_3_code 7 = .ok (.aload_n 0, 1) by decide +kernel) rfl (lv_at hl 1 rfl) ?_
  refine va_get (D := D) (ci := 0) (v := .ref q0) (C := R_SE) (T := F_SE) (N := 14) hx hb hts i_SE hown hK hP 0 rfl rfl 0 (by decide +kernel) (hts _ w_42) (fun _ h9 => h9) (xg_ne (by decide +kernel) (xg_ne (by decide +kernel) (xg_ne (by decide +kernel) ha0))) (show decode prog_1_method_3_code 8 = .ok (.getfield 9, 3) by decide +kernel) ?_
  refine lv_aload_n hx hb (show decode prog_1_method_3_code 11 = .ok (.aload_n 0, 1) by decide +kernel) rfl (lv_at hl 1 rfl) ?_
  refine va_get (D := D) (ci := 0) (v := .int 15) (C := R_SE) (T := F_SE) (N := 14) hx hb hts i_SE hown hK hP 0 rfl rfl 1 (by decide +kernel) (hts _ w_43) (fun _ h9 => h9) (xg_eq (by simp [hfl])) (show decode prog_1_method_3_code 12 = .ok (.getfield 13, 3) by decide +kernel) ?_
  refine lv_iload_n hx hb (show decode prog_1_method_3_code 15 = .ok (.iload_n 1, 1) by decide +kernel) rfl (lv_at hl 2 rfl) ?_
  refine lv_iload_n hx hb (show decode prog_1_method_3_code 16 = .ok (.iload_n 2, 1) by decide +kernel) rfl (lv_at hl 0 rfl) ?_
  refine lv_iushr hx hb (show decode prog_1_method_3_code 17 = .ok (.iushr, 1) by decide +kernel) rfl ?_
  refine lv_topi (fun z_14 _ => ?_)
  refine lv_i2b hx hb (show decode prog_1_method_3_code 18 = .ok (.i2b, 1) by decide +kernel) rfl ?_
  refine lv_topi (fun z_15 _ => ?_)
  refine va_bast hx hb hK hP hD hS 1 0 rfl rfl (by unfold vp_in; decide) (show decode prog_1_method_3_code 19 = .ok (.bastore, 1) by decide +kernel) (fun H locs hP hD hS => ?_)
  obtain ⟨g_16, hP, hD⟩ : ∃ g_16 : Nat → Int32, va_P D cl [(h0, .inr (0, (((fs.set 1 (.int 13)).set 1 (.int 14)).set 1 (.int 15)))), (q0, .inl (cA0, 80, .inl g_16))] H ∧ va_D _ [(h0, .inr (0, (((fs.set 1 (.int 13)).set 1 (.int 14)).set 1 (.int 15)))), (q0, .inl (cA0, 80, .inl g_16))] := ⟨_, hP, hD⟩
  refine lv_aload_n hx hb (show decode prog_1_method_3_code 20 = .ok (.aload_n 0, 1) by decide +kernel) rfl (lv_at hl 1 rfl) ?_
  refine lv_dup hx hb (show decode prog_1_method_3_code 21 = .ok (.dup, 1) by decide +kernel) rfl ?_
  refine va_get (D := D) (ci := 0) (v := .int 15) (C := R_SE) (T := F_SE) (N := 14) hx hb hts i_SE hown hK hP 0 rfl rfl 1 (by decide +kernel) (hts _ w_43) (fun _ h9 => h9) (xg_eq (by simp [hfl])) (show decode prog_1_method_3_code 22 = .ok (.getfield 13, 3) by decide +kernel) ?_
  refine lv_iconst (v := 1) hx hb (show decode prog_1_method_3_code 25 = .ok (.iconst 1, 1) by decide +kernel) (by decide +kernel) ?_
  refine lv_iadd hx hb (show decode prog_1_method_3_code 26 = .ok (.iadd, 1) by decide +kernel) ?_
  refine xtopi (v := 16) (by decide +kernel) ?_
  refine va_put (D := D) (ci := 0) (v := .int 16) (ty := .int) (C := R_SE) (T := F_SE) (N := 14) hx hb hts i_SE t_SE t_SE_ok n_SE hown hK hP hD hS 0 rfl rfl 1 (by decide +kernel) (hts _ w_43) (fun _ h9 => h9) rfl (by decide +kernel) rfl rfl (by simp [hfl]) (show decode prog_1_method_3_code 27 = .ok (.putfield 13, 3) by decide +kernel) (fun H locs hP hD hS => ?_)
  have hP : va_P D cl [(h0, .inr (0, ((((fs.set 1 (.int 13)).set 1 (.int 14)).set 1 (.int 15)).set 1 (.int 16)))), (q0, .inl (cA0, 80, .inl g_16))] H := hP
  have hD : va_D _ [(h0, .inr (0, ((((fs.set 1 (.int 13)).set 1 (.int 14)).set 1 (.int 15)).set 1 (.int 16)))), (q0, .inl (cA0, 80, .inl g_16))] := hD
  refine lv_iinc (v := (-8)) (lv' := [(2, .int (-8)), (0, .ref h0), (1, .int p0)]) hx hb (show decode prog_1_method_3_code 30 = .ok (.iinc 2 (-8), 3) by decide +kernel) hl (k := 0) rfl (by decide +kernel) (by decide +kernel) rfl (fun ls hl => ?_)
  refine lv_goto (tgt := 3) hx hb (show decode prog_1_method_3_code 33 = .ok (.goto (-30), 3) by decide +kernel) (by decide +kernel) ?_
  refine lv_iload_n hx hb (show decode prog_1_method_3_code 3 = .ok (.iload_n 2, 1) by decide +kernel) rfl (lv_at hl 0 rfl) ?_
  refine lv_if_lt (tgt := 36) hx hb (show decode prog_1_method_3_code 4 = .ok (.ifCond .lt 32, 3) by decide +kernel) (by decide +kernel) (fun c_17 => ?_) (fun c_17 => absurd c_17 (by decide +kernel))
  exact W.vret hx hb hr (fun t ht hW => ⟨⟨g_16, rfl, trivial, by rw [ht]; exact hP, va_K.moved hW.alike hK, hD⟩, hS.F ht⟩) hS.2.2 (show decode prog_1_method_3_code 36 = .ok (.return_, 1) by decide +kernel)
set_option maxHeartbeats 4000000 in
set_option maxRecDepth 100000 in
/-- SignalEngine.append -/
theorem c_SE_append4 (l : Launch) (D : va_G) (ad : Nat → Nat) (de sz : Nat) (h0 : Nat) (fs : List Value) (hfl : fs.length = 14) (hf1 : xfa fs 1 (.int 16)) (q0 : Nat) (cA0 : ClassId) (f0 : Nat → Int32) (ha0 : xfa fs 0 (.ref q0)) (p0 : Int32) : Met l ⟨"SignalEngine", "append", "(I)V"⟩ (tw ⟨"SignalEngine", "append", "(I)V"⟩ prog_1_method_3_code 3 none) { frames := 0, cells := 0, slots := 0, locals := 0 } (va_Pc [.ref h0, .int p0] (xp ad de D [(h0, .inr (0, fs)), (q0, .inl (cA0, 80, .inl f0))] [(cA0, .byte)] sz)) (va_Qv (fun (_ : (Nat → Int32)) => True) (fun (u : (Nat → Int32)) t => xq D (va_A [(h0, .inr (0, fs)), (q0, .inl (cA0, 80, .inl f0))] sz) [(h0, .inr (0, ((((fs.set 1 (.int 17)).set 1 (.int 18)).set 1 (.int 19)).set 1 (.int 20)))), (q0, .inl (cA0, 80, .inl u))] [(cA0, .byte)] t) (va_A [(h0, .inr (0, fs)), (q0, .inl (cA0, 80, .inl f0))] sz)) 0 0 (va_A [(h0, .inr (0, fs)), (q0, .inl (cA0, 80, .inl f0))] sz) := by
  refine xMet (by decide +kernel) (Nat.le_of_ble_eq_true rfl) ?_
  intro p e s m below meth c hx hb hr hlocks hin hml hown hts hsz hP hK hD hE hA ls hl
  have hS : va_S _ s.heap s.heap [] := va_S.rf (A := va_A [(h0, .inr (0, fs)), (q0, .inl (cA0, 80, .inl f0))] sz)
  have hl : lv_has ls 3 [(0, .ref h0), (1, .int p0)] := hl
  refine lv_bipush (v := 24) hx hb (show decode prog_1_method_3_code 0 = .ok (.bipush 24, 2) by decide +kernel) (by decide +kernel) ?_
  refine lv_istore_n (lv' := [(2, .int 24), (0, .ref h0), (1, .int p0)]) hx hb (show decode prog_1_method_3_code 2 = .ok (.istore_n 2, 1) by decide +kernel) rfl hl (by decide +kernel) rfl (fun ls hl => ?_)
  refine lv_iload_n hx hb (show decode prog_1_method_3_code 3 = .ok (.iload_n 2, 1) by decide +kernel) rfl (lv_at hl 0 rfl) ?_
  refine lv_if_lt (tgt := 36) hx hb (show decode prog_1_method_3_code 4 = .ok (.ifCond .lt 32, 3) by decide +kernel) (by decide +kernel) (fun c_1 => absurd c_1 (by decide +kernel)) (fun c_1 => ?_)
  refine lv_aload_n hx hb (show decode prog_1_method_3_code 7 = .ok (.aload_n 0, 1) by decide +kernel) rfl (lv_at hl 1 rfl) ?_
  refine va_get (D := D) (ci := 0) (v := .ref q0) (C := R_SE) (T := F_SE) (N := 14) hx hb hts i_SE hown hK hP 0 rfl rfl 0 (by decide +kernel) (hts _ w_42) (fun _ h9 => h9) ha0 (show decode prog_1_method_3_code 8 = .ok (.getfield 9, 3) by decide +kernel) ?_
  refine lv_aload_n hx hb (show decode prog_1_method_3_code 11 = .ok (.aload_n 0, 1) by decide +kernel) rfl (lv_at hl 1 rfl) ?_
  refine va_get (D := D) (ci := 0) (v := .int 16) (C := R_SE) (T := F_SE) (N := 14) hx hb hts i_SE hown hK hP 0 rfl rfl 1 (by decide +kernel) (hts _ w_43) (fun _ h9 => h9) hf1 (show decode prog_1_method_3_code 12 = .ok (.getfield 13, 3) by decide +kernel) ?_
  refine lv_iload_n hx hb (show decode prog_1_method_3_code 15 = .ok (.iload_n 1, 1) by decide +kernel) rfl (lv_at hl 2 rfl) ?_
  refine lv_iload_n hx hb (show decode prog_1_method_3_code 16 = .ok (.iload_n 2, 1) by decide +kernel) rfl (lv_at hl 0 rfl) ?_
  refine lv_iushr hx hb (show decode prog_1_method_3_code 17 = .ok (.iushr, 1) by decide +kernel) rfl ?_
  refine lv_topi (fun z_2 _ => ?_)
  refine lv_i2b hx hb (show decode prog_1_method_3_code 18 = .ok (.i2b, 1) by decide +kernel) rfl ?_
  refine lv_topi (fun z_3 _ => ?_)
  refine va_bast hx hb hK hP hD hS 1 0 rfl rfl (by unfold vp_in; decide) (show decode prog_1_method_3_code 19 = .ok (.bastore, 1) by decide +kernel) (fun H locs hP hD hS => ?_)
  obtain ⟨g_4, hP, hD⟩ : ∃ g_4 : Nat → Int32, va_P D cl [(h0, .inr (0, fs)), (q0, .inl (cA0, 80, .inl g_4))] H ∧ va_D _ [(h0, .inr (0, fs)), (q0, .inl (cA0, 80, .inl g_4))] := ⟨_, hP, hD⟩
  refine lv_aload_n hx hb (show decode prog_1_method_3_code 20 = .ok (.aload_n 0, 1) by decide +kernel) rfl (lv_at hl 1 rfl) ?_
  refine lv_dup hx hb (show decode prog_1_method_3_code 21 = .ok (.dup, 1) by decide +kernel) rfl ?_
  refine va_get (D := D) (ci := 0) (v := .int 16) (C := R_SE) (T := F_SE) (N := 14) hx hb hts i_SE hown hK hP 0 rfl rfl 1 (by decide +kernel) (hts _ w_43) (fun _ h9 => h9) hf1 (show decode prog_1_method_3_code 22 = .ok (.getfield 13, 3) by decide +kernel) ?_
  refine lv_iconst (v := 1) hx hb (show decode prog_1_method_3_code 25 = .ok (.iconst 1, 1) by decide +kernel) (by decide +kernel) ?_
  refine lv_iadd hx hb (show decode prog_1_method_3_code 26 = .ok (.iadd, 1) by decide +kernel) ?_
  refine xtopi (v := 17) (by decide +kernel) ?_
  refine va_put (D := D) (ci := 0) (v := .int 17) (ty := .int) (C := R_SE) (T := F_SE) (N := 14) hx hb hts i_SE t_SE t_SE_ok n_SE hown hK hP hD hS 0 rfl rfl 1 (by decide +kernel) (hts _ w_43) (fun _ h9 => h9) rfl (by decide +kernel) rfl rfl (by simp [hfl]) (show decode prog_1_method_3_code 27 = .ok (.putfield 13, 3) by decide +kernel) (fun H locs hP hD hS => ?_)
  have hP : va_P D cl [(h0, .inr (0, (fs.set 1 (.int 17)))), (q0, .inl (cA0, 80, .inl g_4))] H := hP
  have hD : va_D _ [(h0, .inr (0, (fs.set 1 (.int 17)))), (q0, .inl (cA0, 80, .inl g_4))] := hD
  refine lv_iinc (v := 16) (lv' := [(2, .int 16), (0, .ref h0), (1, .int p0)]) hx hb (show decode prog_1_method_3_code 30 = .ok (.iinc 2 (-8), 3) by decide +kernel) hl (k := 0) rfl (by decide +kernel) (by decide +kernel) rfl (fun ls hl => ?_)
  refine lv_goto (tgt := 3) hx hb (show decode prog_1_method_3_code 33 = .ok (.goto (-30), 3) by decide +kernel) (by decide +kernel) ?_
  refine lv_iload_n hx hb (show decode prog_1_method_3_code 3 = .ok (.iload_n 2, 1) by decide +kernel) rfl (lv_at hl 0 rfl) ?_
  refine lv_if_lt (tgt := 36) hx hb (show decode prog_1_method_3_code 4 = .ok (.ifCond .lt 32, 3) by decide +kernel) (by decide +kernel) (fun c_5 => absurd c_5 (by decide +kernel)) (fun c_5 => ?_)
  refine lv_aload_n hx hb (show decode prog_1_method_3_code 7 = .ok (.aload_n 0, 1) by decide +kernel) rfl (lv_at hl 1 rfl) ?_
  refine va_get (D := D) (ci := 0) (v := .ref q0) (C := R_SE) (T := F_SE) (N := 14) hx hb hts i_SE hown hK hP 0 rfl rfl 0 (by decide +kernel) (hts _ w_42) (fun _ h9 => h9) (xg_ne (by decide +kernel) ha0) (show decode prog_1_method_3_code 8 = .ok (.getfield 9, 3) by decide +kernel) ?_
  refine lv_aload_n hx hb (show decode prog_1_method_3_code 11 = .ok (.aload_n 0, 1) by decide +kernel) rfl (lv_at hl 1 rfl) ?_
  refine va_get (D := D) (ci := 0) (v := .int 17) (C := R_SE) (T := F_SE) (N := 14) hx hb hts i_SE hown hK hP 0 rfl rfl 1 (by decide +kernel) (hts _ w_43) (fun _ h9 => h9) (xg_eq (by simp [hfl])) (show decode prog_1_method_3_code 12 = .ok (.getfield 13, 3) by decide +kernel) ?_
  refine lv_iload_n hx hb (show decode prog_1_method_3_code 15 = .ok (.iload_n 1, 1) by decide +kernel) rfl (lv_at hl 2 rfl) ?_
  refine lv_iload_n hx hb (show decode prog_1_method_3_code 16 = .ok (.iload_n 2, 1) by decide +kernel) rfl (lv_at hl 0 rfl) ?_
  refine lv_iushr hx hb (show decode prog_1_method_3_code 17 = .ok (.iushr, 1) by decide +kernel) rfl ?_
  refine lv_topi (fun z_6 _ => ?_)
  refine lv_i2b hx hb (show decode prog_1_method_3_code 18 = .ok (.i2b, 1) by decide +kernel) rfl ?_
  refine lv_topi (fun z_7 _ => ?_)
  refine va_bast hx hb hK hP hD hS 1 0 rfl rfl (by unfold vp_in; decide) (show decode prog_1_method_3_code 19 = .ok (.bastore, 1) by decide +kernel) (fun H locs hP hD hS => ?_)
  obtain ⟨g_8, hP, hD⟩ : ∃ g_8 : Nat → Int32, va_P D cl [(h0, .inr (0, (fs.set 1 (.int 17)))), (q0, .inl (cA0, 80, .inl g_8))] H ∧ va_D _ [(h0, .inr (0, (fs.set 1 (.int 17)))), (q0, .inl (cA0, 80, .inl g_8))] := ⟨_, hP, hD⟩
  refine lv_aload_n hx hb (show decode prog_1_method_3_code 20 = .ok (.aload_n 0, 1) by decide +kernel) rfl (lv_at hl 1 rfl) ?_
  refine lv_dup hx hb (show decode prog_1_method_3_code 21 = .ok (.dup, 1) by decide +kernel) rfl ?_
  refine va_get (D := D) (ci := 0) (v := .int 17) (C := R_SE) (T := F_SE) (N := 14) hx hb hts i_SE hown hK hP 0 rfl rfl 1 (by decide +kernel) (hts _ w_43) (fun _ h9 => h9) (xg_eq (by simp [hfl])) (show decode prog_1_method_3_code 22 = .ok (.getfield 13, 3) by decide +kernel) ?_
  refine lv_iconst (v := 1) hx hb (show decode prog_1_method_3_code 25 = .ok (.iconst 1, 1) by decide +kernel) (by decide +kernel) ?_
  refine lv_iadd hx hb (show decode prog_1_method_3_code 26 = .ok (.iadd, 1) by decide +kernel) ?_
  refine xtopi (v := 18) (by decide +kernel) ?_
  refine va_put (D := D) (ci := 0) (v := .int 18) (ty := .int) (C := R_SE) (T := F_SE) (N := 14) hx hb hts i_SE t_SE t_SE_ok n_SE hown hK hP hD hS 0 rfl rfl 1 (by decide +kernel) (hts _ w_43) (fun _ h9 => h9) rfl (by decide +kernel) rfl rfl (by simp [hfl]) (show decode prog_1_method_3_code 27 = .ok (.putfield 13, 3) by decide +kernel) (fun H locs hP hD hS => ?_)
  have hP : va_P D cl [(h0, .inr (0, ((fs.set 1 (.int 17)).set 1 (.int 18)))), (q0, .inl (cA0, 80, .inl g_8))] H := hP
  have hD : va_D _ [(h0, .inr (0, ((fs.set 1 (.int 17)).set 1 (.int 18)))), (q0, .inl (cA0, 80, .inl g_8))] := hD
  refine lv_iinc (v := 8) (lv' := [(2, .int 8), (0, .ref h0), (1, .int p0)]) hx hb (show decode prog_1_method_3_code 30 = .ok (.iinc 2 (-8), 3) by decide +kernel) hl (k := 0) rfl (by decide +kernel) (by decide +kernel) rfl (fun ls hl => ?_)
  refine lv_goto (tgt := 3) hx hb (show decode prog_1_method_3_code 33 = .ok (.goto (-30), 3) by decide +kernel) (by decide +kernel) ?_
  refine lv_iload_n hx hb (show decode prog_1_method_3_code 3 = .ok (.iload_n 2, 1) by decide +kernel) rfl (lv_at hl 0 rfl) ?_
  refine lv_if_lt (tgt := 36) hx hb (show decode prog_1_method_3_code 4 = .ok (.ifCond .lt 32, 3) by decide +kernel) (by decide +kernel) (fun c_9 => absurd c_9 (by decide +kernel)) (fun c_9 => ?_)
  refine lv_aload_n hx hb (show decode prog_1_method_3_code 7 = .ok (.aload_n 0, 1) by decide +kernel) rfl (lv_at hl 1 rfl) ?_
  refine va_get (D := D) (ci := 0) (v := .ref q0) (C := R_SE) (T := F_SE) (N := 14) hx hb hts i_SE hown hK hP 0 rfl rfl 0 (by decide +kernel) (hts _ w_42) (fun _ h9 => h9) (xg_ne (by decide +kernel) (xg_ne (by decide +kernel) ha0)) (show decode prog_1_method_3_code 8 = .ok (.getfield 9, 3) by decide +kernel) ?_
  refine lv_aload_n hx hb (show decode prog_1_method_3_code 11 = .ok (.aload_n 0, 1) by decide +kernel) rfl (lv_at hl 1 rfl) ?_
  refine va_get (D := D) (ci := 0) (v := .int 18) (C := R_SE) (T := F_SE) (N := 14) hx hb hts i_SE hown hK hP 0 rfl rfl 1 (by decide +kernel) (hts _ w_43) (fun _ h9 => h9) (xg_eq (by simp [hfl])) (show decode prog_1_method_3_code 12 = .ok (.getfield 13, 3) by decide +kernel) ?_
  refine lv_iload_n hx hb (show decode prog_1_method_3_code 15 = .ok (.iload_n 1, 1) by decide +kernel) rfl (lv_at hl 2 rfl) ?_
  refine lv_iload_n hx hb (show decode prog_1_method_3_code 16 = .ok (.iload_n 2, 1) by decide +kernel) rfl (lv_at hl 0 rfl) ?_
  refine lv_iushr hx hb (show decode prog_1_method_3_code 17 = .ok (.iushr, 1) by decide +kernel) rfl ?_
  refine lv_topi (fun z_10 _ => ?_)
  refine lv_i2b hx hb (show decode prog_1_method_3_code 18 = .ok (.i2b, 1) by decide +kernel) rfl ?_
  refine lv_topi (fun z_11 _ => ?_)
  refine va_bast hx hb hK hP hD hS 1 0 rfl rfl (by unfold vp_in; decide) (show decode prog_1_method_3_code 19 = .ok (.bastore, 1) by decide +kernel) (fun H locs hP hD hS => ?_)
  obtain ⟨g_12, hP, hD⟩ : ∃ g_12 : Nat → Int32, va_P D cl [(h0, .inr (0, ((fs.set 1 (.int 17)).set 1 (.int 18)))), (q0, .inl (cA0, 80, .inl g_12))] H ∧ va_D _ [(h0, .inr (0, ((fs.set 1 (.int 17)).set 1 (.int 18)))), (q0, .inl (cA0, 80, .inl g_12))] := ⟨_, hP, hD⟩
  refine lv_aload_n hx hb (show decode prog_1_method_3_code 20 = .ok (.aload_n 0, 1) by decide +kernel) rfl (lv_at hl 1 rfl) ?_
  refine lv_dup hx hb (show decode prog_1_method_3_code 21 = .ok (.dup, 1) by decide +kernel) rfl ?_
  refine va_get (D := D) (ci := 0) (v := .int 18) (C := R_SE) (T := F_SE) (N := 14) hx hb hts i_SE hown hK hP 0 rfl rfl 1 (by decide +kernel) (hts _ w_43) (fun _ h9 => h9) (xg_eq (by simp [hfl])) (show decode prog_1_method_3_code 22 = .ok (.getfield 13, 3) by decide +kernel) ?_
  refine lv_iconst (v := 1) hx hb (show decode prog_1_method_3_code 25 = .ok (.iconst 1, 1) by decide +kernel) (by decide +kernel) ?_
  refine lv_iadd hx hb (show decode prog_1_method_3_code 26 = .ok (.iadd, 1) by decide +kernel) ?_
  refine xtopi (v := 19) (by decide +kernel) ?_
  refine va_put (D := D) (ci := 0) (v := .int 19) (ty := .int) (C := R_SE) (T := F_SE) (N := 14) hx hb hts i_SE t_SE t_SE_ok n_SE hown hK hP hD hS 0 rfl rfl 1 (by decide +kernel) (hts _ w_43) (fun _ h9 => h9) rfl (by decide +kernel) rfl rfl (by simp [hfl]) (show decode prog_1_method_3_code 27 = .ok (.putfield 13, 3) by decide +kernel) (fun H locs hP hD hS => ?_)
  have hP : va_P D cl [(h0, .inr (0, (((fs.set 1 (.int 17)).set 1 (.int 18)).set 1 (.int 19)))), (q0, .inl (cA0, 80, .inl g_12))] H := hP
  have hD : va_D _ [(h0, .inr (0, (((fs.set 1 (.int 17)).set 1 (.int 18)).set 1 (.int 19)))), (q0, .inl (cA0, 80, .inl g_12))] := hD
  refine lv_iinc (v := 0) (lv' := [(2, .int 0), (0, .ref h0), (1, .int p0)]) hx hb (show decode prog_1_method_3_code 30 = .ok (.iinc 2 (-8), 3) by decide +kernel) hl (k := 0) rfl (by decide +kernel) (by decide +kernel) rfl (fun ls hl => ?_)
  refine lv_goto (tgt := 3) hx hb (show decode prog_1_method_3_code 33 = .ok (.goto (-30), 3) by decide +kernel) (by decide +kernel) ?_
  refine lv_iload_n hx hb (show decode prog_1_method_3_code 3 = .ok (.iload_n 2, 1) by decide +kernel) rfl (lv_at hl 0 rfl) ?_
  refine lv_if_lt (tgt := 36) hx hb (show decode prog_1_method_3_code 4 = .ok (.ifCond .lt 32, 3) by decide +kernel) (by decide +kernel) (fun c_13 => absurd c_13 (by decide +kernel)) (fun c_13 => ?_)
  refine lv_aload_n hx hb (show decode prog_1_method_3_code 7 = .ok (.aload_n 0, 1) by decide +kernel) rfl (lv_at hl 1 rfl) ?_
  refine va_get (D := D) (ci := 0) (v := .ref q0) (C := R_SE) (T := F_SE) (N := 14) hx hb hts i_SE hown hK hP 0 rfl rfl 0 (by decide +kernel) (hts _ w_42) (fun _ h9 => h9) (xg_ne (by decide +kernel) (xg_ne (by decide +kernel) (xg_ne (by decide +kernel) ha0))) (show decode prog_1_method_3_code 8 = .ok (.getfield 9, 3) by decide +kernel) ?_
  refine lv_aload_n hx hb (show decode prog_1_method_3_code 11 = .ok (.aload_n 0, 1) by decide +kernel) rfl (lv_at hl 1 rfl) ?_
  refine va_get (D := D) (ci := 0) (v := .int 19) (C := R_SE) (T := F_SE) (N := 14) hx hb hts i_SE hown hK hP 0 rfl rfl 1 (by decide +kernel) (hts _ w_43) (fun _ h9 => h9) (xg_eq (by simp [hfl])) (show decode prog_1_method_3_code 12 = .ok (.getfield 13, 3) by decide +kernel) ?_
  refine lv_iload_n hx hb (show decode prog_1_method_3_code 15 = .ok (.iload_n 1, 1) by decide +kernel) rfl (lv_at hl 2 rfl) ?_
  refine lv_iload_n hx hb (show decode prog_1_method_3_code 16 = .ok (.iload_n 2, 1) by decide +kernel) rfl (lv_at hl 0 rfl) ?_
  refine lv_iushr hx hb (show decode prog_1_method_3_code 17 = .ok (.iushr, 1) by decide +kernel) rfl ?_
  refine lv_topi (fun z_14 _ => ?_)
  refine lv_i2b hx hb (show decode prog_1_method_3_code 18 = .ok (.i2b, 1) by decide +kernel) rfl ?_
  refine lv_topi (fun z_15 _ => ?_)
  refine va_bast hx hb hK hP hD hS 1 0 rfl rfl (by unfold vp_in; decide) (show decode prog_1_method_3_code 19 = .ok (.bastore, 1) by decide +kernel) (fun H locs hP hD hS => ?_)
  obtain ⟨g_16, hP, hD⟩ : ∃ g_16 : Nat → Int32, va_P D cl [(h0, .inr (0, (((fs.set 1 (.int 17)).set 1 (.int 18)).set 1 (.int 19)))), (q0, .inl (cA0, 80, .inl g_16))] H ∧ va_D _ [(h0, .inr (0, (((fs.set 1 (.int 17)).set 1 (.int 18)).set 1 (.int 19)))), (q0, .inl (cA0, 80, .inl g_16))] := ⟨_, hP, hD⟩
  refine lv_aload_n hx hb (show decode prog_1_method_3_code 20 = .ok (.aload_n 0, 1) by decide +kernel) rfl (lv_at hl 1 rfl) ?_
  refine lv_dup hx hb (show decode prog_1_method_3_code 21 = .ok (.dup, 1) by decide +kernel) rfl ?_
  refine va_get (D := D) (ci := 0) (v := .int 19) (C := R_SE) (T := F_SE) (N := 14) hx hb hts i_SE hown hK hP 0 rfl rfl 1 (by decide +kernel) (hts _ w_43) (fun _ h9 => h9) (xg_eq (by simp [hfl])) (show decode prog_1_method_3_code 22 = .ok (.getfield 13, 3) by decide +kernel) ?_
  refine lv_iconst (v := 1) hx hb (show decode prog_1_method_3_code 25 = .ok (.iconst 1, 1) by decide +kernel) (by decide +kernel) ?_
  refine lv_iadd hx hb (show decode prog_1_method_3_code 26 = .ok (.iadd, 1) by decide +kernel) ?_
  refine xtopi (v := 20) (by decide +kernel) ?_
  refine va_put (D := D) (ci := 0) (v := .int 20) (ty := .int) (C := R_SE) (T := F_SE) (N := 14) hx hb hts i_SE t_SE t_SE_ok n_SE hown hK hP hD hS 0 rfl rfl 1 (by decide +kernel) (hts _ w_43) (fun _ h9 => h9) rfl (by decide +kernel) rfl rfl (by simp [hfl]) (show decode prog_1_method_3_code 27 = .ok (.putfield 13, 3) by decide +kernel) (fun H locs hP hD hS => ?_)
  have hP : va_P D cl [(h0, .inr (0, ((((fs.set 1 (.int 17)).set 1 (.int 18)).set 1 (.int 19)).set 1 (.int 20)))), (q0, .inl (cA0, 80, .inl g_16))] H := hP
  have hD : va_D _ [(h0, .inr (0, ((((fs.set 1 (.int 17)).set 1 (.int 18)).set 1 (.int 19)).set 1 (.int 20)))), (q0, .inl (cA0, 80, .inl g_16))] := hD
  refine lv_iinc (v := (-8)) (lv' := [(2, .int (-8)), (0, .ref h0), (1, .int p0)]) hx hb (show decode prog_1_method_3_code 30 = .ok (.iinc 2 (-8), 3) by decide +kernel) hl (k := 0) rfl (by decide +kernel) (by decide +kernel) rfl (fun ls hl => ?_)
  refine lv_goto (tgt := 3) hx hb (show decode prog_1_method_3_code 33 = .ok (.goto (-30), 3) by decide +kernel) (by decide +kernel) ?_
  refine lv_iload_n hx hb (show decode prog_1_method_3_code 3 = .ok (.iload_n 2, 1) by decide +kernel) rfl (lv_at hl 0 rfl) ?_
  refine lv_if_lt (tgt := 36) hx hb (show decode prog_1_method_3_code 4 = .ok (.ifCond .lt 32, 3) by decide +kernel) (by decide +kernel) (fun c_17 => ?_) (fun c_17 => absurd c_17 (by decide +kernel))
  exact W.vret hx hb hr (fun t ht hW => ⟨⟨g_16, rfl, trivial, by rw [ht]; exact hP, va_K.moved hW.alike hK, hD⟩, hS.F ht⟩) hS.2.2 (show decode prog_1_method_3_code 36 = .ok (.return_, 1) by decide +kernel)
set_option maxHeartbeats 4000000 in
set_option maxRecDepth 100000 in
/-- SignalEngine.feed -/
theorem c_SE_feed0 (l : Launch) (D : va_G) (ad : Nat → Nat) (de sz : Nat) (h0 : Nat) (fs : List Value) (hfl : fs.length = 14) (hf1 : xfa fs 1 (.int 0)) (q0 : Nat) (cA0 : ClassId) (f0 : Nat → Int32) (ha0 : xfa fs 0 (.ref q0)) (p0 : Int32) (p1 : Int32) (p2 : Int32) (p3 : Int32) (p4 : Int32) : Met l ⟨"SignalEngine", "feed", "(IIIII)I"⟩ (tw ⟨"SignalEngine", "feed", "(IIIII)I"⟩ prog_1_method_2_code 6 (some (.int))) { frames := 1, cells := 0, slots := 0, locals := 22 } (va_Pc [.ref h0, .int p0, .int p1, .int p2, .int p3, .int p4] (xp ad de D [(h0, .inr (0, fs)), (q0, .inl (cA0, 80, .inl f0))] [(cA0, .byte)] sz)) (va_Qi (fun (r : Int32) (_ : (Nat → Int32)) => r = 20) (fun (u : (Nat → Int32)) t => xq D (va_A [(h0, .inr (0, fs)), (q0, .inl (cA0, 80, .inl f0))] sz) [(h0, .inr (0, (((((((((((((((((((((fs.set 1 (.int 1)).set 1 (.int 2)).set 1 (.int 3)).set 1 (.int 4)).set 1 (.int 5)).set 1 (.int 6)).set 1 (.int 7)).set 1 (.int 8)).set 1 (.int 9)).set 1 (.int 10)).set 1 (.int 11)).set 1 (.int 12)).set 1 (.int 13)).set 1 (.int 14)).set 1 (.int 15)).set 1 (.int 16)).set 1 (.int 17)).set 1 (.int 18)).set 1 (.int 19)).set 1 (.int 20)).set 2 (.int 1)))), (q0, .inl (cA0, 80, .inl u))] [(cA0, .byte)] t) (va_A [(h0, .inr (0, fs)), (q0, .inl (cA0, 80, .inl f0))] sz)) 0 0 (va_A [(h0, .inr (0, fs)), (q0, .inl (cA0, 80, .inl f0))] sz) := by
  refine xMet (by decide +kernel) (Nat.le_of_ble_eq_true rfl) ?_
  intro p e s m below meth c hx hb hr hlocks hin hml hown hts hsz hP hK hD hE hA ls hl
  have hS : va_S _ s.heap s.heap [] := va_S.rf (A := va_A [(h0, .inr (0, fs)), (q0, .inl (cA0, 80, .inl f0))] sz)
  have hl : lv_has ls 6 [(0, .ref h0), (1, .int p0), (2, .int p1), (3, .int p2), (4, .int p3), (5, .int p4)] := hl
  refine lv_aload_n hx hb (show decode prog_1_method_2_code 0 = .ok (.aload_n 0, 1) by decide +kernel) rfl (lv_at hl 0 rfl) ?_
  refine va_get (D := D) (ci := 0) (v := .int 0) (C := R_SE) (T := F_SE) (N := 14) hx hb hts i_SE hown hK hP 0 rfl rfl 1 (by decide +kernel) (hts _ w_43) (fun _ h9 => h9) hf1 (show decode prog_1_method_2_code 1 = .ok (.getfield 13, 3) by decide +kernel) ?_
  refine lv_bipush (v := 20) hx hb (show decode prog_1_method_2_code 4 = .ok (.bipush 20, 2) by decide +kernel) (by decide +kernel) ?_
  refine lv_iadd hx hb (show decode prog_1_method_2_code 6 = .ok (.iadd, 1) by decide +kernel) ?_
  refine xtopi (v := 20) (by decide +kernel) ?_
  refine lv_ldc (v := 32768) hx hb hown (hts _ w_90) (show decode prog_1_method_2_code 7 = .ok (.ldc 17, 2) by decide +kernel) ?_
  refine lv_icmp_le (tgt := 14) hx hb (show decode prog_1_method_2_code 9 = .ok (.if_icmp .le 5, 3) by decide +kernel) (by decide +kernel) (fun c_1 => ?_) (fun c_1 => absurd c_1 (by decide +kernel))
  refine lv_aload_n hx hb (show decode prog_1_method_2_code 14 = .ok (.aload_n 0, 1) by decide +kernel) rfl (lv_at hl 0 rfl) ?_
  refine va_get (D := D) (ci := 0) (v := .int 0) (C := R_SE) (T := F_SE) (N := 14) hx hb hts i_SE hown hK hP 0 rfl rfl 1 (by decide +kernel) (hts _ w_43) (fun _ h9 => h9) hf1 (show decode prog_1_method_2_code 15 = .ok (.getfield 13, 3) by decide +kernel) ?_
  refine lv_bipush (v := 20) hx hb (show decode prog_1_method_2_code 18 = .ok (.bipush 20, 2) by decide +kernel) (by decide +kernel) ?_
  refine lv_iadd hx hb (show decode prog_1_method_2_code 20 = .ok (.iadd, 1) by decide +kernel) ?_
  refine xtopi (v := 20) (by decide +kernel) ?_
  refine lv_aload_n hx hb (show decode prog_1_method_2_code 21 = .ok (.aload_n 0, 1) by decide +kernel) rfl (lv_at hl 0 rfl) ?_
  refine va_get (D := D) (ci := 0) (v := .ref q0) (C := R_SE) (T := F_SE) (N := 14) hx hb hts i_SE hown hK hP 0 rfl rfl 0 (by decide +kernel) (hts _ w_42) (fun _ h9 => h9) ha0 (show decode prog_1_method_2_code 22 = .ok (.getfield 9, 3) by decide +kernel) ?_
  refine va_alen (v := 80) hx hb hK hP 1 0 rfl rfl rfl (show decode prog_1_method_2_code 25 = .ok (.arraylength, 1) by decide +kernel) ?_
  refine lv_icmp_le (tgt := 47) hx hb (show decode prog_1_method_2_code 26 = .ok (.if_icmp .le 21, 3) by decide +kernel) (by decide +kernel) (fun c_2 => ?_) (fun c_2 => absurd c_2 (by decide +kernel))
  refine lv_aload_n hx hb (show decode prog_1_method_2_code 47 = .ok (.aload_n 0, 1) by decide +kernel) rfl (lv_at hl 0 rfl) ?_
  refine lv_iload_n hx hb (show decode prog_1_method_2_code 48 = .ok (.iload_n 1, 1) by decide +kernel) rfl (lv_at hl 1 rfl) ?_
  refine xkv (wr := []) (xrV (As := [.int p0]) (rest := []) ⟨hx, hb, hml, hown, hts⟩ (c_SE_append0 l D ad de s.heap.size h0 fs hfl hf1 q0 cA0 f0 ha0 p0) w_110 w_1 w_107 w_109 wp_0 rfl rfl ⟨by decide +kernel, by decide +kernel, rfl⟩ ⟨by decide +kernel, by decide +kernel⟩ hP hK hD hE hS hA [0, 1] [0] rfl (by decide +kernel) rfl ⟨0, 0, _, _, rfl, rfl, rfl⟩ hl.1 rfl (Nat.le_of_ble_eq_true rfl) (show decode prog_1_method_2_code 49 = .ok (.invokevirtual 24, 3) by decide +kernel) ⟨by decide +kernel, by decide +kernel⟩) hP hK hD hS hA [0, 1] [] rfl rfl (by decide +kernel) (by decide +kernel) (fun u_4 H locs hw_5 hP hK hD hS => ?_)
  have hP : va_P D cl [(h0, .inr (0, ((((fs.set 1 (.int 1)).set 1 (.int 2)).set 1 (.int 3)).set 1 (.int 4)))), (q0, .inl (cA0, 80, .inl u_4))] H := hP
  have hD : va_D _ [(h0, .inr (0, ((((fs.set 1 (.int 1)).set 1 (.int 2)).set 1 (.int 3)).set 1 (.int 4)))), (q0, .inl (cA0, 80, .inl u_4))] := hD
  have hK : va_K D cl [(cA0, .byte), (cA0, .byte)] s := hK
  refine W.widen (k := 0) (n := 0) (by decide +kernel) (by decide +kernel) ?_
  refine lv_aload_n hx hb (show decode prog_1_method_2_code 52 = .ok (.aload_n 0, 1) by decide +kernel) rfl (lv_at hl 0 rfl) ?_
  refine lv_iload_n hx hb (show decode prog_1_method_2_code 53 = .ok (.iload_n 2, 1) by decide +kernel) rfl (lv_at hl 2 rfl) ?_
  refine xkv (wr := []) (xrV (As := [.int p1]) (rest := []) ⟨hx, hb, hml, hown, hts⟩ (c_SE_append1 l D ad de H.size h0 ((((fs.set 1 (.int 1)).set 1 (.int 2)).set 1 (.int 3)).set 1 (.int 4)) (by simp [hfl]) (xg_eq (by simp [hfl])) q0 cA0 u_4 (xg_ne (by decide +kernel) (xg_ne (by decide +kernel) (xg_ne (by decide +kernel) (xg_ne (by decide +kernel) ha0)))) p1) w_110 w_1 w_107 w_109 wp_0 rfl rfl ⟨by decide +kernel, by decide +kernel, rfl⟩ ⟨by decide +kernel, by decide +kernel⟩ hP hK hD hE hS hA [0, 1] [0] rfl (by decide +kernel) rfl ⟨0, 0, _, _, rfl, rfl, rfl⟩ hl.1 rfl (Nat.le_of_ble_eq_true rfl) (show decode prog_1_method_2_code 54 = .ok (.invokevirtual 24, 3) by decide +kernel) ⟨by decide +kernel, by decide +kernel⟩) hP hK hD hS hA [0, 1] [] rfl rfl (by decide +kernel) (by decide +kernel) (fun u_7 H locs hw_8 hP hK hD hS => ?_)
  have hP : va_P D cl [(h0, .inr (0, ((((((((fs.set 1 (.int 1)).set 1 (.int 2)).set 1 (.int 3)).set 1 (.int 4)).set 1 (.int 5)).set 1 (.int 6)).set 1 (.int 7)).set 1 (.int 8)))), (q0, .inl (cA0, 80, .inl u_7))] H := hP
  have hD : va_D _ [(h0, .inr (0, ((((((((fs.set 1 (.int 1)).set 1 (.int 2)).set 1 (.int 3)).set 1 (.int 4)).set 1 (.int 5)).set 1 (.int 6)).set 1 (.int 7)).set 1 (.int 8)))), (q0, .inl (cA0, 80, .inl u_7))] := hD
  have hK : va_K D cl [(cA0, .byte), (cA0, .byte), (cA0, .byte)] s := hK
  refine W.widen (k := 0) (n := 0) (by decide +kernel) (by decide +kernel) ?_
  refine lv_aload_n hx hb (show decode prog_1_method_2_code 57 = .ok (.aload_n 0, 1) by decide +kernel) rfl (lv_at hl 0 rfl) ?_
  refine lv_iload_n hx hb (show decode prog_1_method_2_code 58 = .ok (.iload_n 3, 1) by decide +kernel) rfl (lv_at hl 3 rfl) ?_
  refine xkv (wr := []) (xrV (As := [.int p2]) (rest := []) ⟨hx, hb, hml, hown, hts⟩ (c_SE_append2 l D ad de H.size h0 ((((((((fs.set 1 (.int 1)).set 1 (.int 2)).set 1 (.int 3)).set 1 (.int 4)).set 1 (.int 5)).set 1 (.int 6)).set 1 (.int 7)).set 1 (.int 8)) (by simp [hfl]) (xg_eq (by simp [hfl])) q0 cA0 u_7 (xg_ne (by decide +kernel) (xg_ne (by decide +kernel) (xg_ne (by decide +kernel) (xg_ne (by decide +kernel) (xg_ne (by decide +kernel) (xg_ne (by decide +kernel) (xg_ne (by decide +kernel) (xg_ne (by decide +kernel) ha0)))))))) p2) w_110 w_1 w_107 w_109 wp_0 rfl rfl ⟨by decide +kernel, by decide +kernel, rfl⟩ ⟨by decide +kernel, by decide +kernel⟩ hP hK hD hE hS hA [0, 1] [0] rfl (by decide +kernel) rfl ⟨0, 0, _, _, rfl, rfl, rfl⟩ hl.1 rfl (Nat.le_of_ble_eq_true rfl) (show decode prog_1_method_2_code 59 = .ok (.invokevirtual 24, 3) by decide +kernel) ⟨by decide +kernel, by decide +kernel⟩) hP hK hD hS hA [0, 1] [] rfl rfl (by decide +kernel) (by decide +kernel) (fun u_10 H locs hw_11 hP hK hD hS => ?_)
  have hP : va_P D cl [(h0, .inr (0, ((((((((((((fs.set 1 (.int 1)).set 1 (.int 2)).set 1 (.int 3)).set 1 (.int 4)).set 1 (.int 5)).set 1 (.int 6)).set 1 (.int 7)).set 1 (.int 8)).set 1 (.int 9)).set 1 (.int 10)).set 1 (.int 11)).set 1 (.int 12)))), (q0, .inl (cA0, 80, .inl u_10))] H := hP
  have hD : va_D _ [(h0, .inr (0, ((((((((((((fs.set 1 (.int 1)).set 1 (.int 2)).set 1 (.int 3)).set 1 (.int 4)).set 1 (.int 5)).set 1 (.int 6)).set 1 (.int 7)).set 1 (.int 8)).set 1 (.int 9)).set 1 (.int 10)).set 1 (.int 11)).set 1 (.int 12)))), (q0, .inl (cA0, 80, .inl u_10))] := hD
  have hK : va_K D cl [(cA0, .byte), (cA0, .byte), (cA0, .byte), (cA0, .byte)] s := hK
  refine W.widen (k := 0) (n := 0) (by decide +kernel) (by decide +kernel) ?_
  refine lv_aload_n hx hb (show decode prog_1_method_2_code 62 = .ok (.aload_n 0, 1) by decide +kernel) rfl (lv_at hl 0 rfl) ?_
  refine lv_iload hx hb (show decode prog_1_method_2_code 63 = .ok (.iload 4, 2) by decide +kernel) (lv_at hl 4 rfl) ?_
  refine xkv (wr := []) (xrV (As := [.int p3]) (rest := []) ⟨hx, hb, hml, hown, hts⟩ (c_SE_append3 l D ad de H.size h0 ((((((((((((fs.set 1 (.int 1)).set 1 (.int 2)).set 1 (.int 3)).set 1 (.int 4)).set 1 (.int 5)).set 1 (.int 6)).set 1 (.int 7)).set 1 (.int 8)).set 1 (.int 9)).set 1 (.int 10)).set 1 (.int 11)).set 1 (.int 12)) (by simp [hfl]) (xg_eq (by simp [hfl])) q0 cA0 u_10 (xg_ne (by decide +kernel) (xg_ne (by decide +kernel) (xg_ne (by decide +kernel) (xg_ne (by decide +kernel) (xg_ne (by decide +kernel) (xg_ne (by decide +kernel) (xg_ne (by decide +kernel) (xg_ne (by decide +kernel) (xg_ne (by decide +kernel) (xg_ne (by decide +kernel) (xg_ne (by decide +kernel) (xg_ne (by decide +kernel) ha0)))))))))))) p3) w_110 w_1 w_107 w_109 wp_0 rfl rfl ⟨by decide +kernel, by decide +kernel, rfl⟩ ⟨by decide +kernel, by decide +kernel⟩ hP hK hD hE hS hA [0, 1] [0] rfl (by decide +kernel) rfl ⟨0, 0, _, _, rfl, rfl, rfl⟩ hl.1 rfl (Nat.le_of_ble_eq_true rfl) (show decode prog_1_method_2_code 65 = .ok (.invokevirtual 24, 3) by decide +kernel) ⟨by decide +kernel, by decide +kernel⟩) hP hK hD hS hA [0, 1] [] rfl rfl (by decide +kernel) (by decide +kernel) (fun u_13 H locs hw_14 hP hK hD hS => ?_)
  have hP : va_P D cl [(h0, .inr (0, ((((((((((((((((fs.set 1 (.int 1)).set 1 (.int 2)).set 1 (.int 3)).set 1 (.int 4)).set 1 (.int 5)).set 1 (.int 6)).set 1 (.int 7)).set 1 (.int 8)).set 1 (.int 9)).set 1 (.int 10)).set 1 (.int 11)).set 1 (.int 12)).set 1 (.int 13)).set 1 (.int 14)).set 1 (.int 15)).set 1 (.int 16)))), (q0, .inl (cA0, 80, .inl u_13))] H := hP
  have hD : va_D _ [(h0, .inr (0, ((((((((((((((((fs.set 1 (.int 1)).set 1 (.int 2)).set 1 (.int 3)).set 1 (.int 4)).set 1 (.int 5)).set 1 (.int 6)).set 1 (.int 7)).set 1 (.int 8)).set 1 (.int 9)).set 1 (.int 10)).set 1 (.int 11)).set 1 (.int 12)).set 1 (.int 13)).set 1 (.int 14)).set 1 (.int 15)).set 1 (.int 16)))), (q0, .inl (cA0, 80, .inl u_13))] := hD
  have hK : va_K D cl [(cA0, .byte), (cA0, .byte), (cA0, .byte), (cA0, .byte), (cA0, .byte)] s := hK
  refine W.widen (k := 0) (n := 0) (by decide +kernel) (by decide +kernel) ?_
  refine lv_aload_n hx hb (show decode prog_1_method_2_code 68 = .ok (.aload_n 0, 1) by decide +kernel) rfl (lv_at hl 0 rfl) ?_
  refine lv_iload hx hb (show decode prog_1_method_2_code 69 = .ok (.iload 5, 2) by decide +kernel) (lv_at hl 5 rfl) ?_
  refine xkv (wr := []) (xrV (As := [.int p4]) (rest := []) ⟨hx, hb, hml, hown, hts⟩ (c_SE_append4 l D ad de H.size h0 ((((((((((((((((fs.set 1 (.int 1)).set 1 (.int 2)).set 1 (.int 3)).set 1 (.int 4)).set 1 (.int 5)).set 1 (.int 6)).set 1 (.int 7)).set 1 (.int 8)).set 1 (.int 9)).set 1 (.int 10)).set 1 (.int 11)).set 1 (.int 12)).set 1 (.int 13)).set 1 (.int 14)).set 1 (.int 15)).set 1 (.int 16)) (by simp [hfl]) (xg_eq (by simp [hfl])) q0 cA0 u_13 (xg_ne (by decide +kernel) (xg_ne (by decide +kernel) (xg_ne (by decide +kernel) (xg_ne (by decide +kernel) (xg_ne (by decide +kernel) (xg_ne (by decide +kernel) (xg_ne (by decide +kernel) (xg_ne (by decide +kernel) (xg_ne (by decide +kernel) (xg_ne (by decide +kernel) (xg_ne (by decide +kernel) (xg_ne (by decide +kernel) (xg_ne (by decide +kernel) (xg_ne (by decide +kernel) (xg_ne (by decide +kernel) (xg_ne (by decide +kernel) ha0)))))))))))))))) p4) w_110 w_1 w_107 w_109 wp_0 rfl rfl ⟨by decide +kernel, by decide +kernel, rfl⟩ ⟨by decide +kernel, by decide +kernel⟩ hP hK hD hE hS hA [0, 1] [0] rfl (by decide +kernel) rfl ⟨0, 0, _, _, rfl, rfl, rfl⟩ hl.1 rfl (Nat.le_of_ble_eq_true rfl) (show decode prog_1_method_2_code 71 = .ok (.invokevirtual 24, 3) by decide +kernel) ⟨by decide +kernel, by decide +kernel⟩) hP hK hD hS hA [0, 1] [] rfl rfl (by decide +kernel) (by decide +kernel) (fun u_16 H locs hw_17 hP hK hD hS => ?_)
  have hP : va_P D cl [(h0, .inr (0, ((((((((((((((((((((fs.set 1 (.int 1)).set 1 (.int 2)).set 1 (.int 3)).set 1 (.int 4)).set 1 (.int 5)).set 1 (.int 6)).set 1 (.int 7)).set 1 (.int 8)).set 1 (.int 9)).set 1 (.int 10)).set 1 (.int 11)).set 1 (.int 12)).set 1 (.int 13)).set 1 (.int 14)).set 1 (.int 15)).set 1 (.int 16)).set 1 (.int 17)).set 1 (.int 18)).set 1 (.int 19)).set 1 (.int 20)))), (q0, .inl (cA0, 80, .inl u_16))] H := hP
  have hD : va_D _ [(h0, .inr (0, ((((((((((((((((((((fs.set 1 (.int 1)).set 1 (.int 2)).set 1 (.int 3)).set 1 (.int 4)).set 1 (.int 5)).set 1 (.int 6)).set 1 (.int 7)).set 1 (.int 8)).set 1 (.int 9)).set 1 (.int 10)).set 1 (.int 11)).set 1 (.int 12)).set 1 (.int 13)).set 1 (.int 14)).set 1 (.int 15)).set 1 (.int 16)).set 1 (.int 17)).set 1 (.int 18)).set 1 (.int 19)).set 1 (.int 20)))), (q0, .inl (cA0, 80, .inl u_16))] := hD
  have hK : va_K D cl [(cA0, .byte), (cA0, .byte), (cA0, .byte), (cA0, .byte), (cA0, .byte), (cA0, .byte)] s := hK
  refine W.widen (k := 0) (n := 0) (by decide +kernel) (by decide +kernel) ?_
  refine lv_aload_n hx hb (show decode prog_1_method_2_code 74 = .ok (.aload_n 0, 1) by decide +kernel) rfl (lv_at hl 0 rfl) ?_
  refine lv_iconst (v := 1) hx hb (show decode prog_1_method_2_code 75 = .ok (.iconst 1, 1) by decide +kernel) (by decide +kernel) ?_
  refine va_put (D := D) (ci := 0) (v := .int 1) (ty := .boolean) (C := R_SE) (T := F_SE) (N := 14) hx hb hts i_SE t_SE t_SE_ok n_SE hown hK hP hD hS 0 rfl rfl 2 (by decide +kernel) (hts _ w_44) (fun _ h9 => h9) rfl (by decide +kernel) (by decide +kernel) rfl (by simp [hfl]) (show decode prog_1_method_2_code 76 = .ok (.putfield 28, 3) by decide +kernel) (fun H locs hP hD hS => ?_)
  have hP : va_P D cl [(h0, .inr (0, (((((((((((((((((((((fs.set 1 (.int 1)).set 1 (.int 2)).set 1 (.int 3)).set 1 (.int 4)).set 1 (.int 5)).set 1 (.int 6)).set 1 (.int 7)).set 1 (.int 8)).set 1 (.int 9)).set 1 (.int 10)).set 1 (.int 11)).set 1 (.int 12)).set 1 (.int 13)).set 1 (.int 14)).set 1 (.int 15)).set 1 (.int 16)).set 1 (.int 17)).set 1 (.int 18)).set 1 (.int 19)).set 1 (.int 20)).set 2 (.int 1)))), (q0, .inl (cA0, 80, .inl u_16))] H := hP
  have hD : va_D _ [(h0, .inr (0, (((((((((((((((((((((fs.set 1 (.int 1)).set 1 (.int 2)).set 1 (.int 3)).set 1 (.int 4)).set 1 (.int 5)).set 1 (.int 6)).set 1 (.int 7)).set 1 (.int 8)).set 1 (.int 9)).set 1 (.int 10)).set 1 (.int 11)).set 1 (.int 12)).set 1 (.int 13)).set 1 (.int 14)).set 1 (.int 15)).set 1 (.int 16)).set 1 (.int 17)).set 1 (.int 18)).set 1 (.int 19)).set 1 (.int 20)).set 2 (.int 1)))), (q0, .inl (cA0, 80, .inl u_16))] := hD
  refine lv_aload_n hx hb (show decode prog_1_method_2_code 79 = .ok (.aload_n 0, 1) by decide +kernel) rfl (lv_at hl 0 rfl) ?_
  refine va_get (D := D) (ci := 0) (v := .int 20) (C := R_SE) (T := F_SE) (N := 14) hx hb hts i_SE hown hK hP 0 rfl rfl 1 (by decide +kernel) (hts _ w_43) (fun _ h9 => h9) (xg_ne (by decide +kernel) (xg_eq (by simp [hfl]))) (show decode prog_1_method_2_code 80 = .ok (.getfield 13, 3) by decide +kernel) ?_
  exact W.iret (v := 20) hx hb hr (fun t ht hW => ⟨⟨20, u_16, rfl, rfl, by rw [ht]; exact hP, va_K.moved hW.alike (hK.sub [0] rfl), hD⟩, hS.F ht⟩) hS.2.2 (show decode prog_1_method_2_code 83 = .ok (.ireturn, 1) by decide +kernel)
set_option maxHeartbeats 4000000 in
set_option maxRecDepth 100000 in
/-- SignalEngineModel.feed -/
theorem c_MD_feed0 (l : Launch) (D : va_G) (ad : Nat → Nat) (de sz : Nat) (h0 : Nat) (fs : List Value) (hfl : fs.length = 107) (hf2 : xfa fs 2 (.int 0)) (q0 : Nat) (cA0 : ClassId) (f0 : Nat → Int32) (ha0 : xfa fs 1 (.ref q0)) (p0 : Int32) (p1 : Int32) (p2 : Int32) (p3 : Int32) (p4 : Int32) : Met l ⟨"SignalEngineModel", "feed", "(IIIII)I"⟩ (tw ⟨"SignalEngineModel", "feed", "(IIIII)I"⟩ prog_15_method_4_code 8 (some (.int))) { frames := 0, cells := 0, slots := 0, locals := 0 } (va_Pc [.ref h0, .int p0, .int p1, .int p2, .int p3, .int p4] (xp ad de D [(h0, .inr (1, fs)), (q0, .inl (cA0, 32768, .inl f0))] [(cA0, .byte)] sz)) (va_Qi (fun (r : Int32) (_ : (Nat → Int32)) => r = 20) (fun (u : (Nat → Int32)) t => xq D (va_A [(h0, .inr (1, fs)), (q0, .inl (cA0, 32768, .inl f0))] sz) [(h0, .inr (1, (((fs.set 0 (.int 0)).set 2 (.int 20)).set 3 (.int 1)))), (q0, .inl (cA0, 32768, .inl u))] [(cA0, .byte)] t) (va_A [(h0, .inr (1, fs)), (q0, .inl (cA0, 32768, .inl f0))] sz)) 0 0 (va_A [(h0, .inr (1, fs)), (q0, .inl (cA0, 32768, .inl f0))] sz) := by
  refine xMet (by decide +kernel) (Nat.le_of_ble_eq_true rfl) ?_
  intro p e s m below meth c hx hb hr hlocks hin hml hown hts hsz hP hK hD hE hA ls hl
  have hS : va_S _ s.heap s.heap [] := va_S.rf (A := va_A [(h0, .inr (1, fs)), (q0, .inl (cA0, 32768, .inl f0))] sz)
  have hl : lv_has ls 8 [(0, .ref h0), (1, .int p0), (2, .int p1), (3, .int p2), (4, .int p3), (5, .int p4)] := hl
  refine lv_aload_n hx hb (show decode prog_15_method_4_code 0 = .ok (.aload_n 0, 1) by decide +kernel) rfl (lv_at hl 0 rfl) ?_
  refine lv_iconst (v := 0) hx hb (show decode prog_15_method_4_code 1 = .ok (.iconst 0, 1) by decide +kernel) (by decide +kernel) ?_
  refine va_put (D := D) (ci := 1) (v := .int 0) (ty := .int) (C := R_MD) (T := F_MD) (N := 107) hx hb hts i_MD t_MD t_MD_ok n_MD hown hK hP hD hS 0 rfl rfl 0 (by decide +kernel) (hts _ w_1562) (fun _ h9 => h9) rfl (by decide +kernel) rfl rfl (by simp [hfl]) (show decode prog_15_method_4_code 2 = .ok (.putfield 206, 3) by decide +kernel) (fun H locs hP hD hS => ?_)
  have hP : va_P D cl [(h0, .inr (1, (fs.set 0 (.int 0)))), (q0, .inl (cA0, 32768, .inl f0))] H := hP
  have hD : va_D _ [(h0, .inr (1, (fs.set 0 (.int 0)))), (q0, .inl (cA0, 32768, .inl f0))] := hD
  refine lv_aload_n hx hb (show decode prog_15_method_4_code 5 = .ok (.aload_n 0, 1) by decide +kernel) rfl (lv_at hl 0 rfl) ?_
  refine va_get (D := D) (ci := 1) (v := .int 0) (C := R_MD) (T := F_MD) (N := 107) hx hb hts i_MD hown hK hP 0 rfl rfl 2 (by decide +kernel) (hts _ w_1564) (fun _ h9 => h9) (xg_ne (by decide +kernel) hf2) (show decode prog_15_method_4_code 6 = .ok (.getfield 210, 3) by decide +kernel) ?_
  refine lv_bipush (v := 20) hx hb (show decode prog_15_method_4_code 9 = .ok (.bipush 20, 2) by decide +kernel) (by decide +kernel) ?_
  refine lv_iadd hx hb (show decode prog_15_method_4_code 11 = .ok (.iadd, 1) by decide +kernel) ?_
  refine xtopi (v := 20) (by decide +kernel) ?_
  refine lv_ldc (v := 32768) hx hb hown (hts _ w_1558) (show decode prog_15_method_4_code 12 = .ok (.ldc 9, 2) by decide +kernel) ?_
  refine lv_icmp_le (tgt := 19) hx hb (show decode prog_15_method_4_code 14 = .ok (.if_icmp .le 5, 3) by decide +kernel) (by decide +kernel) (fun c_1 => ?_) (fun c_1 => absurd c_1 (by decide +kernel))
  refine lv_iconst (v := 0) hx hb (show decode prog_15_method_4_code 19 = .ok (.iconst 0, 1) by decide +kernel) (by decide +kernel) ?_
  refine lv_istore (lv' := [(6, .int 0), (0, .ref h0), (1, .int p0), (2, .int p1), (3, .int p2), (4, .int p3), (5, .int p4)]) hx hb (show decode prog_15_method_4_code 20 = .ok (.istore 6, 2) by decide +kernel) hl (by decide +kernel) rfl (fun ls hl => ?_)
  refine lv_iload hx hb (show decode prog_15_method_4_code 22 = .ok (.iload 6, 2) by decide +kernel) (lv_at hl 0 rfl) ?_
  refine lv_bipush (v := 20) hx hb (show decode prog_15_method_4_code 24 = .ok (.bipush 20, 2) by decide +kernel) (by decide +kernel) ?_
  refine lv_icmp_ge (tgt := 109) hx hb (show decode prog_15_method_4_code 26 = .ok (.if_icmp .ge 83, 3) by decide +kernel) (by decide +kernel) (fun c_2 => absurd c_2 (by decide +kernel)) (fun c_2 => ?_)
  refine lv_iload hx hb (show decode prog_15_method_4_code 29 = .ok (.iload 6, 2) by decide +kernel) (lv_at hl 0 rfl) ?_
  refine lv_iconst (v := 4) hx hb (show decode prog_15_method_4_code 31 = .ok (.iconst 4, 1) by decide +kernel) (by decide +kernel) ?_
  refine lv_icmp_ge (tgt := 39) hx hb (show decode prog_15_method_4_code 32 = .ok (.if_icmp .ge 7, 3) by decide +kernel) (by decide +kernel) (fun c_3 => absurd c_3 (by decide +kernel)) (fun c_3 => ?_)
  refine lv_iload_n hx hb (show decode prog_15_method_4_code 35 = .ok (.iload_n 1, 1) by decide +kernel) rfl (lv_at hl 2 rfl) ?_
  refine lv_goto (tgt := 75) hx hb (show decode prog_15_method_4_code 36 = .ok (.goto 39, 3) by decide +kernel) (by decide +kernel) ?_
  refine lv_istore (lv' := [(7, .int p0), (6, .int 0), (0, .ref h0), (1, .int p0), (2, .int p1), (3, .int p2), (4, .int p3), (5, .int p4)]) hx hb (show decode prog_15_method_4_code 75 = .ok (.istore 7, 2) by decide +kernel) hl (by decide +kernel) rfl (fun ls hl => ?_)
  refine lv_aload_n hx hb (show decode prog_15_method_4_code 77 = .ok (.aload_n 0, 1) by decide +kernel) rfl (lv_at hl 2 rfl) ?_
  refine va_get (D := D) (ci := 1) (v := .ref q0) (C := R_MD) (T := F_MD) (N := 107) hx hb hts i_MD hown hK hP 0 rfl rfl 1 (by decide +kernel) (hts _ w_1563) (fun _ h9 => h9) (xg_ne (by decide +kernel) ha0) (show decode prog_15_method_4_code 78 = .ok (.getfield 10, 3) by decide +kernel) ?_
  refine lv_aload_n hx hb (show decode prog_15_method_4_code 81 = .ok (.aload_n 0, 1) by decide +kernel) rfl (lv_at hl 2 rfl) ?_
  refine va_get (D := D) (ci := 1) (v := .int 0) (C := R_MD) (T := F_MD) (N := 107) hx hb hts i_MD hown hK hP 0 rfl rfl 2 (by decide +kernel) (hts _ w_1564) (fun _ h9 => h9) (xg_ne (by decide +kernel) hf2) (show decode prog_15_method_4_code 82 = .ok (.getfield 210, 3) by decide +kernel) ?_
  refine lv_iload hx hb (show decode prog_15_method_4_code 85 = .ok (.iload 6, 2) by decide +kernel) (lv_at hl 1 rfl) ?_
  refine lv_iadd hx hb (show decode prog_15_method_4_code 87 = .ok (.iadd, 1) by decide +kernel) ?_
  refine xtopi (v := 0) (by decide +kernel) ?_
  refine lv_iload hx hb (show decode prog_15_method_4_code 88 = .ok (.iload 7, 2) by decide +kernel) (lv_at hl 0 rfl) ?_
  refine lv_bipush (v := 24) hx hb (show decode prog_15_method_4_code 90 = .ok (.bipush 24, 2) by decide +kernel) (by decide +kernel) ?_
  refine lv_bipush (v := 8) hx hb (show decode prog_15_method_4_code 92 = .ok (.bipush 8, 2) by decide +kernel) (by decide +kernel) ?_
  refine lv_iload hx hb (show decode prog_15_method_4_code 94 = .ok (.iload 6, 2) by decide +kernel) (lv_at hl 1 rfl) ?_
  refine lv_iconst (v := 4) hx hb (show decode prog_15_method_4_code 96 = .ok (.iconst 4, 1) by decide +kernel) (by decide +kernel) ?_
  refine lv_irem hx hb (show decode prog_15_method_4_code 97 = .ok (.irem, 1) by decide +kernel) (by decide +kernel) ?_
  refine xtopi (v := 0) (by decide +kernel) ?_
  refine lv_imul hx hb (show decode prog_15_method_4_code 98 = .ok (.imul, 1) by decide +kernel) ?_
  refine xtopi (v := 0) (by decide +kernel) ?_
  refine lv_isub hx hb (show decode prog_15_method_4_code 99 = .ok (.isub, 1) by decide +kernel) ?_
  refine xtopi (v := 24) (by decide +kernel) ?_
  refine lv_ishr hx hb (show decode prog_15_method_4_code 100 = .ok (.ishr, 1) by decide +kernel) ?_
  refine lv_i2b hx hb (show decode prog_15_method_4_code 101 = .ok (.i2b, 1) by decide +kernel) rfl ?_
  refine lv_topi (fun z_4 _ => ?_)
  refine va_bast hx hb hK hP hD hS 1 0 rfl rfl (by unfold vp_in; decide) (show decode prog_15_method_4_code 102 = .ok (.bastore, 1) by decide +kernel) (fun H locs hP hD hS => ?_)
  obtain ⟨g_5, hP, hD⟩ : ∃ g_5 : Nat → Int32, va_P D cl [(h0, .inr (1, (fs.set 0 (.int 0)))), (q0, .inl (cA0, 32768, .inl g_5))] H ∧ va_D _ [(h0, .inr (1, (fs.set 0 (.int 0)))), (q0, .inl (cA0, 32768, .inl g_5))] := ⟨_, hP, hD⟩
  refine lv_iinc (v := 1) (lv' := [(6, .int 1), (7, .int p0), (0, .ref h0), (1, .int p0), (2, .int p1), (3, .int p2), (4, .int p3), (5, .int p4)]) hx hb (show decode prog_15_method_4_code 103 = .ok (.iinc 6 1, 3) by decide +kernel) hl (k := 1) rfl (by decide +kernel) (by decide +kernel) rfl (fun ls hl => ?_)
  refine lv_goto (tgt := 22) hx hb (show decode prog_15_method_4_code 106 = .ok (.goto (-84), 3) by decide +kernel) (by decide +kernel) ?_
  refine lv_iload hx hb (show decode prog_15_method_4_code 22 = .ok (.iload 6, 2) by decide +kernel) (lv_at hl 0 rfl) ?_
  refine lv_bipush (v := 20) hx hb (show decode prog_15_method_4_code 24 = .ok (.bipush 20, 2) by decide +kernel) (by decide +kernel) ?_
  refine lv_icmp_ge (tgt := 109) hx hb (show decode prog_15_method_4_code 26 = .ok (.if_icmp .ge 83, 3) by decide +kernel) (by decide +kernel) (fun c_6 => absurd c_6 (by decide +kernel)) (fun c_6 => ?_)
  refine lv_iload hx hb (show decode prog_15_method_4_code 29 = .ok (.iload 6, 2) by decide +kernel) (lv_at hl 0 rfl) ?_
  refine lv_iconst (v := 4) hx hb (show decode prog_15_method_4_code 31 = .ok (.iconst 4, 1) by decide +kernel) (by decide +kernel) ?_
  refine lv_icmp_ge (tgt := 39) hx hb (show decode prog_15_method_4_code 32 = .ok (.if_icmp .ge 7, 3) by decide +kernel) (by decide +kernel) (fun c_7 => absurd c_7 (by decide +kernel)) (fun c_7 => ?_)
  refine lv_iload_n hx hb (show decode prog_15_method_4_code 35 = .ok (.iload_n 1, 1) by decide +kernel) rfl (lv_at hl 3 rfl) ?_
  refine lv_goto (tgt := 75) hx hb (show decode prog_15_method_4_code 36 = .ok (.goto 39, 3) by decide +kernel) (by decide +kernel) ?_
  refine lv_istore (lv' := [(7, .int p0), (6, .int 1), (0, .ref h0), (1, .int p0), (2, .int p1), (3, .int p2), (4, .int p3), (5, .int p4)]) hx hb (show decode prog_15_method_4_code 75 = .ok (.istore 7, 2) by decide +kernel) hl (by decide +kernel) rfl (fun ls hl => ?_)
  refine lv_aload_n hx hb (show decode prog_15_method_4_code 77 = .ok (.aload_n 0, 1) by decide +kernel) rfl (lv_at hl 2 rfl) ?_
  refine va_get (D := D) (ci := 1) (v := .ref q0) (C := R_MD) (T := F_MD) (N := 107) hx hb hts i_MD hown hK hP 0 rfl rfl 1 (by decide +kernel) (hts _ w_1563) (fun _ h9 => h9) (xg_ne (by decide +kernel) ha0) (show decode prog_15_method_4_code 78 = .ok (.getfield 10, 3) by decide +kernel) ?_
  refine lv_aload_n hx hb (show decode prog_15_method_4_code 81 = .ok (.aload_n 0, 1) by decide +kernel) rfl (lv_at hl 2 rfl) ?_
  refine va_get (D := D) (ci := 1) (v := .int 0) (C := R_MD) (T := F_MD) (N := 107) hx hb hts i_MD hown hK hP 0 rfl rfl 2 (by decide +kernel) (hts _ w_1564) (fun _ h9 => h9) (xg_ne (by decide +kernel) hf2) (show decode prog_15_method_4_code 82 = .ok (.getfield 210, 3) by decide +kernel) ?_
  refine lv_iload hx hb (show decode prog_15_method_4_code 85 = .ok (.iload 6, 2) by decide +kernel) (lv_at hl 1 rfl) ?_
  refine lv_iadd hx hb (show decode prog_15_method_4_code 87 = .ok (.iadd, 1) by decide +kernel) ?_
  refine xtopi (v := 1) (by decide +kernel) ?_
  refine lv_iload hx hb (show decode prog_15_method_4_code 88 = .ok (.iload 7, 2) by decide +kernel) (lv_at hl 0 rfl) ?_
  refine lv_bipush (v := 24) hx hb (show decode prog_15_method_4_code 90 = .ok (.bipush 24, 2) by decide +kernel) (by decide +kernel) ?_
  refine lv_bipush (v := 8) hx hb (show decode prog_15_method_4_code 92 = .ok (.bipush 8, 2) by decide +kernel) (by decide +kernel) ?_
  refine lv_iload hx hb (show decode prog_15_method_4_code 94 = .ok (.iload 6, 2) by decide +kernel) (lv_at hl 1 rfl) ?_
  refine lv_iconst (v := 4) hx hb (show decode prog_15_method_4_code 96 = .ok (.iconst 4, 1) by decide +kernel) (by decide +kernel) ?_
  refine lv_irem hx hb (show decode prog_15_method_4_code 97 = .ok (.irem, 1) by decide +kernel) (by decide +kernel) ?_
  refine xtopi (v := 1) (by decide +kernel) ?_
  refine lv_imul hx hb (show decode prog_15_method_4_code 98 = .ok (.imul, 1) by decide +kernel) ?_
  refine xtopi (v := 8) (by decide +kernel) ?_
  refine lv_isub hx hb (show decode prog_15_method_4_code 99 = .ok (.isub, 1) by decide +kernel) ?_
  refine xtopi (v := 16) (by decide +kernel) ?_
  refine lv_ishr hx hb (show decode prog_15_method_4_code 100 = .ok (.ishr, 1) by decide +kernel) ?_
  refine lv_i2b hx hb (show decode prog_15_method_4_code 101 = .ok (.i2b, 1) by decide +kernel) rfl ?_
  refine lv_topi (fun z_8 _ => ?_)
  refine va_bast hx hb hK hP hD hS 1 0 rfl rfl (by unfold vp_in; decide) (show decode prog_15_method_4_code 102 = .ok (.bastore, 1) by decide +kernel) (fun H locs hP hD hS => ?_)
  obtain ⟨g_9, hP, hD⟩ : ∃ g_9 : Nat → Int32, va_P D cl [(h0, .inr (1, (fs.set 0 (.int 0)))), (q0, .inl (cA0, 32768, .inl g_9))] H ∧ va_D _ [(h0, .inr (1, (fs.set 0 (.int 0)))), (q0, .inl (cA0, 32768, .inl g_9))] := ⟨_, hP, hD⟩
  refine lv_iinc (v := 2) (lv' := [(6, .int 2), (7, .int p0), (0, .ref h0), (1, .int p0), (2, .int p1), (3, .int p2), (4, .int p3), (5, .int p4)]) hx hb (show decode prog_15_method_4_code 103 = .ok (.iinc 6 1, 3) by decide +kernel) hl (k := 1) rfl (by decide +kernel) (by decide +kernel) rfl (fun ls hl => ?_)
  refine lv_goto (tgt := 22) hx hb (show decode prog_15_method_4_code 106 = .ok (.goto (-84), 3) by decide +kernel) (by decide +kernel) ?_
  refine lv_iload hx hb (show decode prog_15_method_4_code 22 = .ok (.iload 6, 2) by decide +kernel) (lv_at hl 0 rfl) ?_
  refine lv_bipush (v := 20) hx hb (show decode prog_15_method_4_code 24 = .ok (.bipush 20, 2) by decide +kernel) (by decide +kernel) ?_
  refine lv_icmp_ge (tgt := 109) hx hb (show decode prog_15_method_4_code 26 = .ok (.if_icmp .ge 83, 3) by decide +kernel) (by decide +kernel) (fun c_10 => absurd c_10 (by decide +kernel)) (fun c_10 => ?_)
  refine lv_iload hx hb (show decode prog_15_method_4_code 29 = .ok (.iload 6, 2) by decide +kernel) (lv_at hl 0 rfl) ?_
  refine lv_iconst (v := 4) hx hb (show decode prog_15_method_4_code 31 = .ok (.iconst 4, 1) by decide +kernel) (by decide +kernel) ?_
  refine lv_icmp_ge (tgt := 39) hx hb (show decode prog_15_method_4_code 32 = .ok (.if_icmp .ge 7, 3) by decide +kernel) (by decide +kernel) (fun c_11 => absurd c_11 (by decide +kernel)) (fun c_11 => ?_)
  refine lv_iload_n hx hb (show decode prog_15_method_4_code 35 = .ok (.iload_n 1, 1) by decide +kernel) rfl (lv_at hl 3 rfl) ?_
  refine lv_goto (tgt := 75) hx hb (show decode prog_15_method_4_code 36 = .ok (.goto 39, 3) by decide +kernel) (by decide +kernel) ?_
  refine lv_istore (lv' := [(7, .int p0), (6, .int 2), (0, .ref h0), (1, .int p0), (2, .int p1), (3, .int p2), (4, .int p3), (5, .int p4)]) hx hb (show decode prog_15_method_4_code 75 = .ok (.istore 7, 2) by decide +kernel) hl (by decide +kernel) rfl (fun ls hl => ?_)
  refine lv_aload_n hx hb (show decode prog_15_method_4_code 77 = .ok (.aload_n 0, 1) by decide +kernel) rfl (lv_at hl 2 rfl) ?_
  refine va_get (D := D) (ci := 1) (v := .ref q0) (C := R_MD) (T := F_MD) (N := 107) hx hb hts i_MD hown hK hP 0 rfl rfl 1 (by decide +kernel) (hts _ w_1563) (fun _ h9 => h9) (xg_ne (by decide +kernel) ha0) (show decode prog_15_method_4_code 78 = .ok (.getfield 10, 3) by decide +kernel) ?_
  refine lv_aload_n hx hb (show decode prog_15_method_4_code 81 = .ok (.aload_n 0, 1) by decide +kernel) rfl (lv_at hl 2 rfl) ?_
  refine va_get (D := D) (ci := 1) (v := .int 0) (C := R_MD) (T := F_MD) (N := 107) hx hb hts i_MD hown hK hP 0 rfl rfl 2 (by decide +kernel) (hts _ w_1564) (fun _ h9 => h9) (xg_ne (by decide +kernel) hf2) (show decode prog_15_method_4_code 82 = .ok (.getfield 210, 3) by decide +kernel) ?_
  refine lv_iload hx hb (show decode prog_15_method_4_code 85 = .ok (.iload 6, 2) by decide +kernel) (lv_at hl 1 rfl) ?_
  refine lv_iadd hx hb (show decode prog_15_method_4_code 87 = .ok (.iadd, 1) by decide +kernel) ?_
  refine xtopi (v := 2) (by decide +kernel) ?_
  refine lv_iload hx hb (show decode prog_15_method_4_code 88 = .ok (.iload 7, 2) by decide +kernel) (lv_at hl 0 rfl) ?_
  refine lv_bipush (v := 24) hx hb (show decode prog_15_method_4_code 90 = .ok (.bipush 24, 2) by decide +kernel) (by decide +kernel) ?_
  refine lv_bipush (v := 8) hx hb (show decode prog_15_method_4_code 92 = .ok (.bipush 8, 2) by decide +kernel) (by decide +kernel) ?_
  refine lv_iload hx hb (show decode prog_15_method_4_code 94 = .ok (.iload 6, 2) by decide +kernel) (lv_at hl 1 rfl) ?_
  refine lv_iconst (v := 4) hx hb (show decode prog_15_method_4_code 96 = .ok (.iconst 4, 1) by decide +kernel) (by decide +kernel) ?_
  refine lv_irem hx hb (show decode prog_15_method_4_code 97 = .ok (.irem, 1) by decide +kernel) (by decide +kernel) ?_
  refine xtopi (v := 2) (by decide +kernel) ?_
  refine lv_imul hx hb (show decode prog_15_method_4_code 98 = .ok (.imul, 1) by decide +kernel) ?_
  refine xtopi (v := 16) (by decide +kernel) ?_
  refine lv_isub hx hb (show decode prog_15_method_4_code 99 = .ok (.isub, 1) by decide +kernel) ?_
  refine xtopi (v := 8) (by decide +kernel) ?_
  refine lv_ishr hx hb (show decode prog_15_method_4_code 100 = .ok (.ishr, 1) by decide +kernel) ?_
  refine lv_i2b hx hb (show decode prog_15_method_4_code 101 = .ok (.i2b, 1) by decide +kernel) rfl ?_
  refine lv_topi (fun z_12 _ => ?_)
  refine va_bast hx hb hK hP hD hS 1 0 rfl rfl (by unfold vp_in; decide) (show decode prog_15_method_4_code 102 = .ok (.bastore, 1) by decide +kernel) (fun H locs hP hD hS => ?_)
  obtain ⟨g_13, hP, hD⟩ : ∃ g_13 : Nat → Int32, va_P D cl [(h0, .inr (1, (fs.set 0 (.int 0)))), (q0, .inl (cA0, 32768, .inl g_13))] H ∧ va_D _ [(h0, .inr (1, (fs.set 0 (.int 0)))), (q0, .inl (cA0, 32768, .inl g_13))] := ⟨_, hP, hD⟩
  refine lv_iinc (v := 3) (lv' := [(6, .int 3), (7, .int p0), (0, .ref h0), (1, .int p0), (2, .int p1), (3, .int p2), (4, .int p3), (5, .int p4)]) hx hb (show decode prog_15_method_4_code 103 = .ok (.iinc 6 1, 3) by decide +kernel) hl (k := 1) rfl (by decide +kernel) (by decide +kernel) rfl (fun ls hl => ?_)
  refine lv_goto (tgt := 22) hx hb (show decode prog_15_method_4_code 106 = .ok (.goto (-84), 3) by decide +kernel) (by decide +kernel) ?_
  refine lv_iload hx hb (show decode prog_15_method_4_code 22 = .ok (.iload 6, 2) by decide +kernel) (lv_at hl 0 rfl) ?_
  refine lv_bipush (v := 20) hx hb (show decode prog_15_method_4_code 24 = .ok (.bipush 20, 2) by decide +kernel) (by decide +kernel) ?_
  refine lv_icmp_ge (tgt := 109) hx hb (show decode prog_15_method_4_code 26 = .ok (.if_icmp .ge 83, 3) by decide +kernel) (by decide +kernel) (fun c_14 => absurd c_14 (by decide +kernel)) (fun c_14 => ?_)
  refine lv_iload hx hb (show decode prog_15_method_4_code 29 = .ok (.iload 6, 2) by decide +kernel) (lv_at hl 0 rfl) ?_
  refine lv_iconst (v := 4) hx hb (show decode prog_15_method_4_code 31 = .ok (.iconst 4, 1) by decide +kernel) (by decide +kernel) ?_
  refine lv_icmp_ge (tgt := 39) hx hb (show decode prog_15_method_4_code 32 = .ok (.if_icmp .ge 7, 3) by decide +kernel) (by decide +kernel) (fun c_15 => absurd c_15 (by decide +kernel)) (fun c_15 => ?_)
  refine lv_iload_n hx hb (show decode prog_15_method_4_code 35 = .ok (.iload_n 1, 1) by decide +kernel) rfl (lv_at hl 3 rfl) ?_
  refine lv_goto (tgt := 75) hx hb (show decode prog_15_method_4_code 36 = .ok (.goto 39, 3) by decide +kernel) (by decide +kernel) ?_
  refine lv_istore (lv' := [(7, .int p0), (6, .int 3), (0, .ref h0), (1, .int p0), (2, .int p1), (3, .int p2), (4, .int p3), (5, .int p4)]) hx hb (show decode prog_15_method_4_code 75 = .ok (.istore 7, 2) by decide +kernel) hl (by decide +kernel) rfl (fun ls hl => ?_)
  refine lv_aload_n hx hb (show decode prog_15_method_4_code 77 = .ok (.aload_n 0, 1) by decide +kernel) rfl (lv_at hl 2 rfl) ?_
  refine va_get (D := D) (ci := 1) (v := .ref q0) (C := R_MD) (T := F_MD) (N := 107) hx hb hts i_MD hown hK hP 0 rfl rfl 1 (by decide +kernel) (hts _ w_1563) (fun _ h9 => h9) (xg_ne (by decide +kernel) ha0) (show decode prog_15_method_4_code 78 = .ok (.getfield 10, 3) by decide +kernel) ?_
  refine lv_aload_n hx hb (show decode prog_15_method_4_code 81 = .ok (.aload_n 0, 1) by decide +kernel) rfl (lv_at hl 2 rfl) ?_
  refine va_get (D := D) (ci := 1) (v := .int 0) (C := R_MD) (T := F_MD) (N := 107) hx hb hts i_MD hown hK hP 0 rfl rfl 2 (by decide +kernel) (hts _ w_1564) (fun _ h9 => h9) (xg_ne (by decide +kernel) hf2) (show decode prog_15_method_4_code 82 = .ok (.getfield 210, 3) by decide +kernel) ?_
  refine lv_iload hx hb (show decode prog_15_method_4_code 85 = .ok (.iload 6, 2) by decide +kernel) (lv_at hl 1 rfl) ?_
  refine lv_iadd hx hb (show decode prog_15_method_4_code 87 = .ok (.iadd, 1) by decide +kernel) ?_
  refine xtopi (v := 3) (by decide +kernel) ?_
  refine lv_iload hx hb (show decode prog_15_method_4_code 88 = .ok (.iload 7, 2) by decide +kernel) (lv_at hl 0 rfl) ?_
  refine lv_bipush (v := 24) hx hb (show decode prog_15_method_4_code 90 = .ok (.bipush 24, 2) by decide +kernel) (by decide +kernel) ?_
  refine lv_bipush (v := 8) hx hb (show decode prog_15_method_4_code 92 = .ok (.bipush 8, 2) by decide +kernel) (by decide +kernel) ?_
  refine lv_iload hx hb (show decode prog_15_method_4_code 94 = .ok (.iload 6, 2) by decide +kernel) (lv_at hl 1 rfl) ?_
  refine lv_iconst (v := 4) hx hb (show decode prog_15_method_4_code 96 = .ok (.iconst 4, 1) by decide +kernel) (by decide +kernel) ?_
  refine lv_irem hx hb (show decode prog_15_method_4_code 97 = .ok (.irem, 1) by decide +kernel) (by decide +kernel) ?_
  refine xtopi (v := 3) (by decide +kernel) ?_
  refine lv_imul hx hb (show decode prog_15_method_4_code 98 = .ok (.imul, 1) by decide +kernel) ?_
  refine xtopi (v := 24) (by decide +kernel) ?_
  refine lv_isub hx hb (show decode prog_15_method_4_code 99 = .ok (.isub, 1) by decide +kernel) ?_
  refine xtopi (v := 0) (by decide +kernel) ?_
  refine lv_ishr hx hb (show decode prog_15_method_4_code 100 = .ok (.ishr, 1) by decide +kernel) ?_
  refine lv_i2b hx hb (show decode prog_15_method_4_code 101 = .ok (.i2b, 1) by decide +kernel) rfl ?_
  refine lv_topi (fun z_16 _ => ?_)
  refine va_bast hx hb hK hP hD hS 1 0 rfl rfl (by unfold vp_in; decide) (show decode prog_15_method_4_code 102 = .ok (.bastore, 1) by decide +kernel) (fun H locs hP hD hS => ?_)
  obtain ⟨g_17, hP, hD⟩ : ∃ g_17 : Nat → Int32, va_P D cl [(h0, .inr (1, (fs.set 0 (.int 0)))), (q0, .inl (cA0, 32768, .inl g_17))] H ∧ va_D _ [(h0, .inr (1, (fs.set 0 (.int 0)))), (q0, .inl (cA0, 32768, .inl g_17))] := ⟨_, hP, hD⟩
  refine lv_iinc (v := 4) (lv' := [(6, .int 4), (7, .int p0), (0, .ref h0), (1, .int p0), (2, .int p1), (3, .int p2), (4, .int p3), (5, .int p4)]) hx hb (show decode prog_15_method_4_code 103 = .ok (.iinc 6 1, 3) by decide +kernel) hl (k := 1) rfl (by decide +kernel) (by decide +kernel) rfl (fun ls hl => ?_)
  refine lv_goto (tgt := 22) hx hb (show decode prog_15_method_4_code 106 = .ok (.goto (-84), 3) by decide +kernel) (by decide +kernel) ?_
  refine lv_iload hx hb (show decode prog_15_method_4_code 22 = .ok (.iload 6, 2) by decide +kernel) (lv_at hl 0 rfl) ?_
  refine lv_bipush (v := 20) hx hb (show decode prog_15_method_4_code 24 = .ok (.bipush 20, 2) by decide +kernel) (by decide +kernel) ?_
  refine lv_icmp_ge (tgt := 109) hx hb (show decode prog_15_method_4_code 26 = .ok (.if_icmp .ge 83, 3) by decide +kernel) (by decide +kernel) (fun c_18 => absurd c_18 (by decide +kernel)) (fun c_18 => ?_)
  refine lv_iload hx hb (show decode prog_15_method_4_code 29 = .ok (.iload 6, 2) by decide +kernel) (lv_at hl 0 rfl) ?_
  refine lv_iconst (v := 4) hx hb (show decode prog_15_method_4_code 31 = .ok (.iconst 4, 1) by decide +kernel) (by decide +kernel) ?_
  refine lv_icmp_ge (tgt := 39) hx hb (show decode prog_15_method_4_code 32 = .ok (.if_icmp .ge 7, 3) by decide +kernel) (by decide +kernel) (fun c_19 => ?_) (fun c_19 => absurd c_19 (by decide +kernel))
  refine lv_iload hx hb (show decode prog_15_method_4_code 39 = .ok (.iload 6, 2) by decide +kernel) (lv_at hl 0 rfl) ?_
  refine lv_bipush (v := 8) hx hb (show decode prog_15_method_4_code 41 = .ok (.bipush 8, 2) by decide +kernel) (by decide +kernel) ?_
  refine lv_icmp_ge (tgt := 50) hx hb (show decode prog_15_method_4_code 43 = .ok (.if_icmp .ge 7, 3) by decide +kernel) (by decide +kernel) (fun c_20 => absurd c_20 (by decide +kernel)) (fun c_20 => ?_)
  refine lv_iload_n hx hb (show decode prog_15_method_4_code 46 = .ok (.iload_n 2, 1) by decide +kernel) rfl (lv_at hl 4 rfl) ?_
  refine lv_goto (tgt := 75) hx hb (show decode prog_15_method_4_code 47 = .ok (.goto 28, 3) by decide +kernel) (by decide +kernel) ?_
  refine lv_istore (lv' := [(7, .int p1), (6, .int 4), (0, .ref h0), (1, .int p0), (2, .int p1), (3, .int p2), (4, .int p3), (5, .int p4)]) hx hb (show decode prog_15_method_4_code 75 = .ok (.istore 7, 2) by decide +kernel) hl (by decide +kernel) rfl (fun ls hl => ?_)
  refine lv_aload_n hx hb (show decode prog_15_method_4_code 77 = .ok (.aload_n 0, 1) by decide +kernel) rfl (lv_at hl 2 rfl) ?_
  refine va_get (D := D) (ci := 1) (v := .ref q0) (C := R_MD) (T := F_MD) (N := 107) hx hb hts i_MD hown hK hP 0 rfl rfl 1 (by decide +kernel) (hts _ w_1563) (fun _ h9 => h9) (xg_ne (by decide +kernel) ha0) (show decode prog_15_method_4_code 78 = .ok (.getfield 10, 3) by decide +kernel) ?_
  refine lv_aload_n hx hb (show decode prog_15_method_4_code 81 = .ok (.aload_n 0, 1) by decide +kernel) rfl (lv_at hl 2 rfl) ?_
  refine va_get (D := D) (ci := 1) (v := .int 0) (C := R_MD) (T := F_MD) (N := 107) hx hb hts i_MD hown hK hP 0 rfl rfl 2 (by decide +kernel) (hts _ w_1564) (fun _ h9 => h9) (xg_ne (by decide +kernel) hf2) (show decode prog_15_method_4_code 82 = .ok (.getfield 210, 3) by decide +kernel) ?_
  refine lv_iload hx hb (show decode prog_15_method_4_code 85 = .ok (.iload 6, 2) by decide +kernel) (lv_at hl 1 rfl) ?_
  refine lv_iadd hx hb (show decode prog_15_method_4_code 87 = .ok (.iadd, 1) by decide +kernel) ?_
  refine xtopi (v := 4) (by decide +kernel) ?_
  refine lv_iload hx hb (show decode prog_15_method_4_code 88 = .ok (.iload 7, 2) by decide +kernel) (lv_at hl 0 rfl) ?_
  refine lv_bipush (v := 24) hx hb (show decode prog_15_method_4_code 90 = .ok (.bipush 24, 2) by decide +kernel) (by decide +kernel) ?_
  refine lv_bipush (v := 8) hx hb (show decode prog_15_method_4_code 92 = .ok (.bipush 8, 2) by decide +kernel) (by decide +kernel) ?_
  refine lv_iload hx hb (show decode prog_15_method_4_code 94 = .ok (.iload 6, 2) by decide +kernel) (lv_at hl 1 rfl) ?_
  refine lv_iconst (v := 4) hx hb (show decode prog_15_method_4_code 96 = .ok (.iconst 4, 1) by decide +kernel) (by decide +kernel) ?_
  refine lv_irem hx hb (show decode prog_15_method_4_code 97 = .ok (.irem, 1) by decide +kernel) (by decide +kernel) ?_
  refine xtopi (v := 0) (by decide +kernel) ?_
  refine lv_imul hx hb (show decode prog_15_method_4_code 98 = .ok (.imul, 1) by decide +kernel) ?_
  refine xtopi (v := 0) (by decide +kernel) ?_
  refine lv_isub hx hb (show decode prog_15_method_4_code 99 = .ok (.isub, 1) by decide +kernel) ?_
  refine xtopi (v := 24) (by decide +kernel) ?_
  refine lv_ishr hx hb (show decode prog_15_method_4_code 100 = .ok (.ishr, 1) by decide +kernel) ?_
  refine lv_i2b hx hb (show decode prog_15_method_4_code 101 = .ok (.i2b, 1) by decide +kernel) rfl ?_
  refine lv_topi (fun z_21 _ => ?_)
  refine va_bast hx hb hK hP hD hS 1 0 rfl rfl (by unfold vp_in; decide) (show decode prog_15_method_4_code 102 = .ok (.bastore, 1) by decide +kernel) (fun H locs hP hD hS => ?_)
  obtain ⟨g_22, hP, hD⟩ : ∃ g_22 : Nat → Int32, va_P D cl [(h0, .inr (1, (fs.set 0 (.int 0)))), (q0, .inl (cA0, 32768, .inl g_22))] H ∧ va_D _ [(h0, .inr (1, (fs.set 0 (.int 0)))), (q0, .inl (cA0, 32768, .inl g_22))] := ⟨_, hP, hD⟩
  refine lv_iinc (v := 5) (lv' := [(6, .int 5), (7, .int p1), (0, .ref h0), (1, .int p0), (2, .int p1), (3, .int p2), (4, .int p3), (5, .int p4)]) hx hb (show decode prog_15_method_4_code 103 = .ok (.iinc 6 1, 3) by decide +kernel) hl (k := 1) rfl (by decide +kernel) (by decide +kernel) rfl (fun ls hl => ?_)
  refine lv_goto (tgt := 22) hx hb (show decode prog_15_method_4_code 106 = .ok (.goto (-84), 3) by decide +kernel) (by decide +kernel) ?_
  refine lv_iload hx hb (show decode prog_15_method_4_code 22 = .ok (.iload 6, 2) by decide +kernel) (lv_at hl 0 rfl) ?_
  refine lv_bipush (v := 20) hx hb (show decode prog_15_method_4_code 24 = .ok (.bipush 20, 2) by decide +kernel) (by decide +kernel) ?_
  refine lv_icmp_ge (tgt := 109) hx hb (show decode prog_15_method_4_code 26 = .ok (.if_icmp .ge 83, 3) by decide +kernel) (by decide +kernel) (fun c_23 => absurd c_23 (by decide +kernel)) (fun c_23 => ?_)
  refine lv_iload hx hb (show decode prog_15_method_4_code 29 = .ok (.iload 6, 2) by decide +kernel) (lv_at hl 0 rfl) ?_
  refine lv_iconst (v := 4) hx hb (show decode prog_15_method_4_code 31 = .ok (.iconst 4, 1) by decide +kernel) (by decide +kernel) ?_
  refine lv_icmp_ge (tgt := 39) hx hb (show decode prog_15_method_4_code 32 = .ok (.if_icmp .ge 7, 3) by decide +kernel) (by decide +kernel) (fun c_24 => ?_) (fun c_24 => absurd c_24 (by decide +kernel))
  refine lv_iload hx hb (show decode prog_15_method_4_code 39 = .ok (.iload 6, 2) by decide +kernel) (lv_at hl 0 rfl) ?_
  refine lv_bipush (v := 8) hx hb (show decode prog_15_method_4_code 41 = .ok (.bipush 8, 2) by decide +kernel) (by decide +kernel) ?_
  refine lv_icmp_ge (tgt := 50) hx hb (show decode prog_15_method_4_code 43 = .ok (.if_icmp .ge 7, 3) by decide +kernel) (by decide +kernel) (fun c_25 => absurd c_25 (by decide +kernel)) (fun c_25 => ?_)
  refine lv_iload_n hx hb (show decode prog_15_method_4_code 46 = .ok (.iload_n 2, 1) by decide +kernel) rfl (lv_at hl 4 rfl) ?_
  refine lv_goto (tgt := 75) hx hb (show decode prog_15_method_4_code 47 = .ok (.goto 28, 3) by decide +kernel) (by decide +kernel) ?_
  refine lv_istore (lv' := [(7, .int p1), (6, .int 5), (0, .ref h0), (1, .int p0), (2, .int p1), (3, .int p2), (4, .int p3), (5, .int p4)]) hx hb (show decode prog_15_method_4_code 75 = .ok (.istore 7, 2) by decide +kernel) hl (by decide +kernel) rfl (fun ls hl => ?_)
  refine lv_aload_n hx hb (show decode prog_15_method_4_code 77 = .ok (.aload_n 0, 1) by decide +kernel) rfl (lv_at hl 2 rfl) ?_
  refine va_get (D := D) (ci := 1) (v := .ref q0) (C := R_MD) (T := F_MD) (N := 107) hx hb hts i_MD hown hK hP 0 rfl rfl 1 (by decide +kernel) (hts _ w_1563) (fun _ h9 => h9) (xg_ne (by decide +kernel) ha0) (show decode prog_15_method_4_code 78 = .ok (.getfield 10, 3) by decide +kernel) ?_
  refine lv_aload_n hx hb (show decode prog_15_method_4_code 81 = .ok (.aload_n 0, 1) by decide +kernel) rfl (lv_at hl 2 rfl) ?_
  refine va_get (D := D) (ci := 1) (v := .int 0) (C := R_MD) (T := F_MD) (N := 107) hx hb hts i_MD hown hK hP 0 rfl rfl 2 (by decide +kernel) (hts _ w_1564) (fun _ h9 => h9) (xg_ne (by decide +kernel) hf2) (show decode prog_15_method_4_code 82 = .ok (.getfield 210, 3) by decide +kernel) ?_
  refine lv_iload hx hb (show decode prog_15_method_4_code 85 = .ok (.iload 6, 2) by decide +kernel) (lv_at hl 1 rfl) ?_
  refine lv_iadd hx hb (show decode prog_15_method_4_code 87 = .ok (.iadd, 1) by decide +kernel) ?_
  refine xtopi (v := 5) (by decide +kernel) ?_
  refine lv_iload hx hb (show decode prog_15_method_4_code 88 = .ok (.iload 7, 2) by decide +kernel) (lv_at hl 0 rfl) ?_
  refine lv_bipush (v := 24) hx hb (show decode prog_15_method_4_code 90 = .ok (.bipush 24, 2) by decide +kernel) (by decide +kernel) ?_
  refine lv_bipush (v := 8) hx hb (show decode prog_15_method_4_code 92 = .ok (.bipush 8, 2) by decide +kernel) (by decide +kernel) ?_
  refine lv_iload hx hb (show decode prog_15_method_4_code 94 = .ok (.iload 6, 2) by decide +kernel) (lv_at hl 1 rfl) ?_
  refine lv_iconst (v := 4) hx hb (show decode prog_15_method_4_code 96 = .ok (.iconst 4, 1) by decide +kernel) (by decide +kernel) ?_
  refine lv_irem hx hb (show decode prog_15_method_4_code 97 = .ok (.irem, 1) by decide +kernel) (by decide +kernel) ?_
  refine xtopi (v := 1) (by decide +kernel) ?_
  refine lv_imul hx hb (show decode prog_15_method_4_code 98 = .ok (.imul, 1) by decide +kernel) ?_
  refine xtopi (v := 8) (by decide +kernel) ?_
  refine lv_isub hx hb (show decode prog_15_method_4_code 99 = .ok (.isub, 1) by decide +kernel) ?_
  refine xtopi (v := 16) (by decide +kernel) ?_
  refine lv_ishr hx hb (show decode prog_15_method_4_code 100 = .ok (.ishr, 1) by decide +kernel) ?_
  refine lv_i2b hx hb (show decode prog_15_method_4_code 101 = .ok (.i2b, 1) by decide +kernel) rfl ?_
  refine lv_topi (fun z_26 _ => ?_)
  refine va_bast hx hb hK hP hD hS 1 0 rfl rfl (by unfold vp_in; decide) (show decode prog_15_method_4_code 102 = .ok (.bastore, 1) by decide +kernel) (fun H locs hP hD hS => ?_)
  obtain ⟨g_27, hP, hD⟩ : ∃ g_27 : Nat → Int32, va_P D cl [(h0, .inr (1, (fs.set 0 (.int 0)))), (q0, .inl (cA0, 32768, .inl g_27))] H ∧ va_D _ [(h0, .inr (1, (fs.set 0 (.int 0)))), (q0, .inl (cA0, 32768, .inl g_27))] := ⟨_, hP, hD⟩
  refine lv_iinc (v := 6) (lv' := [(6, .int 6), (7, .int p1), (0, .ref h0), (1, .int p0), (2, .int p1), (3, .int p2), (4, .int p3), (5, .int p4)]) hx hb (show decode prog_15_method_4_code 103 = .ok (.iinc 6 1, 3) by decide +kernel) hl (k := 1) rfl (by decide +kernel) (by decide +kernel) rfl (fun ls hl => ?_)
  refine lv_goto (tgt := 22) hx hb (show decode prog_15_method_4_code 106 = .ok (.goto (-84), 3) by decide +kernel) (by decide +kernel) ?_
  refine lv_iload hx hb (show decode prog_15_method_4_code 22 = .ok (.iload 6, 2) by decide +kernel) (lv_at hl 0 rfl) ?_
  refine lv_bipush (v := 20) hx hb (show decode prog_15_method_4_code 24 = .ok (.bipush 20, 2) by decide +kernel) (by decide +kernel) ?_
  refine lv_icmp_ge (tgt := 109) hx hb (show decode prog_15_method_4_code 26 = .ok (.if_icmp .ge 83, 3) by decide +kernel) (by decide +kernel) (fun c_28 => absurd c_28 (by decide +kernel)) (fun c_28 => ?_)
  refine lv_iload hx hb (show decode prog_15_method_4_code 29 = .ok (.iload 6, 2) by decide +kernel) (lv_at hl 0 rfl) ?_
  refine lv_iconst (v := 4) hx hb (show decode prog_15_method_4_code 31 = .ok (.iconst 4, 1) by decide +kernel) (by decide +kernel) ?_
  refine lv_icmp_ge (tgt := 39) hx hb (show decode prog_15_method_4_code 32 = .ok (.if_icmp .ge 7, 3) by decide +kernel) (by decide +kernel) (fun c_29 => ?_) (fun c_29 => absurd c_29 (by decide +kernel))
  refine lv_iload hx hb (show decode prog_15_method_4_code 39 = .ok (.iload 6, 2) by decide +kernel) (lv_at hl 0 rfl) ?_
  refine lv_bipush (v := 8) hx hb (show decode prog_15_method_4_code 41 = .ok (.bipush 8, 2) by decide +kernel) (by decide +kernel) ?_
  refine lv_icmp_ge (tgt := 50) hx hb (show decode prog_15_method_4_code 43 = .ok (.if_icmp .ge 7, 3) by decide +kernel) (by decide +kernel) (fun c_30 => absurd c_30 (by decide +kernel)) (fun c_30 => ?_)
  refine lv_iload_n hx hb (show decode prog_15_method_4_code 46 = .ok (.iload_n 2, 1) by decide +kernel) rfl (lv_at hl 4 rfl) ?_
  refine lv_goto (tgt := 75) hx hb (show decode prog_15_method_4_code 47 = .ok (.goto 28, 3) by decide +kernel) (by decide +kernel) ?_
  refine lv_istore (lv' := [(7, .int p1), (6, .int 6), (0, .ref h0), (1, .int p0), (2, .int p1), (3, .int p2), (4, .int p3), (5, .int p4)]) hx hb (show decode prog_15_method_4_code 75 = .ok (.istore 7, 2) by decide +kernel) hl (by decide +kernel) rfl (fun ls hl => ?_)
  refine lv_aload_n hx hb (show decode prog_15_method_4_code 77 = .ok (.aload_n 0, 1) by decide +kernel) rfl (lv_at hl 2 rfl) ?_
  refine va_get (D := D) (ci := 1) (v := .ref q0) (C := R_MD) (T := F_MD) (N := 107) hx hb hts i_MD hown hK hP 0 rfl rfl 1 (by decide +kernel) (hts _ w_1563) (fun _ h9 => h9) (xg_ne (by decide +kernel) ha0) (show decode prog_15_method_4_code 78 = .ok (.getfield 10, 3) by decide +kernel) ?_
  refine lv_aload_n hx hb (show decode prog_15_method_4_code 81 = .ok (.aload_n 0, 1) by decide +kernel) rfl (lv_at hl 2 rfl) ?_
  refine va_get (D := D) (ci := 1) (v := .int 0) (C := R_MD) (T := F_MD) (N := 107) hx hb hts i_MD hown hK hP 0 rfl rfl 2 (by decide +kernel) (hts _ w_1564) (fun _ h9 => h9) (xg_ne (by decide +kernel) hf2) (show decode prog_15_method_4_code 82 = .ok (.getfield 210, 3) by decide +kernel) ?_
  refine lv_iload hx hb (show decode prog_15_method_4_code 85 = .ok (.iload 6, 2) by decide +kernel) (lv_at hl 1 rfl) ?_
  refine lv_iadd hx hb (show decode prog_15_method_4_code 87 = .ok (.iadd, 1) by decide +kernel) ?_
  refine xtopi (v := 6) (by decide +kernel) ?_
  refine lv_iload hx hb (show decode prog_15_method_4_code 88 = .ok (.iload 7, 2) by decide +kernel) (lv_at hl 0 rfl) ?_
  refine lv_bipush (v := 24) hx hb (show decode prog_15_method_4_code 90 = .ok (.bipush 24, 2) by decide +kernel) (by decide +kernel) ?_
  refine lv_bipush (v := 8) hx hb (show decode prog_15_method_4_code 92 = .ok (.bipush 8, 2) by decide +kernel) (by decide +kernel) ?_
  refine lv_iload hx hb (show decode prog_15_method_4_code 94 = .ok (.iload 6, 2) by decide +kernel) (lv_at hl 1 rfl) ?_
  refine lv_iconst (v := 4) hx hb (show decode prog_15_method_4_code 96 = .ok (.iconst 4, 1) by decide +kernel) (by decide +kernel) ?_
  refine lv_irem hx hb (show decode prog_15_method_4_code 97 = .ok (.irem, 1) by decide +kernel) (by decide +kernel) ?_
  refine xtopi (v := 2) (by decide +kernel) ?_
  refine lv_imul hx hb (show decode prog_15_method_4_code 98 = .ok (.imul, 1) by decide +kernel) ?_
  refine xtopi (v := 16) (by decide +kernel) ?_
  refine lv_isub hx hb (show decode prog_15_method_4_code 99 = .ok (.isub, 1) by decide +kernel) ?_
  refine xtopi (v := 8) (by decide +kernel) ?_
  refine lv_ishr hx hb (show decode prog_15_method_4_code 100 = .ok (.ishr, 1) by decide +kernel) ?_
  refine lv_i2b hx hb (show decode prog_15_method_4_code 101 = .ok (.i2b, 1) by decide +kernel) rfl ?_
  refine lv_topi (fun z_31 _ => ?_)
  refine va_bast hx hb hK hP hD hS 1 0 rfl rfl (by unfold vp_in; decide) (show decode prog_15_method_4_code 102 = .ok (.bastore, 1) by decide +kernel) (fun H locs hP hD hS => ?_)
  obtain ⟨g_32, hP, hD⟩ : ∃ g_32 : Nat → Int32, va_P D cl [(h0, .inr (1, (fs.set 0 (.int 0)))), (q0, .inl (cA0, 32768, .inl g_32))] H ∧ va_D _ [(h0, .inr (1, (fs.set 0 (.int 0)))), (q0, .inl (cA0, 32768, .inl g_32))] := ⟨_, hP, hD⟩
  refine lv_iinc (v := 7) (lv' := [(6, .int 7), (7, .int p1), (0, .ref h0), (1, .int p0), (2, .int p1), (3, .int p2), (4, .int p3), (5, .int p4)]) hx hb (show decode prog_15_method_4_code 103 = .ok (.iinc 6 1, 3) by decide +kernel) hl (k := 1) rfl (by decide +kernel) (by decide +kernel) rfl (fun ls hl => ?_)
  refine lv_goto (tgt := 22) hx hb (show decode prog_15_method_4_code 106 = .ok (.goto (-84), 3) by decide +kernel) (by decide +kernel) ?_
  refine lv_iload hx hb (show decode prog_15_method_4_code 22 = .ok (.iload 6, 2) by decide +kernel) (lv_at hl 0 rfl) ?_
  refine lv_bipush (v := 20) hx hb (show decode prog_15_method_4_code 24 = .ok (.bipush 20, 2) by decide +kernel) (by decide +kernel) ?_
  refine lv_icmp_ge (tgt := 109) hx hb (show decode prog_15_method_4_code 26 = .ok (.if_icmp .ge 83, 3) by decide +kernel) (by decide +kernel) (fun c_33 => absurd c_33 (by decide +kernel)) (fun c_33 => ?_)
  refine lv_iload hx hb (show decode prog_15_method_4_code 29 = .ok (.iload 6, 2) by decide +kernel) (lv_at hl 0 rfl) ?_
  refine lv_iconst (v := 4) hx hb (show decode prog_15_method_4_code 31 = .ok (.iconst 4, 1) by decide +kernel) (by decide +kernel) ?_
  refine lv_icmp_ge (tgt := 39) hx hb (show decode prog_15_method_4_code 32 = .ok (.if_icmp .ge 7, 3) by decide +kernel) (by decide +kernel) (fun c_34 => ?_) (fun c_34 => absurd c_34 (by decide +kernel))
  refine lv_iload hx hb (show decode prog_15_method_4_code 39 = .ok (.iload 6, 2) by decide +kernel) (lv_at hl 0 rfl) ?_
  refine lv_bipush (v := 8) hx hb (show decode prog_15_method_4_code 41 = .ok (.bipush 8, 2) by decide +kernel) (by decide +kernel) ?_
  refine lv_icmp_ge (tgt := 50) hx hb (show decode prog_15_method_4_code 43 = .ok (.if_icmp .ge 7, 3) by decide +kernel) (by decide +kernel) (fun c_35 => absurd c_35 (by decide +kernel)) (fun c_35 => ?_)
  refine lv_iload_n hx hb (show decode prog_15_method_4_code 46 = .ok (.iload_n 2, 1) by decide +kernel) rfl (lv_at hl 4 rfl) ?_
  refine lv_goto (tgt := 75) hx hb (show decode prog_15_method_4_code 47 = .ok (.goto 28, 3) by decide +kernel) (by decide +kernel) ?_
  refine lv_istore (lv' := [(7, .int p1), (6, .int 7), (0, .ref h0), (1, .int p0), (2, .int p1), (3, .int p2), (4, .int p3), (5, .int p4)]) hx hb (show decode prog_15_method_4_code 75 = .ok (.istore 7, 2) by decide +kernel) hl (by decide +kernel) rfl (fun ls hl => ?_)
  refine lv_aload_n hx hb (show decode prog_15_method_4_code 77 = .ok (.aload_n 0, 1) by decide +kernel) rfl (lv_at hl 2 rfl) ?_
  refine va_get (D := D) (ci := 1) (v := .ref q0) (C := R_MD) (T := F_MD) (N := 107) hx hb hts i_MD hown hK hP 0 rfl rfl 1 (by decide +kernel) (hts _ w_1563) (fun _ h9 => h9) (xg_ne (by decide +kernel) ha0) (show decode prog_15_method_4_code 78 = .ok (.getfield 10, 3) by decide +kernel) ?_
  refine lv_aload_n hx hb (show decode prog_15_method_4_code 81 = .ok (.aload_n 0, 1) by decide +kernel) rfl (lv_at hl 2 rfl) ?_
  refine va_get (D := D) (ci := 1) (v := .int 0) (C := R_MD) (T := F_MD) (N := 107) hx hb hts i_MD hown hK hP 0 rfl rfl 2 (by decide +kernel) (hts _ w_1564) (fun _ h9 => h9) (xg_ne (by decide +kernel) hf2) (show decode prog_15_method_4_code 82 = .ok (.getfield 210, 3) by decide +kernel) ?_
  refine lv_iload hx hb (show decode prog_15_method_4_code 85 = .ok (.iload 6, 2) by decide +kernel) (lv_at hl 1 rfl) ?_
  refine lv_iadd hx hb (show decode prog_15_method_4_code 87 = .ok (.iadd, 1) by decide +kernel) ?_
  refine xtopi (v := 7) (by decide +kernel) ?_
  refine lv_iload hx hb (show decode prog_15_method_4_code 88 = .ok (.iload 7, 2) by decide +kernel) (lv_at hl 0 rfl) ?_
  refine lv_bipush (v := 24) hx hb (show decode prog_15_method_4_code 90 = .ok (.bipush 24, 2) by decide +kernel) (by decide +kernel) ?_
  refine lv_bipush (v := 8) hx hb (show decode prog_15_method_4_code 92 = .ok (.bipush 8, 2) by decide +kernel) (by decide +kernel) ?_
  refine lv_iload hx hb (show decode prog_15_method_4_code 94 = .ok (.iload 6, 2) by decide +kernel) (lv_at hl 1 rfl) ?_
  refine lv_iconst (v := 4) hx hb (show decode prog_15_method_4_code 96 = .ok (.iconst 4, 1) by decide +kernel) (by decide +kernel) ?_
  refine lv_irem hx hb (show decode prog_15_method_4_code 97 = .ok (.irem, 1) by decide +kernel) (by decide +kernel) ?_
  refine xtopi (v := 3) (by decide +kernel) ?_
  refine lv_imul hx hb (show decode prog_15_method_4_code 98 = .ok (.imul, 1) by decide +kernel) ?_
  refine xtopi (v := 24) (by decide +kernel) ?_
  refine lv_isub hx hb (show decode prog_15_method_4_code 99 = .ok (.isub, 1) by decide +kernel) ?_
  refine xtopi (v := 0) (by decide +kernel) ?_
  refine lv_ishr hx hb (show decode prog_15_method_4_code 100 = .ok (.ishr, 1) by decide +kernel) ?_
  refine lv_i2b hx hb (show decode prog_15_method_4_code 101 = .ok (.i2b, 1) by decide +kernel) rfl ?_
  refine lv_topi (fun z_36 _ => ?_)
  refine va_bast hx hb hK hP hD hS 1 0 rfl rfl (by unfold vp_in; decide) (show decode prog_15_method_4_code 102 = .ok (.bastore, 1) by decide +kernel) (fun H locs hP hD hS => ?_)
  obtain ⟨g_37, hP, hD⟩ : ∃ g_37 : Nat → Int32, va_P D cl [(h0, .inr (1, (fs.set 0 (.int 0)))), (q0, .inl (cA0, 32768, .inl g_37))] H ∧ va_D _ [(h0, .inr (1, (fs.set 0 (.int 0)))), (q0, .inl (cA0, 32768, .inl g_37))] := ⟨_, hP, hD⟩
  refine lv_iinc (v := 8) (lv' := [(6, .int 8), (7, .int p1), (0, .ref h0), (1, .int p0), (2, .int p1), (3, .int p2), (4, .int p3), (5, .int p4)]) hx hb (show decode prog_15_method_4_code 103 = .ok (.iinc 6 1, 3) by decide +kernel) hl (k := 1) rfl (by decide +kernel) (by decide +kernel) rfl (fun ls hl => ?_)
  refine lv_goto (tgt := 22) hx hb (show decode prog_15_method_4_code 106 = .ok (.goto (-84), 3) by decide +kernel) (by decide +kernel) ?_
  refine lv_iload hx hb (show decode prog_15_method_4_code 22 = .ok (.iload 6, 2) by decide +kernel) (lv_at hl 0 rfl) ?_
  refine lv_bipush (v := 20) hx hb (show decode prog_15_method_4_code 24 = .ok (.bipush 20, 2) by decide +kernel) (by decide +kernel) ?_
  refine lv_icmp_ge (tgt := 109) hx hb (show decode prog_15_method_4_code 26 = .ok (.if_icmp .ge 83, 3) by decide +kernel) (by decide +kernel) (fun c_38 => absurd c_38 (by decide +kernel)) (fun c_38 => ?_)
  refine lv_iload hx hb (show decode prog_15_method_4_code 29 = .ok (.iload 6, 2) by decide +kernel) (lv_at hl 0 rfl) ?_
  refine lv_iconst (v := 4) hx hb (show decode prog_15_method_4_code 31 = .ok (.iconst 4, 1) by decide +kernel) (by decide +kernel) ?_
  refine lv_icmp_ge (tgt := 39) hx hb (show decode prog_15_method_4_code 32 = .ok (.if_icmp .ge 7, 3) by decide +kernel) (by decide +kernel) (fun c_39 => ?_) (fun c_39 => absurd c_39 (by decide +kernel))
  refine lv_iload hx hb (show decode prog_15_method_4_code 39 = .ok (.iload 6, 2) by decide +kernel) (lv_at hl 0 rfl) ?_
  refine lv_bipush (v := 8) hx hb (show decode prog_15_method_4_code 41 = .ok (.bipush 8, 2) by decide +kernel) (by decide +kernel) ?_
  refine lv_icmp_ge (tgt := 50) hx hb (show decode prog_15_method_4_code 43 = .ok (.if_icmp .ge 7, 3) by decide +kernel) (by decide +kernel) (fun c_40 => ?_) (fun c_40 => absurd c_40 (by decide +kernel))
  refine lv_iload hx hb (show decode prog_15_method_4_code 50 = .ok (.iload 6, 2) by decide +kernel) (lv_at hl 0 rfl) ?_
  refine lv_bipush (v := 12) hx hb (show decode prog_15_method_4_code 52 = .ok (.bipush 12, 2) by decide +kernel) (by decide +kernel) ?_
  refine lv_icmp_ge (tgt := 61) hx hb (show decode prog_15_method_4_code 54 = .ok (.if_icmp .ge 7, 3) by decide +kernel) (by decide +kernel) (fun c_41 => absurd c_41 (by decide +kernel)) (fun c_41 => ?_)
  refine lv_iload_n hx hb (show decode prog_15_method_4_code 57 = .ok (.iload_n 3, 1) by decide +kernel) rfl (lv_at hl 5 rfl) ?_
  refine lv_goto (tgt := 75) hx hb (show decode prog_15_method_4_code 58 = .ok (.goto 17, 3) by decide +kernel) (by decide +kernel) ?_
  refine lv_istore (lv' := [(7, .int p2), (6, .int 8), (0, .ref h0), (1, .int p0), (2, .int p1), (3, .int p2), (4, .int p3), (5, .int p4)]) hx hb (show decode prog_15_method_4_code 75 = .ok (.istore 7, 2) by decide +kernel) hl (by decide +kernel) rfl (fun ls hl => ?_)
  refine lv_aload_n hx hb (show decode prog_15_method_4_code 77 = .ok (.aload_n 0, 1) by decide +kernel) rfl (lv_at hl 2 rfl) ?_
  refine va_get (D := D) (ci := 1) (v := .ref q0) (C := R_MD) (T := F_MD) (N := 107) hx hb hts i_MD hown hK hP 0 rfl rfl 1 (by decide +kernel) (hts _ w_1563) (fun _ h9 => h9) (xg_ne (by decide +kernel) ha0) (show decode prog_15_method_4_code 78 = .ok (.getfield 10, 3) by decide +kernel) ?_
  refine lv_aload_n hx hb (show decode prog_15_method_4_code 81 = .ok (.aload_n 0, 1) by decide +kernel) rfl (lv_at hl 2 rfl) ?_
  refine va_get (D := D) (ci := 1) (v := .int 0) (C := R_MD) (T := F_MD) (N := 107) hx hb hts i_MD hown hK hP 0 rfl rfl 2 (by decide +kernel) (hts _ w_1564) (fun _ h9 => h9) (xg_ne (by decide +kernel) hf2) (show decode prog_15_method_4_code 82 = .ok (.getfield 210, 3) by decide +kernel) ?_
  refine lv_iload hx hb (show decode prog_15_method_4_code 85 = .ok (.iload 6, 2) by decide +kernel) (lv_at hl 1 rfl) ?_
  refine lv_iadd hx hb (show decode prog_15_method_4_code 87 = .ok (.iadd, 1) by decide +kernel) ?_
  refine xtopi (v := 8) (by decide +kernel) ?_
  refine lv_iload hx hb (show decode prog_15_method_4_code 88 = .ok (.iload 7, 2) by decide +kernel) (lv_at hl 0 rfl) ?_
  refine lv_bipush (v := 24) hx hb (show decode prog_15_method_4_code 90 = .ok (.bipush 24, 2) by decide +kernel) (by decide +kernel) ?_
  refine lv_bipush (v := 8) hx hb (show decode prog_15_method_4_code 92 = .ok (.bipush 8, 2) by decide +kernel) (by decide +kernel) ?_
  refine lv_iload hx hb (show decode prog_15_method_4_code 94 = .ok (.iload 6, 2) by decide +kernel) (lv_at hl 1 rfl) ?_
  refine lv_iconst (v := 4) hx hb (show decode prog_15_method_4_code 96 = .ok (.iconst 4, 1) by decide +kernel) (by decide +kernel) ?_
  refine lv_irem hx hb (show decode prog_15_method_4_code 97 = .ok (.irem, 1) by decide +kernel) (by decide +kernel) ?_
  refine xtopi (v := 0) (by decide +kernel) ?_
  refine lv_imul hx hb (show decode prog_15_method_4_code 98 = .ok (.imul, 1) by decide +kernel) ?_
  refine xtopi (v := 0) (by decide +kernel) ?_
  refine lv_isub hx hb (show decode prog_15_method_4_code 99 = .ok (.isub, 1) by decide +kernel) ?_
  refine xtopi (v := 24) (by decide +kernel) ?_
  refine lv_ishr hx hb (show decode prog_15_method_4_code 100 = .ok (.ishr, 1) by decide +kernel) ?_
  refine lv_i2b hx hb (show decode prog_15_method_4_code 101 = .ok (.i2b, 1) by decide +kernel) rfl ?_
  refine lv_topi (fun z_42 _ => ?_)
  refine va_bast hx hb hK hP hD hS 1 0 rfl rfl (by unfold vp_in; decide) (show decode prog_15_method_4_code 102 = .ok (.bastore, 1) by decide +kernel) (fun H locs hP hD hS => ?_)
  obtain ⟨g_43, hP, hD⟩ : ∃ g_43 : Nat → Int32, va_P D cl [(h0, .inr (1, (fs.set 0 (.int 0)))), (q0, .inl (cA0, 32768, .inl g_43))] H ∧ va_D _ [(h0, .inr (1, (fs.set 0 (.int 0)))), (q0, .inl (cA0, 32768, .inl g_43))] := ⟨_, hP, hD⟩
  refine lv_iinc (v := 9) (lv' := [(6, .int 9), (7, .int p2), (0, .ref h0), (1, .int p0), (2, .int p1), (3, .int p2), (4, .int p3), (5, .int p4)]) hx hb (show decode prog_15_method_4_code 103 = .ok (.iinc 6 1, 3) by decide +kernel) hl (k := 1) rfl (by decide +kernel) (by decide +kernel) rfl (fun ls hl => ?_)
  refine lv_goto (tgt := 22) hx hb (show decode prog_15_method_4_code 106 = .ok (.goto (-84), 3) by decide +kernel) (by decide +kernel) ?_
  refine lv_iload hx hb (show decode prog_15_method_4_code 22 = .ok (.iload 6, 2) by decide +kernel) (lv_at hl 0 rfl) ?_
  refine lv_bipush (v := 20) hx hb (show decode prog_15_method_4_code 24 = .ok (.bipush 20, 2) by decide +kernel) (by decide +kernel) ?_
  refine lv_icmp_ge (tgt := 109) hx hb (show decode prog_15_method_4_code 26 = .ok (.if_icmp .ge 83, 3) by decide +kernel) (by decide +kernel) (fun c_44 => absurd c_44 (by decide +kernel)) (fun c_44 => ?_)
  refine lv_iload hx hb (show decode prog_15_method_4_code 29 = .ok (.iload 6, 2) by decide +kernel) (lv_at hl 0 rfl) ?_
  refine lv_iconst (v := 4) hx hb (show decode prog_15_method_4_code 31 = .ok (.iconst 4, 1) by decide +kernel) (by decide +kernel) ?_
  refine lv_icmp_ge (tgt := 39) hx hb (show decode prog_15_method_4_code 32 = .ok (.if_icmp .ge 7, 3) by decide +kernel) (by decide +kernel) (fun c_45 => ?_) (fun c_45 => absurd c_45 (by decide +kernel))
  refine lv_iload hx hb (show decode prog_15_method_4_code 39 = .ok (.iload 6, 2) by decide +kernel) (lv_at hl 0 rfl) ?_
  refine lv_bipush (v := 8) hx hb (show decode prog_15_method_4_code 41 = .ok (.bipush 8, 2) by decide +kernel) (by decide +kernel) ?_
  refine lv_icmp_ge (tgt := 50) hx hb (show decode prog_15_method_4_code 43 = .ok (.if_icmp .ge 7, 3) by decide +kernel) (by decide +kernel) (fun c_46 => ?_) (fun c_46 => absurd c_46 (by decide +kernel))
  refine lv_iload hx hb (show decode prog_15_method_4_code 50 = .ok (.iload 6, 2) by decide +kernel) (lv_at hl 0 rfl) ?_
  refine lv_bipush (v := 12) hx hb (show decode prog_15_method_4_code 52 = .ok (.bipush 12, 2) by decide +kernel) (by decide +kernel) ?_
  refine lv_icmp_ge (tgt := 61) hx hb (show decode prog_15_method_4_code 54 = .ok (.if_icmp .ge 7, 3) by decide +kernel) (by decide +kernel) (fun c_47 => absurd c_47 (by decide +kernel)) (fun c_47 => ?_)
  refine lv_iload_n hx hb (show decode prog_15_method_4_code 57 = .ok (.iload_n 3, 1) by decide +kernel) rfl (lv_at hl 5 rfl) ?_
  refine lv_goto (tgt := 75) hx hb (show decode prog_15_method_4_code 58 = .ok (.goto 17, 3) by decide +kernel) (by decide +kernel) ?_
  refine lv_istore (lv' := [(7, .int p2), (6, .int 9), (0, .ref h0), (1, .int p0), (2, .int p1), (3, .int p2), (4, .int p3), (5, .int p4)]) hx hb (show decode prog_15_method_4_code 75 = .ok (.istore 7, 2) by decide +kernel) hl (by decide +kernel) rfl (fun ls hl => ?_)
  refine lv_aload_n hx hb (show decode prog_15_method_4_code 77 = .ok (.aload_n 0, 1) by decide +kernel) rfl (lv_at hl 2 rfl) ?_
  refine va_get (D := D) (ci := 1) (v := .ref q0) (C := R_MD) (T := F_MD) (N := 107) hx hb hts i_MD hown hK hP 0 rfl rfl 1 (by decide +kernel) (hts _ w_1563) (fun _ h9 => h9) (xg_ne (by decide +kernel) ha0) (show decode prog_15_method_4_code 78 = .ok (.getfield 10, 3) by decide +kernel) ?_
  refine lv_aload_n hx hb (show decode prog_15_method_4_code 81 = .ok (.aload_n 0, 1) by decide +kernel) rfl (lv_at hl 2 rfl) ?_
  refine va_get (D := D) (ci := 1) (v := .int 0) (C := R_MD) (T := F_MD) (N := 107) hx hb hts i_MD hown hK hP 0 rfl rfl 2 (by decide +kernel) (hts _ w_1564) (fun _ h9 => h9) (xg_ne (by decide +kernel) hf2) (show decode prog_15_method_4_code 82 = .ok (.getfield 210, 3) by decide +kernel) ?_
  refine lv_iload hx hb (show decode prog_15_method_4_code 85 = .ok (.iload 6, 2) by decide +kernel) (lv_at hl 1 rfl) ?_
  refine lv_iadd hx hb (show decode prog_15_method_4_code 87 = .ok (.iadd, 1) by decide +kernel) ?_
  refine xtopi (v := 9) (by decide +kernel) ?_
  refine lv_iload hx hb (show decode prog_15_method_4_code 88 = .ok (.iload 7, 2) by decide +kernel) (lv_at hl 0 rfl) ?_
  refine lv_bipush (v := 24) hx hb (show decode prog_15_method_4_code 90 = .ok (.bipush 24, 2) by decide +kernel) (by decide +kernel) ?_
  refine lv_bipush (v := 8) hx hb (show decode prog_15_method_4_code 92 = .ok (.bipush 8, 2) by decide +kernel) (by decide +kernel) ?_
  refine lv_iload hx hb (show decode prog_15_method_4_code 94 = .ok (.iload 6, 2) by decide +kernel) (lv_at hl 1 rfl) ?_
  refine lv_iconst (v := 4) hx hb (show decode prog_15_method_4_code 96 = .ok (.iconst 4, 1) by decide +kernel) (by decide +kernel) ?_
  refine lv_irem hx hb (show decode prog_15_method_4_code 97 = .ok (.irem, 1) by decide +kernel) (by decide +kernel) ?_
  refine xtopi (v := 1) (by decide +kernel) ?_
  refine lv_imul hx hb (show decode prog_15_method_4_code 98 = .ok (.imul, 1) by decide +kernel) ?_
  refine xtopi (v := 8) (by decide +kernel) ?_
  refine lv_isub hx hb (show decode prog_15_method_4_code 99 = .ok (.isub, 1) by decide +kernel) ?_
  refine xtopi (v := 16) (by decide +kernel) ?_
  refine lv_ishr hx hb (show decode prog_15_method_4_code 100 = .ok (.ishr, 1) by decide +kernel) ?_
  refine lv_i2b hx hb (show decode prog_15_method_4_code 101 = .ok (.i2b, 1) by decide +kernel) rfl ?_
  refine lv_topi (fun z_48 _ => ?_)
  refine va_bast hx hb hK hP hD hS 1 0 rfl rfl (by unfold vp_in; decide) (show decode prog_15_method_4_code 102 = .ok (.bastore, 1) by decide +kernel) (fun H locs hP hD hS => ?_)
  obtain ⟨g_49, hP, hD⟩ : ∃ g_49 : Nat → Int32, va_P D cl [(h0, .inr (1, (fs.set 0 (.int 0)))), (q0, .inl (cA0, 32768, .inl g_49))] H ∧ va_D _ [(h0, .inr (1, (fs.set 0 (.int 0)))), (q0, .inl (cA0, 32768, .inl g_49))] := ⟨_, hP, hD⟩
  refine lv_iinc (v := 10) (lv' := [(6, .int 10), (7, .int p2), (0, .ref h0), (1, .int p0), (2, .int p1), (3, .int p2), (4, .int p3), (5, .int p4)]) hx hb (show decode prog_15_method_4_code 103 = .ok (.iinc 6 1, 3) by decide +kernel) hl (k := 1) rfl (by decide +kernel) (by decide +kernel) rfl (fun ls hl => ?_)
  refine lv_goto (tgt := 22) hx hb (show decode prog_15_method_4_code 106 = .ok (.goto (-84), 3) by decide +kernel) (by decide +kernel) ?_
  refine lv_iload hx hb (show decode prog_15_method_4_code 22 = .ok (.iload 6, 2) by decide +kernel) (lv_at hl 0 rfl) ?_
  refine lv_bipush (v := 20) hx hb (show decode prog_15_method_4_code 24 = .ok (.bipush 20, 2) by decide +kernel) (by decide +kernel) ?_
  refine lv_icmp_ge (tgt := 109) hx hb (show decode prog_15_method_4_code 26 = .ok (.if_icmp .ge 83, 3) by decide +kernel) (by decide +kernel) (fun c_50 => absurd c_50 (by decide +kernel)) (fun c_50 => ?_)
  refine lv_iload hx hb (show decode prog_15_method_4_code 29 = .ok (.iload 6, 2) by decide +kernel) (lv_at hl 0 rfl) ?_
  refine lv_iconst (v := 4) hx hb (show decode prog_15_method_4_code 31 = .ok (.iconst 4, 1) by decide +kernel) (by decide +kernel) ?_
  refine lv_icmp_ge (tgt := 39) hx hb (show decode prog_15_method_4_code 32 = .ok (.if_icmp .ge 7, 3) by decide +kernel) (by decide +kernel) (fun c_51 => ?_) (fun c_51 => absurd c_51 (by decide +kernel))
  refine lv_iload hx hb (show decode prog_15_method_4_code 39 = .ok (.iload 6, 2) by decide +kernel) (lv_at hl 0 rfl) ?_
  refine lv_bipush (v := 8) hx hb (show decode prog_15_method_4_code 41 = .ok (.bipush 8, 2) by decide +kernel) (by decide +kernel) ?_
  refine lv_icmp_ge (tgt := 50) hx hb (show decode prog_15_method_4_code 43 = .ok (.if_icmp .ge 7, 3) by decide +kernel) (by decide +kernel) (fun c_52 => ?_) (fun c_52 => absurd c_52 (by decide +kernel))
  refine lv_iload hx hb (show decode prog_15_method_4_code 50 = .ok (.iload 6, 2) by decide +kernel) (lv_at hl 0 rfl) ?_
  refine lv_bipush (v := 12) hx hb (show decode prog_15_method_4_code 52 = .ok (.bipush 12, 2) by decide +kernel) (by decide +kernel) ?_
  refine lv_icmp_ge (tgt := 61) hx hb (show decode prog_15_method_4_code 54 = .ok (.if_icmp .ge 7, 3) by decide +kernel) (by decide +kernel) (fun c_53 => absurd c_53 (by decide +kernel)) (fun c_53 => ?_)
  refine lv_iload_n hx hb (show decode prog_15_method_4_code 57 = .ok (.iload_n 3, 1) by decide +kernel) rfl (lv_at hl 5 rfl) ?_
  refine lv_goto (tgt := 75) hx hb (show decode prog_15_method_4_code 58 = .ok (.goto 17, 3) by decide +kernel) (by decide +kernel) ?_
  refine lv_istore (lv' := [(7, .int p2), (6, .int 10), (0, .ref h0), (1, .int p0), (2, .int p1), (3, .int p2), (4, .int p3), (5, .int p4)]) hx hb (show decode prog_15_method_4_code 75 = .ok (.istore 7, 2) by decide +kernel) hl (by decide +kernel) rfl (fun ls hl => ?_)
  refine lv_aload_n hx hb (show decode prog_15_method_4_code 77 = .ok (.aload_n 0, 1) by decide +kernel) rfl (lv_at hl 2 rfl) ?_
  refine va_get (D := D) (ci := 1) (v := .ref q0) (C := R_MD) (T := F_MD) (N := 107) hx hb hts i_MD hown hK hP 0 rfl rfl 1 (by decide +kernel) (hts _ w_1563) (fun _ h9 => h9) (xg_ne (by decide +kernel) ha0) (show decode prog_15_method_4_code 78 = .ok (.getfield 10, 3) by decide +kernel) ?_
  refine lv_aload_n hx hb (show decode prog_15_method_4_code 81 = .ok (.aload_n 0, 1) by decide +kernel) rfl (lv_at hl 2 rfl) ?_
  refine va_get (D := D) (ci := 1) (v := .int 0) (C := R_MD) (T := F_MD) (N := 107) hx hb hts i_MD hown hK hP 0 rfl rfl 2 (by decide +kernel) (hts _ w_1564) (fun _ h9 => h9) (xg_ne (by decide +kernel) hf2) (show decode prog_15_method_4_code 82 = .ok (.getfield 210, 3) by decide +kernel) ?_
  refine lv_iload hx hb (show decode prog_15_method_4_code 85 = .ok (.iload 6, 2) by decide +kernel) (lv_at hl 1 rfl) ?_
  refine lv_iadd hx hb (show decode prog_15_method_4_code 87 = .ok (.iadd, 1) by decide +kernel) ?_
  refine xtopi (v := 10) (by decide +kernel) ?_
  refine lv_iload hx hb (show decode prog_15_method_4_code 88 = .ok (.iload 7, 2) by decide +kernel) (lv_at hl 0 rfl) ?_
  refine lv_bipush (v := 24) hx hb (show decode prog_15_method_4_code 90 = .ok (.bipush 24, 2) by decide +kernel) (by decide +kernel) ?_
  refine lv_bipush (v := 8) hx hb (show decode prog_15_method_4_code 92 = .ok (.bipush 8, 2) by decide +kernel) (by decide +kernel) ?_
  refine lv_iload hx hb (show decode prog_15_method_4_code 94 = .ok (.iload 6, 2) by decide +kernel) (lv_at hl 1 rfl) ?_
  refine lv_iconst (v := 4) hx hb (show decode prog_15_method_4_code 96 = .ok (.iconst 4, 1) by decide +kernel) (by decide +kernel) ?_
  refine lv_irem hx hb (show decode prog_15_method_4_code 97 = .ok (.irem, 1) by decide +kernel) (by decide +kernel) ?_
  refine xtopi (v := 2) (by decide +kernel) ?_
  refine lv_imul hx hb (show decode prog_15_method_4_code 98 = .ok (.imul, 1) by decide +kernel) ?_
  refine xtopi (v := 16) (by decide +kernel) ?_
  refine lv_isub hx hb (show decode prog_15_method_4_code 99 = .ok (.isub, 1) by decide +kernel) ?_
  refine xtopi (v := 8) (by decide +kernel) ?_
  refine lv_ishr hx hb (show decode prog_15_method_4_code 100 = .ok (.ishr, 1) by decide +kernel) ?_
  refine lv_i2b hx hb (show decode prog_15_method_4_code 101 = .ok (.i2b, 1) by decide +kernel) rfl ?_
  refine lv_topi (fun z_54 _ => ?_)
  refine va_bast hx hb hK hP hD hS 1 0 rfl rfl (by unfold vp_in; decide) (show decode prog_15_method_4_code 102 = .ok (.bastore, 1) by decide +kernel) (fun H locs hP hD hS => ?_)
  obtain ⟨g_55, hP, hD⟩ : ∃ g_55 : Nat → Int32, va_P D cl [(h0, .inr (1, (fs.set 0 (.int 0)))), (q0, .inl (cA0, 32768, .inl g_55))] H ∧ va_D _ [(h0, .inr (1, (fs.set 0 (.int 0)))), (q0, .inl (cA0, 32768, .inl g_55))] := ⟨_, hP, hD⟩
  refine lv_iinc (v := 11) (lv' := [(6, .int 11), (7, .int p2), (0, .ref h0), (1, .int p0), (2, .int p1), (3, .int p2), (4, .int p3), (5, .int p4)]) hx hb (show decode prog_15_method_4_code 103 = .ok (.iinc 6 1, 3) by decide +kernel) hl (k := 1) rfl (by decide +kernel) (by decide +kernel) rfl (fun ls hl => ?_)
  refine lv_goto (tgt := 22) hx hb (show decode prog_15_method_4_code 106 = .ok (.goto (-84), 3) by decide +kernel) (by decide +kernel) ?_
  refine lv_iload hx hb (show decode prog_15_method_4_code 22 = .ok (.iload 6, 2) by decide +kernel) (lv_at hl 0 rfl) ?_
  refine lv_bipush (v := 20) hx hb (show decode prog_15_method_4_code 24 = .ok (.bipush 20, 2) by decide +kernel) (by decide +kernel) ?_
  refine lv_icmp_ge (tgt := 109) hx hb (show decode prog_15_method_4_code 26 = .ok (.if_icmp .ge 83, 3) by decide +kernel) (by decide +kernel) (fun c_56 => absurd c_56 (by decide +kernel)) (fun c_56 => ?_)
  refine lv_iload hx hb (show decode prog_15_method_4_code 29 = .ok (.iload 6, 2) by decide +kernel) (lv_at hl 0 rfl) ?_
  refine lv_iconst (v := 4) hx hb (show decode prog_15_method_4_code 31 = .ok (.iconst 4, 1) by decide +kernel) (by decide +kernel) ?_
  refine lv_icmp_ge (tgt := 39) hx hb (show decode prog_15_method_4_code 32 = .ok (.if_icmp .ge 7, 3) by decide +kernel) (by decide +kernel) (fun c_57 => ?_) (fun c_57 => absurd c_57 (by decide +kernel))
  refine lv_iload hx hb (show decode prog_15_method_4_code 39 = .ok (.iload 6, 2) by decide +kernel) (lv_at hl 0 rfl) ?_
  refine lv_bipush (v := 8) hx hb (show decode prog_15_method_4_code 41 = .ok (.bipush 8, 2) by decide +kernel) (by decide +kernel) ?_
  refine lv_icmp_ge (tgt := 50) hx hb (show decode prog_15_method_4_code 43 = .ok (.if_icmp .ge 7, 3) by decide +kernel) (by decide +kernel) (fun c_58 => ?_) (fun c_58 => absurd c_58 (by decide +kernel))
  refine lv_iload hx hb (show decode prog_15_method_4_code 50 = .ok (.iload 6, 2) by decide +kernel) (lv_at hl 0 rfl) ?_
  refine lv_bipush (v := 12) hx hb (show decode prog_15_method_4_code 52 = .ok (.bipush 12, 2) by decide +kernel) (by decide +kernel) ?_
  refine lv_icmp_ge (tgt := 61) hx hb (show decode prog_15_method_4_code 54 = .ok (.if_icmp .ge 7, 3) by decide +kernel) (by decide +kernel) (fun c_59 => absurd c_59 (by decide +kernel)) (fun c_59 => ?_)
  refine lv_iload_n hx hb (show decode prog_15_method_4_code 57 = .ok (.iload_n 3, 1) by decide +kernel) rfl (lv_at hl 5 rfl) ?_
  refine lv_goto (tgt := 75) hx hb (show decode prog_15_method_4_code 58 = .ok (.goto 17, 3) by decide +kernel) (by decide +kernel) ?_
  refine lv_istore (lv' := [(7, .int p2), (6, .int 11), (0, .ref h0), (1, .int p0), (2, .int p1), (3, .int p2), (4, .int p3), (5, .int p4)]) hx hb (show decode prog_15_method_4_code 75 = .ok (.istore 7, 2) by decide +kernel) hl (by decide +kernel) rfl (fun ls hl => ?_)
  refine lv_aload_n hx hb (show decode prog_15_method_4_code 77 = .ok (.aload_n 0, 1) by decide +kernel) rfl (lv_at hl 2 rfl) ?_
  refine va_get (D := D) (ci := 1) (v := .ref q0) (C := R_MD) (T := F_MD) (N := 107) hx hb hts i_MD hown hK hP 0 rfl rfl 1 (by decide +kernel) (hts _ w_1563) (fun _ h9 => h9) (xg_ne (by decide +kernel) ha0) (show decode prog_15_method_4_code 78 = .ok (.getfield 10, 3) by decide +kernel) ?_
  refine lv_aload_n hx hb (show decode prog_15_method_4_code 81 = .ok (.aload_n 0, 1) by decide +kernel) rfl (lv_at hl 2 rfl) ?_
  refine va_get (D := D) (ci := 1) (v := .int 0) (C := R_MD) (T := F_MD) (N := 107) hx hb hts i_MD hown hK hP 0 rfl rfl 2 (by decide +kernel) (hts _ w_1564) (fun _ h9 => h9) (xg_ne (by decide +kernel) hf2) (show decode prog_15_method_4_code 82 = .ok (.getfield 210, 3) by decide +kernel) ?_
  refine lv_iload hx hb (show decode prog_15_method_4_code 85 = .ok (.iload 6, 2) by decide +kernel) (lv_at hl 1 rfl) ?_
  refine lv_iadd hx hb (show decode prog_15_method_4_code 87 = .ok (.iadd, 1) by decide +kernel) ?_
  refine xtopi (v := 11) (by decide +kernel) ?_
  refine lv_iload hx hb (show decode prog_15_method_4_code 88 = .ok (.iload 7, 2) by decide +kernel) (lv_at hl 0 rfl) ?_
  refine lv_bipush (v := 24) hx hb (show decode prog_15_method_4_code 90 = .ok (.bipush 24, 2) by decide +kernel) (by decide +kernel) ?_
  refine lv_bipush (v := 8) hx hb (show decode prog_15_method_4_code 92 = .ok (.bipush 8, 2) by decide +kernel) (by decide +kernel) ?_
  refine lv_iload hx hb (show decode prog_15_method_4_code 94 = .ok (.iload 6, 2) by decide +kernel) (lv_at hl 1 rfl) ?_
  refine lv_iconst (v := 4) hx hb (show decode prog_15_method_4_code 96 = .ok (.iconst 4, 1) by decide +kernel) (by decide +kernel) ?_
  refine lv_irem hx hb (show decode prog_15_method_4_code 97 = .ok (.irem, 1) by decide +kernel) (by decide +kernel) ?_
  refine xtopi (v := 3) (by decide +kernel) ?_
  refine lv_imul hx hb (show decode prog_15_method_4_code 98 = .ok (.imul, 1) by decide +kernel) ?_
  refine xtopi (v := 24) (by decide +kernel) ?_
  refine lv_isub hx hb (show decode prog_15_method_4_code 99 = .ok (.isub, 1) by decide +kernel) ?_
  refine xtopi (v := 0) (by decide +kernel) ?_
  refine lv_ishr hx hb (show decode prog_15_method_4_code 100 = .ok (.ishr, 1) by decide +kernel) ?_
  refine lv_i2b hx hb (show decode prog_15_method_4_code 101 = .ok (.i2b, 1) by decide +kernel) rfl ?_
  refine lv_topi (fun z_60 _ => ?_)
  refine va_bast hx hb hK hP hD hS 1 0 rfl rfl (by unfold vp_in; decide) (show decode prog_15_method_4_code 102 = .ok (.bastore, 1) by decide +kernel) (fun H locs hP hD hS => ?_)
  obtain ⟨g_61, hP, hD⟩ : ∃ g_61 : Nat → Int32, va_P D cl [(h0, .inr (1, (fs.set 0 (.int 0)))), (q0, .inl (cA0, 32768, .inl g_61))] H ∧ va_D _ [(h0, .inr (1, (fs.set 0 (.int 0)))), (q0, .inl (cA0, 32768, .inl g_61))] := ⟨_, hP, hD⟩
  refine lv_iinc (v := 12) (lv' := [(6, .int 12), (7, .int p2), (0, .ref h0), (1, .int p0), (2, .int p1), (3, .int p2), (4, .int p3), (5, .int p4)]) hx hb (show decode prog_15_method_4_code 103 = .ok (.iinc 6 1, 3) by decide +kernel) hl (k := 1) rfl (by decide +kernel) (by decide +kernel) rfl (fun ls hl => ?_)
  refine lv_goto (tgt := 22) hx hb (show decode prog_15_method_4_code 106 = .ok (.goto (-84), 3) by decide +kernel) (by decide +kernel) ?_
  refine lv_iload hx hb (show decode prog_15_method_4_code 22 = .ok (.iload 6, 2) by decide +kernel) (lv_at hl 0 rfl) ?_
  refine lv_bipush (v := 20) hx hb (show decode prog_15_method_4_code 24 = .ok (.bipush 20, 2) by decide +kernel) (by decide +kernel) ?_
  refine lv_icmp_ge (tgt := 109) hx hb (show decode prog_15_method_4_code 26 = .ok (.if_icmp .ge 83, 3) by decide +kernel) (by decide +kernel) (fun c_62 => absurd c_62 (by decide +kernel)) (fun c_62 => ?_)
  refine lv_iload hx hb (show decode prog_15_method_4_code 29 = .ok (.iload 6, 2) by decide +kernel) (lv_at hl 0 rfl) ?_
  refine lv_iconst (v := 4) hx hb (show decode prog_15_method_4_code 31 = .ok (.iconst 4, 1) by decide +kernel) (by decide +kernel) ?_
  refine lv_icmp_ge (tgt := 39) hx hb (show decode prog_15_method_4_code 32 = .ok (.if_icmp .ge 7, 3) by decide +kernel) (by decide +kernel) (fun c_63 => ?_) (fun c_63 => absurd c_63 (by decide +kernel))
  refine lv_iload hx hb (show decode prog_15_method_4_code 39 = .ok (.iload 6, 2) by decide +kernel) (lv_at hl 0 rfl) ?_
  refine lv_bipush (v := 8) hx hb (show decode prog_15_method_4_code 41 = .ok (.bipush 8, 2) by decide +kernel) (by decide +kernel) ?_
  refine lv_icmp_ge (tgt := 50) hx hb (show decode prog_15_method_4_code 43 = .ok (.if_icmp .ge 7, 3) by decide +kernel) (by decide +kernel) (fun c_64 => ?_) (fun c_64 => absurd c_64 (by decide +kernel))
  refine lv_iload hx hb (show decode prog_15_method_4_code 50 = .ok (.iload 6, 2) by decide +kernel) (lv_at hl 0 rfl) ?_
  refine lv_bipush (v := 12) hx hb (show decode prog_15_method_4_code 52 = .ok (.bipush 12, 2) by decide +kernel) (by decide +kernel) ?_
  refine lv_icmp_ge (tgt := 61) hx hb (show decode prog_15_method_4_code 54 = .ok (.if_icmp .ge 7, 3) by decide +kernel) (by decide +kernel) (fun c_65 => ?_) (fun c_65 => absurd c_65 (by decide +kernel))
  refine lv_iload hx hb (show decode prog_15_method_4_code 61 = .ok (.iload 6, 2) by decide +kernel) (lv_at hl 0 rfl) ?_
  refine lv_bipush (v := 16) hx hb (show decode prog_15_method_4_code 63 = .ok (.bipush 16, 2) by decide +kernel) (by decide +kernel) ?_
  refine lv_icmp_ge (tgt := 73) hx hb (show decode prog_15_method_4_code 65 = .ok (.if_icmp .ge 8, 3) by decide +kernel) (by decide +kernel) (fun c_66 => absurd c_66 (by decide +kernel)) (fun c_66 => ?_)
  refine lv_iload hx hb (show decode prog_15_method_4_code 68 = .ok (.iload 4, 2) by decide +kernel) (lv_at hl 6 rfl) ?_
  refine lv_goto (tgt := 75) hx hb (show decode prog_15_method_4_code 70 = .ok (.goto 5, 3) by decide +kernel) (by decide +kernel) ?_
  refine lv_istore (lv' := [(7, .int p3), (6, .int 12), (0, .ref h0), (1, .int p0), (2, .int p1), (3, .int p2), (4, .int p3), (5, .int p4)]) hx hb (show decode prog_15_method_4_code 75 = .ok (.istore 7, 2) by decide +kernel) hl (by decide +kernel) rfl (fun ls hl => ?_)
  refine lv_aload_n hx hb (show decode prog_15_method_4_code 77 = .ok (.aload_n 0, 1) by decide +kernel) rfl (lv_at hl 2 rfl) ?_
  refine va_get (D := D) (ci := 1) (v := .ref q0) (C := R_MD) (T := F_MD) (N := 107) hx hb hts i_MD hown hK hP 0 rfl rfl 1 (by decide +kernel) (hts _ w_1563) (fun _ h9 => h9) (xg_ne (by decide +kernel) ha0) (show decode prog_15_method_4_code 78 = .ok (.getfield 10, 3) by decide +kernel) ?_
  refine lv_aload_n hx hb (show decode prog_15_method_4_code 81 = .ok (.aload_n 0, 1) by decide +kernel) rfl (lv_at hl 2 rfl) ?_
  refine va_get (D := D) (ci := 1) (v := .int 0) (C := R_MD) (T := F_MD) (N := 107) hx hb hts i_MD hown hK hP 0 rfl rfl 2 (by decide +kernel) (hts _ w_1564) (fun _ h9 => h9) (xg_ne (by decide +kernel) hf2) (show decode prog_15_method_4_code 82 = .ok (.getfield 210, 3) by decide +kernel) ?_
  refine lv_iload hx hb (show decode prog_15_method_4_code 85 = .ok (.iload 6, 2) by decide +kernel) (lv_at hl 1 rfl) ?_
  refine lv_iadd hx hb (show decode prog_15_method_4_code 87 = .ok (.iadd, 1) by decide +kernel) ?_
  refine xtopi (v := 12) (by decide +kernel) ?_
  refine lv_iload hx hb (show decode prog_15_method_4_code 88 = .ok (.iload 7, 2) by decide +kernel) (lv_at hl 0 rfl) ?_
  refine lv_bipush (v := 24) hx hb (show decode prog_15_method_4_code 90 = .ok (.bipush 24, 2) by decide +kernel) (by decide +kernel) ?_
  refine lv_bipush (v := 8) hx hb (show decode prog_15_method_4_code 92 = .ok (.bipush 8, 2) by decide +kernel) (by decide +kernel) ?_
  refine lv_iload hx hb (show decode prog_15_method_4_code 94 = .ok (.iload 6, 2) by decide +kernel) (lv_at hl 1 rfl) ?_
  refine lv_iconst (v := 4) hx hb (show decode prog_15_method_4_code 96 = .ok (.iconst 4, 1) by decide +kernel) (by decide +kernel) ?_
  refine lv_irem hx hb (show decode prog_15_method_4_code 97 = .ok (.irem, 1) by decide +kernel) (by decide +kernel) ?_
  refine xtopi (v := 0) (by decide +kernel) ?_
  refine lv_imul hx hb (show decode prog_15_method_4_code 98 = .ok (.imul, 1) by decide +kernel) ?_
  refine xtopi (v := 0) (by decide +kernel) ?_
  refine lv_isub hx hb (show decode prog_15_method_4_code 99 = .ok (.isub, 1) by decide +kernel) ?_
  refine xtopi (v := 24) (by decide +kernel) ?_
  refine lv_ishr hx hb (show decode prog_15_method_4_code 100 = .ok (.ishr, 1) by decide +kernel) ?_
  refine lv_i2b hx hb (show decode prog_15_method_4_code 101 = .ok (.i2b, 1) by decide +kernel) rfl ?_
  refine lv_topi (fun z_67 _ => ?_)
  refine va_bast hx hb hK hP hD hS 1 0 rfl rfl (by unfold vp_in; decide) (show decode prog_15_method_4_code 102 = .ok (.bastore, 1) by decide +kernel) (fun H locs hP hD hS => ?_)
  obtain ⟨g_68, hP, hD⟩ : ∃ g_68 : Nat → Int32, va_P D cl [(h0, .inr (1, (fs.set 0 (.int 0)))), (q0, .inl (cA0, 32768, .inl g_68))] H ∧ va_D _ [(h0, .inr (1, (fs.set 0 (.int 0)))), (q0, .inl (cA0, 32768, .inl g_68))] := ⟨_, hP, hD⟩
  refine lv_iinc (v := 13) (lv' := [(6, .int 13), (7, .int p3), (0, .ref h0), (1, .int p0), (2, .int p1), (3, .int p2), (4, .int p3), (5, .int p4)]) hx hb (show decode prog_15_method_4_code 103 = .ok (.iinc 6 1, 3) by decide +kernel) hl (k := 1) rfl (by decide +kernel) (by decide +kernel) rfl (fun ls hl => ?_)
  refine lv_goto (tgt := 22) hx hb (show decode prog_15_method_4_code 106 = .ok (.goto (-84), 3) by decide +kernel) (by decide +kernel) ?_
  refine lv_iload hx hb (show decode prog_15_method_4_code 22 = .ok (.iload 6, 2) by decide +kernel) (lv_at hl 0 rfl) ?_
  refine lv_bipush (v := 20) hx hb (show decode prog_15_method_4_code 24 = .ok (.bipush 20, 2) by decide +kernel) (by decide +kernel) ?_
  refine lv_icmp_ge (tgt := 109) hx hb (show decode prog_15_method_4_code 26 = .ok (.if_icmp .ge 83, 3) by decide +kernel) (by decide +kernel) (fun c_69 => absurd c_69 (by decide +kernel)) (fun c_69 => ?_)
  refine lv_iload hx hb (show decode prog_15_method_4_code 29 = .ok (.iload 6, 2) by decide +kernel) (lv_at hl 0 rfl) ?_
  refine lv_iconst (v := 4) hx hb (show decode prog_15_method_4_code 31 = .ok (.iconst 4, 1) by decide +kernel) (by decide +kernel) ?_
  refine lv_icmp_ge (tgt := 39) hx hb (show decode prog_15_method_4_code 32 = .ok (.if_icmp .ge 7, 3) by decide +kernel) (by decide +kernel) (fun c_70 => ?_) (fun c_70 => absurd c_70 (by decide +kernel))
  refine lv_iload hx hb (show decode prog_15_method_4_code 39 = .ok (.iload 6, 2) by decide +kernel) (lv_at hl 0 rfl) ?_
  refine lv_bipush (v := 8) hx hb (show decode prog_15_method_4_code 41 = .ok (.bipush 8, 2) by decide +kernel) (by decide +kernel) ?_
  refine lv_icmp_ge (tgt := 50) hx hb (show decode prog_15_method_4_code 43 = .ok (.if_icmp .ge 7, 3) by decide +kernel) (by decide +kernel) (fun c_71 => ?_) (fun c_71 => absurd c_71 (by decide +kernel))
  refine lv_iload hx hb (show decode prog_15_method_4_code 50 = .ok (.iload 6, 2) by decide +kernel) (lv_at hl 0 rfl) ?_
  refine lv_bipush (v := 12) hx hb (show decode prog_15_method_4_code 52 = .ok (.bipush 12, 2) by decide +kernel) (by decide +kernel) ?_
  refine lv_icmp_ge (tgt := 61) hx hb (show decode prog_15_method_4_code 54 = .ok (.if_icmp .ge 7, 3) by decide +kernel) (by decide +kernel) (fun c_72 => ?_) (fun c_72 => absurd c_72 (by decide +kernel))
  refine lv_iload hx hb (show decode prog_15_method_4_code 61 = .ok (.iload 6, 2) by decide +kernel) (lv_at hl 0 rfl) ?_
  refine lv_bipush (v := 16) hx hb (show decode prog_15_method_4_code 63 = .ok (.bipush 16, 2) by decide +kernel) (by decide +kernel) ?_
  refine lv_icmp_ge (tgt := 73) hx hb (show decode prog_15_method_4_code 65 = .ok (.if_icmp .ge 8, 3) by decide +kernel) (by decide +kernel) (fun c_73 => absurd c_73 (by decide +kernel)) (fun c_73 => ?_)
  refine lv_iload hx hb (show decode prog_15_method_4_code 68 = .ok (.iload 4, 2) by decide +kernel) (lv_at hl 6 rfl) ?_
  refine lv_goto (tgt := 75) hx hb (show decode prog_15_method_4_code 70 = .ok (.goto 5, 3) by decide +kernel) (by decide +kernel) ?_
  refine lv_istore (lv' := [(7, .int p3), (6, .int 13), (0, .ref h0), (1, .int p0), (2, .int p1), (3, .int p2), (4, .int p3), (5, .int p4)]) hx hb (show decode prog_15_method_4_code 75 = .ok (.istore 7, 2) by decide +kernel) hl (by decide +kernel) rfl (fun ls hl => ?_)
  refine lv_aload_n hx hb (show decode prog_15_method_4_code 77 = .ok (.aload_n 0, 1) by decide +kernel) rfl (lv_at hl 2 rfl) ?_
  refine va_get (D := D) (ci := 1) (v := .ref q0) (C := R_MD) (T := F_MD) (N := 107) hx hb hts i_MD hown hK hP 0 rfl rfl 1 (by decide +kernel) (hts _ w_1563) (fun _ h9 => h9) (xg_ne (by decide +kernel) ha0) (show decode prog_15_method_4_code 78 = .ok (.getfield 10, 3) by decide +kernel) ?_
  refine lv_aload_n hx hb (show decode prog_15_method_4_code 81 = .ok (.aload_n 0, 1) by decide +kernel) rfl (lv_at hl 2 rfl) ?_
  refine va_get (D := D) (ci := 1) (v := .int 0) (C := R_MD) (T := F_MD) (N := 107) hx hb hts i_MD hown hK hP 0 rfl rfl 2 (by decide +kernel) (hts _ w_1564) (fun _ h9 => h9) (xg_ne (by decide +kernel) hf2) (show decode prog_15_method_4_code 82 = .ok (.getfield 210, 3) by decide +kernel) ?_
  refine lv_iload hx hb (show decode prog_15_method_4_code 85 = .ok (.iload 6, 2) by decide +kernel) (lv_at hl 1 rfl) ?_
  refine lv_iadd hx hb (show decode prog_15_method_4_code 87 = .ok (.iadd, 1) by decide +kernel) ?_
  refine xtopi (v := 13) (by decide +kernel) ?_
  refine lv_iload hx hb (show decode prog_15_method_4_code 88 = .ok (.iload 7, 2) by decide +kernel) (lv_at hl 0 rfl) ?_
  refine lv_bipush (v := 24) hx hb (show decode prog_15_method_4_code 90 = .ok (.bipush 24, 2) by decide +kernel) (by decide +kernel) ?_
  refine lv_bipush (v := 8) hx hb (show decode prog_15_method_4_code 92 = .ok (.bipush 8, 2) by decide +kernel) (by decide +kernel) ?_
  refine lv_iload hx hb (show decode prog_15_method_4_code 94 = .ok (.iload 6, 2) by decide +kernel) (lv_at hl 1 rfl) ?_
  refine lv_iconst (v := 4) hx hb (show decode prog_15_method_4_code 96 = .ok (.iconst 4, 1) by decide +kernel) (by decide +kernel) ?_
  refine lv_irem hx hb (show decode prog_15_method_4_code 97 = .ok (.irem, 1) by decide +kernel) (by decide +kernel) ?_
  refine xtopi (v := 1) (by decide +kernel) ?_
  refine lv_imul hx hb (show decode prog_15_method_4_code 98 = .ok (.imul, 1) by decide +kernel) ?_
  refine xtopi (v := 8) (by decide +kernel) ?_
  refine lv_isub hx hb (show decode prog_15_method_4_code 99 = .ok (.isub, 1) by decide +kernel) ?_
  refine xtopi (v := 16) (by decide +kernel) ?_
  refine lv_ishr hx hb (show decode prog_15_method_4_code 100 = .ok (.ishr, 1) by decide +kernel) ?_
  refine lv_i2b hx hb (show decode prog_15_method_4_code 101 = .ok (.i2b, 1) by decide +kernel) rfl ?_
  refine lv_topi (fun z_74 _ => ?_)
  refine va_bast hx hb hK hP hD hS 1 0 rfl rfl (by unfold vp_in; decide) (show decode prog_15_method_4_code 102 = .ok (.bastore, 1) by decide +kernel) (fun H locs hP hD hS => ?_)
  obtain ⟨g_75, hP, hD⟩ : ∃ g_75 : Nat → Int32, va_P D cl [(h0, .inr (1, (fs.set 0 (.int 0)))), (q0, .inl (cA0, 32768, .inl g_75))] H ∧ va_D _ [(h0, .inr (1, (fs.set 0 (.int 0)))), (q0, .inl (cA0, 32768, .inl g_75))] := ⟨_, hP, hD⟩
  refine lv_iinc (v := 14) (lv' := [(6, .int 14), (7, .int p3), (0, .ref h0), (1, .int p0), (2, .int p1), (3, .int p2), (4, .int p3), (5, .int p4)]) hx hb (show decode prog_15_method_4_code 103 = .ok (.iinc 6 1, 3) by decide +kernel) hl (k := 1) rfl (by decide +kernel) (by decide +kernel) rfl (fun ls hl => ?_)
  refine lv_goto (tgt := 22) hx hb (show decode prog_15_method_4_code 106 = .ok (.goto (-84), 3) by decide +kernel) (by decide +kernel) ?_
  refine lv_iload hx hb (show decode prog_15_method_4_code 22 = .ok (.iload 6, 2) by decide +kernel) (lv_at hl 0 rfl) ?_
  refine lv_bipush (v := 20) hx hb (show decode prog_15_method_4_code 24 = .ok (.bipush 20, 2) by decide +kernel) (by decide +kernel) ?_
  refine lv_icmp_ge (tgt := 109) hx hb (show decode prog_15_method_4_code 26 = .ok (.if_icmp .ge 83, 3) by decide +kernel) (by decide +kernel) (fun c_76 => absurd c_76 (by decide +kernel)) (fun c_76 => ?_)
  refine lv_iload hx hb (show decode prog_15_method_4_code 29 = .ok (.iload 6, 2) by decide +kernel) (lv_at hl 0 rfl) ?_
  refine lv_iconst (v := 4) hx hb (show decode prog_15_method_4_code 31 = .ok (.iconst 4, 1) by decide +kernel) (by decide +kernel) ?_
  refine lv_icmp_ge (tgt := 39) hx hb (show decode prog_15_method_4_code 32 = .ok (.if_icmp .ge 7, 3) by decide +kernel) (by decide +kernel) (fun c_77 => ?_) (fun c_77 => absurd c_77 (by decide +kernel))
  refine lv_iload hx hb (show decode prog_15_method_4_code 39 = .ok (.iload 6, 2) by decide +kernel) (lv_at hl 0 rfl) ?_
  refine lv_bipush (v := 8) hx hb (show decode prog_15_method_4_code 41 = .ok (.bipush 8, 2) by decide +kernel) (by decide +kernel) ?_
  refine lv_icmp_ge (tgt := 50) hx hb (show decode prog_15_method_4_code 43 = .ok (.if_icmp .ge 7, 3) by decide +kernel) (by decide +kernel) (fun c_78 => ?_) (fun c_78 => absurd c_78 (by decide +kernel))
  refine lv_iload hx hb (show decode prog_15_method_4_code 50 = .ok (.iload 6, 2) by decide +kernel) (lv_at hl 0 rfl) ?_
  refine lv_bipush (v := 12) hx hb (show decode prog_15_method_4_code 52 = .ok (.bipush 12, 2) by decide +kernel) (by decide +kernel) ?_
  refine lv_icmp_ge (tgt := 61) hx hb (show decode prog_15_method_4_code 54 = .ok (.if_icmp .ge 7, 3) by decide +kernel) (by decide +kernel) (fun c_79 => ?_) (fun c_79 => absurd c_79 (by decide +kernel))
  refine lv_iload hx hb (show decode prog_15_method_4_code 61 = .ok (.iload 6, 2) by decide +kernel) (lv_at hl 0 rfl) ?_
  refine lv_bipush (v := 16) hx hb (show decode prog_15_method_4_code 63 = .ok (.bipush 16, 2) by decide +kernel) (by decide +kernel) ?_
  refine lv_icmp_ge (tgt := 73) hx hb (show decode prog_15_method_4_code 65 = .ok (.if_icmp .ge 8, 3) by decide +kernel) (by decide +kernel) (fun c_80 => absurd c_80 (by decide +kernel)) (fun c_80 => ?_)
  refine lv_iload hx hb (show decode prog_15_method_4_code 68 = .ok (.iload 4, 2) by decide +kernel) (lv_at hl 6 rfl) ?_
  refine lv_goto (tgt := 75) hx hb (show decode prog_15_method_4_code 70 = .ok (.goto 5, 3) by decide +kernel) (by decide +kernel) ?_
  refine lv_istore (lv' := [(7, .int p3), (6, .int 14), (0, .ref h0), (1, .int p0), (2, .int p1), (3, .int p2), (4, .int p3), (5, .int p4)]) hx hb (show decode prog_15_method_4_code 75 = .ok (.istore 7, 2) by decide +kernel) hl (by decide +kernel) rfl (fun ls hl => ?_)
  refine lv_aload_n hx hb (show decode prog_15_method_4_code 77 = .ok (.aload_n 0, 1) by decide +kernel) rfl (lv_at hl 2 rfl) ?_
  refine va_get (D := D) (ci := 1) (v := .ref q0) (C := R_MD) (T := F_MD) (N := 107) hx hb hts i_MD hown hK hP 0 rfl rfl 1 (by decide +kernel) (hts _ w_1563) (fun _ h9 => h9) (xg_ne (by decide +kernel) ha0) (show decode prog_15_method_4_code 78 = .ok (.getfield 10, 3) by decide +kernel) ?_
  refine lv_aload_n hx hb (show decode prog_15_method_4_code 81 = .ok (.aload_n 0, 1) by decide +kernel) rfl (lv_at hl 2 rfl) ?_
  refine va_get (D := D) (ci := 1) (v := .int 0) (C := R_MD) (T := F_MD) (N := 107) hx hb hts i_MD hown hK hP 0 rfl rfl 2 (by decide +kernel) (hts _ w_1564) (fun _ h9 => h9) (xg_ne (by decide +kernel) hf2) (show decode prog_15_method_4_code 82 = .ok (.getfield 210, 3) by decide +kernel) ?_
  refine lv_iload hx hb (show decode prog_15_method_4_code 85 = .ok (.iload 6, 2) by decide +kernel) (lv_at hl 1 rfl) ?_
  refine lv_iadd hx hb (show decode prog_15_method_4_code 87 = .ok (.iadd, 1) by decide +kernel) ?_
  refine xtopi (v := 14) (by decide +kernel) ?_
  refine lv_iload hx hb (show decode prog_15_method_4_code 88 = .ok (.iload 7, 2) by decide +kernel) (lv_at hl 0 rfl) ?_
  refine lv_bipush (v := 24) hx hb (show decode prog_15_method_4_code 90 = .ok (.bipush 24, 2) by decide +kernel) (by decide +kernel) ?_
  refine lv_bipush (v := 8) hx hb (show decode prog_15_method_4_code 92 = .ok (.bipush 8, 2) by decide +kernel) (by decide +kernel) ?_
  refine lv_iload hx hb (show decode prog_15_method_4_code 94 = .ok (.iload 6, 2) by decide +kernel) (lv_at hl 1 rfl) ?_
  refine lv_iconst (v := 4) hx hb (show decode prog_15_method_4_code 96 = .ok (.iconst 4, 1) by decide +kernel) (by decide +kernel) ?_
  refine lv_irem hx hb (show decode prog_15_method_4_code 97 = .ok (.irem, 1) by decide +kernel) (by decide +kernel) ?_
  refine xtopi (v := 2) (by decide +kernel) ?_
  refine lv_imul hx hb (show decode prog_15_method_4_code 98 = .ok (.imul, 1) by decide +kernel) ?_
  refine xtopi (v := 16) (by decide +kernel) ?_
  refine lv_isub hx hb (show decode prog_15_method_4_code 99 = .ok (.isub, 1) by decide +kernel) ?_
  refine xtopi (v := 8) (by decide +kernel) ?_
  refine lv_ishr hx hb (show decode prog_15_method_4_code 100 = .ok (.ishr, 1) by decide +kernel) ?_
  refine lv_i2b hx hb (show decode prog_15_method_4_code 101 = .ok (.i2b, 1) by decide +kernel) rfl ?_
  refine lv_topi (fun z_81 _ => ?_)
  refine va_bast hx hb hK hP hD hS 1 0 rfl rfl (by unfold vp_in; decide) (show decode prog_15_method_4_code 102 = .ok (.bastore, 1) by decide +kernel) (fun H locs hP hD hS => ?_)
  obtain ⟨g_82, hP, hD⟩ : ∃ g_82 : Nat → Int32, va_P D cl [(h0, .inr (1, (fs.set 0 (.int 0)))), (q0, .inl (cA0, 32768, .inl g_82))] H ∧ va_D _ [(h0, .inr (1, (fs.set 0 (.int 0)))), (q0, .inl (cA0, 32768, .inl g_82))] := ⟨_, hP, hD⟩
  refine lv_iinc (v := 15) (lv' := [(6, .int 15), (7, .int p3), (0, .ref h0), (1, .int p0), (2, .int p1), (3, .int p2), (4, .int p3), (5, .int p4)]) hx hb (show decode prog_15_method_4_code 103 = .ok (.iinc 6 1, 3) by decide +kernel) hl (k := 1) rfl (by decide +kernel) (by decide +kernel) rfl (fun ls hl => ?_)
  refine lv_goto (tgt := 22) hx hb (show decode prog_15_method_4_code 106 = .ok (.goto (-84), 3) by decide +kernel) (by decide +kernel) ?_
  refine lv_iload hx hb (show decode prog_15_method_4_code 22 = .ok (.iload 6, 2) by decide +kernel) (lv_at hl 0 rfl) ?_
  refine lv_bipush (v := 20) hx hb (show decode prog_15_method_4_code 24 = .ok (.bipush 20, 2) by decide +kernel) (by decide +kernel) ?_
  refine lv_icmp_ge (tgt := 109) hx hb (show decode prog_15_method_4_code 26 = .ok (.if_icmp .ge 83, 3) by decide +kernel) (by decide +kernel) (fun c_83 => absurd c_83 (by decide +kernel)) (fun c_83 => ?_)
  refine lv_iload hx hb (show decode prog_15_method_4_code 29 = .ok (.iload 6, 2) by decide +kernel) (lv_at hl 0 rfl) ?_
  refine lv_iconst (v := 4) hx hb (show decode prog_15_method_4_code 31 = .ok (.iconst 4, 1) by decide +kernel) (by decide +kernel) ?_
  refine lv_icmp_ge (tgt := 39) hx hb (show decode prog_15_method_4_code 32 = .ok (.if_icmp .ge 7, 3) by decide +kernel) (by decide +kernel) (fun c_84 => ?_) (fun c_84 => absurd c_84 (by decide +kernel))
  refine lv_iload hx hb (show decode prog_15_method_4_code 39 = .ok (.iload 6, 2) by decide +kernel) (lv_at hl 0 rfl) ?_
  refine lv_bipush (v := 8) hx hb (show decode prog_15_method_4_code 41 = .ok (.bipush 8, 2) by decide +kernel) (by decide +kernel) ?_
  refine lv_icmp_ge (tgt := 50) hx hb (show decode prog_15_method_4_code 43 = .ok (.if_icmp .ge 7, 3) by decide +kernel) (by decide +kernel) (fun c_85 => ?_) (fun c_85 => absurd c_85 (by decide +kernel))
  refine lv_iload hx hb (show decode prog_15_method_4_code 50 = .ok (.iload 6, 2) by decide +kernel) (lv_at hl 0 rfl) ?_
  refine lv_bipush (v := 12) hx hb (show decode prog_15_method_4_code 52 = .ok (.bipush 12, 2) by decide +kernel) (by decide +kernel) ?_
  refine lv_icmp_ge (tgt := 61) hx hb (show decode prog_15_method_4_code 54 = .ok (.if_icmp .ge 7, 3) by decide +kernel) (by decide +kernel) (fun c_86 => ?_) (fun c_86 => absurd c_86 (by decide +kernel))
  refine lv_iload hx hb (show decode prog_15_method_4_code 61 = .ok (.iload 6, 2) by decide +kernel) (lv_at hl 0 rfl) ?_
  refine lv_bipush (v := 16) hx hb (show decode prog_15_method_4_code 63 = .ok (.bipush 16, 2) by decide +kernel) (by decide +kernel) ?_
  refine lv_icmp_ge (tgt := 73) hx hb (show decode prog_15_method_4_code 65 = .ok (.if_icmp .ge 8, 3) by decide +kernel) (by decide +kernel) (fun c_87 => absurd c_87 (by decide +kernel)) (fun c_87 => ?_)
  refine lv_iload hx hb (show decode prog_15_method_4_code 68 = .ok (.iload 4, 2) by decide +kernel) (lv_at hl 6 rfl) ?_
  refine lv_goto (tgt := 75) hx hb (show decode prog_15_method_4_code 70 = .ok (.goto 5, 3) by decide +kernel) (by decide +kernel) ?_
  refine lv_istore (lv' := [(7, .int p3), (6, .int 15), (0, .ref h0), (1, .int p0), (2, .int p1), (3, .int p2), (4, .int p3), (5, .int p4)]) hx hb (show decode prog_15_method_4_code 75 = .ok (.istore 7, 2) by decide +kernel) hl (by decide +kernel) rfl (fun ls hl => ?_)
  refine lv_aload_n hx hb (show decode prog_15_method_4_code 77 = .ok (.aload_n 0, 1) by decide +kernel) rfl (lv_at hl 2 rfl) ?_
  refine va_get (D := D) (ci := 1) (v := .ref q0) (C := R_MD) (T := F_MD) (N := 107) hx hb hts i_MD hown hK hP 0 rfl rfl 1 (by decide +kernel) (hts _ w_1563) (fun _ h9 => h9) (xg_ne (by decide +kernel) ha0) (show decode prog_15_method_4_code 78 = .ok (.getfield 10, 3) by decide +kernel) ?_
  refine lv_aload_n hx hb (show decode prog_15_method_4_code 81 = .ok (.aload_n 0, 1) by decide +kernel) rfl (lv_at hl 2 rfl) ?_
  refine va_get (D := D) (ci := 1) (v := .int 0) (C := R_MD) (T := F_MD) (N := 107) hx hb hts i_MD hown hK hP 0 rfl rfl 2 (by decide +kernel) (hts _ w_1564) (fun _ h9 => h9) (xg_ne (by decide +kernel) hf2) (show decode prog_15_method_4_code 82 = .ok (.getfield 210, 3) by decide +kernel) ?_
  refine lv_iload hx hb (show decode prog_15_method_4_code 85 = .ok (.iload 6, 2) by decide +kernel) (lv_at hl 1 rfl) ?_
  refine lv_iadd hx hb (show decode prog_15_method_4_code 87 = .ok (.iadd, 1) by decide +kernel) ?_
  refine xtopi (v := 15) (by decide +kernel) ?_
  refine lv_iload hx hb (show decode prog_15_method_4_code 88 = .ok (.iload 7, 2) by decide +kernel) (lv_at hl 0 rfl) ?_
  refine lv_bipush (v := 24) hx hb (show decode prog_15_method_4_code 90 = .ok (.bipush 24, 2) by decide +kernel) (by decide +kernel) ?_
  refine lv_bipush (v := 8) hx hb (show decode prog_15_method_4_code 92 = .ok (.bipush 8, 2) by decide +kernel) (by decide +kernel) ?_
  refine lv_iload hx hb (show decode prog_15_method_4_code 94 = .ok (.iload 6, 2) by decide +kernel) (lv_at hl 1 rfl) ?_
  refine lv_iconst (v := 4) hx hb (show decode prog_15_method_4_code 96 = .ok (.iconst 4, 1) by decide +kernel) (by decide +kernel) ?_
  refine lv_irem hx hb (show decode prog_15_method_4_code 97 = .ok (.irem, 1) by decide +kernel) (by decide +kernel) ?_
  refine xtopi (v := 3) (by decide +kernel) ?_
  refine lv_imul hx hb (show decode prog_15_method_4_code 98 = .ok (.imul, 1) by decide +kernel) ?_
  refine xtopi (v := 24) (by decide +kernel) ?_
  refine lv_isub hx hb (show decode prog_15_method_4_code 99 = .ok (.isub, 1) by decide +kernel) ?_
  refine xtopi (v := 0) (by decide +kernel) ?_
  refine lv_ishr hx hb (show decode prog_15_method_4_code 100 = .ok (.ishr, 1) by decide +kernel) ?_
  refine lv_i2b hx hb (show decode prog_15_method_4_code 101 = .ok (.i2b, 1) by decide +kernel) rfl ?_
  refine lv_topi (fun z_88 _ => ?_)
  refine va_bast hx hb hK hP hD hS 1 0 rfl rfl (by unfold vp_in; decide) (show decode prog_15_method_4_code 102 = .ok (.bastore, 1) by decide +kernel) (fun H locs hP hD hS => ?_)
  obtain ⟨g_89, hP, hD⟩ : ∃ g_89 : Nat → Int32, va_P D cl [(h0, .inr (1, (fs.set 0 (.int 0)))), (q0, .inl (cA0, 32768, .inl g_89))] H ∧ va_D _ [(h0, .inr (1, (fs.set 0 (.int 0)))), (q0, .inl (cA0, 32768, .inl g_89))] := ⟨_, hP, hD⟩
  refine lv_iinc (v := 16) (lv' := [(6, .int 16), (7, .int p3), (0, .ref h0), (1, .int p0), (2, .int p1), (3, .int p2), (4, .int p3), (5, .int p4)]) hx hb (show decode prog_15_method_4_code 103 = .ok (.iinc 6 1, 3) by decide +kernel) hl (k := 1) rfl (by decide +kernel) (by decide +kernel) rfl (fun ls hl => ?_)
  refine lv_goto (tgt := 22) hx hb (show decode prog_15_method_4_code 106 = .ok (.goto (-84), 3) by decide +kernel) (by decide +kernel) ?_
  refine lv_iload hx hb (show decode prog_15_method_4_code 22 = .ok (.iload 6, 2) by decide +kernel) (lv_at hl 0 rfl) ?_
  refine lv_bipush (v := 20) hx hb (show decode prog_15_method_4_code 24 = .ok (.bipush 20, 2) by decide +kernel) (by decide +kernel) ?_
  refine lv_icmp_ge (tgt := 109) hx hb (show decode prog_15_method_4_code 26 = .ok (.if_icmp .ge 83, 3) by decide +kernel) (by decide +kernel) (fun c_90 => absurd c_90 (by decide +kernel)) (fun c_90 => ?_)
  refine lv_iload hx hb (show decode prog_15_method_4_code 29 = .ok (.iload 6, 2) by decide +kernel) (lv_at hl 0 rfl) ?_
  refine lv_iconst (v := 4) hx hb (show decode prog_15_method_4_code 31 = .ok (.iconst 4, 1) by decide +kernel) (by decide +kernel) ?_
  refine lv_icmp_ge (tgt := 39) hx hb (show decode prog_15_method_4_code 32 = .ok (.if_icmp .ge 7, 3) by decide +kernel) (by decide +kernel) (fun c_91 => ?_) (fun c_91 => absurd c_91 (by decide +kernel))
  refine lv_iload hx hb (show decode prog_15_method_4_code 39 = .ok (.iload 6, 2) by decide +kernel) (lv_at hl 0 rfl) ?_
  refine lv_bipush (v := 8) hx hb (show decode prog_15_method_4_code 41 = .ok (.bipush 8, 2) by decide +kernel) (by decide +kernel) ?_
  refine lv_icmp_ge (tgt := 50) hx hb (show decode prog_15_method_4_code 43 = .ok (.if_icmp .ge 7, 3) by decide +kernel) (by decide +kernel) (fun c_92 => ?_) (fun c_92 => absurd c_92 (by decide +kernel))
  refine lv_iload hx hb (show decode prog_15_method_4_code 50 = .ok (.iload 6, 2) by decide +kernel) (lv_at hl 0 rfl) ?_
  refine lv_bipush (v := 12) hx hb (show decode prog_15_method_4_code 52 = .ok (.bipush 12, 2) by decide +kernel) (by decide +kernel) ?_
  refine lv_icmp_ge (tgt := 61) hx hb (show decode prog_15_method_4_code 54 = .ok (.if_icmp .ge 7, 3) by decide +kernel) (by decide +kernel) (fun c_93 => ?_) (fun c_93 => absurd c_93 (by decide +kernel))
  refine lv_iload hx hb (show decode prog_15_method_4_code 61 = .ok (.iload 6, 2) by decide +kernel) (lv_at hl 0 rfl) ?_
  refine lv_bipush (v := 16) hx hb (show decode prog_15_method_4_code 63 = .ok (.bipush 16, 2) by decide +kernel) (by decide +kernel) ?_
  refine lv_icmp_ge (tgt := 73) hx hb (show decode prog_15_method_4_code 65 = .ok (.if_icmp .ge 8, 3) by decide +kernel) (by decide +kernel) (fun c_94 => ?_) (fun c_94 => absurd c_94 (by decide +kernel))
  refine lv_iload hx hb (show decode prog_15_method_4_code 73 = .ok (.iload 5, 2) by decide +kernel) (lv_at hl 7 rfl) ?_
  refine lv_istore (lv' := [(7, .int p4), (6, .int 16), (0, .ref h0), (1, .int p0), (2, .int p1), (3, .int p2), (4, .int p3), (5, .int p4)]) hx hb (show decode prog_15_method_4_code 75 = .ok (.istore 7, 2) by decide +kernel) hl (by decide +kernel) rfl (fun ls hl => ?_)
  refine lv_aload_n hx hb (show decode prog_15_method_4_code 77 = .ok (.aload_n 0, 1) by decide +kernel) rfl (lv_at hl 2 rfl) ?_
  refine va_get (D := D) (ci := 1) (v := .ref q0) (C := R_MD) (T := F_MD) (N := 107) hx hb hts i_MD hown hK hP 0 rfl rfl 1 (by decide +kernel) (hts _ w_1563) (fun _ h9 => h9) (xg_ne (by decide +kernel) ha0) (show decode prog_15_method_4_code 78 = .ok (.getfield 10, 3) by decide +kernel) ?_
  refine lv_aload_n hx hb (show decode prog_15_method_4_code 81 = .ok (.aload_n 0, 1) by decide +kernel) rfl (lv_at hl 2 rfl) ?_
  refine va_get (D := D) (ci := 1) (v := .int 0) (C := R_MD) (T := F_MD) (N := 107) hx hb hts i_MD hown hK hP 0 rfl rfl 2 (by decide +kernel) (hts _ w_1564) (fun _ h9 => h9) (xg_ne (by decide +kernel) hf2) (show decode prog_15_method_4_code 82 = .ok (.getfield 210, 3) by decide +kernel) ?_
  refine lv_iload hx hb (show decode prog_15_method_4_code 85 = .ok (.iload 6, 2) by decide +kernel) (lv_at hl 1 rfl) ?_
  refine lv_iadd hx hb (show decode prog_15_method_4_code 87 = .ok (.iadd, 1) by decide +kernel) ?_
  refine xtopi (v := 16) (by decide +kernel) ?_
  refine lv_iload hx hb (show decode prog_15_method_4_code 88 = .ok (.iload 7, 2) by decide +kernel) (lv_at hl 0 rfl) ?_
  refine lv_bipush (v := 24) hx hb (show decode prog_15_method_4_code 90 = .ok (.bipush 24, 2) by decide +kernel) (by decide +kernel) ?_
  refine lv_bipush (v := 8) hx hb (show decode prog_15_method_4_code 92 = .ok (.bipush 8, 2) by decide +kernel) (by decide +kernel) ?_
  refine lv_iload hx hb (show decode prog_15_method_4_code 94 = .ok (.iload 6, 2) by decide +kernel) (lv_at hl 1 rfl) ?_
  refine lv_iconst (v := 4) hx hb (show decode prog_15_method_4_code 96 = .ok (.iconst 4, 1) by decide +kernel) (by decide +kernel) ?_
  refine lv_irem hx hb (show decode prog_15_method_4_code 97 = .ok (.irem, 1) by decide +kernel) (by decide +kernel) ?_
  refine xtopi (v := 0) (by decide +kernel) ?_
  refine lv_imul hx hb (show decode prog_15_method_4_code 98 = .ok (.imul, 1) by decide +kernel) ?_
  refine xtopi (v := 0) (by decide +kernel) ?_
  refine lv_isub hx hb (show decode prog_15_method_4_code 99 = .ok (.isub, 1) by decide +kernel) ?_
  refine xtopi (v := 24) (by decide +kernel) ?_
  refine lv_ishr hx hb (show decode prog_15_method_4_code 100 = .ok (.ishr, 1) by decide +kernel) ?_
  refine lv_i2b hx hb (show decode prog_15_method_4_code 101 = .ok (.i2b, 1) by decide +kernel) rfl ?_
  refine lv_topi (fun z_95 _ => ?_)
  refine va_bast hx hb hK hP hD hS 1 0 rfl rfl (by unfold vp_in; decide) (show decode prog_15_method_4_code 102 = .ok (.bastore, 1) by decide +kernel) (fun H locs hP hD hS => ?_)
  obtain ⟨g_96, hP, hD⟩ : ∃ g_96 : Nat → Int32, va_P D cl [(h0, .inr (1, (fs.set 0 (.int 0)))), (q0, .inl (cA0, 32768, .inl g_96))] H ∧ va_D _ [(h0, .inr (1, (fs.set 0 (.int 0)))), (q0, .inl (cA0, 32768, .inl g_96))] := ⟨_, hP, hD⟩
  refine lv_iinc (v := 17) (lv' := [(6, .int 17), (7, .int p4), (0, .ref h0), (1, .int p0), (2, .int p1), (3, .int p2), (4, .int p3), (5, .int p4)]) hx hb (show decode prog_15_method_4_code 103 = .ok (.iinc 6 1, 3) by decide +kernel) hl (k := 1) rfl (by decide +kernel) (by decide +kernel) rfl (fun ls hl => ?_)
  refine lv_goto (tgt := 22) hx hb (show decode prog_15_method_4_code 106 = .ok (.goto (-84), 3) by decide +kernel) (by decide +kernel) ?_
  refine lv_iload hx hb (show decode prog_15_method_4_code 22 = .ok (.iload 6, 2) by decide +kernel) (lv_at hl 0 rfl) ?_
  refine lv_bipush (v := 20) hx hb (show decode prog_15_method_4_code 24 = .ok (.bipush 20, 2) by decide +kernel) (by decide +kernel) ?_
  refine lv_icmp_ge (tgt := 109) hx hb (show decode prog_15_method_4_code 26 = .ok (.if_icmp .ge 83, 3) by decide +kernel) (by decide +kernel) (fun c_97 => absurd c_97 (by decide +kernel)) (fun c_97 => ?_)
  refine lv_iload hx hb (show decode prog_15_method_4_code 29 = .ok (.iload 6, 2) by decide +kernel) (lv_at hl 0 rfl) ?_
  refine lv_iconst (v := 4) hx hb (show decode prog_15_method_4_code 31 = .ok (.iconst 4, 1) by decide +kernel) (by decide +kernel) ?_
  refine lv_icmp_ge (tgt := 39) hx hb (show decode prog_15_method_4_code 32 = .ok (.if_icmp .ge 7, 3) by decide +kernel) (by decide +kernel) (fun c_98 => ?_) (fun c_98 => absurd c_98 (by decide +kernel))
  refine lv_iload hx hb (show decode prog_15_method_4_code 39 = .ok (.iload 6, 2) by decide +kernel) (lv_at hl 0 rfl) ?_
  refine lv_bipush (v := 8) hx hb (show decode prog_15_method_4_code 41 = .ok (.bipush 8, 2) by decide +kernel) (by decide +kernel) ?_
  refine lv_icmp_ge (tgt := 50) hx hb (show decode prog_15_method_4_code 43 = .ok (.if_icmp .ge 7, 3) by decide +kernel) (by decide +kernel) (fun c_99 => ?_) (fun c_99 => absurd c_99 (by decide +kernel))
  refine lv_iload hx hb (show decode prog_15_method_4_code 50 = .ok (.iload 6, 2) by decide +kernel) (lv_at hl 0 rfl) ?_
  refine lv_bipush (v := 12) hx hb (show decode prog_15_method_4_code 52 = .ok (.bipush 12, 2) by decide +kernel) (by decide +kernel) ?_
  refine lv_icmp_ge (tgt := 61) hx hb (show decode prog_15_method_4_code 54 = .ok (.if_icmp .ge 7, 3) by decide +kernel) (by decide +kernel) (fun c_100 => ?_) (fun c_100 => absurd c_100 (by decide +kernel))
  refine lv_iload hx hb (show decode prog_15_method_4_code 61 = .ok (.iload 6, 2) by decide +kernel) (lv_at hl 0 rfl) ?_
  refine lv_bipush (v := 16) hx hb (show decode prog_15_method_4_code 63 = .ok (.bipush 16, 2) by decide +kernel) (by decide +kernel) ?_
  refine lv_icmp_ge (tgt := 73) hx hb (show decode prog_15_method_4_code 65 = .ok (.if_icmp .ge 8, 3) by decide +kernel) (by decide +kernel) (fun c_101 => ?_) (fun c_101 => absurd c_101 (by decide +kernel))
  refine lv_iload hx hb (show decode prog_15_method_4_code 73 = .ok (.iload 5, 2) by decide +kernel) (lv_at hl 7 rfl) ?_
  refine lv_istore (lv' := [(7, .int p4), (6, .int 17), (0, .ref h0), (1, .int p0), (2, .int p1), (3, .int p2), (4, .int p3), (5, .int p4)]) hx hb (show decode prog_15_method_4_code 75 = .ok (.istore 7, 2) by decide +kernel) hl (by decide +kernel) rfl (fun ls hl => ?_)
  refine lv_aload_n hx hb (show decode prog_15_method_4_code 77 = .ok (.aload_n 0, 1) by decide +kernel) rfl (lv_at hl 2 rfl) ?_
  refine va_get (D := D) (ci := 1) (v := .ref q0) (C := R_MD) (T := F_MD) (N := 107) hx hb hts i_MD hown hK hP 0 rfl rfl 1 (by decide +kernel) (hts _ w_1563) (fun _ h9 => h9) (xg_ne (by decide +kernel) ha0) (show decode prog_15_method_4_code 78 = .ok (.getfield 10, 3) by decide +kernel) ?_
  refine lv_aload_n hx hb (show decode prog_15_method_4_code 81 = .ok (.aload_n 0, 1) by decide +kernel) rfl (lv_at hl 2 rfl) ?_
  refine va_get (D := D) (ci := 1) (v := .int 0) (C := R_MD) (T := F_MD) (N := 107) hx hb hts i_MD hown hK hP 0 rfl rfl 2 (by decide +kernel) (hts _ w_1564) (fun _ h9 => h9) (xg_ne (by decide +kernel) hf2) (show decode prog_15_method_4_code 82 = .ok (.getfield 210, 3) by decide +kernel) ?_
  refine lv_iload hx hb (show decode prog_15_method_4_code 85 = .ok (.iload 6, 2) by decide +kernel) (lv_at hl 1 rfl) ?_
  refine lv_iadd hx hb (show decode prog_15_method_4_code 87 = .ok (.iadd, 1) by decide +kernel) ?_
  refine xtopi (v := 17) (by decide +kernel) ?_
  refine lv_iload hx hb (show decode prog_15_method_4_code 88 = .ok (.iload 7, 2) by decide +kernel) (lv_at hl 0 rfl) ?_
  refine lv_bipush (v := 24) hx hb (show decode prog_15_method_4_code 90 = .ok (.bipush 24, 2) by decide +kernel) (by decide +kernel) ?_
  refine lv_bipush (v := 8) hx hb (show decode prog_15_method_4_code 92 = .ok (.bipush 8, 2) by decide +kernel) (by decide +kernel) ?_
  refine lv_iload hx hb (show decode prog_15_method_4_code 94 = .ok (.iload 6, 2) by decide +kernel) (lv_at hl 1 rfl) ?_
  refine lv_iconst (v := 4) hx hb (show decode prog_15_method_4_code 96 = .ok (.iconst 4, 1) by decide +kernel) (by decide +kernel) ?_
  refine lv_irem hx hb (show decode prog_15_method_4_code 97 = .ok (.irem, 1) by decide +kernel) (by decide +kernel) ?_
  refine xtopi (v := 1) (by decide +kernel) ?_
  refine lv_imul hx hb (show decode prog_15_method_4_code 98 = .ok (.imul, 1) by decide +kernel) ?_
  refine xtopi (v := 8) (by decide +kernel) ?_
  refine lv_isub hx hb (show decode prog_15_method_4_code 99 = .ok (.isub, 1) by decide +kernel) ?_
  refine xtopi (v := 16) (by decide +kernel) ?_
  refine lv_ishr hx hb (show decode prog_15_method_4_code 100 = .ok (.ishr, 1) by decide +kernel) ?_
  refine lv_i2b hx hb (show decode prog_15_method_4_code 101 = .ok (.i2b, 1) by decide +kernel) rfl ?_
  refine lv_topi (fun z_102 _ => ?_)
  refine va_bast hx hb hK hP hD hS 1 0 rfl rfl (by unfold vp_in; decide) (show decode prog_15_method_4_code 102 = .ok (.bastore, 1) by decide +kernel) (fun H locs hP hD hS => ?_)
  obtain ⟨g_103, hP, hD⟩ : ∃ g_103 : Nat → Int32, va_P D cl [(h0, .inr (1, (fs.set 0 (.int 0)))), (q0, .inl (cA0, 32768, .inl g_103))] H ∧ va_D _ [(h0, .inr (1, (fs.set 0 (.int 0)))), (q0, .inl (cA0, 32768, .inl g_103))] := ⟨_, hP, hD⟩
  refine lv_iinc (v := 18) (lv' := [(6, .int 18), (7, .int p4), (0, .ref h0), (1, .int p0), (2, .int p1), (3, .int p2), (4, .int p3), (5, .int p4)]) hx hb (show decode prog_15_method_4_code 103 = .ok (.iinc 6 1, 3) by decide +kernel) hl (k := 1) rfl (by decide +kernel) (by decide +kernel) rfl (fun ls hl => ?_)
  refine lv_goto (tgt := 22) hx hb (show decode prog_15_method_4_code 106 = .ok (.goto (-84), 3) by decide +kernel) (by decide +kernel) ?_
  refine lv_iload hx hb (show decode prog_15_method_4_code 22 = .ok (.iload 6, 2) by decide +kernel) (lv_at hl 0 rfl) ?_
  refine lv_bipush (v := 20) hx hb (show decode prog_15_method_4_code 24 = .ok (.bipush 20, 2) by decide +kernel) (by decide +kernel) ?_
  refine lv_icmp_ge (tgt := 109) hx hb (show decode prog_15_method_4_code 26 = .ok (.if_icmp .ge 83, 3) by decide +kernel) (by decide +kernel) (fun c_104 => absurd c_104 (by decide +kernel)) (fun c_104 => ?_)
  refine lv_iload hx hb (show decode prog_15_method_4_code 29 = .ok (.iload 6, 2) by decide +kernel) (lv_at hl 0 rfl) ?_
  refine lv_iconst (v := 4) hx hb (show decode prog_15_method_4_code 31 = .ok (.iconst 4, 1) by decide +kernel) (by decide +kernel) ?_
  refine lv_icmp_ge (tgt := 39) hx hb (show decode prog_15_method_4_code 32 = .ok (.if_icmp .ge 7, 3) by decide +kernel) (by decide +kernel) (fun c_105 => ?_) (fun c_105 => absurd c_105 (by decide +kernel))
  refine lv_iload hx hb (show decode prog_15_method_4_code 39 = .ok (.iload 6, 2) by decide +kernel) (lv_at hl 0 rfl) ?_
  refine lv_bipush (v := 8) hx hb (show decode prog_15_method_4_code 41 = .ok (.bipush 8, 2) by decide +kernel) (by decide +kernel) ?_
  refine lv_icmp_ge (tgt := 50) hx hb (show decode prog_15_method_4_code 43 = .ok (.if_icmp .ge 7, 3) by decide +kernel) (by decide +kernel) (fun c_106 => ?_) (fun c_106 => absurd c_106 (by decide +kernel))
  refine lv_iload hx hb (show decode prog_15_method_4_code 50 = .ok (.iload 6, 2) by decide +kernel) (lv_at hl 0 rfl) ?_
  refine lv_bipush (v := 12) hx hb (show decode prog_15_method_4_code 52 = .ok (.bipush 12, 2) by decide +kernel) (by decide +kernel) ?_
  refine lv_icmp_ge (tgt := 61) hx hb (show decode prog_15_method_4_code 54 = .ok (.if_icmp .ge 7, 3) by decide +kernel) (by decide +kernel) (fun c_107 => ?_) (fun c_107 => absurd c_107 (by decide +kernel))
  refine lv_iload hx hb (show decode prog_15_method_4_code 61 = .ok (.iload 6, 2) by decide +kernel) (lv_at hl 0 rfl) ?_
  refine lv_bipush (v := 16) hx hb (show decode prog_15_method_4_code 63 = .ok (.bipush 16, 2) by decide +kernel) (by decide +kernel) ?_
  refine lv_icmp_ge (tgt := 73) hx hb (show decode prog_15_method_4_code 65 = .ok (.if_icmp .ge 8, 3) by decide +kernel) (by decide +kernel) (fun c_108 => ?_) (fun c_108 => absurd c_108 (by decide +kernel))
  refine lv_iload hx hb (show decode prog_15_method_4_code 73 = .ok (.iload 5, 2) by decide +kernel) (lv_at hl 7 rfl) ?_
  refine lv_istore (lv' := [(7, .int p4), (6, .int 18), (0, .ref h0), (1, .int p0), (2, .int p1), (3, .int p2), (4, .int p3), (5, .int p4)]) hx hb (show decode prog_15_method_4_code 75 = .ok (.istore 7, 2) by decide +kernel) hl (by decide +kernel) rfl (fun ls hl => ?_)
  refine lv_aload_n hx hb (show decode prog_15_method_4_code 77 = .ok (.aload_n 0, 1) by decide +kernel) rfl (lv_at hl 2 rfl) ?_
  refine va_get (D := D) (ci := 1) (v := .ref q0) (C := R_MD) (T := F_MD) (N := 107) hx hb hts i_MD hown hK hP 0 rfl rfl 1 (by decide +kernel) (hts _ w_1563) (fun _ h9 => h9) (xg_ne (by decide +kernel) ha0) (show decode prog_15_method_4_code 78 = .ok (.getfield 10, 3) by decide +kernel) ?_
  refine lv_aload_n hx hb (show decode prog_15_method_4_code 81 = .ok (.aload_n 0, 1) by decide +kernel) rfl (lv_at hl 2 rfl) ?_
  refine va_get (D := D) (ci := 1) (v := .int 0) (C := R_MD) (T := F_MD) (N := 107) hx hb hts i_MD hown hK hP 0 rfl rfl 2 (by decide +kernel) (hts _ w_1564) (fun _ h9 => h9) (xg_ne (by decide +kernel) hf2) (show decode prog_15_method_4_code 82 = .ok (.getfield 210, 3) by decide +kernel) ?_
  refine lv_iload hx hb (show decode prog_15_method_4_code 85 = .ok (.iload 6, 2) by decide +kernel) (lv_at hl 1 rfl) ?_
  refine lv_iadd hx hb (show decode prog_15_method_4_code 87 = .ok (.iadd, 1) by decide +kernel) ?_
  refine xtopi (v := 18) (by decide +kernel) ?_
  refine lv_iload hx hb (show decode prog_15_method_4_code 88 = .ok (.iload 7, 2) by decide +kernel) (lv_at hl 0 rfl) ?_
  refine lv_bipush (v := 24) hx hb (show decode prog_15_method_4_code 90 = .ok (.bipush 24, 2) by decide +kernel) (by decide +kernel) ?_
  refine lv_bipush (v := 8) hx hb (show decode prog_15_method_4_code 92 = .ok (.bipush 8, 2) by decide +kernel) (by decide +kernel) ?_
  refine lv_iload hx hb (show decode prog_15_method_4_code 94 = .ok (.iload 6, 2) by decide +kernel) (lv_at hl 1 rfl) ?_
  refine lv_iconst (v := 4) hx hb (show decode prog_15_method_4_code 96 = .ok (.iconst 4, 1) by decide +kernel) (by decide +kernel) ?_
  refine lv_irem hx hb (show decode prog_15_method_4_code 97 = .ok (.irem, 1) by decide +kernel) (by decide +kernel) ?_
  refine xtopi (v := 2) (by decide +kernel) ?_
  refine lv_imul hx hb (show decode prog_15_method_4_code 98 = .ok (.imul, 1) by decide +kernel) ?_
  refine xtopi (v := 16) (by decide +kernel) ?_
  refine lv_isub hx hb (show decode prog_15_method_4_code 99 = .ok (.isub, 1) by decide +kernel) ?_
  refine xtopi (v := 8) (by decide +kernel) ?_
  refine lv_ishr hx hb (show decode prog_15_method_4_code 100 = .ok (.ishr, 1) by decide +kernel) ?_
  refine lv_i2b hx hb (show decode prog_15_method_4_code 101 = .ok (.i2b, 1) by decide +kernel) rfl ?_
  refine lv_topi (fun z_109 _ => ?_)
  refine va_bast hx hb hK hP hD hS 1 0 rfl rfl (by unfold vp_in; decide) (show decode prog_15_method_4_code 102 = .ok (.bastore, 1) by decide +kernel) (fun H locs hP hD hS => ?_)
  obtain ⟨g_110, hP, hD⟩ : ∃ g_110 : Nat → Int32, va_P D cl [(h0, .inr (1, (fs.set 0 (.int 0)))), (q0, .inl (cA0, 32768, .inl g_110))] H ∧ va_D _ [(h0, .inr (1, (fs.set 0 (.int 0)))), (q0, .inl (cA0, 32768, .inl g_110))] := ⟨_, hP, hD⟩
  refine lv_iinc (v := 19) (lv' := [(6, .int 19), (7, .int p4), (0, .ref h0), (1, .int p0), (2, .int p1), (3, .int p2), (4, .int p3), (5, .int p4)]) hx hb (show decode prog_15_method_4_code 103 = .ok (.iinc 6 1, 3) by decide +kernel) hl (k := 1) rfl (by decide +kernel) (by decide +kernel) rfl (fun ls hl => ?_)
  refine lv_goto (tgt := 22) hx hb (show decode prog_15_method_4_code 106 = .ok (.goto (-84), 3) by decide +kernel) (by decide +kernel) ?_
  refine lv_iload hx hb (show decode prog_15_method_4_code 22 = .ok (.iload 6, 2) by decide +kernel) (lv_at hl 0 rfl) ?_
  refine lv_bipush (v := 20) hx hb (show decode prog_15_method_4_code 24 = .ok (.bipush 20, 2) by decide +kernel) (by decide +kernel) ?_
  refine lv_icmp_ge (tgt := 109) hx hb (show decode prog_15_method_4_code 26 = .ok (.if_icmp .ge 83, 3) by decide +kernel) (by decide +kernel) (fun c_111 => absurd c_111 (by decide +kernel)) (fun c_111 => ?_)
  refine lv_iload hx hb (show decode prog_15_method_4_code 29 = .ok (.iload 6, 2) by decide +kernel) (lv_at hl 0 rfl) ?_
  refine lv_iconst (v := 4) hx hb (show decode prog_15_method_4_code 31 = .ok (.iconst 4, 1) by decide +kernel) (by decide +kernel) ?_
  refine lv_icmp_ge (tgt := 39) hx hb (show decode prog_15_method_4_code 32 = .ok (.if_icmp .ge 7, 3) by decide +kernel) (by decide +kernel) (fun c_112 => ?_) (fun c_112 => absurd c_112 (by decide +kernel))
  refine lv_iload hx hb (show decode prog_15_method_4_code 39 = .ok (.iload 6, 2) by decide +kernel) (lv_at hl 0 rfl) ?_
  refine lv_bipush (v := 8) hx hb (show decode prog_15_method_4_code 41 = .ok (.bipush 8, 2) by decide +kernel) (by decide +kernel) ?_
  refine lv_icmp_ge (tgt := 50) hx hb (show decode prog_15_method_4_code 43 = .ok (.if_icmp .ge 7, 3) by decide +kernel) (by decide +kernel) (fun c_113 => ?_) (fun c_113 => absurd c_113 (by decide +kernel))
  refine lv_iload hx hb (show decode prog_15_method_4_code 50 = .ok (.iload 6, 2) by decide +kernel) (lv_at hl 0 rfl) ?_
  refine lv_bipush (v := 12) hx hb (show decode prog_15_method_4_code 52 = .ok (.bipush 12, 2) by decide +kernel) (by decide +kernel) ?_
  refine lv_icmp_ge (tgt := 61) hx hb (show decode prog_15_method_4_code 54 = .ok (.if_icmp .ge 7, 3) by decide +kernel) (by decide +kernel) (fun c_114 => ?_) (fun c_114 => absurd c_114 (by decide +kernel))
  refine lv_iload hx hb (show decode prog_15_method_4_code 61 = .ok (.iload 6, 2) by decide +kernel) (lv_at hl 0 rfl) ?_
  refine lv_bipush (v := 16) hx hb (show decode prog_15_method_4_code 63 = .ok (.bipush 16, 2) by decide +kernel) (by decide +kernel) ?_
  refine lv_icmp_ge (tgt := 73) hx hb (show decode prog_15_method_4_code 65 = .ok (.if_icmp .ge 8, 3) by decide +kernel) (by decide +kernel) (fun c_115 => ?_) (fun c_115 => absurd c_115 (by decide +kernel))
  refine lv_iload hx hb (show decode prog_15_method_4_code 73 = .ok (.iload 5, 2) by decide +kernel) (lv_at hl 7 rfl) ?_
  refine lv_istore (lv' := [(7, .int p4), (6, .int 19), (0, .ref h0), (1, .int p0), (2, .int p1), (3, .int p2), (4, .int p3), (5, .int p4)]) hx hb (show decode prog_15_method_4_code 75 = .ok (.istore 7, 2) by decide +kernel) hl (by decide +kernel) rfl (fun ls hl => ?_)
  refine lv_aload_n hx hb (show decode prog_15_method_4_code 77 = .ok (.aload_n 0, 1) by decide +kernel) rfl (lv_at hl 2 rfl) ?_
  refine va_get (D := D) (ci := 1) (v := .ref q0) (C := R_MD) (T := F_MD) (N := 107) hx hb hts i_MD hown hK hP 0 rfl rfl 1 (by decide +kernel) (hts _ w_1563) (fun _ h9 => h9) (xg_ne (by decide +kernel) ha0) (show decode prog_15_method_4_code 78 = .ok (.getfield 10, 3) by decide +kernel) ?_
  refine lv_aload_n hx hb (show decode prog_15_method_4_code 81 = .ok (.aload_n 0, 1) by decide +kernel) rfl (lv_at hl 2 rfl) ?_
  refine va_get (D := D) (ci := 1) (v := .int 0) (C := R_MD) (T := F_MD) (N := 107) hx hb hts i_MD hown hK hP 0 rfl rfl 2 (by decide +kernel) (hts _ w_1564) (fun _ h9 => h9) (xg_ne (by decide +kernel) hf2) (show decode prog_15_method_4_code 82 = .ok (.getfield 210, 3) by decide +kernel) ?_
  refine lv_iload hx hb (show decode prog_15_method_4_code 85 = .ok (.iload 6, 2) by decide +kernel) (lv_at hl 1 rfl) ?_
  refine lv_iadd hx hb (show decode prog_15_method_4_code 87 = .ok (.iadd, 1) by decide +kernel) ?_
  refine xtopi (v := 19) (by decide +kernel) ?_
  refine lv_iload hx hb (show decode prog_15_method_4_code 88 = .ok (.iload 7, 2) by decide +kernel) (lv_at hl 0 rfl) ?_
  refine lv_bipush (v := 24) hx hb (show decode prog_15_method_4_code 90 = .ok (.bipush 24, 2) by decide +kernel) (by decide +kernel) ?_
  refine lv_bipush (v := 8) hx hb (show decode prog_15_method_4_code 92 = .ok (.bipush 8, 2) by decide +kernel) (by decide +kernel) ?_
  refine lv_iload hx hb (show decode prog_15_method_4_code 94 = .ok (.iload 6, 2) by decide +kernel) (lv_at hl 1 rfl) ?_
  refine lv_iconst (v := 4) hx hb (show decode prog_15_method_4_code 96 = .ok (.iconst 4, 1) by decide +kernel) (by decide +kernel) ?_
  refine lv_irem hx hb (show decode prog_15_method_4_code 97 = .ok (.irem, 1) by decide +kernel) (by decide +kernel) ?_
  refine xtopi (v := 3) (by decide +kernel) ?_
  refine lv_imul hx hb (show decode prog_15_method_4_code 98 = .ok (.imul, 1) by decide +kernel) ?_
  refine xtopi (v := 24) (by decide +kernel) ?_
  refine lv_isub hx hb (show decode prog_15_method_4_code 99 = .ok (.isub, 1) by decide +kernel) ?_
  refine xtopi (v := 0) (by decide +kernel) ?_
  refine lv_ishr hx hb (show decode prog_15_method_4_code 100 = .ok (.ishr, 1) by decide +kernel) ?_
  refine lv_i2b hx hb (show decode prog_15_method_4_code 101 = .ok (.i2b, 1) by decide +kernel) rfl ?_
  refine lv_topi (fun z_116 _ => ?_)
  refine va_bast hx hb hK hP hD hS 1 0 rfl rfl (by unfold vp_in; decide) (show decode prog_15_method_4_code 102 = .ok (.bastore, 1) by decide +kernel) (fun H locs hP hD hS => ?_)
  obtain ⟨g_117, hP, hD⟩ : ∃ g_117 : Nat → Int32, va_P D cl [(h0, .inr (1, (fs.set 0 (.int 0)))), (q0, .inl (cA0, 32768, .inl g_117))] H ∧ va_D _ [(h0, .inr (1, (fs.set 0 (.int 0)))), (q0, .inl (cA0, 32768, .inl g_117))] := ⟨_, hP, hD⟩
  refine lv_iinc (v := 20) (lv' := [(6, .int 20), (7, .int p4), (0, .ref h0), (1, .int p0), (2, .int p1), (3, .int p2), (4, .int p3), (5, .int p4)]) hx hb (show decode prog_15_method_4_code 103 = .ok (.iinc 6 1, 3) by decide +kernel) hl (k := 1) rfl (by decide +kernel) (by decide +kernel) rfl (fun ls hl => ?_)
  refine lv_goto (tgt := 22) hx hb (show decode prog_15_method_4_code 106 = .ok (.goto (-84), 3) by decide +kernel) (by decide +kernel) ?_
  refine lv_iload hx hb (show decode prog_15_method_4_code 22 = .ok (.iload 6, 2) by decide +kernel) (lv_at hl 0 rfl) ?_
  refine lv_bipush (v := 20) hx hb (show decode prog_15_method_4_code 24 = .ok (.bipush 20, 2) by decide +kernel) (by decide +kernel) ?_
  refine lv_icmp_ge (tgt := 109) hx hb (show decode prog_15_method_4_code 26 = .ok (.if_icmp .ge 83, 3) by decide +kernel) (by decide +kernel) (fun c_118 => ?_) (fun c_118 => absurd c_118 (by decide +kernel))
  refine lv_aload_n hx hb (show decode prog_15_method_4_code 109 = .ok (.aload_n 0, 1) by decide +kernel) rfl (lv_at hl 2 rfl) ?_
  refine lv_dup hx hb (show decode prog_15_method_4_code 110 = .ok (.dup, 1) by decide +kernel) rfl ?_
  refine va_get (D := D) (ci := 1) (v := .int 0) (C := R_MD) (T := F_MD) (N := 107) hx hb hts i_MD hown hK hP 0 rfl rfl 2 (by decide +kernel) (hts _ w_1564) (fun _ h9 => h9) (xg_ne (by decide +kernel) hf2) (show decode prog_15_method_4_code 111 = .ok (.getfield 210, 3) by decide +kernel) ?_
  refine lv_bipush (v := 20) hx hb (show decode prog_15_method_4_code 114 = .ok (.bipush 20, 2) by decide +kernel) (by decide +kernel) ?_
  refine lv_iadd hx hb (show decode prog_15_method_4_code 116 = .ok (.iadd, 1) by decide +kernel) ?_
  refine xtopi (v := 20) (by decide +kernel) ?_
  refine va_put (D := D) (ci := 1) (v := .int 20) (ty := .int) (C := R_MD) (T := F_MD) (N := 107) hx hb hts i_MD t_MD t_MD_ok n_MD hown hK hP hD hS 0 rfl rfl 2 (by decide +kernel) (hts _ w_1564) (fun _ h9 => h9) rfl (by decide +kernel) rfl rfl (by simp [hfl]) (show decode prog_15_method_4_code 117 = .ok (.putfield 210, 3) by decide +kernel) (fun H locs hP hD hS => ?_)
  have hP : va_P D cl [(h0, .inr (1, ((fs.set 0 (.int 0)).set 2 (.int 20)))), (q0, .inl (cA0, 32768, .inl g_117))] H := hP
  have hD : va_D _ [(h0, .inr (1, ((fs.set 0 (.int 0)).set 2 (.int 20)))), (q0, .inl (cA0, 32768, .inl g_117))] := hD
  refine lv_aload_n hx hb (show decode prog_15_method_4_code 120 = .ok (.aload_n 0, 1) by decide +kernel) rfl (lv_at hl 2 rfl) ?_
  refine lv_iconst (v := 1) hx hb (show decode prog_15_method_4_code 121 = .ok (.iconst 1, 1) by decide +kernel) (by decide +kernel) ?_
  refine va_put (D := D) (ci := 1) (v := .int 1) (ty := .boolean) (C := R_MD) (T := F_MD) (N := 107) hx hb hts i_MD t_MD t_MD_ok n_MD hown hK hP hD hS 0 rfl rfl 3 (by decide +kernel) (hts _ w_1565) (fun _ h9 => h9) rfl (by decide +kernel) (by decide +kernel) rfl (by simp [hfl]) (show decode prog_15_method_4_code 122 = .ok (.putfield 213, 3) by decide +kernel) (fun H locs hP hD hS => ?_)
  have hP : va_P D cl [(h0, .inr (1, (((fs.set 0 (.int 0)).set 2 (.int 20)).set 3 (.int 1)))), (q0, .inl (cA0, 32768, .inl g_117))] H := hP
  have hD : va_D _ [(h0, .inr (1, (((fs.set 0 (.int 0)).set 2 (.int 20)).set 3 (.int 1)))), (q0, .inl (cA0, 32768, .inl g_117))] := hD
  refine lv_aload_n hx hb (show decode prog_15_method_4_code 125 = .ok (.aload_n 0, 1) by decide +kernel) rfl (lv_at hl 2 rfl) ?_
  refine va_get (D := D) (ci := 1) (v := .int 20) (C := R_MD) (T := F_MD) (N := 107) hx hb hts i_MD hown hK hP 0 rfl rfl 2 (by decide +kernel) (hts _ w_1564) (fun _ h9 => h9) (xg_ne (by decide +kernel) (xg_eq (by simp [hfl]))) (show decode prog_15_method_4_code 126 = .ok (.getfield 210, 3) by decide +kernel) ?_
  exact W.iret (v := 20) hx hb hr (fun t ht hW => ⟨⟨20, g_117, rfl, rfl, by rw [ht]; exact hP, va_K.moved hW.alike hK, hD⟩, hS.F ht⟩) hS.2.2 (show decode prog_15_method_4_code 129 = .ok (.ireturn, 1) by decide +kernel)
end
