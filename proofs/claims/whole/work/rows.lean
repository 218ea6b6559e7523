section
-- ===== PART A: goes FIRST, ahead of the names: the tables' words, and 'selects' of the private methods out of them =====
/-- a private method of a class that the tables say can be made, by its rows of tables_1 -/
def lw_okq (q : MethodName × Nat) : Prop := (q.1.cls ≠ "java/lang/invoke/MethodHandle" ∧ q.1.cls ≠ "java/lang/invoke/VarHandle") ∧ Cond.instantiable q.1.cls q.2 ∈ tables_1 ∧ Cond.privateMethod q.1 ∈ tables_1 ∧ Cond.instanceMethod q.1 ∈ tables_1
theorem lw_p0 : lw_okq (⟨"TableauBench$Tableau", "firstGreater", "(II)I"⟩, 2) := ⟨⟨by decide +kernel, by decide +kernel⟩, List.mem_of_getElem? (i := 37) (by decide +kernel), List.mem_of_getElem? (i := 255) (by decide +kernel), List.mem_of_getElem? (i := 256) (by decide +kernel)⟩
theorem lw_p1 : lw_okq (⟨"TableauBench", "slotNumbered", "(I)LTableauBench$Shape;"⟩, 13) := ⟨⟨by decide +kernel, by decide +kernel⟩, List.mem_of_getElem? (i := 25) (by decide +kernel), List.mem_of_getElem? (i := 284) (by decide +kernel), List.mem_of_getElem? (i := 285) (by decide +kernel)⟩
theorem lw_p2 : lw_okq (⟨"java/lang/Throwable", "fillInStackTrace", "(I)Ljava/lang/Throwable;"⟩, 6) := ⟨⟨by decide +kernel, by decide +kernel⟩, List.mem_of_getElem? (i := 328) (by decide +kernel), List.mem_of_getElem? (i := 326) (by decide +kernel), List.mem_of_getElem? (i := 327) (by decide +kernel)⟩
theorem lw_p3 : lw_okq (⟨"TableauBench", "wordNumbered", "(I)LTableauBench$Word;"⟩, 13) := ⟨⟨by decide +kernel, by decide +kernel⟩, List.mem_of_getElem? (i := 25) (by decide +kernel), List.mem_of_getElem? (i := 488) (by decide +kernel), List.mem_of_getElem? (i := 489) (by decide +kernel)⟩
theorem lw_p4 : lw_okq (⟨"TableauBench$Tableau", "firstNotLess", "(II)I"⟩, 2) := ⟨⟨by decide +kernel, by decide +kernel⟩, List.mem_of_getElem? (i := 37) (by decide +kernel), List.mem_of_getElem? (i := 531) (by decide +kernel), List.mem_of_getElem? (i := 532) (by decide +kernel)⟩
theorem lw_p5 : lw_okq (⟨"TableauBench", "rowThatEndsWith", "(I)I"⟩, 13) := ⟨⟨by decide +kernel, by decide +kernel⟩, List.mem_of_getElem? (i := 25) (by decide +kernel), List.mem_of_getElem? (i := 575) (by decide +kernel), List.mem_of_getElem? (i := 576) (by decide +kernel)⟩
theorem lw_p6 : lw_okq (⟨"TableauBench$Tableau", "lastLess", "(II)I"⟩, 2) := ⟨⟨by decide +kernel, by decide +kernel⟩, List.mem_of_getElem? (i := 37) (by decide +kernel), List.mem_of_getElem? (i := 583) (by decide +kernel), List.mem_of_getElem? (i := 584) (by decide +kernel)⟩
theorem lw_p7 : lw_okq (⟨"TableauBench", "slideUntilStraight", "(I)I"⟩, 13) := ⟨⟨by decide +kernel, by decide +kernel⟩, List.mem_of_getElem? (i := 25) (by decide +kernel), List.mem_of_getElem? (i := 629) (by decide +kernel), List.mem_of_getElem? (i := 630) (by decide +kernel)⟩
theorem lw_p8 : lw_okq (⟨"TableauBench$HookWalk", "nextBelow", "(I)I"⟩, 4) := ⟨⟨by decide +kernel, by decide +kernel⟩, List.mem_of_getElem? (i := 69) (by decide +kernel), List.mem_of_getElem? (i := 681) (by decide +kernel), List.mem_of_getElem? (i := 682) (by decide +kernel)⟩
theorem lw_p9 : lw_okq (⟨"TableauBench$HookWalk", "goToBox", "(I)V"⟩, 4) := ⟨⟨by decide +kernel, by decide +kernel⟩, List.mem_of_getElem? (i := 69) (by decide +kernel), List.mem_of_getElem? (i := 687) (by decide +kernel), List.mem_of_getElem? (i := 688) (by decide +kernel)⟩
theorem lw_p10 : lw_okq (⟨"TableauBench$HookWalk", "countOthers", "()I"⟩, 4) := ⟨⟨by decide +kernel, by decide +kernel⟩, List.mem_of_getElem? (i := 69) (by decide +kernel), List.mem_of_getElem? (i := 691) (by decide +kernel), List.mem_of_getElem? (i := 692) (by decide +kernel)⟩
theorem lw_p11 : lw_okq (⟨"TableauBench$HookWalk", "goOn", "(I)V"⟩, 4) := ⟨⟨by decide +kernel, by decide +kernel⟩, List.mem_of_getElem? (i := 69) (by decide +kernel), List.mem_of_getElem? (i := 704) (by decide +kernel), List.mem_of_getElem? (i := 705) (by decide +kernel)⟩
theorem lw_p12 : lw_okq (⟨"TableauBench$StandardCount", "splitIntoFactors", "(I)V"⟩, 1) := ⟨⟨by decide +kernel, by decide +kernel⟩, List.mem_of_getElem? (i := 103) (by decide +kernel), List.mem_of_getElem? (i := 727) (by decide +kernel), List.mem_of_getElem? (i := 728) (by decide +kernel)⟩
theorem lw_p13 : lw_okq (⟨"TableauBench$StandardCount", "multiply", "()J"⟩, 1) := ⟨⟨by decide +kernel, by decide +kernel⟩, List.mem_of_getElem? (i := 103) (by decide +kernel), List.mem_of_getElem? (i := 731) (by decide +kernel), List.mem_of_getElem? (i := 732) (by decide +kernel)⟩
theorem lw_p14 : lw_okq (⟨"TableauBench$FillingCount", "sortLetters", "(LTableauBench$Word;)V"⟩, 4) := ⟨⟨by decide +kernel, by decide +kernel⟩, List.mem_of_getElem? (i := 113) (by decide +kernel), List.mem_of_getElem? (i := 746) (by decide +kernel), List.mem_of_getElem? (i := 747) (by decide +kernel)⟩
theorem lw_p15 : lw_okq (⟨"TableauBench$FillingCount", "countEndings", "(LTableauBench$Shape;)V"⟩, 4) := ⟨⟨by decide +kernel, by decide +kernel⟩, List.mem_of_getElem? (i := 113) (by decide +kernel), List.mem_of_getElem? (i := 750) (by decide +kernel), List.mem_of_getElem? (i := 751) (by decide +kernel)⟩
def lw_privs_1 : List (MethodName × Nat) := [(⟨"TableauBench$Tableau", "firstGreater", "(II)I"⟩, 2), (⟨"TableauBench", "slotNumbered", "(I)LTableauBench$Shape;"⟩, 13), (⟨"java/lang/Throwable", "fillInStackTrace", "(I)Ljava/lang/Throwable;"⟩, 6), (⟨"TableauBench", "wordNumbered", "(I)LTableauBench$Word;"⟩, 13), (⟨"TableauBench$Tableau", "firstNotLess", "(II)I"⟩, 2), (⟨"TableauBench", "rowThatEndsWith", "(I)I"⟩, 13), (⟨"TableauBench$Tableau", "lastLess", "(II)I"⟩, 2), (⟨"TableauBench", "slideUntilStraight", "(I)I"⟩, 13), (⟨"TableauBench$HookWalk", "nextBelow", "(I)I"⟩, 4), (⟨"TableauBench$HookWalk", "goToBox", "(I)V"⟩, 4), (⟨"TableauBench$HookWalk", "countOthers", "()I"⟩, 4), (⟨"TableauBench$HookWalk", "goOn", "(I)V"⟩, 4), (⟨"TableauBench$StandardCount", "splitIntoFactors", "(I)V"⟩, 1), (⟨"TableauBench$StandardCount", "multiply", "()J"⟩, 1), (⟨"TableauBench$FillingCount", "sortLetters", "(LTableauBench$Word;)V"⟩, 4), (⟨"TableauBench$FillingCount", "countEndings", "(LTableauBench$Shape;)V"⟩, 4)]
theorem lw_r1 : ∀ q ∈ lw_privs_1, lw_okq q := List.forall_mem_cons.mpr ⟨lw_p0, List.forall_mem_cons.mpr ⟨lw_p1, List.forall_mem_cons.mpr ⟨lw_p2, List.forall_mem_cons.mpr ⟨lw_p3, List.forall_mem_cons.mpr ⟨lw_p4, List.forall_mem_cons.mpr ⟨lw_p5, List.forall_mem_cons.mpr ⟨lw_p6, List.forall_mem_cons.mpr ⟨lw_p7, List.forall_mem_cons.mpr ⟨lw_p8, List.forall_mem_cons.mpr ⟨lw_p9, List.forall_mem_cons.mpr ⟨lw_p10, List.forall_mem_cons.mpr ⟨lw_p11, List.forall_mem_cons.mpr ⟨lw_p12, List.forall_mem_cons.mpr ⟨lw_p13, List.forall_mem_cons.mpr ⟨lw_p14, List.forall_mem_cons.mpr ⟨lw_p15, fun _ h => absurd h List.not_mem_nil⟩⟩⟩⟩⟩⟩⟩⟩⟩⟩⟩⟩⟩⟩⟩⟩
theorem lw_p16 : lw_okq (⟨"TableauBench$FillingCount", "goToNext", "(LTableauBench$Shape;)V"⟩, 4) := ⟨⟨by decide +kernel, by decide +kernel⟩, List.mem_of_getElem? (i := 113) (by decide +kernel), List.mem_of_getElem? (i := 755) (by decide +kernel), List.mem_of_getElem? (i := 756) (by decide +kernel)⟩
theorem lw_p17 : lw_okq (⟨"TableauBench$FillingCount", "countWays", "(I)V"⟩, 4) := ⟨⟨by decide +kernel, by decide +kernel⟩, List.mem_of_getElem? (i := 113) (by decide +kernel), List.mem_of_getElem? (i := 759) (by decide +kernel), List.mem_of_getElem? (i := 760) (by decide +kernel)⟩
theorem lw_p18 : lw_okq (⟨"TableauBench$ProductCount", "countFrom", "(I)J"⟩, 6) := ⟨⟨by decide +kernel, by decide +kernel⟩, List.mem_of_getElem? (i := 136) (by decide +kernel), List.mem_of_getElem? (i := 778) (by decide +kernel), List.mem_of_getElem? (i := 779) (by decide +kernel)⟩
theorem lw_p19 : lw_okq (⟨"TableauBenchModel", "rowOf", "(II)I"⟩, 20) := ⟨⟨by decide +kernel, by decide +kernel⟩, List.mem_of_getElem? (i := 807) (by decide +kernel), List.mem_of_getElem? (i := 890) (by decide +kernel), List.mem_of_getElem? (i := 891) (by decide +kernel)⟩
theorem lw_p20 : lw_okq (⟨"TableauBenchModel", "boxesOf", "(I)I"⟩, 20) := ⟨⟨by decide +kernel, by decide +kernel⟩, List.mem_of_getElem? (i := 807) (by decide +kernel), List.mem_of_getElem? (i := 902) (by decide +kernel), List.mem_of_getElem? (i := 903) (by decide +kernel)⟩
theorem lw_p21 : lw_okq (⟨"TableauBenchModel", "clear", "(I)V"⟩, 20) := ⟨⟨by decide +kernel, by decide +kernel⟩, List.mem_of_getElem? (i := 807) (by decide +kernel), List.mem_of_getElem? (i := 933) (by decide +kernel), List.mem_of_getElem? (i := 934) (by decide +kernel)⟩
theorem lw_p22 : lw_okq (⟨"TableauBenchModel", "insertByColumns", "(II)I"⟩, 20) := ⟨⟨by decide +kernel, by decide +kernel⟩, List.mem_of_getElem? (i := 807) (by decide +kernel), List.mem_of_getElem? (i := 937) (by decide +kernel), List.mem_of_getElem? (i := 938) (by decide +kernel)⟩
theorem lw_p23 : lw_okq (⟨"TableauBenchModel", "insertByRows", "(II)I"⟩, 20) := ⟨⟨by decide +kernel, by decide +kernel⟩, List.mem_of_getElem? (i := 807) (by decide +kernel), List.mem_of_getElem? (i := 944) (by decide +kernel), List.mem_of_getElem? (i := 945) (by decide +kernel)⟩
theorem lw_p24 : lw_okq (⟨"TableauBenchModel", "height", "(I)I"⟩, 20) := ⟨⟨by decide +kernel, by decide +kernel⟩, List.mem_of_getElem? (i := 807) (by decide +kernel), List.mem_of_getElem? (i := 948) (by decide +kernel), List.mem_of_getElem? (i := 949) (by decide +kernel)⟩
theorem lw_p25 : lw_okq (⟨"TableauBenchModel", "copyP", "(I)V"⟩, 20) := ⟨⟨by decide +kernel, by decide +kernel⟩, List.mem_of_getElem? (i := 807) (by decide +kernel), List.mem_of_getElem? (i := 960) (by decide +kernel), List.mem_of_getElem? (i := 961) (by decide +kernel)⟩
theorem lw_p26 : lw_okq (⟨"TableauBenchModel", "count", "(I)I"⟩, 20) := ⟨⟨by decide +kernel, by decide +kernel⟩, List.mem_of_getElem? (i := 807) (by decide +kernel), List.mem_of_getElem? (i := 964) (by decide +kernel), List.mem_of_getElem? (i := 965) (by decide +kernel)⟩
theorem lw_p27 : lw_okq (⟨"TableauBenchModel", "rowOfNumber", "(I)I"⟩, 20) := ⟨⟨by decide +kernel, by decide +kernel⟩, List.mem_of_getElem? (i := 807) (by decide +kernel), List.mem_of_getElem? (i := 968) (by decide +kernel), List.mem_of_getElem? (i := 969) (by decide +kernel)⟩
theorem lw_p28 : lw_okq (⟨"TableauBenchModel", "takeOut", "(II)I"⟩, 20) := ⟨⟨by decide +kernel, by decide +kernel⟩, List.mem_of_getElem? (i := 807) (by decide +kernel), List.mem_of_getElem? (i := 972) (by decide +kernel), List.mem_of_getElem? (i := 973) (by decide +kernel)⟩
theorem lw_p29 : lw_okq (⟨"TableauBenchModel", "reading", "()I"⟩, 20) := ⟨⟨by decide +kernel, by decide +kernel⟩, List.mem_of_getElem? (i := 807) (by decide +kernel), List.mem_of_getElem? (i := 980) (by decide +kernel), List.mem_of_getElem? (i := 981) (by decide +kernel)⟩
theorem lw_p30 : lw_okq (⟨"TableauBenchModel", "take", "(I)V"⟩, 20) := ⟨⟨by decide +kernel, by decide +kernel⟩, List.mem_of_getElem? (i := 807) (by decide +kernel), List.mem_of_getElem? (i := 988) (by decide +kernel), List.mem_of_getElem? (i := 989) (by decide +kernel)⟩
theorem lw_p31 : lw_okq (⟨"TableauBenchModel", "insertRow", "(II)V"⟩, 20) := ⟨⟨by decide +kernel, by decide +kernel⟩, List.mem_of_getElem? (i := 807) (by decide +kernel), List.mem_of_getElem? (i := 992) (by decide +kernel), List.mem_of_getElem? (i := 993) (by decide +kernel)⟩
def lw_privs_2 : List (MethodName × Nat) := [(⟨"TableauBench$FillingCount", "goToNext", "(LTableauBench$Shape;)V"⟩, 4), (⟨"TableauBench$FillingCount", "countWays", "(I)V"⟩, 4), (⟨"TableauBench$ProductCount", "countFrom", "(I)J"⟩, 6), (⟨"TableauBenchModel", "rowOf", "(II)I"⟩, 20), (⟨"TableauBenchModel", "boxesOf", "(I)I"⟩, 20), (⟨"TableauBenchModel", "clear", "(I)V"⟩, 20), (⟨"TableauBenchModel", "insertByColumns", "(II)I"⟩, 20), (⟨"TableauBenchModel", "insertByRows", "(II)I"⟩, 20), (⟨"TableauBenchModel", "height", "(I)I"⟩, 20), (⟨"TableauBenchModel", "copyP", "(I)V"⟩, 20), (⟨"TableauBenchModel", "count", "(I)I"⟩, 20), (⟨"TableauBenchModel", "rowOfNumber", "(I)I"⟩, 20), (⟨"TableauBenchModel", "takeOut", "(II)I"⟩, 20), (⟨"TableauBenchModel", "reading", "()I"⟩, 20), (⟨"TableauBenchModel", "take", "(I)V"⟩, 20), (⟨"TableauBenchModel", "insertRow", "(II)V"⟩, 20)]
theorem lw_r2 : ∀ q ∈ lw_privs_2, lw_okq q := List.forall_mem_cons.mpr ⟨lw_p16, List.forall_mem_cons.mpr ⟨lw_p17, List.forall_mem_cons.mpr ⟨lw_p18, List.forall_mem_cons.mpr ⟨lw_p19, List.forall_mem_cons.mpr ⟨lw_p20, List.forall_mem_cons.mpr ⟨lw_p21, List.forall_mem_cons.mpr ⟨lw_p22, List.forall_mem_cons.mpr ⟨lw_p23, List.forall_mem_cons.mpr ⟨lw_p24, List.forall_mem_cons.mpr ⟨lw_p25, List.forall_mem_cons.mpr ⟨lw_p26, List.forall_mem_cons.mpr ⟨lw_p27, List.forall_mem_cons.mpr ⟨lw_p28, List.forall_mem_cons.mpr ⟨lw_p29, List.forall_mem_cons.mpr ⟨lw_p30, List.forall_mem_cons.mpr ⟨lw_p31, fun _ h => absurd h List.not_mem_nil⟩⟩⟩⟩⟩⟩⟩⟩⟩⟩⟩⟩⟩⟩⟩⟩
theorem lw_p32 : lw_okq (⟨"TableauBenchModel", "isWithin", "(II)Z"⟩, 20) := ⟨⟨by decide +kernel, by decide +kernel⟩, List.mem_of_getElem? (i := 807) (by decide +kernel), List.mem_of_getElem? (i := 1000) (by decide +kernel), List.mem_of_getElem? (i := 1001) (by decide +kernel)⟩
theorem lw_p33 : lw_okq (⟨"TableauBenchModel", "isStrict", "(II)Z"⟩, 20) := ⟨⟨by decide +kernel, by decide +kernel⟩, List.mem_of_getElem? (i := 807) (by decide +kernel), List.mem_of_getElem? (i := 1004) (by decide +kernel), List.mem_of_getElem? (i := 1005) (by decide +kernel)⟩
theorem lw_p34 : lw_okq (⟨"TableauBenchModel", "fail", "(I)I"⟩, 20) := ⟨⟨by decide +kernel, by decide +kernel⟩, List.mem_of_getElem? (i := 807) (by decide +kernel), List.mem_of_getElem? (i := 1008) (by decide +kernel), List.mem_of_getElem? (i := 1009) (by decide +kernel)⟩
theorem lw_p35 : lw_okq (⟨"TableauBenchModel", "isStandard", "()Z"⟩, 20) := ⟨⟨by decide +kernel, by decide +kernel⟩, List.mem_of_getElem? (i := 807) (by decide +kernel), List.mem_of_getElem? (i := 1016) (by decide +kernel), List.mem_of_getElem? (i := 1017) (by decide +kernel)⟩
theorem lw_p36 : lw_okq (⟨"TableauBenchModel", "takeShape", "(I)V"⟩, 20) := ⟨⟨by decide +kernel, by decide +kernel⟩, List.mem_of_getElem? (i := 807) (by decide +kernel), List.mem_of_getElem? (i := 1024) (by decide +kernel), List.mem_of_getElem? (i := 1025) (by decide +kernel)⟩
theorem lw_p37 : lw_okq (⟨"TableauBenchModel", "below", "(II)I"⟩, 20) := ⟨⟨by decide +kernel, by decide +kernel⟩, List.mem_of_getElem? (i := 807) (by decide +kernel), List.mem_of_getElem? (i := 1030) (by decide +kernel), List.mem_of_getElem? (i := 1031) (by decide +kernel)⟩
theorem lw_p38 : lw_okq (⟨"TableauBenchModel", "factorial", "(II)V"⟩, 20) := ⟨⟨by decide +kernel, by decide +kernel⟩, List.mem_of_getElem? (i := 807) (by decide +kernel), List.mem_of_getElem? (i := 1038) (by decide +kernel), List.mem_of_getElem? (i := 1039) (by decide +kernel)⟩
theorem lw_p39 : lw_okq (⟨"TableauBenchModel", "multiply", "(II)V"⟩, 20) := ⟨⟨by decide +kernel, by decide +kernel⟩, List.mem_of_getElem? (i := 807) (by decide +kernel), List.mem_of_getElem? (i := 1042) (by decide +kernel), List.mem_of_getElem? (i := 1043) (by decide +kernel)⟩
theorem lw_p40 : lw_okq (⟨"TableauBenchModel", "note", "(JJ)V"⟩, 20) := ⟨⟨by decide +kernel, by decide +kernel⟩, List.mem_of_getElem? (i := 807) (by decide +kernel), List.mem_of_getElem? (i := 1050) (by decide +kernel), List.mem_of_getElem? (i := 1051) (by decide +kernel)⟩
theorem lw_p41 : lw_okq (⟨"TableauBenchModel", "turnOver", "()V"⟩, 20) := ⟨⟨by decide +kernel, by decide +kernel⟩, List.mem_of_getElem? (i := 807) (by decide +kernel), List.mem_of_getElem? (i := 1054) (by decide +kernel), List.mem_of_getElem? (i := 1055) (by decide +kernel)⟩
theorem lw_p42 : lw_okq (⟨"TableauBenchModel", "strip", "(JIJ)V"⟩, 20) := ⟨⟨by decide +kernel, by decide +kernel⟩, List.mem_of_getElem? (i := 807) (by decide +kernel), List.mem_of_getElem? (i := 1058) (by decide +kernel), List.mem_of_getElem? (i := 1059) (by decide +kernel)⟩
theorem lw_p43 : lw_okq (⟨"TableauBenchModel", "grows", "(I)Z"⟩, 20) := ⟨⟨by decide +kernel, by decide +kernel⟩, List.mem_of_getElem? (i := 807) (by decide +kernel), List.mem_of_getElem? (i := 1070) (by decide +kernel), List.mem_of_getElem? (i := 1071) (by decide +kernel)⟩
def lw_privs_3 : List (MethodName × Nat) := [(⟨"TableauBenchModel", "isWithin", "(II)Z"⟩, 20), (⟨"TableauBenchModel", "isStrict", "(II)Z"⟩, 20), (⟨"TableauBenchModel", "fail", "(I)I"⟩, 20), (⟨"TableauBenchModel", "isStandard", "()Z"⟩, 20), (⟨"TableauBenchModel", "takeShape", "(I)V"⟩, 20), (⟨"TableauBenchModel", "below", "(II)I"⟩, 20), (⟨"TableauBenchModel", "factorial", "(II)V"⟩, 20), (⟨"TableauBenchModel", "multiply", "(II)V"⟩, 20), (⟨"TableauBenchModel", "note", "(JJ)V"⟩, 20), (⟨"TableauBenchModel", "turnOver", "()V"⟩, 20), (⟨"TableauBenchModel", "strip", "(JIJ)V"⟩, 20), (⟨"TableauBenchModel", "grows", "(I)Z"⟩, 20)]
theorem lw_r3 : ∀ q ∈ lw_privs_3, lw_okq q := List.forall_mem_cons.mpr ⟨lw_p32, List.forall_mem_cons.mpr ⟨lw_p33, List.forall_mem_cons.mpr ⟨lw_p34, List.forall_mem_cons.mpr ⟨lw_p35, List.forall_mem_cons.mpr ⟨lw_p36, List.forall_mem_cons.mpr ⟨lw_p37, List.forall_mem_cons.mpr ⟨lw_p38, List.forall_mem_cons.mpr ⟨lw_p39, List.forall_mem_cons.mpr ⟨lw_p40, List.forall_mem_cons.mpr ⟨lw_p41, List.forall_mem_cons.mpr ⟨lw_p42, List.forall_mem_cons.mpr ⟨lw_p43, fun _ h => absurd h List.not_mem_nil⟩⟩⟩⟩⟩⟩⟩⟩⟩⟩⟩⟩
def lw_privs : List (MethodName × Nat) := lw_privs_1 ++ (lw_privs_2 ++ (lw_privs_3))
def lw_tbl : List Cond := k2_sels lw_privs ++ tables_1
theorem lw_privs_ok : ∀ q ∈ lw_privs, lw_okq q := by
  show ∀ q ∈ lw_privs_1 ++ (lw_privs_2 ++ (lw_privs_3)), lw_okq q
  exact List.forall_mem_append.mpr ⟨lw_r1, List.forall_mem_append.mpr ⟨lw_r2, lw_r3⟩⟩
-- ===== end of PART A; then your names; then what follows =====
end
section
/-! ===== BEGIN words of one list among another's, by their places ===== -/
theorem goodIn_r {big : List Cond} (ws : List Cond) (ps : List Nat) (hp : ws = ps.filterMap (fun i => big[i]?)) (h : ws.all goodWord = true) : GoodIn big ws := by
  intro w hw
  have h1 := List.all_eq_true.mp h w hw
  rw [hp] at hw
  obtain ⟨i, -, hi⟩ := List.mem_filterMap.mp hw
  have hm : w ∈ big := by first | exact List.mem_of_getElem? hi | exact List.getElem?_mem hi
  exact ⟨hm, good_of_word h1⟩
theorem goodIn_app {big a b : List Cond} (ha : GoodIn big a) (hb : GoodIn big b) : GoodIn big (a ++ b) := fun w h => (List.mem_append.mp h).elim (ha w) (hb w)
theorem goodIn_ca {big a b : List Cond} {c : Cond} (ha : GoodIn big (c :: a)) (hb : GoodIn big b) : GoodIn big (c :: (a ++ b)) := fun w h => (List.mem_cons.mp h).elim (fun e => ha w (List.mem_cons.mpr (Or.inl e))) (fun h => (List.mem_append.mp h).elim (fun h => ha w (List.mem_cons.mpr (Or.inr h))) (hb w))
theorem goodIn_sub {big ws : List Cond} (hm : ∀ w ∈ ws, w ∈ big) (h : ws.all goodWord = true) : GoodIn big ws := fun w hw => ⟨hm w hw, good_of_word (List.all_eq_true.mp h w hw)⟩
/-! ===== END ===== -/

/-! ===== BEGIN exceptions that leave a method, and their catching by the caller (launches without stack traces) ===== -/
section VXA
/-! The laws vx_back, vx_callV, vx_callS, vx_callSW, vx_throw0, vx_throwS follow proofs of the library, with one case more: JvmDerived/Free/Laws.lean (Back.of_free), Shelf42/LK1.lean (callV, callS), Shelf/KitTraced.lean (throwNew0V, throwNewS). -/
/-- where a method has thrown q: the class by its name, the cell, what was written, the world -/
def vx_T (XC : String → State → State → Prop) (st : State) (q : Addr) (t : State) (mc ms : Nat) (free : Addr → Prop) : Prop :=
  ∃ (E : String) (ce : Cell) (L : List Loc), XC E st t ∧ t.heap[q]? = some ce ∧ ce.vm = .none ∧ st.vm.findClass E = some ce.cls ∧ st.WarmedH t.vm ∧ st.sameButNew ({ t with vm := st.vm } : State) L mc ms ∧ ∀ z ∈ L, free z.base
def vx_Q (Qc : Array Value → State → Outcome → State → Prop) (XC : String → State → State → Prop) (mc ms : Nat) (free : Addr → Prop) : Array Value → State → Outcome → State → Prop := fun a st o t =>
  (Qc a st o t ∧ ∃ L, FrameEnd st o t L mc ms ∧ ∀ q ∈ L, free q.base) ∨ ∃ q, o = .threw q ∧ vx_T XC st q t mc ms free
/-- a callee that returns or throws -/
def vx_Met (l : Launch) (y : MethodName) (ws : List Cond) (rm : Room) (Pc : Array Value → State → Prop) (Qc : Array Value → State → Outcome → State → Prop) (XC : String → State → State → Prop) (mc ms : Nat) (free : Addr → Prop) : Prop :=
  MetFree l y (headSpec ws rm) Pc (fun _ _ _ _ _ => True) (vx_Q Qc XC mc ms free)
def vx_Post (XC : String → State → State → Prop) (mc ms : Nat) (free : Addr → Prop) : Pt → Array Value → Addr → Pt → Prop := fun A a q B =>
  ∃ (g : JFrame) (mk : MethodId) (t : State) (L : List Loc) (E : String) (ce : Cell), B.U.heap = t.heap ∧ B.U.vm = t.vm ∧ XC E (A.U.calling g mk a) t ∧ t.heap[q]? = some ce ∧ ce.vm = .none ∧ A.U.vm.findClass E = some ce.cls ∧ B.locs = A.locs ++ L ∧ (∀ z ∈ L, free z.base) ∧ B.cells = A.cells + mc ∧ B.slots = A.slots + ms
def vx_Back (l : Launch) (R : Room) (p : Program) (e : Env) (below : List Frame) (s : State) (sargs : Array Value) (y : MethodName) (len W9 : Nat)
    (Pre : Pt → Array Value → Prop) (Post : Pt → Array Value → Option Value → Pt → Prop) (PostX : Pt → Array Value → Addr → Pt → Prop) : Prop :=
  ∀ (m : MethodId) (meth : Method) (c : Code) (A : Pt) (g : JFrame) (ig : Instr) (mk : MethodId) (a : Array Value),
    Stand p l e R s m sargs below meth c A.U A.locs A.cells A.slots → g.method = m → g.locals.size = c.maxLocals → decode c.code g.pc = .ok (ig, len) →
    2 * g.monitorRoom + (g.stack.map fun v => v.category).sum ≤ W9 → A.U.methodNamed? y = some mk → Pre A a →
    (∃ (v : Option Value) (B : Pt), Stand p l e R s m sargs below meth c B.U B.locs B.cells B.slots ∧ Post A a v B ∧
      Steps p.tables e below (doInvoke e (A.U.setTop g) [] mk a).1 (B.U.setTop { g with pc := g.pc + len, stack := v.toList ++ g.stack })) ∨
    (∃ (q : Addr) (B : Pt), Stand p l e R s m sargs below meth c B.U B.locs B.cells B.slots ∧ PostX A a q B ∧
      Steps p.tables e below (doInvoke e (A.U.setTop g) [] mk a).1 ((B.U.setTop g).pushFrame (.throwing q)))
section Payer
variable {l : Launch} {R : Room} {p : Program} {e : Env} {below : List Frame} {s : State} {sargs : Array Value} {y : MethodName} {len W9 : Nat}
theorem vx_back {ws : List Cond} {rm : Room} {Pc : Array Value → State → Prop} {Qc : Array Value → State → Outcome → State → Prop} {XC : String → State → State → Prop} {mc ms : Nat} {free : Addr → Prop} {bytes : ByteArray} {maxL : Nat} {ret : Option FieldType}
    (hM : vx_Met l y ws rm Pc Qc XC mc ms free) (hblind : FrameBlind Pc) (hrc : rm.cells = mc) (hrs : rm.slots = ms)
    (hframes : rm.frames + 1 ≤ R.frames) (hlocals : W9 + (maxL + 11) + rm.locals ≤ R.locals)
    (hws : ∀ w ∈ ws, ∀ a' U, s.WarmedH U.vm → w.before a' U = true) (hcode : Cond.code y bytes maxL ret ∈ ws) (hinit : ∀ a' U, s.WarmedH U.vm → (Cond.initialized y.cls).before a' U = true) :
    vx_Back l R p e below s sargs y len W9 (PreOf R mc ms Pc) (PostOf Qc mc ms free) (vx_Post XC mc ms free) := by
  intro m meth c A g ig mk a X hg hsize hdg hW hn hp
  have h1 : (headSpec ws rm).pre.before a A.U = true := atoms_intro fun w hw => hws w hw _ _ X.warmed
  have h2 : (Cond.code y bytes maxL ret).before a A.U = true := hws _ hcode _ _ X.warmed
  have h3 : (Cond.initialized y.cls).before a A.U = true := hinit _ _ X.warmed
  have h4 : A.cells + (headSpec ws rm).room.cells ≤ R.cells := by rw [show (headSpec ws rm).room.cells = mc from hrc]; exact hp.1
  have h5 : A.slots + (headSpec ws rm).room.slots ≤ R.slots := by rw [show (headSpec ws rm).room.slots = ms from hrs]; exact hp.2.1
  have hPc : Pc a (A.U.calling g mk a) := hblind _ _ _ _ hp.2.2
  obtain ⟨U, Ls, c0, s0⟩ := A
  dsimp only [Pt.U, Pt.locs, Pt.cells, Pt.slots] at h1 h2 h3 h4 h5 X hn hPc ⊢
  obtain ⟨methY, cY, hmY, hcY, -, hlY, -, -, -, -⟩ := Cond.code_spec hn h2
  obtain ⟨kY, hkY, -⟩ := className_of_methodNamed hn
  have hinitY : kY.init = .initialized := Cond.initialized_spec (findClass_of_methodNamed hn) hkY h3
  have h : At U g.method c below := by rw [hg]; exact X.here
  have hlocals9 : W9 + (maxL + 11) + (headSpec ws rm).room.locals ≤ R.locals := hlocals
  have happ : (headSpec ws rm).appliesLoose y e.platform (U.calling g mk a) = true :=
    Spec.appliesLoose_calling (g := g) h hdg hn hkY hinitY
      (X.room_calling (g := g) (R' := (headSpec ws rm).room) hsize hmY hcY hframes (by rw [hlY]; omega) h4 h5) h1
  obtain ⟨mid, hmid⟩ := h.above
  have hfr : (U.setTop g).frames = (.java g :: mid) ++ below := by rw [State.frames_setTop' g h.top, hmid]; rfl
  obtain ⟨o, s₂, hsteps, -, hend, hq⟩ := Steps.callFree hM p X.admits X.cas X.clock (acts := []) hfr happ hPc trivial
  have hq' : vx_Q Qc XC mc ms free a (U.calling g mk a) o s₂ := hq
  rw [State.frames_setTop' g h.top] at hend
  obtain ⟨g₀, hg0⟩ := Option.isSome_iff_exists.mp h.top
  obtain ⟨r, hr⟩ := State.topJava?_eq_some.mp hg0
  have hr' : (({ U with heap := s₂.heap, slotsUsed := s₂.slotsUsed } : State).setVm s₂.vm).frames = .java g₀ :: r := hr
  rcases hq' with ⟨hqc, L, hfe, hL⟩ | ⟨q, rfl, E, ce, L, hx, hce, hcv, hcl, hW₂, hsm, hL⟩
  · obtain ⟨⟨v, rfl⟩, hW₂, e2, q2, q3, q4, q5, q6⟩ := id hfe
    have e3 : s₂ = ({ (U.calling g mk a).setFrames s₂.frames with heap := s₂.heap, slotsUsed := s₂.slotsUsed } : State).setVm s₂.vm := by
      have : s₂ = ({ s₂ with vm := (U.calling g mk a).vm } : State).setVm s₂.vm := rfl
      rw [e2] at this
      exact this
    obtain ⟨c₂, i₂, len₂, hc₂, hd₂, hf₂⟩ := hend
    have hW' : U.WarmedH s₂.vm := hW₂
    have hcc : c₂ = c := by
      have h1 : s₂.code? g.method = U.code? g.method := by
        rw [State.code?_eq, State.code?_eq, hW'.alike.method?]
      exact Option.some.inj (hc₂.symm.trans (h1.trans h.code))
    subst hcc
    have hlen : len₂ = len := by rw [hdg] at hd₂; cases hd₂; rfl
    subst hlen
    have hs₂ : s₂ = (({ U with heap := s₂.heap, slotsUsed := s₂.slotsUsed } : State).setVm s₂.vm).setTop { g with pc := g.pc + len₂, stack := v.toList ++ g.stack } := by
      refine e3.trans ?_
      rw [hf₂, State.calling_eq h.top, State.setFrames_setFrames, State.setTop_of_frames _ hr', hr]
      rfl
    have hsame : U.sameButNew ({ U with heap := s₂.heap, slotsUsed := s₂.slotsUsed } : State) L mc ms := by
      refine ⟨?_, q2, q3, q4, q5, q6⟩
      obtain ⟨t, ht, -⟩ := State.frames_cons hr
      show ({ U with heap := s₂.heap, slotsUsed := s₂.slotsUsed } : State) = { U.setFrames U.frames with heap := s₂.heap, slotsUsed := s₂.slotsUsed }
      rw [State.setFrames_self ht]
    subst hg
    refine Or.inl ⟨v, ⟨(({ U with heap := s₂.heap, slotsUsed := s₂.slotsUsed } : State).setVm s₂.vm), Ls ++ L, c0 + mc, s0 + ms⟩,
      ⟨X.admits, X.cas, X.clock, X.frames, X.room, X.hears, X.method, X.code, (X.here.setHeapUsed s₂.heap s₂.slotsUsed).setVm hW'.alike, X.tail, State.WarmedH.trans X.warmed hW', X.limits, X.bytes, X.same.trans (hsame.setVm s.vm)⟩,
      ⟨g, mk, s₂, L, rfl, rfl, hqc, rfl, hL, rfl, rfl⟩, ?_⟩
    show Steps p.tables e below _ ((({ U with heap := s₂.heap, slotsUsed := s₂.slotsUsed } : State).setVm s₂.vm).setTop { g with pc := g.pc + len₂, stack := v.toList ++ g.stack })
    rw [← hs₂]
    exact hsteps
  · obtain ⟨e2, q2, q3, q4, q5, q6⟩ := id hsm
    have e3 : s₂ = ({ (U.calling g mk a).setFrames s₂.frames with heap := s₂.heap, slotsUsed := s₂.slotsUsed } : State).setVm s₂.vm := by
      have : s₂ = ({ s₂ with vm := (U.calling g mk a).vm } : State).setVm s₂.vm := rfl
      rw [e2] at this
      exact this
    have hf₂ : s₂.frames = .throwing q :: .java g :: U.frames.tail := hend
    have hW' : U.WarmedH s₂.vm := hW₂
    have hs₂ : s₂ = ((({ U with heap := s₂.heap, slotsUsed := s₂.slotsUsed } : State).setVm s₂.vm).setTop g).pushFrame (.throwing q) := by
      refine e3.trans ?_
      rw [hf₂, State.calling_eq h.top, State.setFrames_setFrames, State.pushFrame, State.frames_setTop _ hr', State.setTop_of_frames _ hr', State.setFrames_setFrames, hr]
      rfl
    have hsame : U.sameButNew ({ U with heap := s₂.heap, slotsUsed := s₂.slotsUsed } : State) L mc ms := by
      refine ⟨?_, q2, q3, q4, q5, q6⟩
      obtain ⟨t, ht, -⟩ := State.frames_cons hr
      show ({ U with heap := s₂.heap, slotsUsed := s₂.slotsUsed } : State) = { U.setFrames U.frames with heap := s₂.heap, slotsUsed := s₂.slotsUsed }
      rw [State.setFrames_self ht]
    subst hg
    refine Or.inr ⟨q, ⟨(({ U with heap := s₂.heap, slotsUsed := s₂.slotsUsed } : State).setVm s₂.vm), Ls ++ L, c0 + mc, s0 + ms⟩,
      ⟨X.admits, X.cas, X.clock, X.frames, X.room, X.hears, X.method, X.code, (X.here.setHeapUsed s₂.heap s₂.slotsUsed).setVm hW'.alike, X.tail, State.WarmedH.trans X.warmed hW', X.limits, X.bytes, X.same.trans (hsame.setVm s.vm)⟩,
      ⟨g, mk, s₂, L, E, ce, rfl, rfl, hx, hce, hcv, hcl, rfl, hL, rfl, rfl⟩, ?_⟩
    show Steps p.tables e below _ (((({ U with heap := s₂.heap, slotsUsed := s₂.slotsUsed } : State).setVm s₂.vm).setTop g).pushFrame (.throwing q))
    rw [← hs₂]
    exact hsteps
end Payer
section Calls
variable {p : Program} {l : Launch} {e : Env} {R : Room} {s : State} {m : MethodId} {args : Array Value} {below : List Frame} {meth : Method} {c : Code} {T : State} {locs : List Loc} {cells slots : Nat}
theorem vx_callV (X : Stand p l e R s m args below meth c T locs cells slots) (hexec : p.tables.exec = Jvm.exec) {own C : String} {index : Nat} {y : MethodName} {bytes : ByteArray} {maxL : Nat} {ret : Option FieldType}
    (hown : s.vm.findClass own = some m.cls) (hlink : (Cond.methodLink own index y).before args s = true) (hinst : (Cond.instanceMethod y).before args s = true) (hsel : (Cond.selects C y y).before args s = true)
    (hcode : (Cond.code y bytes maxL ret).before args s = true) (hy : y.cls ≠ "java/lang/invoke/MethodHandle" ∧ y.cls ≠ "java/lang/invoke/VarHandle")
    {W9 : Nat} {Pre : Pt → Array Value → Prop} {Post : Pt → Array Value → Option Value → Pt → Prop} {PostX : Pt → Array Value → Addr → Pt → Prop} (hK : vx_Back l R p e below s args y 3 W9 Pre Post PostX)
    {b : Addr} {cellB : Cell} (hcell : T.heap[b]? = some cellB) (hobj : cellB.vm.isStatics = false) (hcls : s.vm.findClass C = some cellB.cls)
    {g : JFrame} (hg : g.method = m) (hsize : g.locals.size = c.maxLocals) {argsL rest : List Value} (hlen : ∀ sig, parseMethodDescriptor y.desc = some sig → argsL.length = sig.parameters.length)
    (hstack : g.stack = argsL.reverse ++ .ref b :: rest) (hW : 2 * g.monitorRoom + (rest.map fun v => v.category).sum ≤ W9) (hdg : decode c.code g.pc = .ok (.invokevirtual index, 3))
    (hpre : ∀ vm₁, s.WarmedH vm₁ → Pre ⟨T.setVm vm₁, locs, cells, slots⟩ (Value.ref b :: argsL).toArray) :
    (∃ (v : Option Value) (vm₁ : Vm) (B : Pt), s.WarmedH vm₁ ∧ Stand p l e R s m args below meth c B.U B.locs B.cells B.slots ∧ Post ⟨T.setVm vm₁, locs, cells, slots⟩ (Value.ref b :: argsL).toArray v B ∧
      ∀ target, Steps p.tables e below (B.U.setTop { g with pc := g.pc + 3, stack := v.toList ++ rest }) target → Steps p.tables e below (T.setTop g) target) ∨
    (∃ (q : Addr) (vm₁ : Vm) (B : Pt), s.WarmedH vm₁ ∧ Stand p l e R s m args below meth c B.U B.locs B.cells B.slots ∧ PostX ⟨T.setVm vm₁, locs, cells, slots⟩ (Value.ref b :: argsL).toArray q B ∧
      Steps p.tables e below (T.setTop g) ((B.U.setTop { g with stack := rest }).pushFrame (.throwing q))) := by
  obtain ⟨mk, methM, hnamed, hmethM, hstM, habM⟩ := Cond.instanceMethod_spec hinst
  obtain ⟨methM', cM, hmethM', -, -, -, -, -, -, hsigM⟩ := Cond.code_spec hnamed hcode
  cases hmethM.symm.trans hmethM'
  obtain ⟨c2, r2, m2, q1, q2, q3, q4, kP, hkP, hkPi⟩ := Cond.selects_spec hsel
  cases hcls.symm.trans q1
  cases (State.methodFound?_of_named hnamed hy).symm.trans q2
  cases hnamed.symm.trans q3
  have hselP : selectMethod e.platform s.vm cellB.cls mk = .method mk := by rw [Launch.admits_selectMethod X.admits]; exact q4
  obtain ⟨vm₁, X₁, hstep₁⟩ := X.invokevirtual hexec hown hlink hnamed hmethM hstM hkP hkPi hy (a := b) (cell := cellB) hcell
    (fun z h => by rw [h] at hobj; cases hobj) hselP hmethM habM hkP hkPi (g := g) hg (argsL := argsL) (rest := rest) (hlen _ hsigM) hstack hdg
  rcases hK m meth c ⟨T.setVm vm₁, locs, cells, slots⟩ { g with stack := rest } (.invokevirtual index) mk (Value.ref b :: argsL).toArray X₁ hg hsize hdg hW (X₁.named hnamed) (hpre vm₁ X₁.warmed) with ⟨v, B, X', hpost, hsteps⟩ | ⟨q, B, X', hpost, hsteps⟩
  · exact Or.inl ⟨v, vm₁, B, X₁.warmed, X', hpost, fun target h => hstep₁ _ fun acts => by rw [doInvoke_state]; exact hsteps.trans h⟩
  · exact Or.inr ⟨q, vm₁, B, X₁.warmed, X', hpost, hstep₁ _ fun acts => by rw [doInvoke_state]; exact hsteps⟩
theorem vx_callS (X : Stand p l e R s m args below meth c T locs cells slots) (hexec : p.tables.exec = Jvm.exec) {own : String} {index : Nat} {y : MethodName} {bytes : ByteArray} {maxL : Nat} {ret : Option FieldType}
    (hown : s.vm.findClass own = some m.cls) (hlink : (Cond.methodLink own index y).before args s = true) (hstat : (Cond.static y).before args s = true) (hinit : (Cond.initialized y.cls).before args s = true)
    (hcode : (Cond.code y bytes maxL ret).before args s = true) (hy : y.cls ≠ "java/lang/invoke/MethodHandle" ∧ y.cls ≠ "java/lang/invoke/VarHandle")
    {W9 : Nat} {Pre : Pt → Array Value → Prop} {Post : Pt → Array Value → Option Value → Pt → Prop} {PostX : Pt → Array Value → Addr → Pt → Prop} (hK : vx_Back l R p e below s args y 3 W9 Pre Post PostX)
    {g : JFrame} (hg : g.method = m) (hsize : g.locals.size = c.maxLocals) {argsL rest : List Value} (hlen : ∀ sig, parseMethodDescriptor y.desc = some sig → argsL.length = sig.parameters.length)
    (hstack : g.stack = argsL.reverse ++ rest) (hW : 2 * g.monitorRoom + (rest.map fun v => v.category).sum ≤ W9) (hdg : decode c.code g.pc = .ok (.invokestatic index, 3))
    (hpre : ∀ vm₁, s.WarmedH vm₁ → Pre ⟨T.setVm vm₁, locs, cells, slots⟩ argsL.toArray) :
    (∃ (v : Option Value) (vm₁ : Vm) (B : Pt), s.WarmedH vm₁ ∧ Stand p l e R s m args below meth c B.U B.locs B.cells B.slots ∧ Post ⟨T.setVm vm₁, locs, cells, slots⟩ argsL.toArray v B ∧
      ∀ target, Steps p.tables e below (B.U.setTop { g with pc := g.pc + 3, stack := v.toList ++ rest }) target → Steps p.tables e below (T.setTop g) target) ∨
    (∃ (q : Addr) (vm₁ : Vm) (B : Pt), s.WarmedH vm₁ ∧ Stand p l e R s m args below meth c B.U B.locs B.cells B.slots ∧ PostX ⟨T.setVm vm₁, locs, cells, slots⟩ argsL.toArray q B ∧
      Steps p.tables e below (T.setTop g) ((B.U.setTop { g with stack := rest }).pushFrame (.throwing q))) := by
  obtain ⟨mk, hnamed⟩ := Cond.code_named hcode
  obtain ⟨methM, cM, hmethM, -, -, -, -, -, -, hsigM⟩ := Cond.code_spec hnamed hcode
  have hstatic : methM.isStatic = true := Cond.static_spec hnamed hmethM hstat
  obtain ⟨kP, hkP, -⟩ := className_of_methodNamed hnamed
  have hinitP : kP.init = .initialized := Cond.initialized_spec (findClass_of_methodNamed hnamed) hkP hinit
  obtain ⟨vm₁, X₁, hstep₁⟩ := X.invokestatic hexec hown hlink hnamed hmethM hstatic hkP hinitP hy (g := g) hg (argsL := argsL) (rest := rest) (hlen _ hsigM) hstack hdg
  rcases hK m meth c ⟨T.setVm vm₁, locs, cells, slots⟩ { g with stack := rest } (.invokestatic index) mk argsL.toArray X₁ hg hsize hdg hW (X₁.named hnamed) (hpre vm₁ X₁.warmed) with ⟨v, B, X', hpost, hsteps⟩ | ⟨q, B, X', hpost, hsteps⟩
  · exact Or.inl ⟨v, vm₁, B, X₁.warmed, X', hpost, fun target h => hstep₁ _ fun acts => by rw [doInvoke_state]; exact hsteps.trans h⟩
  · exact Or.inr ⟨q, vm₁, B, X₁.warmed, X', hpost, hstep₁ _ fun acts => by rw [doInvoke_state]; exact hsteps⟩
end Calls
theorem vx_cls {s : State} {T : State} {vm₁ : Vm} {E : String} {k : ClassId} (hW : s.WarmedH vm₁) (h : (T.setVm vm₁).vm.findClass E = some k) : s.vm.findClass E = some k := by
  have h1 : vm₁.findClass E = some k := h
  rw [hW.alike.findClass] at h1
  exact h1
/-- the method's frame g, with q thrown over it -/
def vx_W (p : Program) (l : Launch) (e : Env) (R : Room) (s : State) (m : MethodId) (args : Array Value) (below : List Frame) (meth : Method) (c : Code) (H : Heap) (locs : List Loc) (cells slots : Nat) (Q : State → Prop) (g : JFrame) (q : Addr) : Prop :=
  ∀ T : State, T.heap = H → Stand p l e R s m args below meth c T locs cells slots → ∃ t, Steps p.tables e below ((T.setTop g).pushFrame (.throwing q)) t ∧ Q t
def vx_Run (p : Program) (l : Launch) (e : Env) (R : Room) (s : State) (m : MethodId) (args : Array Value) (below : List Frame) (meth : Method) (c : Code) (H : Heap) (locs : List Loc) (cells slots mc ms : Nat) (g : JFrame) (rest : List Value) (Qa : State → Outcome → State → Prop) (XC : String → State → State → Prop) (free : Addr → Prop) : Prop :=
  ∀ T : State, T.heap = H → Stand p l e R s m args below meth c T locs cells slots →
    (∃ (v : Option Value) (st₀ t T' : State) (L : List Loc), st₀.heap = H ∧ Stand p l e R s m args below meth c T' (locs ++ L) (cells + mc) (slots + ms) ∧ (∀ q ∈ L, free q.base) ∧ T'.heap = t.heap ∧ T'.vm = t.vm ∧ Qa st₀ (.returned v) t ∧
      Goes p e below T g T' { g with pc := g.pc + 3, stack := v.toList ++ rest }) ∨
    (∃ (q : Addr) (st₀ t T' : State) (L : List Loc) (E : String) (ce : Cell), st₀.heap = H ∧ Stand p l e R s m args below meth c T' (locs ++ L) (cells + mc) (slots + ms) ∧ (∀ z ∈ L, free z.base) ∧ T'.heap = t.heap ∧ T'.vm = t.vm ∧ XC E st₀ t ∧ t.heap[q]? = some ce ∧ ce.vm = .none ∧ s.vm.findClass E = some ce.cls ∧
      Steps p.tables e below (T.setTop g) ((T'.setTop { g with stack := rest }).pushFrame (.throwing q)))
def vx_X {S : Type} (px : S → Prop) (B : String → S → State → Prop) (A : Nat → Prop) : String → State → State → Prop := fun E st t => ∃ u : S, px u ∧ B E u t ∧ va_F A st t
section Runs
variable {p : Program} {l : Launch} {e : Env} {R : Room} {s : State} {m : MethodId} {args : Array Value} {below : List Frame} {meth : Method} {c : Code} {H : Heap} {locs : List Loc} {cells slots : Nat}
variable {y : MethodName} {bytes cc : ByteArray} {maxL nL mc ms n index : Nat} {ret : Option FieldType} {ws : List Cond} {rm : Room} {Pc : Array Value → State → Prop} {Qc : Array Value → State → Outcome → State → Prop} {XC : String → State → State → Prop} {free : Addr → Prop} {Ts : List Cond} {own C : String} {b : Addr} {As rest : List Value} {g : JFrame}
theorem vx_callBack (cb : CallB R s args own index y bytes maxL ret ws rm mc ms n) (hM : vx_Met l y ws rm Pc Qc XC mc ms free) (hbl : FrameBlind Pc) : vx_Back l R p e below s args y 3 8 (PreOf R mc ms Pc) (PostOf Qc mc ms free) (vx_Post XC mc ms free) := by
  obtain ⟨hrc, hrs, hfr, hlo, hws, hcw, -, hini, -⟩ := cb
  exact vx_back (bytes := bytes) (maxL := maxL) (ret := ret) hM hbl hrc hrs hfr hlo hws hcw (fun a' U hW => word_at hW (Or.inl (by first | rfl | simp [Cond.onTables, Cond.keeps, Cond.steady])) hini)
theorem vx_runV (S : CallFix p m c cc nL s args Ts own) (hM : vx_Met l y ws rm Pc Qc XC mc ms free) (cw : CallW R s args own C index y bytes maxL ret ws rm mc ms n) (hp : PreV s H C b Pc As)
    (hg : g.method = m) (hn : As.length = n) (hsize : g.locals.size = nL) (hstack : g.stack = As.reverse ++ .ref b :: rest) (hW : 2 * g.monitorRoom + (rest.map fun v => v.category).sum ≤ 8) (hdg : decode cc g.pc = .ok (.invokevirtual index, 3)) (hf : cells + mc ≤ R.cells ∧ slots + ms ≤ R.slots) :
    vx_Run p l e R s m args below meth c H locs cells slots mc ms g rest (Qc (Value.ref b :: As).toArray) XC free := by
  have hK : vx_Back l R p e below s args y 3 8 (PreOf R mc ms Pc) (PostOf Qc mc ms free) (vx_Post XC mc ms free) := vx_callBack cw.1 hM hp.1
  obtain ⟨⟨-, -, -, -, -, -, hcode, -, hy, hlen, hl⟩, hin, hse⟩ := cw
  obtain ⟨hx, hb, hml, ho, -⟩ := S
  obtain ⟨-, ⟨cellB, hcB, hoB, hclB⟩, hPc⟩ := hp
  intro T hT X
  rcases vx_callV X hx (C := C) (bytes := bytes) (maxL := maxL) (ret := ret) ho hl hin hse hcode hy hK (by rw [hT]; exact hcB) hoB hclB hg (hsize.trans hml.symm) (argsL := As) (rest := rest) (fun sig h => hn.trans (hlen sig h)) hstack hW (by rw [hb]; exact hdg)
    (fun vm₁ hW₁ => ⟨hf.1, hf.2, hPc (T.setVm vm₁) hT hW₁⟩) with ⟨v, vm₁, ⟨U', l2, c2, s2⟩, hW₁, X', ⟨g', mk, t, L, e1, e2, hq, h1, hL, h2, h3⟩, st⟩ | ⟨q, vm₁, ⟨U', l2, c2, s2⟩, hW₁, X', ⟨g', mk, t, L, E, ce, e1, e2, hq, hce, hcv, hcl, h1, hL, h2, h3⟩, st⟩
  · dsimp only [Pt.U, Pt.locs, Pt.cells, Pt.slots] at X' e1 e2 h1 h2 h3 st
    subst h1; subst h2; subst h3
    exact Or.inl ⟨v, (T.setVm vm₁).calling g' mk (Value.ref b :: As).toArray, t, U', L, hT, X', hL, e1, e2, hq, st⟩
  · dsimp only [Pt.U, Pt.locs, Pt.cells, Pt.slots] at X' e1 e2 h1 h2 h3 st hcl
    subst h1; subst h2; subst h3
    exact Or.inr ⟨q, (T.setVm vm₁).calling g' mk (Value.ref b :: As).toArray, t, U', L, E, ce, hT, X', hL, e1, e2, hq, hce, hcv, vx_cls hW₁ hcl, st⟩
theorem vx_runS (S : CallFix p m c cc nL s args Ts own) (hM : vx_Met l y ws rm Pc Qc XC mc ms free) (cw : CallB R s args own index y bytes maxL ret ws rm mc ms n ∧ (Cond.static y).before args s = true) (hp : PreS s H Pc As)
    (hg : g.method = m) (hn : As.length = n) (hsize : g.locals.size = nL) (hstack : g.stack = As.reverse ++ rest) (hW : 2 * g.monitorRoom + (rest.map fun v => v.category).sum ≤ 8) (hdg : decode cc g.pc = .ok (.invokestatic index, 3)) (hf : cells + mc ≤ R.cells ∧ slots + ms ≤ R.slots) :
    vx_Run p l e R s m args below meth c H locs cells slots mc ms g rest (Qc As.toArray) XC free := by
  have hK : vx_Back l R p e below s args y 3 8 (PreOf R mc ms Pc) (PostOf Qc mc ms free) (vx_Post XC mc ms free) := vx_callBack cw.1 hM hp.1
  obtain ⟨⟨-, -, -, -, -, -, hcode, hini, hy, hlen, hl⟩, hstt⟩ := cw
  obtain ⟨hx, hb, hml, ho, -⟩ := S
  intro T hT X
  rcases vx_callS X hx (bytes := bytes) (maxL := maxL) (ret := ret) ho hl hstt hini hcode hy hK hg (hsize.trans hml.symm) (argsL := As) (rest := rest) (fun sig h => hn.trans (hlen sig h)) hstack hW (by rw [hb]; exact hdg)
    (fun vm₁ hW₁ => ⟨hf.1, hf.2, hp.2 (T.setVm vm₁) hT hW₁⟩) with ⟨v, vm₁, ⟨U', l2, c2, s2⟩, hW₁, X', ⟨g', mk, t, L, e1, e2, hq, h1, hL, h2, h3⟩, st⟩ | ⟨q, vm₁, ⟨U', l2, c2, s2⟩, hW₁, X', ⟨g', mk, t, L, E, ce, e1, e2, hq, hce, hcv, hcl, h1, hL, h2, h3⟩, st⟩
  · dsimp only [Pt.U, Pt.locs, Pt.cells, Pt.slots] at X' e1 e2 h1 h2 h3 st
    subst h1; subst h2; subst h3
    exact Or.inl ⟨v, (T.setVm vm₁).calling g' mk As.toArray, t, U', L, hT, X', hL, e1, e2, hq, st⟩
  · dsimp only [Pt.U, Pt.locs, Pt.cells, Pt.slots] at X' e1 e2 h1 h2 h3 st hcl
    subst h1; subst h2; subst h3
    exact Or.inr ⟨q, (T.setVm vm₁).calling g' mk As.toArray, t, U', L, E, ce, hT, X', hL, e1, e2, hq, hce, hcv, vx_cls hW₁ hcl, st⟩
end Runs
section Rows
variable {p : Program} {l : Launch} {e : Env} {R : Room} {s : State} {m : MethodId} {args : Array Value} {below : List Frame} {meth : Method} {c : Code} {H : Heap} {locs : List Loc} {cells slots : Nat} {Q : State → Prop}
variable {mc ms : Nat} {free : Addr → Prop} {A0 A1 : Nat → Prop} {H0 : Heap} {a : Array Value} {pc : Nat} {ls : Array Slot} {st0 rest : List Value}
theorem vx_keep {st₀ t T' : State} {L : List Loc} (h0 : st₀.heap = H) (e1 : T'.heap = t.heap) (hS : va_S A0 H0 H locs) (hA : ∀ q, q < H.size → A1 q → A0 q) (hf : ∀ q, free q → A0 q) (hL : ∀ q ∈ L, free q.base) (hF : va_F A1 st₀ t) :
    H.size ≤ T'.heap.size ∧ (∀ q : Nat, q < H.size → ¬ A1 q → T'.heap[q]? = H[q]?) ∧ va_S A0 H0 T'.heap (locs ++ L) := by
  obtain ⟨hz, hk⟩ := hF
  rw [h0] at hz hk
  exact ⟨by rw [e1]; exact hz, fun q h1 h2 => by rw [e1]; exact hk q h1 h2,
    ⟨Nat.le_trans hS.1 (by rw [e1]; exact hz), fun q h1 h2 => by rw [e1, hk q (Nat.lt_of_lt_of_le h1 hS.1) (fun z => h2 (hA q (Nat.lt_of_lt_of_le h1 hS.1) z))]; exact hS.2.1 q h1 h2, fun q hq => by
      rcases List.mem_append.mp hq with h | h
      · exact hS.2.2 q h
      · exact hf _ (hL q h)⟩⟩
theorem vx_calli {S SX : Type} {post : Int32 → S → Prop} {px : SX → Prop} {B : S → State → Prop} {BX : String → SX → State → Prop} {AX : Nat → Prop} (hr : vx_Run p l e R s m args below meth c H locs cells slots mc ms (F0 m pc ls st0) rest (va_Qi post B A1 a) (vx_X px BX AX) free) (hS : va_S A0 H0 H locs) (hA : ∀ q, q < H.size → A1 q → A0 q) (hf : ∀ q, free q → A0 q) (hAX : ∀ q, q < H.size → AX q → A0 q)
    (kx : ∀ (E : String) (ce : Cell) (q9 : Addr) (u : SX) (t : State) (H1 : Heap) (locs1 : List Loc), t.heap = H1 → s.vm.Alike t.vm → px u → BX E u t → H.size ≤ H1.size → (∀ q : Nat, q < H.size → ¬ AX q → H1[q]? = H[q]?) → va_S A0 H0 H1 locs1 → H1[q9]? = some ce → ce.vm = .none → s.vm.findClass E = some ce.cls → vx_W p l e R s m args below meth c H1 locs1 (cells + mc) (slots + ms) Q (F0 m pc ls rest) q9)
    (kk : ∀ (r : Int32) (u : S) (t : State) (H1 : Heap) (locs1 : List Loc), t.heap = H1 → s.vm.Alike t.vm → post r u → B u t → H.size ≤ H1.size → (∀ q : Nat, q < H.size → ¬ A1 q → H1[q]? = H[q]?) → va_S A0 H0 H1 locs1 → W p l e R s m args below meth c H1 locs1 (cells + mc) (slots + ms) Q (F0 m (pc + 3) ls (.int r :: rest))) : W p l e R s m args below meth c H locs cells slots Q (F0 m pc ls st0) := by
  intro T hT X
  rcases hr T hT X with ⟨v, st₀, t, T', L, h0, X', hL, e1, e2, ⟨⟨r, u, hv, hp, hb⟩, hF⟩, st⟩ | ⟨q, st₀, t, T', L, E, ce, h0, X', hL, e1, e2, ⟨u, hp, hb, hF⟩, hce, hcv, hcl, st⟩
  · cases hv
    obtain ⟨k1, k2, k3⟩ := vx_keep h0 e1 hS hA hf hL hF
    obtain ⟨t2, a1, b1⟩ := kk r u t T'.heap (locs ++ L) e1.symm (by rw [← e2]; exact X'.warmed.alike) hp hb k1 k2 k3 T' rfl X'
    exact ⟨t2, st t2 a1, b1⟩
  · obtain ⟨k1, k2, k3⟩ := vx_keep h0 e1 hS hAX hf hL hF
    obtain ⟨t2, a1, b1⟩ := kx E ce q u t T'.heap (locs ++ L) e1.symm (by rw [← e2]; exact X'.warmed.alike) hp hb k1 k2 k3 (by rw [e1]; exact hce) hcv hcl T' rfl X'
    exact ⟨t2, st.trans a1, b1⟩
theorem vx_calll {S SX : Type} {post : Int64 → S → Prop} {px : SX → Prop} {B : S → State → Prop} {BX : String → SX → State → Prop} {AX : Nat → Prop} (hr : vx_Run p l e R s m args below meth c H locs cells slots mc ms (F0 m pc ls st0) rest (va_Ql post B A1 a) (vx_X px BX AX) free) (hS : va_S A0 H0 H locs) (hA : ∀ q, q < H.size → A1 q → A0 q) (hf : ∀ q, free q → A0 q) (hAX : ∀ q, q < H.size → AX q → A0 q)
    (kx : ∀ (E : String) (ce : Cell) (q9 : Addr) (u : SX) (t : State) (H1 : Heap) (locs1 : List Loc), t.heap = H1 → s.vm.Alike t.vm → px u → BX E u t → H.size ≤ H1.size → (∀ q : Nat, q < H.size → ¬ AX q → H1[q]? = H[q]?) → va_S A0 H0 H1 locs1 → H1[q9]? = some ce → ce.vm = .none → s.vm.findClass E = some ce.cls → vx_W p l e R s m args below meth c H1 locs1 (cells + mc) (slots + ms) Q (F0 m pc ls rest) q9)
    (kk : ∀ (r : Int64) (u : S) (t : State) (H1 : Heap) (locs1 : List Loc), t.heap = H1 → s.vm.Alike t.vm → post r u → B u t → H.size ≤ H1.size → (∀ q : Nat, q < H.size → ¬ A1 q → H1[q]? = H[q]?) → va_S A0 H0 H1 locs1 → W p l e R s m args below meth c H1 locs1 (cells + mc) (slots + ms) Q (F0 m (pc + 3) ls (.long r :: rest))) : W p l e R s m args below meth c H locs cells slots Q (F0 m pc ls st0) := by
  intro T hT X
  rcases hr T hT X with ⟨v, st₀, t, T', L, h0, X', hL, e1, e2, ⟨⟨r, u, hv, hp, hb⟩, hF⟩, st⟩ | ⟨q, st₀, t, T', L, E, ce, h0, X', hL, e1, e2, ⟨u, hp, hb, hF⟩, hce, hcv, hcl, st⟩
  · cases hv
    obtain ⟨k1, k2, k3⟩ := vx_keep h0 e1 hS hA hf hL hF
    obtain ⟨t2, a1, b1⟩ := kk r u t T'.heap (locs ++ L) e1.symm (by rw [← e2]; exact X'.warmed.alike) hp hb k1 k2 k3 T' rfl X'
    exact ⟨t2, st t2 a1, b1⟩
  · obtain ⟨k1, k2, k3⟩ := vx_keep h0 e1 hS hAX hf hL hF
    obtain ⟨t2, a1, b1⟩ := kx E ce q u t T'.heap (locs ++ L) e1.symm (by rw [← e2]; exact X'.warmed.alike) hp hb k1 k2 k3 (by rw [e1]; exact hce) hcv hcl T' rfl X'
    exact ⟨t2, st.trans a1, b1⟩
theorem vx_callf {S SX : Type} {post : UInt32 → S → Prop} {px : SX → Prop} {B : S → State → Prop} {BX : String → SX → State → Prop} {AX : Nat → Prop} (hr : vx_Run p l e R s m args below meth c H locs cells slots mc ms (F0 m pc ls st0) rest (va_Qf post B A1 a) (vx_X px BX AX) free) (hS : va_S A0 H0 H locs) (hA : ∀ q, q < H.size → A1 q → A0 q) (hf : ∀ q, free q → A0 q) (hAX : ∀ q, q < H.size → AX q → A0 q)
    (kx : ∀ (E : String) (ce : Cell) (q9 : Addr) (u : SX) (t : State) (H1 : Heap) (locs1 : List Loc), t.heap = H1 → s.vm.Alike t.vm → px u → BX E u t → H.size ≤ H1.size → (∀ q : Nat, q < H.size → ¬ AX q → H1[q]? = H[q]?) → va_S A0 H0 H1 locs1 → H1[q9]? = some ce → ce.vm = .none → s.vm.findClass E = some ce.cls → vx_W p l e R s m args below meth c H1 locs1 (cells + mc) (slots + ms) Q (F0 m pc ls rest) q9)
    (kk : ∀ (r : UInt32) (u : S) (t : State) (H1 : Heap) (locs1 : List Loc), t.heap = H1 → s.vm.Alike t.vm → post r u → B u t → H.size ≤ H1.size → (∀ q : Nat, q < H.size → ¬ A1 q → H1[q]? = H[q]?) → va_S A0 H0 H1 locs1 → W p l e R s m args below meth c H1 locs1 (cells + mc) (slots + ms) Q (F0 m (pc + 3) ls (.float r :: rest))) : W p l e R s m args below meth c H locs cells slots Q (F0 m pc ls st0) := by
  intro T hT X
  rcases hr T hT X with ⟨v, st₀, t, T', L, h0, X', hL, e1, e2, ⟨⟨r, u, hv, hp, hb⟩, hF⟩, st⟩ | ⟨q, st₀, t, T', L, E, ce, h0, X', hL, e1, e2, ⟨u, hp, hb, hF⟩, hce, hcv, hcl, st⟩
  · cases hv
    obtain ⟨k1, k2, k3⟩ := vx_keep h0 e1 hS hA hf hL hF
    obtain ⟨t2, a1, b1⟩ := kk r u t T'.heap (locs ++ L) e1.symm (by rw [← e2]; exact X'.warmed.alike) hp hb k1 k2 k3 T' rfl X'
    exact ⟨t2, st t2 a1, b1⟩
  · obtain ⟨k1, k2, k3⟩ := vx_keep h0 e1 hS hAX hf hL hF
    obtain ⟨t2, a1, b1⟩ := kx E ce q u t T'.heap (locs ++ L) e1.symm (by rw [← e2]; exact X'.warmed.alike) hp hb k1 k2 k3 (by rw [e1]; exact hce) hcv hcl T' rfl X'
    exact ⟨t2, st.trans a1, b1⟩
theorem vx_calld {S SX : Type} {post : UInt64 → S → Prop} {px : SX → Prop} {B : S → State → Prop} {BX : String → SX → State → Prop} {AX : Nat → Prop} (hr : vx_Run p l e R s m args below meth c H locs cells slots mc ms (F0 m pc ls st0) rest (va_Qd post B A1 a) (vx_X px BX AX) free) (hS : va_S A0 H0 H locs) (hA : ∀ q, q < H.size → A1 q → A0 q) (hf : ∀ q, free q → A0 q) (hAX : ∀ q, q < H.size → AX q → A0 q)
    (kx : ∀ (E : String) (ce : Cell) (q9 : Addr) (u : SX) (t : State) (H1 : Heap) (locs1 : List Loc), t.heap = H1 → s.vm.Alike t.vm → px u → BX E u t → H.size ≤ H1.size → (∀ q : Nat, q < H.size → ¬ AX q → H1[q]? = H[q]?) → va_S A0 H0 H1 locs1 → H1[q9]? = some ce → ce.vm = .none → s.vm.findClass E = some ce.cls → vx_W p l e R s m args below meth c H1 locs1 (cells + mc) (slots + ms) Q (F0 m pc ls rest) q9)
    (kk : ∀ (r : UInt64) (u : S) (t : State) (H1 : Heap) (locs1 : List Loc), t.heap = H1 → s.vm.Alike t.vm → post r u → B u t → H.size ≤ H1.size → (∀ q : Nat, q < H.size → ¬ A1 q → H1[q]? = H[q]?) → va_S A0 H0 H1 locs1 → W p l e R s m args below meth c H1 locs1 (cells + mc) (slots + ms) Q (F0 m (pc + 3) ls (.double r :: rest))) : W p l e R s m args below meth c H locs cells slots Q (F0 m pc ls st0) := by
  intro T hT X
  rcases hr T hT X with ⟨v, st₀, t, T', L, h0, X', hL, e1, e2, ⟨⟨r, u, hv, hp, hb⟩, hF⟩, st⟩ | ⟨q, st₀, t, T', L, E, ce, h0, X', hL, e1, e2, ⟨u, hp, hb, hF⟩, hce, hcv, hcl, st⟩
  · cases hv
    obtain ⟨k1, k2, k3⟩ := vx_keep h0 e1 hS hA hf hL hF
    obtain ⟨t2, a1, b1⟩ := kk r u t T'.heap (locs ++ L) e1.symm (by rw [← e2]; exact X'.warmed.alike) hp hb k1 k2 k3 T' rfl X'
    exact ⟨t2, st t2 a1, b1⟩
  · obtain ⟨k1, k2, k3⟩ := vx_keep h0 e1 hS hAX hf hL hF
    obtain ⟨t2, a1, b1⟩ := kx E ce q u t T'.heap (locs ++ L) e1.symm (by rw [← e2]; exact X'.warmed.alike) hp hb k1 k2 k3 (by rw [e1]; exact hce) hcv hcl T' rfl X'
    exact ⟨t2, st.trans a1, b1⟩
theorem vx_callv {S SX : Type} {post : S → Prop} {px : SX → Prop} {B : S → State → Prop} {BX : String → SX → State → Prop} {AX : Nat → Prop} (hr : vx_Run p l e R s m args below meth c H locs cells slots mc ms (F0 m pc ls st0) rest (va_Qv post B A1 a) (vx_X px BX AX) free) (hS : va_S A0 H0 H locs) (hA : ∀ q, q < H.size → A1 q → A0 q) (hf : ∀ q, free q → A0 q) (hAX : ∀ q, q < H.size → AX q → A0 q)
    (kx : ∀ (E : String) (ce : Cell) (q9 : Addr) (u : SX) (t : State) (H1 : Heap) (locs1 : List Loc), t.heap = H1 → s.vm.Alike t.vm → px u → BX E u t → H.size ≤ H1.size → (∀ q : Nat, q < H.size → ¬ AX q → H1[q]? = H[q]?) → va_S A0 H0 H1 locs1 → H1[q9]? = some ce → ce.vm = .none → s.vm.findClass E = some ce.cls → vx_W p l e R s m args below meth c H1 locs1 (cells + mc) (slots + ms) Q (F0 m pc ls rest) q9)
    (kk : ∀ (u : S) (t : State) (H1 : Heap) (locs1 : List Loc), t.heap = H1 → s.vm.Alike t.vm → post u → B u t → H.size ≤ H1.size → (∀ q : Nat, q < H.size → ¬ A1 q → H1[q]? = H[q]?) → va_S A0 H0 H1 locs1 → W p l e R s m args below meth c H1 locs1 (cells + mc) (slots + ms) Q (F0 m (pc + 3) ls (rest))) : W p l e R s m args below meth c H locs cells slots Q (F0 m pc ls st0) := by
  intro T hT X
  rcases hr T hT X with ⟨v, st₀, t, T', L, h0, X', hL, e1, e2, ⟨⟨u, hv, hp, hb⟩, hF⟩, st⟩ | ⟨q, st₀, t, T', L, E, ce, h0, X', hL, e1, e2, ⟨u, hp, hb, hF⟩, hce, hcv, hcl, st⟩
  · cases hv
    obtain ⟨k1, k2, k3⟩ := vx_keep h0 e1 hS hA hf hL hF
    obtain ⟨t2, a1, b1⟩ := kk u t T'.heap (locs ++ L) e1.symm (by rw [← e2]; exact X'.warmed.alike) hp hb k1 k2 k3 T' rfl X'
    exact ⟨t2, st t2 a1, b1⟩
  · obtain ⟨k1, k2, k3⟩ := vx_keep h0 e1 hS hAX hf hL hF
    obtain ⟨t2, a1, b1⟩ := kx E ce q u t T'.heap (locs ++ L) e1.symm (by rw [← e2]; exact X'.warmed.alike) hp hb k1 k2 k3 (by rw [e1]; exact hce) hcv hcl T' rfl X'
    exact ⟨t2, st.trans a1, b1⟩
end Rows
section Ends
variable {p : Program} {l : Launch} {e : Env} {R : Room} {s : State} {m : MethodId} {args : Array Value} {below : List Frame} {meth : Method} {c : Code} {H : Heap} {locs : List Loc} {cells slots : Nat} {Q : State → Prop}
variable {mc ms : Nat} {free : Addr → Prop} {A0 A1 : Nat → Prop} {H0 : Heap} {a : Array Value} {ls : Array Slot} {st0 rest : List Value}
variable {Qc : Array Value → State → Outcome → State → Prop} {XC : String → State → State → Prop}
/-- what a body that may throw owes at its end -/
def vx_MQ (below : List Frame) (Qc : Array Value → State → Outcome → State → Prop) (XC : String → State → State → Prop) (a : Array Value) (s : State) (mc ms : Nat) (free : Addr → Prop) : State → Prop := fun t =>
  ∃ o, t.status = .running ∧ Ended t below o ∧ vx_Q Qc XC mc ms free a s o t
theorem vx_ret {g : JFrame} {mc ms : Nat} (k : W p l e R s m args below meth c H locs cells slots (MQ below Qc args s mc ms free) g) : W p l e R s m args below meth c H locs cells slots (vx_MQ below Qc XC args s mc ms free) g := by
  intro T hT X
  obtain ⟨t, a1, o, b1, b2, b3, b4⟩ := k T hT X
  exact ⟨t, a1, o, b1, b2, Or.inl ⟨b3, b4⟩⟩
/-- not caught here: it goes on to the caller -/
theorem vx_widen {g : JFrame} {q : Addr} {k n : Nat} (h1 : cells ≤ k) (h2 : slots ≤ n) (kk : vx_W p l e R s m args below meth c H locs k n Q g q) : vx_W p l e R s m args below meth c H locs cells slots Q g q := fun T hT X => kk T hT (stand_widen X h1 h2)
theorem vx_out {pc : Nat} {E : String} {ce : Cell} {q : Addr} {mc ms : Nat} (hout : ∀ x ∈ c.exceptionTable.toList, covers x pc = false) (hlocks : meth.locks = false) (hcell : H[q]? = some ce) (hv : ce.vm = .none) (hcl : s.vm.findClass E = some ce.cls)
    (hx : ∀ t : State, t.heap = H → s.vm.Alike t.vm → XC E s t) (hf : ∀ z ∈ locs, free z.base) (hc : cells ≤ mc) (hs : slots ≤ ms) :
    vx_W p l e R s m args below meth c H locs cells slots (vx_MQ below Qc XC args s mc ms free) (F0 m pc ls rest) q := by
  intro T hT X
  obtain ⟨st1, hrun, hend, hW, hsm⟩ := X.leaveThrown q (g := F0 m pc ls rest) rfl rfl rfl hout hlocks
  have hcell9 : (T.setFrames (.throwing q :: below)).heap[q]? = some ce := by
    show T.heap[q]? = some ce
    rw [hT]; exact hcell
  exact ⟨_, st1, .threw q, hrun, hend, Or.inr ⟨q, rfl, E, ce, locs, hx _ hT hW.alike, hcell9, hv, hcl, hW, hsm.mono hc hs, hf⟩⟩
theorem vx_frame {U : State} {k n : Nat} (h : s.sameButNew ({ U with vm := s.vm } : State) locs k n) : s.heap.size ≤ U.heap.size ∧ ∀ q : Nat, q < s.heap.size → (∀ z ∈ locs, z.base ≠ q) → U.heap[q]? = s.heap[q]? := by
  obtain ⟨-, h2, -, -, -, h6⟩ := h
  refine ⟨h2, fun q hq hz => ?_⟩
  obtain ⟨c9, e1, e2, e3, e4⟩ := h6 q _ (Array.getElem?_eq_getElem hq)
  have hs : c9.slots = (s.heap[q]).slots := Array.ext_getElem? fun i => e4 i fun hm => hz _ hm rfl
  have h9 : c9 = s.heap[q] := by
    rw [hs] at e2
    exact e2
  have e5 : U.heap[q]? = some c9 := e1
  rw [e5, h9, Array.getElem?_eq_getElem hq]
/-- the words of a throw but the four that speak of the heap -/
def vx_no (w : Cond) : Bool := decide (w ≠ .isRef (.static Bundle.tN "UNASSIGNED_STACK" Bundle.steD)) && decide (w ≠ .isRef (.static Bundle.tN "SUPPRESSED_SENTINEL" Bundle.listD)) && decide (w ≠ .laysStatic Bundle.tN "UNASSIGNED_STACK" Bundle.steD) && decide (w ≠ .laysStatic Bundle.tN "SUPPRESSED_SENTINEL" Bundle.listD)
def vx_at0 (own : String) (ic : Nat) (X : String) (names : List String) : List Cond := (Bundle.ownAtoms0 own ic X names).filter vx_no
def vx_atS (own : String) (ic : Nat) (X : String) (names : List String) : List Cond := (Bundle.ownAtoms own ic X names).filter vx_no
/-- a word that the tables alone decide, or a good one -/
def vx_ot (w : Cond) : Bool := w.onTables || goodWord w
theorem vx_ot_at {args a' : Array Value} {s U : State} {w : Cond} (hW : s.WarmedH U.vm) (hvm : s.vm = U.vm) (hg : vx_ot w = true) (h : w.before args s = true) : w.before a' U = true := by
  simp only [vx_ot, Bool.or_eq_true] at hg
  rcases hg with hg | hg
  · exact va_tabs hg hvm h
  · exact word_at hW (good_of_word hg) h
/-- a list's words: the good ones out of the method's own list, the others by premises of their own -/
theorem vx_hat {args : Array Value} {s : State} {L B : List Cond} (h1 : ∀ w ∈ L.filter goodWord, w.before args s = true) (h2 : ∀ w ∈ L.filter (fun w => !goodWord w), w ∈ B) (h3 : ∀ w ∈ B, w.before args s = true) : ∀ w ∈ L, w.before args s = true := by
  intro w hw
  by_cases g : goodWord w = true
  · exact h1 w (List.mem_filter.mpr ⟨hw, g⟩)
  · refine h3 w (h2 w (List.mem_filter.mpr ⟨hw, ?_⟩))
    show (!goodWord w) = true
    cases hgw : goodWord w
    · rfl
    · exact absurd hgw g
theorem vx_c {args : Array Value} {s : State} {w : Cond} {B : List Cond} (h : w.before args s = true) (t : ∀ w ∈ B, w.before args s = true) : ∀ w' ∈ w :: B, w'.before args s = true := fun w' h' => (List.mem_cons.mp h').elim (fun e => by rw [e]; exact h) (t w')
theorem vx_n {args : Array Value} {s : State} : ∀ w ∈ ([] : List Cond), w.before args s = true := fun _ h => nomatch h
theorem vx_own {args : Array Value} {s : State} {L : List Cond} (h1 : ∀ w ∈ L.filter vx_no, w.before args s = true)
    (hU : (Cond.isRef (.static Bundle.tN "UNASSIGNED_STACK" Bundle.steD)).before args s = true) (hN : (Cond.isRef (.static Bundle.tN "SUPPRESSED_SENTINEL" Bundle.listD)).before args s = true)
    (lU : (Cond.laysStatic Bundle.tN "UNASSIGNED_STACK" Bundle.steD).before args s = true) (lN : (Cond.laysStatic Bundle.tN "SUPPRESSED_SENTINEL" Bundle.listD).before args s = true) : ∀ w ∈ L, w.before args s = true := by
  intro w hw
  by_cases e1 : w = .isRef (.static Bundle.tN "UNASSIGNED_STACK" Bundle.steD)
  · rw [e1]; exact hU
  · by_cases e2 : w = .isRef (.static Bundle.tN "SUPPRESSED_SENTINEL" Bundle.listD)
    · rw [e2]; exact hN
    · by_cases e3 : w = .laysStatic Bundle.tN "UNASSIGNED_STACK" Bundle.steD
      · rw [e3]; exact lU
      · by_cases e4 : w = .laysStatic Bundle.tN "SUPPRESSED_SENTINEL" Bundle.listD
        · rw [e4]; exact lN
        · exact h1 w (List.mem_filter.mpr ⟨hw, by unfold vx_no; rw [decide_eq_true e1, decide_eq_true e2, decide_eq_true e3, decide_eq_true e4]; rfl⟩)
/-- where a static field lies, its class's statics cell in H -/
def vx_L (C n d : String) (A : Nat → Prop) (U : State) (H : Heap) : Prop := ∃ (c : ClassId) (k : Class) (i : Nat) (f : Field) (a : Nat) (cell : Cell), U.vm.findClass C = some c ∧ U.fieldFound? C n d = some (c, k, i, f) ∧ f.isStatic = true ∧ k.statics = some a ∧ H[a]? = some cell ∧ cell.vm.isStatics = true ∧ cell.cls = c ∧ f.slot < cell.slots.size ∧ k.staticTypes[f.slot]? = some f.type ∧ ¬ A a
theorem vx_L.moved {C n d : String} {A : Nat → Prop} {u U : State} {H : Heap} (hvm : u.vm.Alike U.vm) (h : vx_L C n d A u H) : vx_L C n d A U H := by
  obtain ⟨c, k, i, f, a, cell, h1, h2, h3, h4, h5, h6, h7, h8, h9, h10⟩ := h
  obtain ⟨k', hi', he⟩ := State.fieldFound?_setVm hvm h2
  exact ⟨c, k', i, f, a, cell, by rw [hvm.findClass]; exact h1, hi', h3, by rw [he]; exact h4, h5, h6, h7, h8, by rw [he]; exact h9, h10⟩
theorem vx_L.kept {C n d : String} {A : Nat → Prop} {U : State} {H H1 : Heap} (h : vx_L C n d A U H) (hq : ∀ a : Nat, a < H.size → ¬ A a → H1[a]? = H[a]?) : vx_L C n d A U H1 := by
  obtain ⟨c, k, i, f, a, cell, h1, h2, h3, h4, h5, h6, h7, h8, h9, h10⟩ := h
  exact ⟨c, k, i, f, a, cell, h1, h2, h3, h4, by rw [hq a (Array.getElem?_eq_some_iff.mp h5).1 h10]; exact h5, h6, h7, h8, h9, h10⟩
theorem vx_L.narrow {C n d : String} {A B : Nat → Prop} {U : State} {H : Heap} (h : vx_L C n d A U H) (hAB : ∀ q, B q → A q) : vx_L C n d B U H := by
  obtain ⟨c, k, i, f, a, cell, h1, h2, h3, h4, h5, h6, h7, h8, h9, h10⟩ := h
  exact ⟨c, k, i, f, a, cell, h1, h2, h3, h4, h5, h6, h7, h8, h9, fun z => h10 (hAB _ z)⟩
theorem vx_L.word {C n d : String} {A : Nat → Prop} {s : State} {args : Array Value} (h : vx_L C n d A s s.heap) : (Cond.laysStatic C n d).before args s = true := by
  obtain ⟨c, k, i, f, a, cell, h1, h2, h3, h4, h5, h6, h7, h8, h9, -⟩ := h
  show (Cond.laysStatic C n d).holds args s none s [] = true
  exact Cond.laysStatic_of h1 h2 h3 h4 h5 h6 h7 h8 h9
/-- .. and what it holds: null or some reference -/
def vx_Zq (C n d : String) (A : Nat → Prop) (U : State) (H : Heap) : Prop := va_Zq C n d A U H ∧ vx_L C n d A U H
theorem vx_Zq.moved {C n d : String} {A : Nat → Prop} {u U : State} {H : Heap} (hvm : u.vm.Alike U.vm) (h : vx_Zq C n d A u H) : vx_Zq C n d A U H := ⟨va_Zq.moved hvm h.1, vx_L.moved hvm h.2⟩
theorem vx_Zq.kept {C n d : String} {A : Nat → Prop} {U : State} {H H1 : Heap} (h : vx_Zq C n d A U H) (hq : ∀ a : Nat, a < H.size → ¬ A a → H1[a]? = H[a]?) : vx_Zq C n d A U H1 := ⟨va_Zq.kept h.1 hq, vx_L.kept h.2 hq⟩
theorem vx_Zq.narrow {C n d : String} {A B : Nat → Prop} {U : State} {H : Heap} (h : vx_Zq C n d A U H) (hAB : ∀ q, B q → A q) : vx_Zq C n d B U H := ⟨va_Zq.narrow h.1 hAB, vx_L.narrow h.2 hAB⟩
theorem vx_Zqof {args : Array Value} {s : State} {C n d : String} {A : Nat → Prop} (hl : (Cond.laysStatic C n d).before args s = true) (hini : (Cond.initialized C).before args s = true) (h : (Cond.isRef (.static C n d)).before args s = true) (hA : ∀ a : Nat, a < s.heap.size → ¬ A a) : vx_Zq C n d A s s.heap := by
  refine ⟨va_Zqof hl hini h hA, ?_⟩
  obtain ⟨c, k, i, f, a, cell, h1, h2, h3, h4, h5, h6, h7, h8, h9⟩ := Cond.laysStatic_spec hl
  exact ⟨c, k, i, f, a, cell, h1, h2, h3, h4, h5, h6, h7, h8, h9, hA a (Array.getElem?_eq_some_iff.mp h5).1⟩
theorem vx_isRef {C n d : String} {v : Value} {A : Nat → Prop} {s : State} {args : Array Value} (h : va_Z C n d v A s s.heap) (hv : v.isRef = true) : (Cond.isRef (.static C n d)).before args s = true := by
  obtain ⟨cf, kf, fi, f, a, cell, h1, h2, h3, h4, h5, h6, h7, -⟩ := h
  have he : (Term.static C n d).eval args s none [] s = some v := by
    simp [Term.eval, State.fieldNamed?, h1, h2, h4, h5, h6, h7]
  simp only [Cond.before, Cond.holds, Cond.value, he]
  cases v <;> simp_all [Value.isRef]
theorem vx_isRefq {C n d : String} {A : Nat → Prop} {s : State} {args : Array Value} (h : va_Zq C n d A s s.heap) : (Cond.isRef (.static C n d)).before args s = true := by
  rcases h with h | ⟨t, h⟩
  · exact vx_isRef h rfl
  · exact vx_isRef h rfl
/-- the same frame, seen from here: as if the method were called anew in this heap -/
theorem vx_rebase {T : State} (X : Stand p l e R s m args below meth c T locs cells slots) {R' : Room} (hf : R'.frames ≤ R.frames) (hl : R'.locals ≤ R.locals) (hc : cells + R'.cells ≤ R.cells) (hs : slots + R'.slots ≤ R.slots) :
    Stand p l e R' ((T.setVm s.vm).setFrames (.invoking m args :: below)) m args below meth c T [] 0 0 := by
  have htop : (T.setVm s.vm).topJava?.isSome := X.here.top
  have hF : ((T.setVm s.vm).setFrames (.invoking m args :: below)).frames = .invoking m args :: below := State.frames_setFrames _ (State.cur_lt_of_top htop)
  obtain ⟨g₀, hg0⟩ := Option.isSome_iff_exists.mp htop
  obtain ⟨r, hr⟩ := State.topJava?_eq_some.mp hg0
  have hl9 : e.platform.stackLimits (T.setVm s.vm).me = e.platform.stackLimits s.me := X.limits
  have hb9 : (T.setVm s.vm).me.stackBytes = s.me.stackBytes := X.bytes
  refine ⟨X.admits, X.cas, X.clock, hF, ?_, X.hears, X.method, X.code, X.here, X.tail, X.warmed, ?_, ?_, ?_⟩
  · have h := X.room
    have hU : ((T.setVm s.vm).setFrames (.invoking m args :: below)).localsInUse = s.localsInUse := by
      rw [State.localsInUse_invoking hF (meth := meth) (c := c) X.method X.code, State.localsInUse_invoking X.frames X.method X.code]
    simp only [State.hasRoom, Bool.and_eq_true, decide_eq_true_eq] at h ⊢
    obtain ⟨⟨⟨⟨h1, h2, h3, h4, h5, h6⟩, h7⟩, h8⟩, h9⟩ := h
    rw [X.frames, List.length_cons] at h2 h3
    have q1 := X.heapSize
    have q2 := X.used
    simp only [hF, hU, List.length_cons, State.stackLimits_setFrames, State.stackBytes_setFrames, hl9, hb9]
    refine ⟨⟨⟨⟨by omega, by omega, by omega, by omega, by omega, h6⟩, ?_⟩, ?_⟩, X.book⟩
    · show T.heap.size + R'.cells ≤ e.platform.maxCells
      omega
    · show T.slotsUsed + R'.slots ≤ e.platform.maxSlots
      omega
  · rw [State.stackLimits_setFrames]; rfl
  · rw [State.stackBytes_setFrames]; rfl
  · refine ⟨?_, Nat.le_refl _, Nat.le_refl _, ?_, ?_, fun a c9 h9 => ⟨c9, h9, rfl, rfl, fun _ _ => rfl⟩⟩
    · obtain ⟨t, ht, -⟩ := State.frames_cons hr
      show T.setVm s.vm = { ((T.setVm s.vm).setFrames (.invoking m args :: below)).setFrames (T.setVm s.vm).frames with heap := T.heap, slotsUsed := T.slotsUsed }
      rw [State.setFrames_setFrames, State.setFrames_self ht]
      rfl
    · show T.slotsUsed = T.slotsUsed + ((T.heap.toList.drop T.heap.size).map (·.slots.size)).sum
      rw [List.drop_eq_nil_of_le (Nat.le_of_eq Array.length_toList)]
      rfl
    · show ((T.heap.toList.drop T.heap.size).map (·.slots.size)).sum ≤ 0
      rw [List.drop_eq_nil_of_le (Nat.le_of_eq Array.length_toList)]
      exact Nat.le_refl _
/-- 'throw new E()': new; dup; invokespecial; athrow -/
theorem vx_throw0 {cc : ByteArray} {pc : Nat} (hexec : p.tables.exec = Jvm.exec) (hb : c.code = cc) (hl : l.stackTraces = false) {own cls : String} {names : List String} {ik ic mc ms : Nat} {A : Nat → Prop}
    (hown : s.vm.findClass own = some m.cls) (hcls : Bundle.fit cls = true) (hnames : ∀ n ∈ names, Bundle.fit n = true)
    (hk : (Cond.classLink own ik cls).before args s = true) (hini : (Cond.initialized cls).before args s = true) (hat : ∀ w ∈ vx_at0 own ic cls names, w.before args s = true)
    (hgood : ∀ w ∈ Cond.classLink own ik cls :: Cond.initialized cls :: vx_at0 own ic cls names, vx_ot w = true)
    (hU : vx_Zq Bundle.tN "UNASSIGNED_STACK" Bundle.steD A s s.heap) (hN : vx_Zq Bundle.tN "SUPPRESSED_SENTINEL" Bundle.listD A s s.heap) (hS : va_S A s.heap H locs) (hsize : ls.size = c.maxLocals)
    (d0 : decode cc pc = .ok (.new ik, 3)) (d3 : decode cc (pc + 3) = .ok (.dup, 1)) (d4 : decode cc (pc + 4) = .ok (.invokespecial ic, 3)) (d7 : decode cc (pc + 7) = .ok (.athrow, 1))
    (hout : ∀ x ∈ c.exceptionTable.toList, covers x (pc + 7) = false)
    (hRframes : names.length + 3 < R.frames) (hRlocals : (rest.map fun v => v.category).sum + (13 * (names.length + 1) + 42) ≤ R.locals) (hRcells : cells + 1 ≤ R.cells) (hRslots : slots + 6 ≤ R.slots) (hlocks : meth.locks = false)
    (hx : ∀ t : State, s.vm.Alike t.vm → H.size ≤ t.heap.size → (∀ q : Nat, q < H.size → t.heap[q]? = H[q]?) → XC cls s t)
    (hf : ∀ z ∈ locs, free z.base) (hc : cells + 1 ≤ mc) (hs : slots + 6 ≤ ms) :
    W p l e R s m args below meth c H locs cells slots (vx_MQ below Qc XC args s mc ms free) (F0 m pc ls rest) := by
  intro T hT X
  have htr : e.platform.stackTraces = false := (show e.platform.stackTraces = l.stackTraces by rw [X.admits.platform]).trans hl
  have Y := vx_rebase X (R' := { frames := R.frames, locals := R.locals, cells := 1, slots := 6 }) (Nat.le_refl _) (Nat.le_refl _) hRcells hRslots
  obtain ⟨s', hA⟩ : ∃ z, z = (T.setVm s.vm).setFrames (.invoking m args :: below) := ⟨_, rfl⟩
  rw [← hA] at Y
  have hvm : s'.vm = s.vm := by rw [hA]; rfl
  have hhp : s'.heap = H := by rw [hA]; exact hT
  have hW0 : s.WarmedH s'.vm := by rw [hvm]; exact State.WarmedH.refl s
  have hat' : ∀ w ∈ vx_at0 own ic cls names, w.before args s' = true := fun w hw => vx_ot_at hW0 hvm.symm (hgood w (List.mem_cons_of_mem _ (List.mem_cons_of_mem _ hw))) (hat w hw)
  have hk' : (Cond.classLink own ik cls).before args s' = true := vx_ot_at hW0 hvm.symm (hgood _ List.mem_cons_self) hk
  have hini' : (Cond.initialized cls).before args s' = true := vx_ot_at hW0 hvm.symm (hgood _ (List.mem_cons_of_mem _ List.mem_cons_self)) hini
  have hU' : vx_Zq Bundle.tN "UNASSIGNED_STACK" Bundle.steD A s' s'.heap := by rw [hhp]; exact vx_Zq.moved hW0.alike (hU.kept hS.2.1)
  have hN' : vx_Zq Bundle.tN "SUPPRESSED_SENTINEL" Bundle.listD A s' s'.heap := by rw [hhp]; exact vx_Zq.moved hW0.alike (hN.kept hS.2.1)
  have h : ∀ w ∈ Bundle.ownAtoms0 own ic cls names, w.before args s' = true := vx_own hat' (vx_isRefq hU'.1) (vx_isRefq hN'.1) hU'.2.word hN'.2.word
  have hown' : s'.vm.findClass own = some m.cls := by rw [hvm]; exact hown
  have hins : (Cond.instantiable cls 6).before args s' = true := h _ (by simp [Bundle.ownAtoms0])
  obtain ⟨vm₁, cX, kX, hfX, hkX, -, -, X₁, st1⟩ := Y.newCold hexec (own := own) (C := cls) (index := ik) (n := 6) hown' hk' hins hini'
    (g := F0 m pc ls rest) rfl (by rw [hb]; exact d0) (Nat.le_refl _) (Nat.le_refl _)
  generalize hT1 : (T.setVm vm₁).pushCell { cls := cX, slots := kX.instanceTypes.map defaultValue, vm := .none } = T1 at X₁ st1
  have hcat : (Value.ref T.heap.size).category = 1 := rfl
  have hcellA : T1.heap[T.heap.size]? = some (freshCell cX kX) := by rw [← hT1]; exact State.heap_pushCell_size _ _
  have d3' : decode c.code (pc + 3) = .ok (.dup, 1) := by rw [hb]; exact d3
  obtain ⟨U, hsteps, hrun, hend, hW, hsame, ce, hce, hO⟩ := X₁.ctorThrow0 hexec htr (own := own) (cls := cls) (names := names) (ic := ic) hown' hcls hnames h (fun x hx => nomatch hx) hfX hkX hcellA (by rw [hhp, hT]; exact Nat.le_refl _)
    (g := { method := m, pc := pc + 4, locals := ls, stack := .ref T.heap.size :: .ref T.heap.size :: rest, locked := none }) rfl hsize rfl rfl (rest := rest) rfl
    (by rw [hb]; exact d4) (by rw [hb]; exact d7) hout hRframes (by simp only [List.map_cons, List.sum_cons, hcat]; omega) hlocks
  obtain ⟨f1, f2⟩ := vx_frame hsame
  rw [hhp] at f1 f2
  have hWs : s.WarmedH U.vm := State.WarmedH.trans hW0 hW
  have hcl : s.vm.findClass cls = some ce.cls := by
    have h9 := hO.cls
    rw [hvm] at h9
    exact h9
  have hall : s.sameButNew ({ U with vm := s.vm } : State) locs mc ms := by
    subst hA
    obtain ⟨e1, e2⟩ := hsame
    rw [State.setFrames_setFrames] at e1
    have h2 : (T.setVm s.vm).sameButNew ({ U with vm := s.vm } : State) [] (0 + 1) (0 + 6) := ⟨e1, e2⟩
    have h3 := X.same.trans h2
    rw [List.append_nil] at h3
    exact h3.mono hc hs
  refine ⟨U, ?_, .threw T.heap.size, hrun, hend, Or.inr ⟨T.heap.size, rfl, cls, ce, locs, hx U hWs.alike f1 (fun q hq => f2 q hq (fun z hz => nomatch hz)), hce, hO.vm, hcl, hWs, hall, hf⟩⟩
  refine st1 _ ?_
  show Steps p.tables e below (T1.setTop { method := m, pc := pc + 3, locals := ls, stack := .ref T.heap.size :: rest, locked := none }) _
  jvm_step X₁.here [X₁.here.top, hexec, d3', Value.category]
  exact hsteps
/-- 'throw new E("text")': new; dup; ldc; invokespecial; athrow -/
theorem vx_throwS {cc : ByteArray} {pc : Nat} (hexec : p.tables.exec = Jvm.exec) (hb : c.code = cc) (hl : l.stackTraces = false) {own cls text : String} {names : List String} {ik is ic mc ms sa : Nat} {A : Nat → Prop}
    (hown : s.vm.findClass own = some m.cls) (hcls : Bundle.fit cls = true) (hnames : ∀ n ∈ names, Bundle.fit n = true)
    (hk : (Cond.classLink own ik cls).before args s = true) (hini : (Cond.initialized cls).before args s = true) (hstr : vk_R own is text sa s) (hat : ∀ w ∈ vx_atS own ic cls names, w.before args s = true)
    (hgood : ∀ w ∈ Cond.classLink own ik cls :: Cond.initialized cls :: vx_atS own ic cls names, vx_ot w = true)
    (hU : vx_Zq Bundle.tN "UNASSIGNED_STACK" Bundle.steD A s s.heap) (hN : vx_Zq Bundle.tN "SUPPRESSED_SENTINEL" Bundle.listD A s s.heap) (hS : va_S A s.heap H locs) (hsize : ls.size = c.maxLocals)
    (d0 : decode cc pc = .ok (.new ik, 3)) (d3 : decode cc (pc + 3) = .ok (.dup, 1)) (d4 : decode cc (pc + 4) = .ok (.ldc is, 2)) (d6 : decode cc (pc + 6) = .ok (.invokespecial ic, 3)) (d9 : decode cc (pc + 9) = .ok (.athrow, 1))
    (hout : ∀ x ∈ c.exceptionTable.toList, covers x (pc + 9) = false)
    (hRframes : names.length + 3 < R.frames) (hRlocals : (rest.map fun v => v.category).sum + (13 * (names.length + 1) + 43) ≤ R.locals) (hRcells : cells + 1 ≤ R.cells) (hRslots : slots + 6 ≤ R.slots) (hlocks : meth.locks = false)
    (hx : ∀ t : State, s.vm.Alike t.vm → H.size ≤ t.heap.size → (∀ q : Nat, q < H.size → t.heap[q]? = H[q]?) → XC cls s t)
    (hf : ∀ z ∈ locs, free z.base) (hc : cells + 1 ≤ mc) (hs : slots + 6 ≤ ms) :
    W p l e R s m args below meth c H locs cells slots (vx_MQ below Qc XC args s mc ms free) (F0 m pc ls rest) := by
  intro T hT X
  have htr : e.platform.stackTraces = false := (show e.platform.stackTraces = l.stackTraces by rw [X.admits.platform]).trans hl
  have Y := vx_rebase X (R' := { frames := R.frames, locals := R.locals, cells := 1, slots := 6 }) (Nat.le_refl _) (Nat.le_refl _) hRcells hRslots
  obtain ⟨s', hA⟩ : ∃ z, z = (T.setVm s.vm).setFrames (.invoking m args :: below) := ⟨_, rfl⟩
  rw [← hA] at Y
  have hvm : s'.vm = s.vm := by rw [hA]; rfl
  have hhp : s'.heap = H := by rw [hA]; exact hT
  have hW0 : s.WarmedH s'.vm := by rw [hvm]; exact State.WarmedH.refl s
  have hat' : ∀ w ∈ vx_atS own ic cls names, w.before args s' = true := fun w hw => vx_ot_at hW0 hvm.symm (hgood w (List.mem_cons_of_mem _ (List.mem_cons_of_mem _ hw))) (hat w hw)
  have hk' : (Cond.classLink own ik cls).before args s' = true := vx_ot_at hW0 hvm.symm (hgood _ List.mem_cons_self) hk
  have hini' : (Cond.initialized cls).before args s' = true := vx_ot_at hW0 hvm.symm (hgood _ (List.mem_cons_of_mem _ List.mem_cons_self)) hini
  have hU' : vx_Zq Bundle.tN "UNASSIGNED_STACK" Bundle.steD A s' s'.heap := by rw [hhp]; exact vx_Zq.moved hW0.alike (hU.kept hS.2.1)
  have hN' : vx_Zq Bundle.tN "SUPPRESSED_SENTINEL" Bundle.listD A s' s'.heap := by rw [hhp]; exact vx_Zq.moved hW0.alike (hN.kept hS.2.1)
  have h : ∀ w ∈ Bundle.ownAtoms own ic cls names, w.before args s' = true := vx_own hat' (vx_isRefq hU'.1) (vx_isRefq hN'.1) hU'.2.word hN'.2.word
  have hown' : s'.vm.findClass own = some m.cls := by rw [hvm]; exact hown
  have hins : (Cond.instantiable cls 6).before args s' = true := h _ (by simp [Bundle.ownAtoms])
  obtain ⟨vm₁, cX, kX, hfX, hkX, -, -, X₁, st1⟩ := Y.newCold hexec (own := own) (C := cls) (index := ik) (n := 6) hown' hk' hins hini'
    (g := F0 m pc ls rest) rfl (by rw [hb]; exact d0) (Nat.le_refl _) (Nat.le_refl _)
  generalize hT1 : (T.setVm vm₁).pushCell { cls := cX, slots := kX.instanceTypes.map defaultValue, vm := .none } = T1 at X₁ st1
  have hcat : (Value.ref T.heap.size).category = 1 := rfl
  have hcellA : T1.heap[T.heap.size]? = some (freshCell cX kX) := by rw [← hT1]; exact State.heap_pushCell_size _ _
  have d3' : decode c.code (pc + 3) = .ok (.dup, 1) := by rw [hb]; exact d3
  have d4' : decode c.code (pc + 4) = .ok (.ldc is, 2) := by rw [hb]; exact d4
  have hstr' : vk_R own is text sa s' := vk_R.warm hW0 hstr
  obtain ⟨U, hsteps, hrun, hend, hW, hsame, ce, hce, hO⟩ := X₁.ctorThrowS hexec htr (own := own) (cls := cls) (names := names) (ic := ic) hown' hcls hnames h (fun x hx => nomatch hx) hfX hkX hcellA (by rw [hhp, hT]; exact Nat.le_refl _) (msg := .ref sa) rfl
    (g := { method := m, pc := pc + 6, locals := ls, stack := .ref sa :: .ref T.heap.size :: .ref T.heap.size :: rest, locked := none }) rfl hsize rfl rfl (rest := rest) rfl
    (by rw [hb]; exact d6) (by rw [hb]; exact d9) hout hRframes (by simp only [List.map_cons, List.sum_cons, hcat]; omega) hlocks
  obtain ⟨f1, f2⟩ := vx_frame hsame
  rw [hhp] at f1 f2
  have hWs : s.WarmedH U.vm := State.WarmedH.trans hW0 hW
  have hcl : s.vm.findClass cls = some ce.cls := by
    have h9 := hO.cls
    rw [hvm] at h9
    exact h9
  have hall : s.sameButNew ({ U with vm := s.vm } : State) locs mc ms := by
    subst hA
    obtain ⟨e1, e2⟩ := hsame
    rw [State.setFrames_setFrames] at e1
    have h2 : (T.setVm s.vm).sameButNew ({ U with vm := s.vm } : State) [] (0 + 1) (0 + 6) := ⟨e1, e2⟩
    have h3 := X.same.trans h2
    rw [List.append_nil] at h3
    exact h3.mono hc hs
  refine ⟨U, ?_, .threw T.heap.size, hrun, hend, Or.inr ⟨T.heap.size, rfl, cls, ce, locs, hx U hWs.alike f1 (fun q hq => f2 q hq (fun z hz => nomatch hz)), hce, hO.vm, hcl, hWs, hall, hf⟩⟩
  refine st1 _ ?_
  show Steps p.tables e below (T1.setTop { method := m, pc := pc + 3, locals := ls, stack := .ref T.heap.size :: rest, locked := none }) _
  jvm_step X₁.here [X₁.here.top, hexec, d3', Value.category]
  exact X₁.ldcString hexec (own := own) (text := text) (index := is) (a := sa) hown' hstr'.1 hstr'.2
    (g := { method := m, pc := pc + 4, locals := ls, stack := .ref T.heap.size :: .ref T.heap.size :: rest, locked := none }) rfl d4' _ hsteps
/-- 'throw new E("text")', the text by a wide index -/
theorem vx_throwSW {cc : ByteArray} {pc : Nat} (hexec : p.tables.exec = Jvm.exec) (hb : c.code = cc) (hl : l.stackTraces = false) {own cls text : String} {names : List String} {ik is ic mc ms sa : Nat} {A : Nat → Prop}
    (hown : s.vm.findClass own = some m.cls) (hcls : Bundle.fit cls = true) (hnames : ∀ n ∈ names, Bundle.fit n = true)
    (hk : (Cond.classLink own ik cls).before args s = true) (hini : (Cond.initialized cls).before args s = true) (hstr : vk_R own is text sa s) (hat : ∀ w ∈ vx_atS own ic cls names, w.before args s = true)
    (hgood : ∀ w ∈ Cond.classLink own ik cls :: Cond.initialized cls :: vx_atS own ic cls names, vx_ot w = true)
    (hU : vx_Zq Bundle.tN "UNASSIGNED_STACK" Bundle.steD A s s.heap) (hN : vx_Zq Bundle.tN "SUPPRESSED_SENTINEL" Bundle.listD A s s.heap) (hS : va_S A s.heap H locs) (hsize : ls.size = c.maxLocals)
    (d0 : decode cc pc = .ok (.new ik, 3)) (d3 : decode cc (pc + 3) = .ok (.dup, 1)) (d4 : decode cc (pc + 4) = .ok (.ldc_w is, 3)) (d7 : decode cc (pc + 7) = .ok (.invokespecial ic, 3)) (d10 : decode cc (pc + 10) = .ok (.athrow, 1))
    (hout : ∀ x ∈ c.exceptionTable.toList, covers x (pc + 10) = false)
    (hRframes : names.length + 3 < R.frames) (hRlocals : (rest.map fun v => v.category).sum + (13 * (names.length + 1) + 43) ≤ R.locals) (hRcells : cells + 1 ≤ R.cells) (hRslots : slots + 6 ≤ R.slots) (hlocks : meth.locks = false)
    (hx : ∀ t : State, s.vm.Alike t.vm → H.size ≤ t.heap.size → (∀ q : Nat, q < H.size → t.heap[q]? = H[q]?) → XC cls s t)
    (hf : ∀ z ∈ locs, free z.base) (hc : cells + 1 ≤ mc) (hs : slots + 6 ≤ ms) :
    W p l e R s m args below meth c H locs cells slots (vx_MQ below Qc XC args s mc ms free) (F0 m pc ls rest) := by
  intro T hT X
  have htr : e.platform.stackTraces = false := (show e.platform.stackTraces = l.stackTraces by rw [X.admits.platform]).trans hl
  have Y := vx_rebase X (R' := { frames := R.frames, locals := R.locals, cells := 1, slots := 6 }) (Nat.le_refl _) (Nat.le_refl _) hRcells hRslots
  obtain ⟨s', hA⟩ : ∃ z, z = (T.setVm s.vm).setFrames (.invoking m args :: below) := ⟨_, rfl⟩
  rw [← hA] at Y
  have hvm : s'.vm = s.vm := by rw [hA]; rfl
  have hhp : s'.heap = H := by rw [hA]; exact hT
  have hW0 : s.WarmedH s'.vm := by rw [hvm]; exact State.WarmedH.refl s
  have hat' : ∀ w ∈ vx_atS own ic cls names, w.before args s' = true := fun w hw => vx_ot_at hW0 hvm.symm (hgood w (List.mem_cons_of_mem _ (List.mem_cons_of_mem _ hw))) (hat w hw)
  have hk' : (Cond.classLink own ik cls).before args s' = true := vx_ot_at hW0 hvm.symm (hgood _ List.mem_cons_self) hk
  have hini' : (Cond.initialized cls).before args s' = true := vx_ot_at hW0 hvm.symm (hgood _ (List.mem_cons_of_mem _ List.mem_cons_self)) hini
  have hU' : vx_Zq Bundle.tN "UNASSIGNED_STACK" Bundle.steD A s' s'.heap := by rw [hhp]; exact vx_Zq.moved hW0.alike (hU.kept hS.2.1)
  have hN' : vx_Zq Bundle.tN "SUPPRESSED_SENTINEL" Bundle.listD A s' s'.heap := by rw [hhp]; exact vx_Zq.moved hW0.alike (hN.kept hS.2.1)
  have h : ∀ w ∈ Bundle.ownAtoms own ic cls names, w.before args s' = true := vx_own hat' (vx_isRefq hU'.1) (vx_isRefq hN'.1) hU'.2.word hN'.2.word
  have hown' : s'.vm.findClass own = some m.cls := by rw [hvm]; exact hown
  have hins : (Cond.instantiable cls 6).before args s' = true := h _ (by simp [Bundle.ownAtoms])
  obtain ⟨vm₁, cX, kX, hfX, hkX, -, -, X₁, st1⟩ := Y.newCold hexec (own := own) (C := cls) (index := ik) (n := 6) hown' hk' hins hini'
    (g := F0 m pc ls rest) rfl (by rw [hb]; exact d0) (Nat.le_refl _) (Nat.le_refl _)
  generalize hT1 : (T.setVm vm₁).pushCell { cls := cX, slots := kX.instanceTypes.map defaultValue, vm := .none } = T1 at X₁ st1
  have hcat : (Value.ref T.heap.size).category = 1 := rfl
  have hcellA : T1.heap[T.heap.size]? = some (freshCell cX kX) := by rw [← hT1]; exact State.heap_pushCell_size _ _
  have d3' : decode c.code (pc + 3) = .ok (.dup, 1) := by rw [hb]; exact d3
  have d4' : decode c.code (pc + 4) = .ok (.ldc_w is, 3) := by rw [hb]; exact d4
  have hstr' : vk_R own is text sa s' := vk_R.warm hW0 hstr
  obtain ⟨U, hsteps, hrun, hend, hW, hsame, ce, hce, hO⟩ := X₁.ctorThrowS hexec htr (own := own) (cls := cls) (names := names) (ic := ic) hown' hcls hnames h (fun x hx => nomatch hx) hfX hkX hcellA (by rw [hhp, hT]; exact Nat.le_refl _) (msg := .ref sa) rfl
    (g := { method := m, pc := pc + 7, locals := ls, stack := .ref sa :: .ref T.heap.size :: .ref T.heap.size :: rest, locked := none }) rfl hsize rfl rfl (rest := rest) rfl
    (by rw [hb]; exact d7) (by rw [hb]; exact d10) hout hRframes (by simp only [List.map_cons, List.sum_cons, hcat]; omega) hlocks
  obtain ⟨f1, f2⟩ := vx_frame hsame
  rw [hhp] at f1 f2
  have hWs : s.WarmedH U.vm := State.WarmedH.trans hW0 hW
  have hcl : s.vm.findClass cls = some ce.cls := by
    have h9 := hO.cls
    rw [hvm] at h9
    exact h9
  have hall : s.sameButNew ({ U with vm := s.vm } : State) locs mc ms := by
    subst hA
    obtain ⟨e1, e2⟩ := hsame
    rw [State.setFrames_setFrames] at e1
    have h2 : (T.setVm s.vm).sameButNew ({ U with vm := s.vm } : State) [] (0 + 1) (0 + 6) := ⟨e1, e2⟩
    have h3 := X.same.trans h2
    rw [List.append_nil] at h3
    exact h3.mono hc hs
  refine ⟨U, ?_, .threw T.heap.size, hrun, hend, Or.inr ⟨T.heap.size, rfl, cls, ce, locs, hx U hWs.alike f1 (fun q hq => f2 q hq (fun z hz => nomatch hz)), hce, hO.vm, hcl, hWs, hall, hf⟩⟩
  refine st1 _ ?_
  show Steps p.tables e below (T1.setTop { method := m, pc := pc + 3, locals := ls, stack := .ref T.heap.size :: rest, locked := none }) _
  jvm_step X₁.here [X₁.here.top, hexec, d3', Value.category]
  exact X₁.ldcStringW hexec (own := own) (text := text) (index := is) (a := sa) hown' hstr'.1 hstr'.2
    (g := { method := m, pc := pc + 4, locals := ls, stack := .ref T.heap.size :: .ref T.heap.size :: rest, locked := none }) rfl d4' _ hsteps
end Ends
section Bodies
variable {l : Launch}
theorem vx_ofW {y : MethodName} {ws ws' : List Cond} {rm : Room} {Pc : Array Value → State → Prop} {Qc : Array Value → State → Outcome → State → Prop} {XC : String → State → State → Prop} {mc ms : Nat} {free : Addr → Prop} {cc : ByteArray} {maxL : Nat} {ret : Option FieldType}
    (hy : plainName y.cls = true) (hw : ws = Cond.code y cc maxL ret :: ws')
    (body : ∀ p e s m args below meth c s₁, BodyLoose p l y (headSpec ws rm) cc maxL ret e s m args below meth c s₁ → c.maxLocals = maxL → (∀ x ∈ c.exceptionTable.toList, False) → Pc args s →
      W p l e (headSpec ws rm).room s m args below meth c s.heap [] 0 0 (vx_MQ below Qc XC args s mc ms free) (entryFrame m args maxL)) : vx_Met l y ws rm Pc Qc XC mc ms free := by
  refine MetFree.of_bodyS (code := cc) (maxLocals := maxL) (ret := ret) hy ?_ ?_
  · intro args s m h hn
    obtain ⟨meth, c, h1, h2, h3, h4, h5, h6, -, -⟩ := Cond.code_spec hn (atoms_spec (ws := ws) h _ (by rw [hw]; exact List.mem_cons_self))
    exact ⟨meth, c, h1, h2, h3, h4, h5, h6⟩
  · intro p e s m args below meth c s₁ B hml hP _
    have hh0 : s₁.heap = s.heap := by rw [B.state]; rfl
    have ht : ∀ x ∈ c.exceptionTable.toList, False := by
      obtain ⟨meth9, c9, h1, h2, -, -, -, -, h7, -⟩ := Cond.code_spec B.named (atoms_spec (ws := ws) B.pre _ (by rw [hw]; exact List.mem_cons_self))
      cases Option.some.inj (h1.symm.trans B.method)
      cases Option.some.inj (h2.symm.trans (Stand.of_body B).code)
      intro x hx
      rw [Array.isEmpty_iff.mp h7] at hx
      cases hx
    obtain ⟨t, a1, o, b1, b2, b3⟩ := body p e s m args below meth c s₁ B hml ht hP s₁ hh0 (Stand.of_body B)
    exact ⟨t, o, a1, b1, b2, b3⟩
/-- the table of a body with handlers -/
theorem vx_table {p : Program} {x y : MethodName} {S : Spec} {cc bytes : ByteArray} {maxL maxL' : Nat} {ret ret' : Option FieldType} {e : Env} {s s₁ : State} {m : MethodId} {args : Array Value} {below : List Frame} {meth : Method} {c : Code} {hh : List (Nat × Nat × Nat × Nat)}
    (B : BodyLoose p l y S cc maxL ret e s m args below meth c s₁) (h : (Cond.codeWith y bytes maxL' ret' hh).before args s = true) : c.exceptionTable.toList = tableOf hh := by
  obtain ⟨m9, meth9, c9, hn9, h1, h2, -, -, h6, -⟩ := Cond.codeWith_spec h
  cases Option.some.inj (hn9.symm.trans B.named)
  cases Option.some.inj (h1.symm.trans B.method)
  cases Option.some.inj (h2.symm.trans (Stand.of_body B).code)
  rw [← h6, table_eq]
end Bodies
end VXA
/-! ===== END ===== -/
/-! ===== BEGIN a static call of a method with an exception table ===== -/
section VXS
variable {p : Program} {l : Launch} {e : Env} {R : Room} {s : State} {m : MethodId} {args : Array Value} {below : List Frame} {meth : Method} {c : Code} {T : State} {H : Heap} {locs : List Loc} {cells slots : Nat}
abbrev vx_CSW (R : Room) (s : State) (args : Array Value) (own : String) (index : Nat) (y : MethodName) (bytes : ByteArray) (maxL : Nat) (ret : Option FieldType) (hh : List (Nat × Nat × Nat × Nat)) (ws : List Cond) (rm : Room) (mc ms n : Nat) : Prop :=
  (rm.cells = mc ∧ rm.slots = ms ∧ rm.frames + 1 ≤ R.frames ∧ 8 + (maxL + 11) + rm.locals ≤ R.locals ∧ (∀ w ∈ ws, ∀ (a' : Array Value) (U : State), s.WarmedH U.vm → w.before a' U = true) ∧ Cond.codeWith y bytes maxL ret hh ∈ ws) ∧
  (Cond.codeWith y bytes maxL ret hh).before args s = true ∧ (Cond.initialized y.cls).before args s = true ∧ (y.cls ≠ "java/lang/invoke/MethodHandle" ∧ y.cls ≠ "java/lang/invoke/VarHandle") ∧
  (∀ sig, parseMethodDescriptor y.desc = some sig → n = sig.parameters.length) ∧ (Cond.methodLink own index y).before args s = true ∧ (Cond.static y).before args s = true
theorem vx_cwSW {own : String} {index maxL mc ms : Nat} {y : MethodName} {bytes : ByteArray} {ret : Option FieldType} {hh : List (Nat × Nat × Nat × Nat)} {Ts ws ws' : List Cond} {rm : Room} (n : Nat) (ht : ∀ w ∈ Ts, w.before args s = true) (hT : GoodIn Ts (va_wsS own index y ws)) (hw : ws = Cond.codeWith y bytes maxL ret hh :: ws') (hrc : rm.cells = mc) (hrs : rm.slots = ms)
    (hd : y.cls ≠ "java/lang/invoke/MethodHandle" ∧ y.cls ≠ "java/lang/invoke/VarHandle" ∧ (parseMethodDescriptor y.desc).map (fun d => d.parameters.length) = some n) (hR : rm.frames + 1 ≤ R.frames ∧ 8 + (maxL + 11) + rm.locals ≤ R.locals) :
    vx_CSW R s args own index y bytes maxL ret hh ws rm mc ms n := by
  have ok : ∀ w ∈ va_wsS own index y ws, w.before args s = true := fun w h => ht w (hT w h).1
  have hG : GoodIn Ts ws := fun w h => hT w (by unfold va_wsS; exact List.mem_append_right _ h)
  have hc : Cond.codeWith y bytes maxL ret hh ∈ ws := by rw [hw]; exact List.mem_cons_self
  refine ⟨⟨hrc, hrs, hR.1, hR.2, pay_in ht hG, hc⟩, ht _ (hG _ hc).1, ok _ (by simp [va_wsS]), ⟨hd.1, hd.2.1⟩, fun sig h => ?_, ok _ (by simp [va_wsS]), ok _ (by simp [va_wsS])⟩
  have h2 := hd.2.2
  rw [h] at h2
  exact (Option.some.inj h2).symm
theorem vx_callSW (X : Stand p l e R s m args below meth c T locs cells slots) (hexec : p.tables.exec = Jvm.exec) {own : String} {index : Nat} {y : MethodName} {bytes : ByteArray} {maxL : Nat} {ret : Option FieldType} {hh : List (Nat × Nat × Nat × Nat)}
    (hown : s.vm.findClass own = some m.cls) (hlink : (Cond.methodLink own index y).before args s = true) (hstat : (Cond.static y).before args s = true) (hinit : (Cond.initialized y.cls).before args s = true)
    (hcode : (Cond.codeWith y bytes maxL ret hh).before args s = true) (hy : y.cls ≠ "java/lang/invoke/MethodHandle" ∧ y.cls ≠ "java/lang/invoke/VarHandle")
    {W9 : Nat} {Pre : Pt → Array Value → Prop} {Post : Pt → Array Value → Option Value → Pt → Prop} (hK : Back l R p e below s args y 3 W9 Pre Post)
    {g : JFrame} (hg : g.method = m) (hsize : g.locals.size = c.maxLocals) {argsL rest : List Value} (hlen : ∀ sig, parseMethodDescriptor y.desc = some sig → argsL.length = sig.parameters.length)
    (hstack : g.stack = argsL.reverse ++ rest) (hW : 2 * g.monitorRoom + (rest.map fun v => v.category).sum ≤ W9) (hdg : decode c.code g.pc = .ok (.invokestatic index, 3))
    (hpre : ∀ vm₁, s.WarmedH vm₁ → Pre ⟨T.setVm vm₁, locs, cells, slots⟩ argsL.toArray) :
    ∃ (v : Option Value) (vm₁ : Vm) (B : Pt), s.WarmedH vm₁ ∧ Stand p l e R s m args below meth c B.U B.locs B.cells B.slots ∧ Post ⟨T.setVm vm₁, locs, cells, slots⟩ argsL.toArray v B ∧
      ∀ target, Steps p.tables e below (B.U.setTop { g with pc := g.pc + 3, stack := v.toList ++ rest }) target → Steps p.tables e below (T.setTop g) target := by
  obtain ⟨mk, methM, cM, hnamed, hmethM, -, -, -, -, -, -, hsigM⟩ := Cond.codeWith_spec hcode
  have hstatic : methM.isStatic = true := Cond.static_spec hnamed hmethM hstat
  obtain ⟨kP, hkP, -⟩ := className_of_methodNamed hnamed
  have hinitP : kP.init = .initialized := Cond.initialized_spec (findClass_of_methodNamed hnamed) hkP hinit
  obtain ⟨vm₁, X₁, hstep₁⟩ := X.invokestatic hexec hown hlink hnamed hmethM hstatic hkP hinitP hy (g := g) hg (argsL := argsL) (rest := rest) (hlen _ hsigM) hstack hdg
  obtain ⟨v, B, X', hpost, hsteps⟩ := hK m meth c ⟨T.setVm vm₁, locs, cells, slots⟩ { g with stack := rest } (.invokestatic index) mk argsL.toArray X₁ hg hsize hdg hW (X₁.named hnamed) (hpre vm₁ X₁.warmed)
  exact ⟨v, vm₁, B, X₁.warmed, X', hpost, fun target h => hstep₁ _ fun acts => by rw [doInvoke_state]; exact hsteps.trans h⟩
theorem vx_runSW {y : MethodName} {bytes cc : ByteArray} {maxL nL mc ms n index : Nat} {ret : Option FieldType} {hh : List (Nat × Nat × Nat × Nat)} {ws : List Cond} {rm : Room} {Pc : Array Value → State → Prop} {Qc : Array Value → State → Outcome → State → Prop} {free : Addr → Prop} {Ts : List Cond} {own : String} {As rest : List Value} {g : JFrame}
    (S : CallFix p m c cc nL s args Ts own) (hM : Met l y ws rm Pc Qc mc ms free) (cw : vx_CSW R s args own index y bytes maxL ret hh ws rm mc ms n) (hp : PreS s H Pc As)
    (hg : g.method = m) (hn : As.length = n) (hsize : g.locals.size = nL) (hstack : g.stack = As.reverse ++ rest) (hW : 2 * g.monitorRoom + (rest.map fun v => v.category).sum ≤ 8) (hdg : decode cc g.pc = .ok (.invokestatic index, 3)) (hf : cells + mc ≤ R.cells ∧ slots + ms ≤ R.slots) :
    va_Run p l e R s m args below meth c H locs cells slots mc ms g rest (Qc As.toArray) (free) := by
  obtain ⟨⟨hrc, hrs, hfr, hlo, hws, hcw⟩, hcode, hini, hy, hlen, hl, hstt⟩ := cw
  have hK : Back l R p e below s args y 3 8 (PreOf R mc ms Pc) (PostOf Qc mc ms free) := va_backW (hh := hh) (bytes := bytes) (maxL := maxL) (ret := ret) hM hp.1 hrc hrs hfr hlo hws hcw (fun a' U hW => word_at hW (Or.inl (by first | rfl | simp [Cond.onTables, Cond.keeps, Cond.steady])) hini)
  obtain ⟨hx, hb, hml, ho, -⟩ := S
  intro T hT X
  obtain ⟨v, vm₁, ⟨U', l2, c2, s2⟩, hW₁, X', ⟨g', mk, t, L, e1, e2, hq, h1, hL, h2, h3⟩, st⟩ := vx_callSW X hx (hh := hh) (bytes := bytes) (maxL := maxL) (ret := ret) ho hl hstt hini hcode hy hK hg (hsize.trans hml.symm) (argsL := As) (rest := rest) (fun sig h => hn.trans (hlen sig h)) hstack hW (by rw [hb]; exact hdg)
    (fun vm₁ hW₁ => ⟨hf.1, hf.2, hp.2 (T.setVm vm₁) hT hW₁⟩)
  dsimp only [Pt.U, Pt.locs, Pt.cells, Pt.slots] at X' e1 e2 h1 h2 h3 st
  subst h1; subst h2; subst h3
  exact ⟨v, (T.setVm vm₁).calling g' mk As.toArray, t, U', L, hT, X', hL, e1, e2, hq, st⟩
/-- a thing of a world lies in the heap -/
theorem vx_lt {D : va_G} {cl : List vw_C} {ws : va_W} {H1 : Heap} (h : va_P D cl ws H1) {k : Nat} {q : Nat × va_E} (hk : ws[k]? = some q) : q.1 < H1.size := (h k q hk).lt
end VXS
/-! ===== END ===== -/
/-! ===== BEGIN methods with a table of their own: called by a name, returning or throwing ===== -/
section VXH
/-! vx_backW, vx_callVX, vx_callSX, vx_callVW, vx_runVW, vx_runVX, vx_runSX, vx_ofWH follow the same proofs as their sisters above (Free/Laws.lean, Shelf42/LK1.lean); vx_outP calls Shelf42/NT130.lean (outThrough). -/
section
variable {l : Launch} {R : Room} {p : Program} {e : Env} {below : List Frame} {s : State} {sargs : Array Value} {y : MethodName} {len W9 : Nat}
theorem vx_backW {ws : List Cond} {rm : Room} {Pc : Array Value → State → Prop} {Qc : Array Value → State → Outcome → State → Prop} {XC : String → State → State → Prop} {mc ms : Nat} {free : Addr → Prop} {bytes : ByteArray} {maxL : Nat} {ret : Option FieldType} {hh : List (Nat × Nat × Nat × Nat)}
    (hM : vx_Met l y ws rm Pc Qc XC mc ms free) (hblind : FrameBlind Pc) (hrc : rm.cells = mc) (hrs : rm.slots = ms)
    (hframes : rm.frames + 1 ≤ R.frames) (hlocals : W9 + (maxL + 11) + rm.locals ≤ R.locals)
    (hws : ∀ w ∈ ws, ∀ a' U, s.WarmedH U.vm → w.before a' U = true) (hcode : Cond.codeWith y bytes maxL ret hh ∈ ws) (hinit : ∀ a' U, s.WarmedH U.vm → (Cond.initialized y.cls).before a' U = true) :
    vx_Back l R p e below s sargs y len W9 (PreOf R mc ms Pc) (PostOf Qc mc ms free) (vx_Post XC mc ms free) := by
  intro m meth c A g ig mk a X hg hsize hdg hW hn hp
  have h1 : (headSpec ws rm).pre.before a A.U = true := atoms_intro fun w hw => hws w hw _ _ X.warmed
  have h2 : (Cond.codeWith y bytes maxL ret hh).before a A.U = true := hws _ hcode _ _ X.warmed
  have h3 : (Cond.initialized y.cls).before a A.U = true := hinit _ _ X.warmed
  have h4 : A.cells + (headSpec ws rm).room.cells ≤ R.cells := by rw [show (headSpec ws rm).room.cells = mc from hrc]; exact hp.1
  have h5 : A.slots + (headSpec ws rm).room.slots ≤ R.slots := by rw [show (headSpec ws rm).room.slots = ms from hrs]; exact hp.2.1
  have hPc : Pc a (A.U.calling g mk a) := hblind _ _ _ _ hp.2.2
  obtain ⟨U, Ls, c0, s0⟩ := A
  dsimp only [Pt.U, Pt.locs, Pt.cells, Pt.slots] at h1 h2 h3 h4 h5 X hn hPc ⊢
  obtain ⟨m9, methY, cY, hn9, hmY, hcY, -, hlY, -⟩ := Cond.codeWith_spec h2
  cases Option.some.inj (hn9.symm.trans hn)
  obtain ⟨kY, hkY, -⟩ := className_of_methodNamed hn
  have hinitY : kY.init = .initialized := Cond.initialized_spec (findClass_of_methodNamed hn) hkY h3
  have h : At U g.method c below := by rw [hg]; exact X.here
  have hlocals9 : W9 + (maxL + 11) + (headSpec ws rm).room.locals ≤ R.locals := hlocals
  have happ : (headSpec ws rm).appliesLoose y e.platform (U.calling g mk a) = true :=
    Spec.appliesLoose_calling (g := g) h hdg hn hkY hinitY
      (X.room_calling (g := g) (R' := (headSpec ws rm).room) hsize hmY hcY hframes (by rw [hlY]; omega) h4 h5) h1
  obtain ⟨mid, hmid⟩ := h.above
  have hfr : (U.setTop g).frames = (.java g :: mid) ++ below := by rw [State.frames_setTop' g h.top, hmid]; rfl
  obtain ⟨o, s₂, hsteps, -, hend, hq⟩ := Steps.callFree hM p X.admits X.cas X.clock (acts := []) hfr happ hPc trivial
  have hq' : vx_Q Qc XC mc ms free a (U.calling g mk a) o s₂ := hq
  rw [State.frames_setTop' g h.top] at hend
  obtain ⟨g₀, hg0⟩ := Option.isSome_iff_exists.mp h.top
  obtain ⟨r, hr⟩ := State.topJava?_eq_some.mp hg0
  have hr' : (({ U with heap := s₂.heap, slotsUsed := s₂.slotsUsed } : State).setVm s₂.vm).frames = .java g₀ :: r := hr
  rcases hq' with ⟨hqc, L, hfe, hL⟩ | ⟨q, rfl, E, ce, L, hx, hce, hcv, hcl, hW₂, hsm, hL⟩
  · obtain ⟨⟨v, rfl⟩, hW₂, e2, q2, q3, q4, q5, q6⟩ := id hfe
    have e3 : s₂ = ({ (U.calling g mk a).setFrames s₂.frames with heap := s₂.heap, slotsUsed := s₂.slotsUsed } : State).setVm s₂.vm := by
      have : s₂ = ({ s₂ with vm := (U.calling g mk a).vm } : State).setVm s₂.vm := rfl
      rw [e2] at this
      exact this
    obtain ⟨c₂, i₂, len₂, hc₂, hd₂, hf₂⟩ := hend
    have hW' : U.WarmedH s₂.vm := hW₂
    have hcc : c₂ = c := by
      have h1 : s₂.code? g.method = U.code? g.method := by
        rw [State.code?_eq, State.code?_eq, hW'.alike.method?]
      exact Option.some.inj (hc₂.symm.trans (h1.trans h.code))
    subst hcc
    have hlen : len₂ = len := by rw [hdg] at hd₂; cases hd₂; rfl
    subst hlen
    have hs₂ : s₂ = (({ U with heap := s₂.heap, slotsUsed := s₂.slotsUsed } : State).setVm s₂.vm).setTop { g with pc := g.pc + len₂, stack := v.toList ++ g.stack } := by
      refine e3.trans ?_
      rw [hf₂, State.calling_eq h.top, State.setFrames_setFrames, State.setTop_of_frames _ hr', hr]
      rfl
    have hsame : U.sameButNew ({ U with heap := s₂.heap, slotsUsed := s₂.slotsUsed } : State) L mc ms := by
      refine ⟨?_, q2, q3, q4, q5, q6⟩
      obtain ⟨t, ht, -⟩ := State.frames_cons hr
      show ({ U with heap := s₂.heap, slotsUsed := s₂.slotsUsed } : State) = { U.setFrames U.frames with heap := s₂.heap, slotsUsed := s₂.slotsUsed }
      rw [State.setFrames_self ht]
    subst hg
    refine Or.inl ⟨v, ⟨(({ U with heap := s₂.heap, slotsUsed := s₂.slotsUsed } : State).setVm s₂.vm), Ls ++ L, c0 + mc, s0 + ms⟩,
      ⟨X.admits, X.cas, X.clock, X.frames, X.room, X.hears, X.method, X.code, (X.here.setHeapUsed s₂.heap s₂.slotsUsed).setVm hW'.alike, X.tail, State.WarmedH.trans X.warmed hW', X.limits, X.bytes, X.same.trans (hsame.setVm s.vm)⟩,
      ⟨g, mk, s₂, L, rfl, rfl, hqc, rfl, hL, rfl, rfl⟩, ?_⟩
    show Steps p.tables e below _ ((({ U with heap := s₂.heap, slotsUsed := s₂.slotsUsed } : State).setVm s₂.vm).setTop { g with pc := g.pc + len₂, stack := v.toList ++ g.stack })
    rw [← hs₂]
    exact hsteps
  · obtain ⟨e2, q2, q3, q4, q5, q6⟩ := id hsm
    have e3 : s₂ = ({ (U.calling g mk a).setFrames s₂.frames with heap := s₂.heap, slotsUsed := s₂.slotsUsed } : State).setVm s₂.vm := by
      have : s₂ = ({ s₂ with vm := (U.calling g mk a).vm } : State).setVm s₂.vm := rfl
      rw [e2] at this
      exact this
    have hf₂ : s₂.frames = .throwing q :: .java g :: U.frames.tail := hend
    have hW' : U.WarmedH s₂.vm := hW₂
    have hs₂ : s₂ = ((({ U with heap := s₂.heap, slotsUsed := s₂.slotsUsed } : State).setVm s₂.vm).setTop g).pushFrame (.throwing q) := by
      refine e3.trans ?_
      rw [hf₂, State.calling_eq h.top, State.setFrames_setFrames, State.pushFrame, State.frames_setTop _ hr', State.setTop_of_frames _ hr', State.setFrames_setFrames, hr]
      rfl
    have hsame : U.sameButNew ({ U with heap := s₂.heap, slotsUsed := s₂.slotsUsed } : State) L mc ms := by
      refine ⟨?_, q2, q3, q4, q5, q6⟩
      obtain ⟨t, ht, -⟩ := State.frames_cons hr
      show ({ U with heap := s₂.heap, slotsUsed := s₂.slotsUsed } : State) = { U.setFrames U.frames with heap := s₂.heap, slotsUsed := s₂.slotsUsed }
      rw [State.setFrames_self ht]
    subst hg
    refine Or.inr ⟨q, ⟨(({ U with heap := s₂.heap, slotsUsed := s₂.slotsUsed } : State).setVm s₂.vm), Ls ++ L, c0 + mc, s0 + ms⟩,
      ⟨X.admits, X.cas, X.clock, X.frames, X.room, X.hears, X.method, X.code, (X.here.setHeapUsed s₂.heap s₂.slotsUsed).setVm hW'.alike, X.tail, State.WarmedH.trans X.warmed hW', X.limits, X.bytes, X.same.trans (hsame.setVm s.vm)⟩,
      ⟨g, mk, s₂, L, E, ce, rfl, rfl, hx, hce, hcv, hcl, rfl, hL, rfl, rfl⟩, ?_⟩
    show Steps p.tables e below _ (((({ U with heap := s₂.heap, slotsUsed := s₂.slotsUsed } : State).setVm s₂.vm).setTop g).pushFrame (.throwing q))
    rw [← hs₂]
    exact hsteps
end
variable {p : Program} {l : Launch} {e : Env} {R : Room} {s : State} {m : MethodId} {args : Array Value} {below : List Frame} {meth : Method} {c : Code} {T : State} {H : Heap} {locs : List Loc} {cells slots : Nat}
theorem vx_callVX (X : Stand p l e R s m args below meth c T locs cells slots) (hexec : p.tables.exec = Jvm.exec) {own C : String} {index : Nat} {y : MethodName} {bytes : ByteArray} {maxL : Nat} {ret : Option FieldType} {hh : List (Nat × Nat × Nat × Nat)}
    (hown : s.vm.findClass own = some m.cls) (hlink : (Cond.methodLink own index y).before args s = true) (hinst : (Cond.instanceMethod y).before args s = true) (hsel : (Cond.selects C y y).before args s = true)
    (hcode : (Cond.codeWith y bytes maxL ret hh).before args s = true) (hy : y.cls ≠ "java/lang/invoke/MethodHandle" ∧ y.cls ≠ "java/lang/invoke/VarHandle")
    {W9 : Nat} {Pre : Pt → Array Value → Prop} {Post : Pt → Array Value → Option Value → Pt → Prop} {PostX : Pt → Array Value → Addr → Pt → Prop} (hK : vx_Back l R p e below s args y 3 W9 Pre Post PostX)
    {b : Addr} {cellB : Cell} (hcell : T.heap[b]? = some cellB) (hobj : cellB.vm.isStatics = false) (hcls : s.vm.findClass C = some cellB.cls)
    {g : JFrame} (hg : g.method = m) (hsize : g.locals.size = c.maxLocals) {argsL rest : List Value} (hlen : ∀ sig, parseMethodDescriptor y.desc = some sig → argsL.length = sig.parameters.length)
    (hstack : g.stack = argsL.reverse ++ .ref b :: rest) (hW : 2 * g.monitorRoom + (rest.map fun v => v.category).sum ≤ W9) (hdg : decode c.code g.pc = .ok (.invokevirtual index, 3))
    (hpre : ∀ vm₁, s.WarmedH vm₁ → Pre ⟨T.setVm vm₁, locs, cells, slots⟩ (Value.ref b :: argsL).toArray) :
    (∃ (v : Option Value) (vm₁ : Vm) (B : Pt), s.WarmedH vm₁ ∧ Stand p l e R s m args below meth c B.U B.locs B.cells B.slots ∧ Post ⟨T.setVm vm₁, locs, cells, slots⟩ (Value.ref b :: argsL).toArray v B ∧
      ∀ target, Steps p.tables e below (B.U.setTop { g with pc := g.pc + 3, stack := v.toList ++ rest }) target → Steps p.tables e below (T.setTop g) target) ∨
    (∃ (q : Addr) (vm₁ : Vm) (B : Pt), s.WarmedH vm₁ ∧ Stand p l e R s m args below meth c B.U B.locs B.cells B.slots ∧ PostX ⟨T.setVm vm₁, locs, cells, slots⟩ (Value.ref b :: argsL).toArray q B ∧
      Steps p.tables e below (T.setTop g) ((B.U.setTop { g with stack := rest }).pushFrame (.throwing q))) := by
  obtain ⟨mk, methM, hnamed, hmethM, hstM, habM⟩ := Cond.instanceMethod_spec hinst
  obtain ⟨m8, methM', cM, hn8, hmethM', -, -, -, -, -, -, hsigM⟩ := Cond.codeWith_spec hcode
  cases Option.some.inj (hn8.symm.trans hnamed)
  cases hmethM.symm.trans hmethM'
  obtain ⟨c2, r2, m2, q1, q2, q3, q4, kP, hkP, hkPi⟩ := Cond.selects_spec hsel
  cases hcls.symm.trans q1
  cases (State.methodFound?_of_named hnamed hy).symm.trans q2
  cases hnamed.symm.trans q3
  have hselP : selectMethod e.platform s.vm cellB.cls mk = .method mk := by rw [Launch.admits_selectMethod X.admits]; exact q4
  obtain ⟨vm₁, X₁, hstep₁⟩ := X.invokevirtual hexec hown hlink hnamed hmethM hstM hkP hkPi hy (a := b) (cell := cellB) hcell
    (fun z h => by rw [h] at hobj; cases hobj) hselP hmethM habM hkP hkPi (g := g) hg (argsL := argsL) (rest := rest) (hlen _ hsigM) hstack hdg
  rcases hK m meth c ⟨T.setVm vm₁, locs, cells, slots⟩ { g with stack := rest } (.invokevirtual index) mk (Value.ref b :: argsL).toArray X₁ hg hsize hdg hW (X₁.named hnamed) (hpre vm₁ X₁.warmed) with ⟨v, B, X', hpost, hsteps⟩ | ⟨q, B, X', hpost, hsteps⟩
  · exact Or.inl ⟨v, vm₁, B, X₁.warmed, X', hpost, fun target h => hstep₁ _ fun acts => by rw [doInvoke_state]; exact hsteps.trans h⟩
  · exact Or.inr ⟨q, vm₁, B, X₁.warmed, X', hpost, hstep₁ _ fun acts => by rw [doInvoke_state]; exact hsteps⟩
theorem vx_callSX (X : Stand p l e R s m args below meth c T locs cells slots) (hexec : p.tables.exec = Jvm.exec) {own : String} {index : Nat} {y : MethodName} {bytes : ByteArray} {maxL : Nat} {ret : Option FieldType} {hh : List (Nat × Nat × Nat × Nat)}
    (hown : s.vm.findClass own = some m.cls) (hlink : (Cond.methodLink own index y).before args s = true) (hstat : (Cond.static y).before args s = true) (hinit : (Cond.initialized y.cls).before args s = true)
    (hcode : (Cond.codeWith y bytes maxL ret hh).before args s = true) (hy : y.cls ≠ "java/lang/invoke/MethodHandle" ∧ y.cls ≠ "java/lang/invoke/VarHandle")
    {W9 : Nat} {Pre : Pt → Array Value → Prop} {Post : Pt → Array Value → Option Value → Pt → Prop} {PostX : Pt → Array Value → Addr → Pt → Prop} (hK : vx_Back l R p e below s args y 3 W9 Pre Post PostX)
    {g : JFrame} (hg : g.method = m) (hsize : g.locals.size = c.maxLocals) {argsL rest : List Value} (hlen : ∀ sig, parseMethodDescriptor y.desc = some sig → argsL.length = sig.parameters.length)
    (hstack : g.stack = argsL.reverse ++ rest) (hW : 2 * g.monitorRoom + (rest.map fun v => v.category).sum ≤ W9) (hdg : decode c.code g.pc = .ok (.invokestatic index, 3))
    (hpre : ∀ vm₁, s.WarmedH vm₁ → Pre ⟨T.setVm vm₁, locs, cells, slots⟩ argsL.toArray) :
    (∃ (v : Option Value) (vm₁ : Vm) (B : Pt), s.WarmedH vm₁ ∧ Stand p l e R s m args below meth c B.U B.locs B.cells B.slots ∧ Post ⟨T.setVm vm₁, locs, cells, slots⟩ argsL.toArray v B ∧
      ∀ target, Steps p.tables e below (B.U.setTop { g with pc := g.pc + 3, stack := v.toList ++ rest }) target → Steps p.tables e below (T.setTop g) target) ∨
    (∃ (q : Addr) (vm₁ : Vm) (B : Pt), s.WarmedH vm₁ ∧ Stand p l e R s m args below meth c B.U B.locs B.cells B.slots ∧ PostX ⟨T.setVm vm₁, locs, cells, slots⟩ argsL.toArray q B ∧
      Steps p.tables e below (T.setTop g) ((B.U.setTop { g with stack := rest }).pushFrame (.throwing q))) := by
  obtain ⟨mk, methM, cM, hnamed, hmethM, -, -, -, -, -, -, hsigM⟩ := Cond.codeWith_spec hcode
  have hstatic : methM.isStatic = true := Cond.static_spec hnamed hmethM hstat
  obtain ⟨kP, hkP, -⟩ := className_of_methodNamed hnamed
  have hinitP : kP.init = .initialized := Cond.initialized_spec (findClass_of_methodNamed hnamed) hkP hinit
  obtain ⟨vm₁, X₁, hstep₁⟩ := X.invokestatic hexec hown hlink hnamed hmethM hstatic hkP hinitP hy (g := g) hg (argsL := argsL) (rest := rest) (hlen _ hsigM) hstack hdg
  rcases hK m meth c ⟨T.setVm vm₁, locs, cells, slots⟩ { g with stack := rest } (.invokestatic index) mk argsL.toArray X₁ hg hsize hdg hW (X₁.named hnamed) (hpre vm₁ X₁.warmed) with ⟨v, B, X', hpost, hsteps⟩ | ⟨q, B, X', hpost, hsteps⟩
  · exact Or.inl ⟨v, vm₁, B, X₁.warmed, X', hpost, fun target h => hstep₁ _ fun acts => by rw [doInvoke_state]; exact hsteps.trans h⟩
  · exact Or.inr ⟨q, vm₁, B, X₁.warmed, X', hpost, hstep₁ _ fun acts => by rw [doInvoke_state]; exact hsteps⟩
theorem vx_callVW (X : Stand p l e R s m args below meth c T locs cells slots) (hexec : p.tables.exec = Jvm.exec) {own C : String} {index : Nat} {y : MethodName} {bytes : ByteArray} {maxL : Nat} {ret : Option FieldType} {hh : List (Nat × Nat × Nat × Nat)}
    (hown : s.vm.findClass own = some m.cls) (hlink : (Cond.methodLink own index y).before args s = true) (hinst : (Cond.instanceMethod y).before args s = true) (hsel : (Cond.selects C y y).before args s = true)
    (hcode : (Cond.codeWith y bytes maxL ret hh).before args s = true) (hy : y.cls ≠ "java/lang/invoke/MethodHandle" ∧ y.cls ≠ "java/lang/invoke/VarHandle")
    {W9 : Nat} {Pre : Pt → Array Value → Prop} {Post : Pt → Array Value → Option Value → Pt → Prop} (hK : Back l R p e below s args y 3 W9 Pre Post)
    {b : Addr} {cellB : Cell} (hcell : T.heap[b]? = some cellB) (hobj : cellB.vm.isStatics = false) (hcls : s.vm.findClass C = some cellB.cls)
    {g : JFrame} (hg : g.method = m) (hsize : g.locals.size = c.maxLocals) {argsL rest : List Value} (hlen : ∀ sig, parseMethodDescriptor y.desc = some sig → argsL.length = sig.parameters.length)
    (hstack : g.stack = argsL.reverse ++ .ref b :: rest) (hW : 2 * g.monitorRoom + (rest.map fun v => v.category).sum ≤ W9) (hdg : decode c.code g.pc = .ok (.invokevirtual index, 3))
    (hpre : ∀ vm₁, s.WarmedH vm₁ → Pre ⟨T.setVm vm₁, locs, cells, slots⟩ (Value.ref b :: argsL).toArray) :
    ∃ (v : Option Value) (vm₁ : Vm) (B : Pt), s.WarmedH vm₁ ∧ Stand p l e R s m args below meth c B.U B.locs B.cells B.slots ∧ Post ⟨T.setVm vm₁, locs, cells, slots⟩ (Value.ref b :: argsL).toArray v B ∧
      ∀ target, Steps p.tables e below (B.U.setTop { g with pc := g.pc + 3, stack := v.toList ++ rest }) target → Steps p.tables e below (T.setTop g) target := by
  obtain ⟨mk, methM, hnamed, hmethM, hstM, habM⟩ := Cond.instanceMethod_spec hinst
  obtain ⟨m8, methM', cM, hn8, hmethM', -, -, -, -, -, -, hsigM⟩ := Cond.codeWith_spec hcode
  cases Option.some.inj (hn8.symm.trans hnamed)
  cases hmethM.symm.trans hmethM'
  obtain ⟨c2, r2, m2, q1, q2, q3, q4, kP, hkP, hkPi⟩ := Cond.selects_spec hsel
  cases hcls.symm.trans q1
  cases (State.methodFound?_of_named hnamed hy).symm.trans q2
  cases hnamed.symm.trans q3
  have hselP : selectMethod e.platform s.vm cellB.cls mk = .method mk := by rw [Launch.admits_selectMethod X.admits]; exact q4
  obtain ⟨vm₁, X₁, hstep₁⟩ := X.invokevirtual hexec hown hlink hnamed hmethM hstM hkP hkPi hy (a := b) (cell := cellB) hcell
    (fun z h => by rw [h] at hobj; cases hobj) hselP hmethM habM hkP hkPi (g := g) hg (argsL := argsL) (rest := rest) (hlen _ hsigM) hstack hdg
  obtain ⟨v, B, X', hpost, hsteps⟩ := hK m meth c ⟨T.setVm vm₁, locs, cells, slots⟩ { g with stack := rest } (.invokevirtual index) mk (Value.ref b :: argsL).toArray X₁ hg hsize hdg hW (X₁.named hnamed) (hpre vm₁ X₁.warmed)
  exact ⟨v, vm₁, B, X₁.warmed, X', hpost, fun target h => hstep₁ _ fun acts => by rw [doInvoke_state]; exact hsteps.trans h⟩
abbrev vx_CVW (R : Room) (s : State) (args : Array Value) (own C : String) (index : Nat) (y : MethodName) (bytes : ByteArray) (maxL : Nat) (ret : Option FieldType) (hh : List (Nat × Nat × Nat × Nat)) (ws : List Cond) (rm : Room) (mc ms n : Nat) : Prop :=
  (rm.cells = mc ∧ rm.slots = ms ∧ rm.frames + 1 ≤ R.frames ∧ 8 + (maxL + 11) + rm.locals ≤ R.locals ∧ (∀ w ∈ ws, ∀ (a' : Array Value) (U : State), s.WarmedH U.vm → w.before a' U = true) ∧ Cond.codeWith y bytes maxL ret hh ∈ ws) ∧
  (Cond.codeWith y bytes maxL ret hh).before args s = true ∧ (Cond.initialized y.cls).before args s = true ∧ (y.cls ≠ "java/lang/invoke/MethodHandle" ∧ y.cls ≠ "java/lang/invoke/VarHandle") ∧
  (∀ sig, parseMethodDescriptor y.desc = some sig → n = sig.parameters.length) ∧ (Cond.methodLink own index y).before args s = true ∧ (Cond.instanceMethod y).before args s = true ∧ (Cond.selects C y y).before args s = true
theorem vx_cwVW {own C : String} {index maxL mc ms : Nat} {y : MethodName} {bytes : ByteArray} {ret : Option FieldType} {hh : List (Nat × Nat × Nat × Nat)} {Ts ws ws' : List Cond} {rm : Room} (n : Nat) (ht : ∀ w ∈ Ts, w.before args s = true) (hT : GoodIn Ts (wsV own index C y ws)) (hw : ws = Cond.codeWith y bytes maxL ret hh :: ws') (hrc : rm.cells = mc) (hrs : rm.slots = ms)
    (hd : y.cls = C ∧ y.cls ≠ "java/lang/invoke/MethodHandle" ∧ y.cls ≠ "java/lang/invoke/VarHandle" ∧ (parseMethodDescriptor y.desc).map (fun d => d.parameters.length) = some n) (hR : rm.frames + 1 ≤ R.frames ∧ 8 + (maxL + 11) + rm.locals ≤ R.locals) :
    vx_CVW R s args own C index y bytes maxL ret hh ws rm mc ms n := by
  obtain ⟨hC, hd⟩ := hd
  subst hC
  have ok : ∀ w ∈ wsV own index y.cls y ws, w.before args s = true := fun w h => ht w (hT w h).1
  have hG : GoodIn Ts ws := fun w h => hT w (by unfold wsV; exact List.mem_append_right _ h)
  have hc : Cond.codeWith y bytes maxL ret hh ∈ ws := by rw [hw]; exact List.mem_cons_self
  refine ⟨⟨hrc, hrs, hR.1, hR.2, pay_in ht hG, hc⟩, ht _ (hG _ hc).1, ok _ (by simp [wsV]), ⟨hd.1, hd.2.1⟩, fun sig h => ?_, ok _ (by simp [wsV]), ok _ (by simp [wsV]), ok _ (by simp [wsV])⟩
  have h2 := hd.2.2
  rw [h] at h2
  exact (Option.some.inj h2).symm
theorem vx_runVW {y : MethodName} {bytes cc : ByteArray} {maxL nL mc ms n index : Nat} {ret : Option FieldType} {hh : List (Nat × Nat × Nat × Nat)} {ws : List Cond} {rm : Room} {Pc : Array Value → State → Prop} {Qc : Array Value → State → Outcome → State → Prop} {free : Addr → Prop} {Ts : List Cond} {own C : String} {b : Addr} {As rest : List Value} {g : JFrame}
    (S : CallFix p m c cc nL s args Ts own) (hM : Met l y ws rm Pc Qc mc ms free) (cw : vx_CVW R s args own C index y bytes maxL ret hh ws rm mc ms n) (hp : PreV s H C b Pc As)
    (hg : g.method = m) (hn : As.length = n) (hsize : g.locals.size = nL) (hstack : g.stack = As.reverse ++ .ref b :: rest) (hW : 2 * g.monitorRoom + (rest.map fun v => v.category).sum ≤ 8) (hdg : decode cc g.pc = .ok (.invokevirtual index, 3)) (hf : cells + mc ≤ R.cells ∧ slots + ms ≤ R.slots) :
    va_Run p l e R s m args below meth c H locs cells slots mc ms g rest (Qc (Value.ref b :: As).toArray) free := by
  obtain ⟨⟨hrc, hrs, hfr, hlo, hws, hcw⟩, hcode, hini, hy, hlen, hl, hin, hse⟩ := cw
  have hK : Back l R p e below s args y 3 8 (PreOf R mc ms Pc) (PostOf Qc mc ms free) := va_backW (hh := hh) (bytes := bytes) (maxL := maxL) (ret := ret) hM hp.1 hrc hrs hfr hlo hws hcw (fun a' U hW => word_at hW (Or.inl (by first | rfl | simp [Cond.onTables, Cond.keeps, Cond.steady])) hini)
  obtain ⟨hx, hb, hml, ho, -⟩ := S
  obtain ⟨-, ⟨cellB, hcB, hoB, hclB⟩, hPc⟩ := hp
  intro T hT X
  obtain ⟨v, vm₁, ⟨U', l2, c2, s2⟩, hW₁, X', ⟨g', mk, t, L, e1, e2, hq, h1, hL, h2, h3⟩, st⟩ := vx_callVW X hx (C := C) (hh := hh) (bytes := bytes) (maxL := maxL) (ret := ret) ho hl hin hse hcode hy hK (by rw [hT]; exact hcB) hoB hclB hg (hsize.trans hml.symm) (argsL := As) (rest := rest) (fun sig h => hn.trans (hlen sig h)) hstack hW (by rw [hb]; exact hdg)
    (fun vm₁ hW₁ => ⟨hf.1, hf.2, hPc (T.setVm vm₁) hT hW₁⟩)
  dsimp only [Pt.U, Pt.locs, Pt.cells, Pt.slots] at X' e1 e2 h1 h2 h3 st
  subst h1; subst h2; subst h3
  exact ⟨v, (T.setVm vm₁).calling g' mk (Value.ref b :: As).toArray, t, U', L, hT, X', hL, e1, e2, hq, st⟩
section
variable {y : MethodName} {bytes cc : ByteArray} {maxL nL mc ms n index : Nat} {ret : Option FieldType} {ws : List Cond} {rm : Room} {Pc : Array Value → State → Prop} {Qc : Array Value → State → Outcome → State → Prop} {XC : String → State → State → Prop} {free : Addr → Prop} {Ts : List Cond} {own C : String} {b : Addr} {As rest : List Value} {g : JFrame}
theorem vx_runVX {hh : List (Nat × Nat × Nat × Nat)} (S : CallFix p m c cc nL s args Ts own) (hM : vx_Met l y ws rm Pc Qc XC mc ms free) (cw : vx_CVW R s args own C index y bytes maxL ret hh ws rm mc ms n) (hp : PreV s H C b Pc As)
    (hg : g.method = m) (hn : As.length = n) (hsize : g.locals.size = nL) (hstack : g.stack = As.reverse ++ .ref b :: rest) (hW : 2 * g.monitorRoom + (rest.map fun v => v.category).sum ≤ 8) (hdg : decode cc g.pc = .ok (.invokevirtual index, 3)) (hf : cells + mc ≤ R.cells ∧ slots + ms ≤ R.slots) :
    vx_Run p l e R s m args below meth c H locs cells slots mc ms g rest (Qc (Value.ref b :: As).toArray) XC free := by
  obtain ⟨⟨hrc, hrs, hfr, hlo, hws, hcw⟩, hcode, hini, hy, hlen, hl, hin, hse⟩ := cw
  have hK : vx_Back l R p e below s args y 3 8 (PreOf R mc ms Pc) (PostOf Qc mc ms free) (vx_Post XC mc ms free) := vx_backW (hh := hh) (bytes := bytes) (maxL := maxL) (ret := ret) hM hp.1 hrc hrs hfr hlo hws hcw (fun a' U hW => word_at hW (Or.inl (by first | rfl | simp [Cond.onTables, Cond.keeps, Cond.steady])) hini)
  obtain ⟨hx, hb, hml, ho, -⟩ := S
  obtain ⟨-, ⟨cellB, hcB, hoB, hclB⟩, hPc⟩ := hp
  intro T hT X
  rcases vx_callVX X hx (C := C) (hh := hh) (bytes := bytes) (maxL := maxL) (ret := ret) ho hl hin hse hcode hy hK (by rw [hT]; exact hcB) hoB hclB hg (hsize.trans hml.symm) (argsL := As) (rest := rest) (fun sig h => hn.trans (hlen sig h)) hstack hW (by rw [hb]; exact hdg)
    (fun vm₁ hW₁ => ⟨hf.1, hf.2, hPc (T.setVm vm₁) hT hW₁⟩) with ⟨v, vm₁, ⟨U', l2, c2, s2⟩, hW₁, X', ⟨g', mk, t, L, e1, e2, hq, h1, hL, h2, h3⟩, st⟩ | ⟨q, vm₁, ⟨U', l2, c2, s2⟩, hW₁, X', ⟨g', mk, t, L, E, ce, e1, e2, hq, hce, hcv, hcl, h1, hL, h2, h3⟩, st⟩
  · dsimp only [Pt.U, Pt.locs, Pt.cells, Pt.slots] at X' e1 e2 h1 h2 h3 st
    subst h1; subst h2; subst h3
    exact Or.inl ⟨v, (T.setVm vm₁).calling g' mk (Value.ref b :: As).toArray, t, U', L, hT, X', hL, e1, e2, hq, st⟩
  · dsimp only [Pt.U, Pt.locs, Pt.cells, Pt.slots] at X' e1 e2 h1 h2 h3 st hcl
    subst h1; subst h2; subst h3
    exact Or.inr ⟨q, (T.setVm vm₁).calling g' mk (Value.ref b :: As).toArray, t, U', L, E, ce, hT, X', hL, e1, e2, hq, hce, hcv, vx_cls hW₁ hcl, st⟩
theorem vx_runSX {hh : List (Nat × Nat × Nat × Nat)} (S : CallFix p m c cc nL s args Ts own) (hM : vx_Met l y ws rm Pc Qc XC mc ms free) (cw : vx_CSW R s args own index y bytes maxL ret hh ws rm mc ms n) (hp : PreS s H Pc As)
    (hg : g.method = m) (hn : As.length = n) (hsize : g.locals.size = nL) (hstack : g.stack = As.reverse ++ rest) (hW : 2 * g.monitorRoom + (rest.map fun v => v.category).sum ≤ 8) (hdg : decode cc g.pc = .ok (.invokestatic index, 3)) (hf : cells + mc ≤ R.cells ∧ slots + ms ≤ R.slots) :
    vx_Run p l e R s m args below meth c H locs cells slots mc ms g rest (Qc As.toArray) XC free := by
  obtain ⟨⟨hrc, hrs, hfr, hlo, hws, hcw⟩, hcode, hini, hy, hlen, hl, hstt⟩ := cw
  have hK : vx_Back l R p e below s args y 3 8 (PreOf R mc ms Pc) (PostOf Qc mc ms free) (vx_Post XC mc ms free) := vx_backW (hh := hh) (bytes := bytes) (maxL := maxL) (ret := ret) hM hp.1 hrc hrs hfr hlo hws hcw (fun a' U hW => word_at hW (Or.inl (by first | rfl | simp [Cond.onTables, Cond.keeps, Cond.steady])) hini)
  obtain ⟨hx, hb, hml, ho, -⟩ := S
  intro T hT X
  rcases vx_callSX X hx (hh := hh) (bytes := bytes) (maxL := maxL) (ret := ret) ho hl hstt hini hcode hy hK hg (hsize.trans hml.symm) (argsL := As) (rest := rest) (fun sig h => hn.trans (hlen sig h)) hstack hW (by rw [hb]; exact hdg)
    (fun vm₁ hW₁ => ⟨hf.1, hf.2, hp.2 (T.setVm vm₁) hT hW₁⟩) with ⟨v, vm₁, ⟨U', l2, c2, s2⟩, hW₁, X', ⟨g', mk, t, L, e1, e2, hq, h1, hL, h2, h3⟩, st⟩ | ⟨q, vm₁, ⟨U', l2, c2, s2⟩, hW₁, X', ⟨g', mk, t, L, E, ce, e1, e2, hq, hce, hcv, hcl, h1, hL, h2, h3⟩, st⟩
  · dsimp only [Pt.U, Pt.locs, Pt.cells, Pt.slots] at X' e1 e2 h1 h2 h3 st
    subst h1; subst h2; subst h3
    exact Or.inl ⟨v, (T.setVm vm₁).calling g' mk As.toArray, t, U', L, hT, X', hL, e1, e2, hq, st⟩
  · dsimp only [Pt.U, Pt.locs, Pt.cells, Pt.slots] at X' e1 e2 h1 h2 h3 st hcl
    subst h1; subst h2; subst h3
    exact Or.inr ⟨q, (T.setVm vm₁).calling g' mk As.toArray, t, U', L, E, ce, hT, X', hL, e1, e2, hq, hce, hcv, vx_cls hW₁ hcl, st⟩
end
end VXH
theorem vx_ofWH {l : Launch} {y : MethodName} {ws ws' : List Cond} {rm : Room} {Pc : Array Value → State → Prop} {Qc : Array Value → State → Outcome → State → Prop} {XC : String → State → State → Prop} {mc ms : Nat} {free : Addr → Prop} {cc : ByteArray} {maxL : Nat} {ret : Option FieldType} {hh : List (Nat × Nat × Nat × Nat)}
    (hy : plainName y.cls = true) (hw : ws = Cond.codeWith y cc maxL ret hh :: ws')
    (body : ∀ p e s m args below meth c s₁, BodyLoose p l y (headSpec ws rm) cc maxL ret e s m args below meth c s₁ → c.maxLocals = maxL → Pc args s →
      W p l e (headSpec ws rm).room s m args below meth c s.heap [] 0 0 (vx_MQ below Qc XC args s mc ms free) (entryFrame m args maxL)) : vx_Met l y ws rm Pc Qc XC mc ms free := by
  refine MetFree.of_bodyS (code := cc) (maxLocals := maxL) (ret := ret) hy ?_ ?_
  · intro args s m h hn
    obtain ⟨m9, meth, c, hn9, h1, h2, h3, h4, -, h5, h6, -⟩ := Cond.codeWith_spec (atoms_spec (ws := ws) h _ (by rw [hw]; exact List.mem_cons_self))
    cases hn.symm.trans hn9
    exact ⟨meth, c, h1, h2, h3, h4, h5, h6⟩
  · intro p e s m args below meth c s₁ B hml hP _
    have hh0 : s₁.heap = s.heap := by rw [B.state]; rfl
    obtain ⟨t, a1, o, b1, b2, b3⟩ := body p e s m args below meth c s₁ B hml hP s₁ hh0 (Stand.of_body B)
    exact ⟨t, o, a1, b1, b2, b3⟩
/-! ===== END ===== -/
end
section
def RX0 : String := "TableauBench$FillingCount"
def TX0 : u_T := fun k => match k with
  | 0 => ("TableauBench$FillingCount", "ways", "[J", true)
  | 1 => ("TableauBench$FillingCount", "endings", "[I", true)
  | 2 => ("TableauBench$FillingCount", "newLetter", "[Z", true)
  | _ => ("TableauBench$FillingCount", "grown", "LTableauBench$Shape;", true)
def tyX0 : Nat → FieldType := fun k => match k with
  | 0 => .array .long
  | 1 => .array .int
  | 2 => .array .boolean
  | _ => .object "TableauBench$Shape"
abbrev wsX00 : List Cond := u_ws RX0 TX0 4
theorem nmX0 : ∀ a, a < 4 → ∀ b, b < 4 → a ≠ b → (TX0 a).2.1 ≠ (TX0 b).2.1 := by decide +kernel
theorem tyX0_ok : ∀ k, k < 4 → parseFieldDescriptor (TX0 k).2.2.1 = some (tyX0 k) := by decide +kernel
abbrev cX0_init : ByteArray := prog_2_method_1_code
def yX0_init : MethodName := ⟨RX0, "<init>", "()V"⟩
abbrev cX0_count : ByteArray := prog_2_method_2_code
def yX0_count : MethodName := ⟨RX0, "count", "(LTableauBench$Shape;LTableauBench$Word;)J"⟩
abbrev cX0_sortLetters : ByteArray := prog_2_method_3_code
def yX0_sortLetters : MethodName := ⟨RX0, "sortLetters", "(LTableauBench$Word;)V"⟩
abbrev cX0_countEndings : ByteArray := prog_2_method_4_code
def yX0_countEndings : MethodName := ⟨RX0, "countEndings", "(LTableauBench$Shape;)V"⟩
abbrev cX0_goToNext : ByteArray := prog_2_method_5_code
def yX0_goToNext : MethodName := ⟨RX0, "goToNext", "(LTableauBench$Shape;)V"⟩
abbrev cX0_countWays : ByteArray := prog_2_method_6_code
def yX0_countWays : MethodName := ⟨RX0, "countWays", "(I)V"⟩
def RX1 : String := "TableauBench$HookWalk"
def TX1 : u_T := fun k => match k with
  | 0 => ("TableauBench$HookWalk", "shape", "LTableauBench$Shape;", true)
  | 1 => ("TableauBench$HookWalk", "seed", "J", false)
  | 2 => ("TableauBench$HookWalk", "\x72", "I", false)
  | _ => ("TableauBench$HookWalk", "c", "I", false)
def tyX1 : Nat → FieldType := fun k => match k with
  | 0 => .object "TableauBench$Shape"
  | 1 => .long
  | 2 => .int
  | _ => .int
abbrev wsX10 : List Cond := u_ws RX1 TX1 4
theorem nmX1 : ∀ a, a < 4 → ∀ b, b < 4 → a ≠ b → (TX1 a).2.1 ≠ (TX1 b).2.1 := by decide +kernel
theorem tyX1_ok : ∀ k, k < 4 → parseFieldDescriptor (TX1 k).2.2.1 = some (tyX1 k) := by decide +kernel
abbrev cX1_init : ByteArray := prog_3_method_1_code
def yX1_init : MethodName := ⟨RX1, "<init>", "()V"⟩
abbrev cX1_start : ByteArray := prog_3_method_2_code
def yX1_start : MethodName := ⟨RX1, "start", "(LTableauBench$Shape;J)V"⟩
abbrev cX1_goToCorner : ByteArray := prog_3_method_3_code
def yX1_goToCorner : MethodName := ⟨RX1, "goToCorner", "(I)V"⟩
abbrev cX1_dropCorner : ByteArray := prog_3_method_4_code
def yX1_dropCorner : MethodName := ⟨RX1, "dropCorner", "()V"⟩
abbrev cX1_countOthers : ByteArray := prog_3_method_5_code
def yX1_countOthers : MethodName := ⟨RX1, "countOthers", "()I"⟩
abbrev cX1_nextBelow : ByteArray := prog_3_method_6_code
def yX1_nextBelow : MethodName := ⟨RX1, "nextBelow", "(I)I"⟩
abbrev cX1_goToBox : ByteArray := prog_3_method_7_code
def yX1_goToBox : MethodName := ⟨RX1, "goToBox", "(I)V"⟩
abbrev cX1_goOn : ByteArray := prog_3_method_8_code
def yX1_goOn : MethodName := ⟨RX1, "goOn", "(I)V"⟩
def RX2 : String := "TableauBench$ProductCount"
def TX2 : u_T := fun k => match k with
  | 0 => ("TableauBench$ProductCount", "letters", "[I", true)
  | 1 => ("TableauBench$ProductCount", "boxAbove", "[I", true)
  | 2 => ("TableauBench$ProductCount", "boxToRight", "[I", true)
  | 3 => ("TableauBench$ProductCount", "used", "[I", true)
  | 4 => ("TableauBench$ProductCount", "content", "LTableauBench$Shape;", true)
  | _ => ("TableauBench$ProductCount", "boxes", "I", false)
def tyX2 : Nat → FieldType := fun k => match k with
  | 0 => .array .int
  | 1 => .array .int
  | 2 => .array .int
  | 3 => .array .int
  | 4 => .object "TableauBench$Shape"
  | _ => .int
abbrev wsX20 : List Cond := u_ws RX2 TX2 6
theorem nmX2 : ∀ a, a < 6 → ∀ b, b < 6 → a ≠ b → (TX2 a).2.1 ≠ (TX2 b).2.1 := by decide +kernel
theorem tyX2_ok : ∀ k, k < 6 → parseFieldDescriptor (TX2 k).2.2.1 = some (tyX2 k) := by decide +kernel
abbrev cX2_init : ByteArray := prog_4_method_1_code
def yX2_init : MethodName := ⟨RX2, "<init>", "()V"⟩
abbrev cX2_count : ByteArray := prog_4_method_2_code
def yX2_count : MethodName := ⟨RX2, "count", "(LTableauBench$Shape;LTableauBench$Shape;LTableauBench$Shape;)J"⟩
abbrev cX2_countFrom : ByteArray := prog_4_method_3_code
def yX2_countFrom : MethodName := ⟨RX2, "countFrom", "(I)J"⟩
def RX3 : String := "TableauBench$RimHooks"
def TX3 : u_T := fun k => match k with
  | _ => ("", "", "", false)
def tyX3 : Nat → FieldType := fun k => match k with
  | _ => .int
abbrev wsX30 : List Cond := u_ws RX3 TX3 0
theorem nmX3 : ∀ a, a < 0 → ∀ b, b < 0 → a ≠ b → (TX3 a).2.1 ≠ (TX3 b).2.1 := by decide +kernel
theorem tyX3_ok : ∀ k, k < 0 → parseFieldDescriptor (TX3 k).2.2.1 = some (tyX3 k) := by decide +kernel
abbrev cX3_characterOf : ByteArray := prog_5_method_2_code
def yX3_characterOf : MethodName := ⟨RX3, "characterOf", "(LTableauBench$Shape;LTableauBench$Shape;)J"⟩
abbrev cX3_beadsOf : ByteArray := prog_5_method_3_code
def yX3_beadsOf : MethodName := ⟨RX3, "beadsOf", "(LTableauBench$Shape;)I"⟩
abbrev cX3_sumFrom : ByteArray := prog_5_method_4_code
def yX3_sumFrom : MethodName := ⟨RX3, "sumFrom", "(IILTableauBench$Shape;)J"⟩
def RX4 : String := "TableauBench$Shape"
def TX4 : u_T := fun k => match k with
  | _ => ("TableauBench$Shape", "lengths", "[I", true)
def tyX4 : Nat → FieldType := fun k => match k with
  | _ => .array .int
abbrev wsX40 : List Cond := u_ws RX4 TX4 1
theorem nmX4 : ∀ a, a < 1 → ∀ b, b < 1 → a ≠ b → (TX4 a).2.1 ≠ (TX4 b).2.1 := by decide +kernel
theorem tyX4_ok : ∀ k, k < 1 → parseFieldDescriptor (TX4 k).2.2.1 = some (tyX4 k) := by decide +kernel
abbrev cX4_init : ByteArray := prog_6_method_1_code
def yX4_init : MethodName := ⟨RX4, "<init>", "()V"⟩
abbrev cX4_copyFrom : ByteArray := prog_6_method_2_code
def yX4_copyFrom : MethodName := ⟨RX4, "copyFrom", "(LTableauBench$Shape;)V"⟩
abbrev cX4_unpack : ByteArray := prog_6_method_3_code
def yX4_unpack : MethodName := ⟨RX4, "unpack", "(J)V"⟩
abbrev cX4_isAllowed : ByteArray := prog_6_method_4_code
def yX4_isAllowed : MethodName := ⟨RX4, "isAllowed", "()Z"⟩
abbrev cX4_rowLength : ByteArray := prog_6_method_5_code
def yX4_rowLength : MethodName := ⟨RX4, "rowLength", "(I)I"⟩
abbrev cX4_columnLength : ByteArray := prog_6_method_6_code
def yX4_columnLength : MethodName := ⟨RX4, "columnLength", "(I)I"⟩
abbrev cX4_countBoxes : ByteArray := prog_6_method_7_code
def yX4_countBoxes : MethodName := ⟨RX4, "countBoxes", "()I"⟩
abbrev cX4_contains : ByteArray := prog_6_method_8_code
def yX4_contains : MethodName := ⟨RX4, "contains", "(LTableauBench$Shape;)Z"⟩
abbrev cX4_armOf : ByteArray := prog_6_method_9_code
def yX4_armOf : MethodName := ⟨RX4, "armOf", "(II)I"⟩
abbrev cX4_hookOf : ByteArray := prog_6_method_10_code
def yX4_hookOf : MethodName := ⟨RX4, "hookOf", "(II)I"⟩
abbrev cX4_endsColumn : ByteArray := prog_6_method_11_code
def yX4_endsColumn : MethodName := ⟨RX4, "endsColumn", "(I)Z"⟩
abbrev cX4_lowestCorner : ByteArray := prog_6_method_12_code
def yX4_lowestCorner : MethodName := ⟨RX4, "lowestCorner", "()I"⟩
abbrev cX4_highestCorner : ByteArray := prog_6_method_13_code
def yX4_highestCorner : MethodName := ⟨RX4, "highestCorner", "()I"⟩
def RX5 : String := "TableauBench$ShapeOrder"
def TX5 : u_T := fun k => match k with
  | _ => ("TableauBench$ShapeOrder", "counts", "[I", true)
def tyX5 : Nat → FieldType := fun k => match k with
  | _ => .array .int
abbrev wsX50 : List Cond := u_ws RX5 TX5 1
theorem nmX5 : ∀ a, a < 1 → ∀ b, b < 1 → a ≠ b → (TX5 a).2.1 ≠ (TX5 b).2.1 := by decide +kernel
theorem tyX5_ok : ∀ k, k < 1 → parseFieldDescriptor (TX5 k).2.2.1 = some (tyX5 k) := by decide +kernel
abbrev cX5_init : ByteArray := prog_7_method_1_code
def yX5_init : MethodName := ⟨RX5, "<init>", "()V"⟩
abbrev cX5_countOf : ByteArray := prog_7_method_2_code
def yX5_countOf : MethodName := ⟨RX5, "countOf", "(II)I"⟩
abbrev cX5_countBefore : ByteArray := prog_7_method_3_code
def yX5_countBefore : MethodName := ⟨RX5, "countBefore", "(LTableauBench$Shape;)I"⟩
abbrev cX5_find : ByteArray := prog_7_method_4_code
def yX5_find : MethodName := ⟨RX5, "find", "(IILTableauBench$Shape;)Z"⟩
def RX6 : String := "TableauBench$StandardCount"
def TX6 : u_T := fun k => match k with
  | _ => ("TableauBench$StandardCount", "powers", "[I", true)
def tyX6 : Nat → FieldType := fun k => match k with
  | _ => .array .int
abbrev wsX60 : List Cond := u_ws RX6 TX6 1
theorem nmX6 : ∀ a, a < 1 → ∀ b, b < 1 → a ≠ b → (TX6 a).2.1 ≠ (TX6 b).2.1 := by decide +kernel
theorem tyX6_ok : ∀ k, k < 1 → parseFieldDescriptor (TX6 k).2.2.1 = some (tyX6 k) := by decide +kernel
abbrev cX6_init : ByteArray := prog_8_method_1_code
def yX6_init : MethodName := ⟨RX6, "<init>", "()V"⟩
abbrev cX6_count : ByteArray := prog_8_method_2_code
def yX6_count : MethodName := ⟨RX6, "count", "(LTableauBench$Shape;)J"⟩
abbrev cX6_splitIntoFactors : ByteArray := prog_8_method_3_code
def yX6_splitIntoFactors : MethodName := ⟨RX6, "splitIntoFactors", "(I)V"⟩
abbrev cX6_multiply : ByteArray := prog_8_method_4_code
def yX6_multiply : MethodName := ⟨RX6, "multiply", "()J"⟩
def RX7 : String := "TableauBench$Tableau"
def TX7 : u_T := fun k => match k with
  | 0 => ("TableauBench$Tableau", "lengths", "[I", true)
  | _ => ("TableauBench$Tableau", "letters", "[I", true)
def tyX7 : Nat → FieldType := fun k => match k with
  | 0 => .array .int
  | _ => .array .int
abbrev wsX70 : List Cond := u_ws RX7 TX7 2
theorem nmX7 : ∀ a, a < 2 → ∀ b, b < 2 → a ≠ b → (TX7 a).2.1 ≠ (TX7 b).2.1 := by decide +kernel
theorem tyX7_ok : ∀ k, k < 2 → parseFieldDescriptor (TX7 k).2.2.1 = some (tyX7 k) := by decide +kernel
abbrev cX7_init : ByteArray := prog_9_method_1_code
def yX7_init : MethodName := ⟨RX7, "<init>", "()V"⟩
abbrev cX7_clear : ByteArray := prog_9_method_2_code
def yX7_clear : MethodName := ⟨RX7, "clear", "()V"⟩
abbrev cX7_copyFrom : ByteArray := prog_9_method_3_code
def yX7_copyFrom : MethodName := ⟨RX7, "copyFrom", "(LTableauBench$Tableau;)V"⟩
abbrev cX7_takeShape : ByteArray := prog_9_method_4_code
def yX7_takeShape : MethodName := ⟨RX7, "takeShape", "(LTableauBench$Shape;)V"⟩
abbrev cX7_has : ByteArray := prog_9_method_5_code
def yX7_has : MethodName := ⟨RX7, "has", "(II)Z"⟩
abbrev cX7_letterAt : ByteArray := prog_9_method_6_code
def yX7_letterAt : MethodName := ⟨RX7, "letterAt", "(II)I"⟩
abbrev cX7_put : ByteArray := prog_9_method_7_code
def yX7_put : MethodName := ⟨RX7, "put", "(III)V"⟩
abbrev cX7_append : ByteArray := prog_9_method_8_code
def yX7_append : MethodName := ⟨RX7, "append", "(II)V"⟩
abbrev cX7_replace : ByteArray := prog_9_method_9_code
def yX7_replace : MethodName := ⟨RX7, "replace", "(III)I"⟩
abbrev cX7_countRows : ByteArray := prog_9_method_10_code
def yX7_countRows : MethodName := ⟨RX7, "countRows", "()I"⟩
abbrev cX7_countBoxes : ByteArray := prog_9_method_11_code
def yX7_countBoxes : MethodName := ⟨RX7, "countBoxes", "()I"⟩
abbrev cX7_greatestLetter : ByteArray := prog_9_method_12_code
def yX7_greatestLetter : MethodName := ⟨RX7, "greatestLetter", "()I"⟩
abbrev cX7_isStandard : ByteArray := prog_9_method_13_code
def yX7_isStandard : MethodName := ⟨RX7, "isStandard", "()Z"⟩
abbrev cX7_isSameAs : ByteArray := prog_9_method_14_code
def yX7_isSameAs : MethodName := ⟨RX7, "isSameAs", "(LTableauBench$Tableau;)Z"⟩
abbrev cX7_insertAll : ByteArray := prog_9_method_15_code
def yX7_insertAll : MethodName := ⟨RX7, "insertAll", "(LTableauBench$Word;)V"⟩
abbrev cX7_addByRows : ByteArray := prog_9_method_16_code
def yX7_addByRows : MethodName := ⟨RX7, "addByRows", "(I)I"⟩
abbrev cX7_addByColumns : ByteArray := prog_9_method_17_code
def yX7_addByColumns : MethodName := ⟨RX7, "addByColumns", "(I)I"⟩
abbrev cX7_takeByRows : ByteArray := prog_9_method_18_code
def yX7_takeByRows : MethodName := ⟨RX7, "takeByRows", "(I)I"⟩
abbrev cX7_firstGreater : ByteArray := prog_9_method_19_code
def yX7_firstGreater : MethodName := ⟨RX7, "firstGreater", "(II)I"⟩
abbrev cX7_firstNotLess : ByteArray := prog_9_method_20_code
def yX7_firstNotLess : MethodName := ⟨RX7, "firstNotLess", "(II)I"⟩
abbrev cX7_lastLess : ByteArray := prog_9_method_21_code
def yX7_lastLess : MethodName := ⟨RX7, "lastLess", "(II)I"⟩
abbrev cX7_fillSkew : ByteArray := prog_9_method_22_code
def yX7_fillSkew : MethodName := ⟨RX7, "fillSkew", "(LTableauBench$Shape;LTableauBench$Shape;LTableauBench$Word;)V"⟩
abbrev cX7_isColumnStrictOutside : ByteArray := prog_9_method_23_code
def yX7_isColumnStrictOutside : MethodName := ⟨RX7, "isColumnStrictOutside", "(LTableauBench$Shape;)Z"⟩
abbrev cX7_slideInto : ByteArray := prog_9_method_24_code
def yX7_slideInto : MethodName := ⟨RX7, "slideInto", "(II)I"⟩
def RX8 : String := "TableauBench$Word"
def TX8 : u_T := fun k => match k with
  | 0 => ("TableauBench$Word", "letters", "[I", true)
  | _ => ("TableauBench$Word", "size", "I", false)
def tyX8 : Nat → FieldType := fun k => match k with
  | 0 => .array .int
  | _ => .int
abbrev wsX80 : List Cond := u_ws RX8 TX8 2
theorem nmX8 : ∀ a, a < 2 → ∀ b, b < 2 → a ≠ b → (TX8 a).2.1 ≠ (TX8 b).2.1 := by decide +kernel
theorem tyX8_ok : ∀ k, k < 2 → parseFieldDescriptor (TX8 k).2.2.1 = some (tyX8 k) := by decide +kernel
abbrev cX8_init : ByteArray := prog_10_method_1_code
def yX8_init : MethodName := ⟨RX8, "<init>", "()V"⟩
abbrev cX8_letterAt : ByteArray := prog_10_method_2_code
def yX8_letterAt : MethodName := ⟨RX8, "letterAt", "(I)I"⟩
abbrev cX8_add : ByteArray := prog_10_method_3_code
def yX8_add : MethodName := ⟨RX8, "add", "(I)V"⟩
def RX9 : String := "TableauBench"
def TX9 : u_T := fun k => match k with
  | 0 => ("TableauBench", "slots", "[LTableauBench$Shape;", true)
  | 1 => ("TableauBench", "words", "[LTableauBench$Word;", true)
  | 2 => ("TableauBench", "p", "LTableauBench$Tableau;", true)
  | 3 => ("TableauBench", "q", "LTableauBench$Tableau;", true)
  | 4 => ("TableauBench", "qAway", "Z", false)
  | 5 => ("TableauBench", "workTableau", "LTableauBench$Tableau;", true)
  | 6 => ("TableauBench", "otherTableau", "LTableauBench$Tableau;", true)
  | 7 => ("TableauBench", "workShape", "LTableauBench$Shape;", true)
  | 8 => ("TableauBench", "hookWalk", "LTableauBench$HookWalk;", true)
  | 9 => ("TableauBench", "shapeOrder", "LTableauBench$ShapeOrder;", true)
  | 10 => ("TableauBench", "standardCount", "LTableauBench$StandardCount;", true)
  | 11 => ("TableauBench", "fillingCount", "LTableauBench$FillingCount;", true)
  | _ => ("TableauBench", "productCount", "LTableauBench$ProductCount;", true)
def tyX9 : Nat → FieldType := fun k => match k with
  | 0 => .array (.object "TableauBench$Shape")
  | 1 => .array (.object "TableauBench$Word")
  | 2 => .object "TableauBench$Tableau"
  | 3 => .object "TableauBench$Tableau"
  | 4 => .boolean
  | 5 => .object "TableauBench$Tableau"
  | 6 => .object "TableauBench$Tableau"
  | 7 => .object "TableauBench$Shape"
  | 8 => .object "TableauBench$HookWalk"
  | 9 => .object "TableauBench$ShapeOrder"
  | 10 => .object "TableauBench$StandardCount"
  | 11 => .object "TableauBench$FillingCount"
  | _ => .object "TableauBench$ProductCount"
abbrev wsX90 : List Cond := u_ws RX9 TX9 13
theorem nmX9 : ∀ a, a < 13 → ∀ b, b < 13 → a ≠ b → (TX9 a).2.1 ≠ (TX9 b).2.1 := by decide +kernel
theorem tyX9_ok : ∀ k, k < 13 → parseFieldDescriptor (TX9 k).2.2.1 = some (tyX9 k) := by decide +kernel
abbrev cX9_init : ByteArray := prog_1_method_1_code
def yX9_init : MethodName := ⟨RX9, "<init>", "()V"⟩
abbrev cX9_shape : ByteArray := prog_1_method_2_code
def yX9_shape : MethodName := ⟨RX9, "shape", "(IJ)Z"⟩
abbrev cX9_row : ByteArray := prog_1_method_3_code
def yX9_row : MethodName := ⟨RX9, "row", "(II)I"⟩
abbrev cX9_conjugate : ByteArray := prog_1_method_4_code
def yX9_conjugate : MethodName := ⟨RX9, "conjugate", "(I)Z"⟩
abbrev cX9_rank : ByteArray := prog_1_method_5_code
def yX9_rank : MethodName := ⟨RX9, "rank", "(I)I"⟩
abbrev cX9_unrank : ByteArray := prog_1_method_6_code
def yX9_unrank : MethodName := ⟨RX9, "unrank", "(III)V"⟩
abbrev cX9_letter : ByteArray := prog_1_method_7_code
def yX9_letter : MethodName := ⟨RX9, "letter", "(II)Z"⟩
abbrev cX9_cut : ByteArray := prog_1_method_8_code
def yX9_cut : MethodName := ⟨RX9, "cut", "(II)Z"⟩
abbrev cX9_length : ByteArray := prog_1_method_9_code
def yX9_length : MethodName := ⟨RX9, "length", "(I)I"⟩
abbrev cX9_at : ByteArray := prog_1_method_10_code
def yX9_at : MethodName := ⟨RX9, "at", "(II)I"⟩
abbrev cX9_insert : ByteArray := prog_1_method_11_code
def yX9_insert : MethodName := ⟨RX9, "insert", "(IZ)I"⟩
abbrev cX9_entry : ByteArray := prog_1_method_12_code
def yX9_entry : MethodName := ⟨RX9, "entry", "(ZII)I"⟩
abbrev cX9_recover : ByteArray := prog_1_method_13_code
def yX9_recover : MethodName := ⟨RX9, "recover", "(I)V"⟩
abbrev cX9_read : ByteArray := prog_1_method_14_code
def yX9_read : MethodName := ⟨RX9, "read", "(I)V"⟩
abbrev cX9_equivalent : ByteArray := prog_1_method_15_code
def yX9_equivalent : MethodName := ⟨RX9, "equivalent", "()Z"⟩
abbrev cX9_rectify : ByteArray := prog_1_method_16_code
def yX9_rectify : MethodName := ⟨RX9, "rectify", "(IIII)I"⟩
abbrev cX9_turn : ByteArray := prog_1_method_17_code
def yX9_turn : MethodName := ⟨RX9, "turn", "()V"⟩
abbrev cX9_draw : ByteArray := prog_1_method_18_code
def yX9_draw : MethodName := ⟨RX9, "draw", "(IJ)J"⟩
abbrev cX9_standard : ByteArray := prog_1_method_19_code
def yX9_standard : MethodName := ⟨RX9, "standard", "(I)J"⟩
abbrev cX9_fillings : ByteArray := prog_1_method_20_code
def yX9_fillings : MethodName := ⟨RX9, "fillings", "(II)J"⟩
abbrev cX9_coefficient : ByteArray := prog_1_method_21_code
def yX9_coefficient : MethodName := ⟨RX9, "coefficient", "(III)J"⟩
abbrev cX9_character : ByteArray := prog_1_method_22_code
def yX9_character : MethodName := ⟨RX9, "character", "(II)J"⟩
abbrev cX9_slotNumbered : ByteArray := prog_1_method_23_code
def yX9_slotNumbered : MethodName := ⟨RX9, "slotNumbered", "(I)LTableauBench$Shape;"⟩
abbrev cX9_wordNumbered : ByteArray := prog_1_method_24_code
def yX9_wordNumbered : MethodName := ⟨RX9, "wordNumbered", "(I)LTableauBench$Word;"⟩
abbrev cX9_rowThatEndsWith : ByteArray := prog_1_method_25_code
def yX9_rowThatEndsWith : MethodName := ⟨RX9, "rowThatEndsWith", "(I)I"⟩
abbrev cX9_slideUntilStraight : ByteArray := prog_1_method_26_code
def yX9_slideUntilStraight : MethodName := ⟨RX9, "slideUntilStraight", "(I)I"⟩
def RX10 : String := "TableauBenchModel"
def TX10 : u_T := fun k => match k with
  | 0 => ("TableauBenchModel", "thrown", "I", false)
  | 1 => ("TableauBenchModel", "shapes", "[I", true)
  | 2 => ("TableauBenchModel", "words", "[I", true)
  | 3 => ("TableauBenchModel", "sizes", "[I", true)
  | 4 => ("TableauBenchModel", "boxes", "[I", true)
  | 5 => ("TableauBenchModel", "lengths", "[I", true)
  | 6 => ("TableauBenchModel", "away", "Z", false)
  | 7 => ("TableauBenchModel", "row", "[I", true)
  | 8 => ("TableauBenchModel", "many", "[I", true)
  | 9 => ("TableauBenchModel", "left", "[I", true)
  | 10 => ("TableauBenchModel", "from", "[I", true)
  | 11 => ("TableauBenchModel", "goal", "[I", true)
  | 12 => ("TableauBenchModel", "content", "[I", true)
  | 13 => ("TableauBenchModel", "codes", "I", false)
  | 14 => ("TableauBenchModel", "code", "[J", true)
  | 15 => ("TableauBenchModel", "often", "[J", true)
  | 16 => ("TableauBenchModel", "olds", "I", false)
  | 17 => ("TableauBenchModel", "old", "[J", true)
  | 18 => ("TableauBenchModel", "oldOften", "[J", true)
  | _ => ("TableauBenchModel", "powers", "[I", true)
def tyX10 : Nat → FieldType := fun k => match k with
  | 0 => .int
  | 1 => .array .int
  | 2 => .array .int
  | 3 => .array .int
  | 4 => .array .int
  | 5 => .array .int
  | 6 => .boolean
  | 7 => .array .int
  | 8 => .array .int
  | 9 => .array .int
  | 10 => .array .int
  | 11 => .array .int
  | 12 => .array .int
  | 13 => .int
  | 14 => .array .long
  | 15 => .array .long
  | 16 => .int
  | 17 => .array .long
  | 18 => .array .long
  | _ => .array .int
abbrev wsX100 : List Cond := u_ws RX10 TX10 20
theorem nmX10 : ∀ a, a < 20 → ∀ b, b < 20 → a ≠ b → (TX10 a).2.1 ≠ (TX10 b).2.1 := by decide +kernel
theorem tyX10_ok : ∀ k, k < 20 → parseFieldDescriptor (TX10 k).2.2.1 = some (tyX10 k) := by decide +kernel
abbrev cX10_init : ByteArray := prog_12_method_1_code
def yX10_init : MethodName := ⟨RX10, "<init>", "()V"⟩
abbrev cX10_thrown : ByteArray := prog_12_method_2_code
def yX10_thrown : MethodName := ⟨RX10, "thrown", "()I"⟩
abbrev cX10_fail : ByteArray := prog_12_method_3_code
def yX10_fail : MethodName := ⟨RX10, "fail", "(I)I"⟩
abbrev cX10_isSlot : ByteArray := prog_12_method_4_code
def yX10_isSlot : MethodName := ⟨RX10, "isSlot", "(I)Z"⟩
abbrev cX10_isWord : ByteArray := prog_12_method_5_code
def yX10_isWord : MethodName := ⟨RX10, "isWord", "(I)Z"⟩
abbrev cX10_shape : ByteArray := prog_12_method_6_code
def yX10_shape : MethodName := ⟨RX10, "shape", "(IJ)Z"⟩
abbrev cX10_rowOf : ByteArray := prog_12_method_7_code
def yX10_rowOf : MethodName := ⟨RX10, "rowOf", "(II)I"⟩
abbrev cX10_row : ByteArray := prog_12_method_8_code
def yX10_row : MethodName := ⟨RX10, "row", "(II)I"⟩
abbrev cX10_boxesOf : ByteArray := prog_12_method_9_code
def yX10_boxesOf : MethodName := ⟨RX10, "boxesOf", "(I)I"⟩
abbrev cX10_conjugate : ByteArray := prog_12_method_10_code
def yX10_conjugate : MethodName := ⟨RX10, "conjugate", "(I)Z"⟩
abbrev cX10_rank : ByteArray := prog_12_method_11_code
def yX10_rank : MethodName := ⟨RX10, "rank", "(I)I"⟩
abbrev cX10_unrank : ByteArray := prog_12_method_12_code
def yX10_unrank : MethodName := ⟨RX10, "unrank", "(III)V"⟩
abbrev cX10_letter : ByteArray := prog_12_method_13_code
def yX10_letter : MethodName := ⟨RX10, "letter", "(II)Z"⟩
abbrev cX10_cut : ByteArray := prog_12_method_14_code
def yX10_cut : MethodName := ⟨RX10, "cut", "(II)Z"⟩
abbrev cX10_length : ByteArray := prog_12_method_15_code
def yX10_length : MethodName := ⟨RX10, "length", "(I)I"⟩
abbrev cX10_at : ByteArray := prog_12_method_16_code
def yX10_at : MethodName := ⟨RX10, "at", "(II)I"⟩
abbrev cX10_box : ByteArray := prog_12_method_17_code
def yX10_box : MethodName := ⟨RX10, "box", "(III)I"⟩
abbrev cX10_clear : ByteArray := prog_12_method_18_code
def yX10_clear : MethodName := ⟨RX10, "clear", "(I)V"⟩
abbrev cX10_height : ByteArray := prog_12_method_19_code
def yX10_height : MethodName := ⟨RX10, "height", "(I)I"⟩
abbrev cX10_insertByRows : ByteArray := prog_12_method_20_code
def yX10_insertByRows : MethodName := ⟨RX10, "insertByRows", "(II)I"⟩
abbrev cX10_insertByColumns : ByteArray := prog_12_method_21_code
def yX10_insertByColumns : MethodName := ⟨RX10, "insertByColumns", "(II)I"⟩
abbrev cX10_insertRow : ByteArray := prog_12_method_22_code
def yX10_insertRow : MethodName := ⟨RX10, "insertRow", "(II)V"⟩
abbrev cX10_take : ByteArray := prog_12_method_23_code
def yX10_take : MethodName := ⟨RX10, "take", "(I)V"⟩
abbrev cX10_insert : ByteArray := prog_12_method_24_code
def yX10_insert : MethodName := ⟨RX10, "insert", "(IZ)I"⟩
abbrev cX10_entry : ByteArray := prog_12_method_25_code
def yX10_entry : MethodName := ⟨RX10, "entry", "(ZII)I"⟩
abbrev cX10_copyP : ByteArray := prog_12_method_26_code
def yX10_copyP : MethodName := ⟨RX10, "copyP", "(I)V"⟩
abbrev cX10_count : ByteArray := prog_12_method_27_code
def yX10_count : MethodName := ⟨RX10, "count", "(I)I"⟩
abbrev cX10_takeOut : ByteArray := prog_12_method_28_code
def yX10_takeOut : MethodName := ⟨RX10, "takeOut", "(II)I"⟩
abbrev cX10_rowOfNumber : ByteArray := prog_12_method_29_code
def yX10_rowOfNumber : MethodName := ⟨RX10, "rowOfNumber", "(I)I"⟩
abbrev cX10_recover : ByteArray := prog_12_method_30_code
def yX10_recover : MethodName := ⟨RX10, "recover", "(I)V"⟩
abbrev cX10_reading : ByteArray := prog_12_method_31_code
def yX10_reading : MethodName := ⟨RX10, "reading", "()I"⟩
abbrev cX10_read : ByteArray := prog_12_method_32_code
def yX10_read : MethodName := ⟨RX10, "read", "(I)V"⟩
abbrev cX10_equivalent : ByteArray := prog_12_method_33_code
def yX10_equivalent : MethodName := ⟨RX10, "equivalent", "()Z"⟩
abbrev cX10_isStrict : ByteArray := prog_12_method_34_code
def yX10_isStrict : MethodName := ⟨RX10, "isStrict", "(II)Z"⟩
abbrev cX10_isWithin : ByteArray := prog_12_method_35_code
def yX10_isWithin : MethodName := ⟨RX10, "isWithin", "(II)Z"⟩
abbrev cX10_rectify : ByteArray := prog_12_method_36_code
def yX10_rectify : MethodName := ⟨RX10, "rectify", "(IIII)I"⟩
abbrev cX10_isStandard : ByteArray := prog_12_method_37_code
def yX10_isStandard : MethodName := ⟨RX10, "isStandard", "()Z"⟩
abbrev cX10_turn : ByteArray := prog_12_method_38_code
def yX10_turn : MethodName := ⟨RX10, "turn", "()V"⟩
abbrev cX10_takeShape : ByteArray := prog_12_method_39_code
def yX10_takeShape : MethodName := ⟨RX10, "takeShape", "(I)V"⟩
abbrev cX10_below : ByteArray := prog_12_method_40_code
def yX10_below : MethodName := ⟨RX10, "below", "(II)I"⟩
abbrev cX10_draw : ByteArray := prog_12_method_41_code
def yX10_draw : MethodName := ⟨RX10, "draw", "(IJ)J"⟩
abbrev cX10_multiply : ByteArray := prog_12_method_42_code
def yX10_multiply : MethodName := ⟨RX10, "multiply", "(II)V"⟩
abbrev cX10_factorial : ByteArray := prog_12_method_43_code
def yX10_factorial : MethodName := ⟨RX10, "factorial", "(II)V"⟩
abbrev cX10_standard : ByteArray := prog_12_method_44_code
def yX10_standard : MethodName := ⟨RX10, "standard", "(I)J"⟩
abbrev cX10_note : ByteArray := prog_12_method_45_code
def yX10_note : MethodName := ⟨RX10, "note", "(JJ)V"⟩
abbrev cX10_turnOver : ByteArray := prog_12_method_46_code
def yX10_turnOver : MethodName := ⟨RX10, "turnOver", "()V"⟩
abbrev cX10_part : ByteArray := prog_12_method_47_code
def yX10_part : MethodName := ⟨RX10, "part", "(JI)I"⟩
abbrev cX10_strip : ByteArray := prog_12_method_48_code
def yX10_strip : MethodName := ⟨RX10, "strip", "(JIJ)V"⟩
abbrev cX10_fillings : ByteArray := prog_12_method_49_code
def yX10_fillings : MethodName := ⟨RX10, "fillings", "(II)J"⟩
abbrev cX10_grows : ByteArray := prog_12_method_50_code
def yX10_grows : MethodName := ⟨RX10, "grows", "(I)Z"⟩
abbrev cX10_coefficient : ByteArray := prog_12_method_51_code
def yX10_coefficient : MethodName := ⟨RX10, "coefficient", "(III)J"⟩
abbrev cX10_character : ByteArray := prog_12_method_52_code
def yX10_character : MethodName := ⟨RX10, "character", "(II)J"⟩
def RJx145de : String := "java/io/Serializable"
def TJx145de : u_T := fun k => match k with
  | _ => ("", "", "", false)
def tyJx145de : Nat → FieldType := fun k => match k with
  | _ => .int
theorem nmJx145de : ∀ a, a < 0 → ∀ b, b < 0 → a ≠ b → (TJx145de a).2.1 ≠ (TJx145de b).2.1 := by decide +kernel
theorem tyJx145de_ok : ∀ k, k < 0 → parseFieldDescriptor (TJx145de k).2.2.1 = some (tyJx145de k) := by decide +kernel
def RJ6 : String := "java/lang/Integer"
def TJ6 : u_T := fun k => match k with
  | _ => ("", "", "", false)
def tyJ6 : Nat → FieldType := fun k => match k with
  | _ => .int
abbrev wsJ60 : List Cond := u_ws RJ6 TJ6 0
theorem nmJ6 : ∀ a, a < 0 → ∀ b, b < 0 → a ≠ b → (TJ6 a).2.1 ≠ (TJ6 b).2.1 := by decide +kernel
theorem tyJ6_ok : ∀ k, k < 0 → parseFieldDescriptor (TJ6 k).2.2.1 = some (tyJ6 k) := by decide +kernel
abbrev cJ6_bitCount_0f7a4 : ByteArray := prog_18_method_49_code
def yJ6_bitCount_0f7a4 : MethodName := ⟨RJ6, "bitCount", "(I)I"⟩
def RJ9 : String := "java/lang/Math"
def TJ9 : u_T := fun k => match k with
  | _ => ("", "", "", false)
def tyJ9 : Nat → FieldType := fun k => match k with
  | _ => .int
abbrev wsJ90 : List Cond := u_ws RJ9 TJ9 0
theorem nmJ9 : ∀ a, a < 0 → ∀ b, b < 0 → a ≠ b → (TJ9 a).2.1 ≠ (TJ9 b).2.1 := by decide +kernel
theorem tyJ9_ok : ∀ k, k < 0 → parseFieldDescriptor (TJ9 k).2.2.1 = some (tyJ9 k) := by decide +kernel
abbrev cJ9_max_7cf53 : ByteArray := prog_19_method_65_code
def yJ9_max_7cf53 : MethodName := ⟨RJ9, "max", "(II)I"⟩
abbrev cJ9_min_7cf53 : ByteArray := prog_19_method_69_code
def yJ9_min_7cf53 : MethodName := ⟨RJ9, "min", "(II)I"⟩
def RJ0 : String := "java/lang/String"
def TJ0 : u_T := fun k => match k with
  | _ => ("", "", "", false)
def tyJ0 : Nat → FieldType := fun k => match k with
  | _ => .int
abbrev wsJ00 : List Cond := u_ws RJ0 TJ0 0
theorem nmJ0 : ∀ a, a < 0 → ∀ b, b < 0 → a ≠ b → (TJ0 a).2.1 ≠ (TJ0 b).2.1 := by decide +kernel
theorem tyJ0_ok : ∀ k, k < 0 → parseFieldDescriptor (TJ0 k).2.2.1 = some (tyJ0 k) := by decide +kernel
def RJ10 : String := "java/lang/System"
def TJ10 : u_T := fun k => match k with
  | _ => ("", "", "", false)
def tyJ10 : Nat → FieldType := fun k => match k with
  | _ => .int
abbrev wsJ100 : List Cond := u_ws RJ10 TJ10 0
theorem nmJ10 : ∀ a, a < 0 → ∀ b, b < 0 → a ≠ b → (TJ10 a).2.1 ≠ (TJ10 b).2.1 := by decide +kernel
theorem tyJ10_ok : ∀ k, k < 0 → parseFieldDescriptor (TJ10 k).2.2.1 = some (tyJ10 k) := by decide +kernel
def RJ7 : String := "java/util/Arrays"
def TJ7 : u_T := fun k => match k with
  | _ => ("", "", "", false)
def tyJ7 : Nat → FieldType := fun k => match k with
  | _ => .int
abbrev wsJ70 : List Cond := u_ws RJ7 TJ7 0
theorem nmJ7 : ∀ a, a < 0 → ∀ b, b < 0 → a ≠ b → (TJ7 a).2.1 ≠ (TJ7 b).2.1 := by decide +kernel
theorem tyJ7_ok : ∀ k, k < 0 → parseFieldDescriptor (TJ7 k).2.2.1 = some (tyJ7 k) := by decide +kernel
abbrev cJ7_fill_53178 : ByteArray := prog_25_method_103_code
def yJ7_fill_53178 : MethodName := ⟨RJ7, "fill", "([II)V"⟩
def RL : String := "TableauBenchLaw"
abbrev cL_shape : ByteArray := method_3_code
def yL_shape : MethodName := ⟨RL, "shape", "(LTableauBench;IJ[J)I"⟩
abbrev cL_row : ByteArray := method_4_code
def yL_row : MethodName := ⟨RL, "row", "(LTableauBench;II[J)I"⟩
abbrev cL_conjugate : ByteArray := method_5_code
def yL_conjugate : MethodName := ⟨RL, "conjugate", "(LTableauBench;I[J)I"⟩
abbrev cL_rank : ByteArray := method_6_code
def yL_rank : MethodName := ⟨RL, "rank", "(LTableauBench;I[J)I"⟩
abbrev cL_unrank : ByteArray := method_7_code
def yL_unrank : MethodName := ⟨RL, "unrank", "(LTableauBench;III)I"⟩
abbrev cL_letter : ByteArray := method_8_code
def yL_letter : MethodName := ⟨RL, "letter", "(LTableauBench;II[J)I"⟩
abbrev cL_cut : ByteArray := method_9_code
def yL_cut : MethodName := ⟨RL, "cut", "(LTableauBench;II[J)I"⟩
abbrev cL_length : ByteArray := method_10_code
def yL_length : MethodName := ⟨RL, "length", "(LTableauBench;I[J)I"⟩
abbrev cL_at : ByteArray := method_11_code
def yL_at : MethodName := ⟨RL, "at", "(LTableauBench;II[J)I"⟩
abbrev cL_insert : ByteArray := method_12_code
def yL_insert : MethodName := ⟨RL, "insert", "(LTableauBench;IZ[J)I"⟩
abbrev cL_recover : ByteArray := method_13_code
def yL_recover : MethodName := ⟨RL, "recover", "(LTableauBench;I)I"⟩
abbrev cL_read : ByteArray := method_14_code
def yL_read : MethodName := ⟨RL, "read", "(LTableauBench;I)I"⟩
abbrev cL_rectify : ByteArray := method_15_code
def yL_rectify : MethodName := ⟨RL, "rectify", "(LTableauBench;IIII[J)I"⟩
abbrev cL_turn : ByteArray := method_16_code
def yL_turn : MethodName := ⟨RL, "turn", "(LTableauBench;)I"⟩
abbrev cL_draw : ByteArray := method_17_code
def yL_draw : MethodName := ⟨RL, "draw", "(LTableauBench;IJ[J)I"⟩
abbrev cL_standard : ByteArray := method_18_code
def yL_standard : MethodName := ⟨RL, "standard", "(LTableauBench;I[J)I"⟩
abbrev cL_fillings : ByteArray := method_19_code
def yL_fillings : MethodName := ⟨RL, "fillings", "(LTableauBench;II[J)I"⟩
abbrev cL_coefficient : ByteArray := method_20_code
def yL_coefficient : MethodName := ⟨RL, "coefficient", "(LTableauBench;III[J)I"⟩
abbrev cL_character : ByteArray := method_21_code
def yL_character : MethodName := ⟨RL, "character", "(LTableauBench;II[J)I"⟩
abbrev cL_law : ByteArray := code
def yL_law : MethodName := ⟨RL, "law", "([I)Z"⟩
abbrev vwCl : List vw_C := [(RX0, TX0, 4), (RX1, TX1, 4), (RX2, TX2, 6), (RX4, TX4, 1), (RX5, TX5, 1), (RX6, TX6, 1), (RX7, TX7, 2), (RX8, TX8, 2), (RX9, TX9, 13), (RX10, TX10, 20)]
end
section
theorem dX0_init_0 : decode cX0_init 0 = .ok (.aload_n 0, 1) := by decide +kernel
theorem dX0_init_1 : decode cX0_init 1 = .ok (.invokespecial 3, 3) := by decide +kernel
theorem dX0_init_4 : decode cX0_init 4 = .ok (.aload_n 0, 1) := by decide +kernel
theorem dX0_init_5 : decode cX0_init 5 = .ok (.sipush 1448, 3) := by decide +kernel
theorem dX0_init_8 : decode cX0_init 8 = .ok (.newarray .long, 2) := by decide +kernel
theorem dX0_init_10 : decode cX0_init 10 = .ok (.putfield 11, 3) := by decide +kernel
theorem dX0_init_13 : decode cX0_init 13 = .ok (.aload_n 0, 1) := by decide +kernel
theorem dX0_init_14 : decode cX0_init 14 = .ok (.sipush 153, 3) := by decide +kernel
theorem dX0_init_17 : decode cX0_init 17 = .ok (.newarray .int, 2) := by decide +kernel
theorem dX0_init_19 : decode cX0_init 19 = .ok (.putfield 15, 3) := by decide +kernel
theorem dX0_init_22 : decode cX0_init 22 = .ok (.aload_n 0, 1) := by decide +kernel
theorem dX0_init_23 : decode cX0_init 23 = .ok (.bipush 16, 2) := by decide +kernel
theorem dX0_init_25 : decode cX0_init 25 = .ok (.newarray .boolean, 2) := by decide +kernel
theorem dX0_init_27 : decode cX0_init 27 = .ok (.putfield 19, 3) := by decide +kernel
theorem dX0_init_30 : decode cX0_init 30 = .ok (.aload_n 0, 1) := by decide +kernel
theorem dX0_init_31 : decode cX0_init 31 = .ok (.new 23, 3) := by decide +kernel
theorem dX0_init_34 : decode cX0_init 34 = .ok (.dup, 1) := by decide +kernel
theorem dX0_init_35 : decode cX0_init 35 = .ok (.invokespecial 25, 3) := by decide +kernel
theorem dX0_init_38 : decode cX0_init 38 = .ok (.putfield 26, 3) := by decide +kernel
theorem dX0_init_41 : decode cX0_init 41 = .ok (.return_, 1) := by decide +kernel
theorem dX0_count_0 : decode cX0_count 0 = .ok (.aload_n 0, 1) := by decide +kernel
theorem dX0_count_1 : decode cX0_count 1 = .ok (.aload_n 2, 1) := by decide +kernel
theorem dX0_count_2 : decode cX0_count 2 = .ok (.invokevirtual 30, 3) := by decide +kernel
theorem dX0_count_5 : decode cX0_count 5 = .ok (.aload_n 0, 1) := by decide +kernel
theorem dX0_count_6 : decode cX0_count 6 = .ok (.aload_n 1, 1) := by decide +kernel
theorem dX0_count_7 : decode cX0_count 7 = .ok (.invokevirtual 34, 3) := by decide +kernel
theorem dX0_count_10 : decode cX0_count 10 = .ok (.aload_n 0, 1) := by decide +kernel
theorem dX0_count_11 : decode cX0_count 11 = .ok (.getfield 15, 3) := by decide +kernel
theorem dX0_count_14 : decode cX0_count 14 = .ok (.aload_n 1, 1) := by decide +kernel
theorem dX0_count_15 : decode cX0_count 15 = .ok (.getfield 38, 3) := by decide +kernel
theorem dX0_count_18 : decode cX0_count 18 = .ok (.iconst 0, 1) := by decide +kernel
theorem dX0_count_19 : decode cX0_count 19 = .ok (.iaload, 1) := by decide +kernel
theorem dX0_count_20 : decode cX0_count 20 = .ok (.iaload, 1) := by decide +kernel
theorem dX0_count_21 : decode cX0_count 21 = .ok (.istore_n 3, 1) := by decide +kernel
theorem dX0_count_22 : decode cX0_count 22 = .ok (.aload_n 0, 1) := by decide +kernel
theorem dX0_count_23 : decode cX0_count 23 = .ok (.getfield 26, 3) := by decide +kernel
theorem dX0_count_26 : decode cX0_count 26 = .ok (.getfield 38, 3) := by decide +kernel
theorem dX0_count_29 : decode cX0_count 29 = .ok (.iconst 0, 1) := by decide +kernel
theorem dX0_count_30 : decode cX0_count 30 = .ok (.invokestatic 41, 3) := by decide +kernel
theorem dX0_count_33 : decode cX0_count 33 = .ok (.aload_n 0, 1) := by decide +kernel
theorem dX0_count_34 : decode cX0_count 34 = .ok (.getfield 11, 3) := by decide +kernel
theorem dX0_count_37 : decode cX0_count 37 = .ok (.iconst 0, 1) := by decide +kernel
theorem dX0_count_38 : decode cX0_count 38 = .ok (.lconst 1, 1) := by decide +kernel
theorem dX0_count_39 : decode cX0_count 39 = .ok (.lastore, 1) := by decide +kernel
theorem dX0_count_40 : decode cX0_count 40 = .ok (.iconst 1, 1) := by decide +kernel
theorem dX0_count_41 : decode cX0_count 41 = .ok (.istore 4, 2) := by decide +kernel
theorem dX0_count_43 : decode cX0_count 43 = .ok (.iload 4, 2) := by decide +kernel
theorem dX0_count_45 : decode cX0_count 45 = .ok (.iload_n 3, 1) := by decide +kernel
theorem dX0_count_46 : decode cX0_count 46 = .ok (.if_icmp .ge 20, 3) := by decide +kernel
theorem dX0_count_49 : decode cX0_count 49 = .ok (.aload_n 0, 1) := by decide +kernel
theorem dX0_count_50 : decode cX0_count 50 = .ok (.aload_n 1, 1) := by decide +kernel
theorem dX0_count_51 : decode cX0_count 51 = .ok (.invokevirtual 47, 3) := by decide +kernel
theorem dX0_count_54 : decode cX0_count 54 = .ok (.aload_n 0, 1) := by decide +kernel
theorem dX0_count_55 : decode cX0_count 55 = .ok (.iload 4, 2) := by decide +kernel
theorem dX0_count_57 : decode cX0_count 57 = .ok (.invokevirtual 50, 3) := by decide +kernel
theorem dX0_count_60 : decode cX0_count 60 = .ok (.iinc 4 1, 3) := by decide +kernel
theorem dX0_count_63 : decode cX0_count 63 = .ok (.goto (-20), 3) := by decide +kernel
theorem dX0_count_66 : decode cX0_count 66 = .ok (.aload_n 0, 1) := by decide +kernel
theorem dX0_count_67 : decode cX0_count 67 = .ok (.getfield 11, 3) := by decide +kernel
theorem dX0_count_70 : decode cX0_count 70 = .ok (.iload_n 3, 1) := by decide +kernel
theorem dX0_count_71 : decode cX0_count 71 = .ok (.iconst 1, 1) := by decide +kernel
theorem dX0_count_72 : decode cX0_count 72 = .ok (.isub, 1) := by decide +kernel
theorem dX0_count_73 : decode cX0_count 73 = .ok (.bipush 8, 2) := by decide +kernel
theorem dX0_count_75 : decode cX0_count 75 = .ok (.imul, 1) := by decide +kernel
theorem dX0_count_76 : decode cX0_count 76 = .ok (.laload, 1) := by decide +kernel
theorem dX0_count_77 : decode cX0_count 77 = .ok (.lreturn, 1) := by decide +kernel
theorem dX0_sortLetters_0 : decode cX0_sortLetters 0 = .ok (.iconst 0, 1) := by decide +kernel
theorem dX0_sortLetters_1 : decode cX0_sortLetters 1 = .ok (.istore_n 2, 1) := by decide +kernel
theorem dX0_sortLetters_2 : decode cX0_sortLetters 2 = .ok (.iconst 1, 1) := by decide +kernel
theorem dX0_sortLetters_3 : decode cX0_sortLetters 3 = .ok (.istore_n 3, 1) := by decide +kernel
theorem dX0_sortLetters_4 : decode cX0_sortLetters 4 = .ok (.iload_n 3, 1) := by decide +kernel
theorem dX0_sortLetters_5 : decode cX0_sortLetters 5 = .ok (.bipush 16, 2) := by decide +kernel
theorem dX0_sortLetters_7 : decode cX0_sortLetters 7 = .ok (.if_icmp .gt 61, 3) := by decide +kernel
theorem dX0_sortLetters_10 : decode cX0_sortLetters 10 = .ok (.iload_n 2, 1) := by decide +kernel
theorem dX0_sortLetters_11 : decode cX0_sortLetters 11 = .ok (.istore 4, 2) := by decide +kernel
theorem dX0_sortLetters_13 : decode cX0_sortLetters 13 = .ok (.iconst 0, 1) := by decide +kernel
theorem dX0_sortLetters_14 : decode cX0_sortLetters 14 = .ok (.istore 5, 2) := by decide +kernel
theorem dX0_sortLetters_16 : decode cX0_sortLetters 16 = .ok (.iload 5, 2) := by decide +kernel
theorem dX0_sortLetters_18 : decode cX0_sortLetters 18 = .ok (.aload_n 1, 1) := by decide +kernel
theorem dX0_sortLetters_19 : decode cX0_sortLetters 19 = .ok (.getfield 54, 3) := by decide +kernel
theorem dX0_sortLetters_22 : decode cX0_sortLetters 22 = .ok (.if_icmp .ge 40, 3) := by decide +kernel
theorem dX0_sortLetters_25 : decode cX0_sortLetters 25 = .ok (.aload_n 1, 1) := by decide +kernel
theorem dX0_sortLetters_26 : decode cX0_sortLetters 26 = .ok (.getfield 60, 3) := by decide +kernel
theorem dX0_sortLetters_29 : decode cX0_sortLetters 29 = .ok (.iload 5, 2) := by decide +kernel
theorem dX0_sortLetters_31 : decode cX0_sortLetters 31 = .ok (.iaload, 1) := by decide +kernel
theorem dX0_sortLetters_32 : decode cX0_sortLetters 32 = .ok (.iload_n 3, 1) := by decide +kernel
theorem dX0_sortLetters_33 : decode cX0_sortLetters 33 = .ok (.if_icmp .ne 23, 3) := by decide +kernel
theorem dX0_sortLetters_36 : decode cX0_sortLetters 36 = .ok (.aload_n 0, 1) := by decide +kernel
theorem dX0_sortLetters_37 : decode cX0_sortLetters 37 = .ok (.getfield 19, 3) := by decide +kernel
theorem dX0_sortLetters_40 : decode cX0_sortLetters 40 = .ok (.iload_n 2, 1) := by decide +kernel
theorem dX0_sortLetters_41 : decode cX0_sortLetters 41 = .ok (.iload_n 2, 1) := by decide +kernel
theorem dX0_sortLetters_42 : decode cX0_sortLetters 42 = .ok (.iload 4, 2) := by decide +kernel
theorem dX0_sortLetters_44 : decode cX0_sortLetters 44 = .ok (.if_icmp .ne 7, 3) := by decide +kernel
theorem dX0_sortLetters_47 : decode cX0_sortLetters 47 = .ok (.iconst 1, 1) := by decide +kernel
theorem dX0_sortLetters_48 : decode cX0_sortLetters 48 = .ok (.goto 4, 3) := by decide +kernel
theorem dX0_sortLetters_51 : decode cX0_sortLetters 51 = .ok (.iconst 0, 1) := by decide +kernel
theorem dX0_sortLetters_52 : decode cX0_sortLetters 52 = .ok (.bastore, 1) := by decide +kernel
theorem dX0_sortLetters_53 : decode cX0_sortLetters 53 = .ok (.iinc 2 1, 3) := by decide +kernel
theorem dX0_sortLetters_56 : decode cX0_sortLetters 56 = .ok (.iinc 5 1, 3) := by decide +kernel
theorem dX0_sortLetters_59 : decode cX0_sortLetters 59 = .ok (.goto (-43), 3) := by decide +kernel
theorem dX0_sortLetters_62 : decode cX0_sortLetters 62 = .ok (.iinc 3 1, 3) := by decide +kernel
theorem dX0_sortLetters_65 : decode cX0_sortLetters 65 = .ok (.goto (-61), 3) := by decide +kernel
theorem dX0_sortLetters_68 : decode cX0_sortLetters 68 = .ok (.return_, 1) := by decide +kernel
theorem dX0_countEndings_0 : decode cX0_countEndings 0 = .ok (.aload_n 0, 1) := by decide +kernel
theorem dX0_countEndings_1 : decode cX0_countEndings 1 = .ok (.getfield 15, 3) := by decide +kernel
theorem dX0_countEndings_4 : decode cX0_countEndings 4 = .ok (.iconst 1, 1) := by decide +kernel
theorem dX0_countEndings_5 : decode cX0_countEndings 5 = .ok (.invokestatic 41, 3) := by decide +kernel
theorem dX0_countEndings_8 : decode cX0_countEndings 8 = .ok (.bipush 7, 2) := by decide +kernel
theorem dX0_countEndings_10 : decode cX0_countEndings 10 = .ok (.istore_n 2, 1) := by decide +kernel
theorem dX0_countEndings_11 : decode cX0_countEndings 11 = .ok (.iload_n 2, 1) := by decide +kernel
theorem dX0_countEndings_12 : decode cX0_countEndings 12 = .ok (.ifCond .lt 79, 3) := by decide +kernel
theorem dX0_countEndings_15 : decode cX0_countEndings 15 = .ok (.iconst 1, 1) := by decide +kernel
theorem dX0_countEndings_16 : decode cX0_countEndings 16 = .ok (.istore_n 3, 1) := by decide +kernel
theorem dX0_countEndings_17 : decode cX0_countEndings 17 = .ok (.iload_n 3, 1) := by decide +kernel
theorem dX0_countEndings_18 : decode cX0_countEndings 18 = .ok (.bipush 17, 2) := by decide +kernel
theorem dX0_countEndings_20 : decode cX0_countEndings 20 = .ok (.if_icmp .ge 65, 3) := by decide +kernel
theorem dX0_countEndings_23 : decode cX0_countEndings 23 = .ok (.iload_n 3, 1) := by decide +kernel
theorem dX0_countEndings_24 : decode cX0_countEndings 24 = .ok (.aload_n 1, 1) := by decide +kernel
theorem dX0_countEndings_25 : decode cX0_countEndings 25 = .ok (.getfield 38, 3) := by decide +kernel
theorem dX0_countEndings_28 : decode cX0_countEndings 28 = .ok (.iload_n 2, 1) := by decide +kernel
theorem dX0_countEndings_29 : decode cX0_countEndings 29 = .ok (.iaload, 1) := by decide +kernel
theorem dX0_countEndings_30 : decode cX0_countEndings 30 = .ok (.if_icmp .le 7, 3) := by decide +kernel
theorem dX0_countEndings_33 : decode cX0_countEndings 33 = .ok (.iconst 0, 1) := by decide +kernel
theorem dX0_countEndings_34 : decode cX0_countEndings 34 = .ok (.goto 16, 3) := by decide +kernel
theorem dX0_countEndings_37 : decode cX0_countEndings 37 = .ok (.aload_n 0, 1) := by decide +kernel
theorem dX0_countEndings_38 : decode cX0_countEndings 38 = .ok (.getfield 15, 3) := by decide +kernel
theorem dX0_countEndings_41 : decode cX0_countEndings 41 = .ok (.iload_n 2, 1) := by decide +kernel
theorem dX0_countEndings_42 : decode cX0_countEndings 42 = .ok (.iconst 1, 1) := by decide +kernel
theorem dX0_countEndings_43 : decode cX0_countEndings 43 = .ok (.iadd, 1) := by decide +kernel
theorem dX0_countEndings_44 : decode cX0_countEndings 44 = .ok (.bipush 17, 2) := by decide +kernel
theorem dX0_countEndings_46 : decode cX0_countEndings 46 = .ok (.imul, 1) := by decide +kernel
theorem dX0_countEndings_47 : decode cX0_countEndings 47 = .ok (.iload_n 3, 1) := by decide +kernel
theorem dX0_countEndings_48 : decode cX0_countEndings 48 = .ok (.iadd, 1) := by decide +kernel
theorem dX0_countEndings_49 : decode cX0_countEndings 49 = .ok (.iaload, 1) := by decide +kernel
theorem dX0_countEndings_50 : decode cX0_countEndings 50 = .ok (.istore 4, 2) := by decide +kernel
theorem dX0_countEndings_52 : decode cX0_countEndings 52 = .ok (.aload_n 0, 1) := by decide +kernel
theorem dX0_countEndings_53 : decode cX0_countEndings 53 = .ok (.getfield 15, 3) := by decide +kernel
theorem dX0_countEndings_56 : decode cX0_countEndings 56 = .ok (.iload_n 2, 1) := by decide +kernel
theorem dX0_countEndings_57 : decode cX0_countEndings 57 = .ok (.bipush 17, 2) := by decide +kernel
theorem dX0_countEndings_59 : decode cX0_countEndings 59 = .ok (.imul, 1) := by decide +kernel
theorem dX0_countEndings_60 : decode cX0_countEndings 60 = .ok (.iload_n 3, 1) := by decide +kernel
theorem dX0_countEndings_61 : decode cX0_countEndings 61 = .ok (.iadd, 1) := by decide +kernel
theorem dX0_countEndings_62 : decode cX0_countEndings 62 = .ok (.aload_n 0, 1) := by decide +kernel
theorem dX0_countEndings_63 : decode cX0_countEndings 63 = .ok (.getfield 15, 3) := by decide +kernel
theorem dX0_countEndings_66 : decode cX0_countEndings 66 = .ok (.iload_n 2, 1) := by decide +kernel
theorem dX0_countEndings_67 : decode cX0_countEndings 67 = .ok (.bipush 17, 2) := by decide +kernel
theorem dX0_countEndings_69 : decode cX0_countEndings 69 = .ok (.imul, 1) := by decide +kernel
theorem dX0_countEndings_70 : decode cX0_countEndings 70 = .ok (.iload_n 3, 1) := by decide +kernel
theorem dX0_countEndings_71 : decode cX0_countEndings 71 = .ok (.iadd, 1) := by decide +kernel
theorem dX0_countEndings_72 : decode cX0_countEndings 72 = .ok (.iconst 1, 1) := by decide +kernel
theorem dX0_countEndings_73 : decode cX0_countEndings 73 = .ok (.isub, 1) := by decide +kernel
theorem dX0_countEndings_74 : decode cX0_countEndings 74 = .ok (.iaload, 1) := by decide +kernel
theorem dX0_countEndings_75 : decode cX0_countEndings 75 = .ok (.iload 4, 2) := by decide +kernel
theorem dX0_countEndings_77 : decode cX0_countEndings 77 = .ok (.iadd, 1) := by decide +kernel
theorem dX0_countEndings_78 : decode cX0_countEndings 78 = .ok (.iastore, 1) := by decide +kernel
theorem dX0_countEndings_79 : decode cX0_countEndings 79 = .ok (.iinc 3 1, 3) := by decide +kernel
theorem dX0_countEndings_82 : decode cX0_countEndings 82 = .ok (.goto (-65), 3) := by decide +kernel
theorem dX0_countEndings_85 : decode cX0_countEndings 85 = .ok (.iinc 2 (-1), 3) := by decide +kernel
theorem dX0_countEndings_88 : decode cX0_countEndings 88 = .ok (.goto (-77), 3) := by decide +kernel
theorem dX0_countEndings_91 : decode cX0_countEndings 91 = .ok (.return_, 1) := by decide +kernel
theorem dX0_goToNext_0 : decode cX0_goToNext 0 = .ok (.bipush 7, 2) := by decide +kernel
theorem dX0_goToNext_2 : decode cX0_goToNext 2 = .ok (.istore_n 2, 1) := by decide +kernel
theorem dX0_goToNext_3 : decode cX0_goToNext 3 = .ok (.iload_n 2, 1) := by decide +kernel
theorem dX0_goToNext_4 : decode cX0_goToNext 4 = .ok (.ifCond .lt 78, 3) := by decide +kernel
theorem dX0_goToNext_7 : decode cX0_goToNext 7 = .ok (.aload_n 0, 1) := by decide +kernel
theorem dX0_goToNext_8 : decode cX0_goToNext 8 = .ok (.getfield 26, 3) := by decide +kernel
theorem dX0_goToNext_11 : decode cX0_goToNext 11 = .ok (.getfield 38, 3) := by decide +kernel
theorem dX0_goToNext_14 : decode cX0_goToNext 14 = .ok (.iload_n 2, 1) := by decide +kernel
theorem dX0_goToNext_15 : decode cX0_goToNext 15 = .ok (.iaload, 1) := by decide +kernel
theorem dX0_goToNext_16 : decode cX0_goToNext 16 = .ok (.aload_n 1, 1) := by decide +kernel
theorem dX0_goToNext_17 : decode cX0_goToNext 17 = .ok (.getfield 38, 3) := by decide +kernel
theorem dX0_goToNext_20 : decode cX0_goToNext 20 = .ok (.iload_n 2, 1) := by decide +kernel
theorem dX0_goToNext_21 : decode cX0_goToNext 21 = .ok (.iaload, 1) := by decide +kernel
theorem dX0_goToNext_22 : decode cX0_goToNext 22 = .ok (.if_icmp .ge 44, 3) := by decide +kernel
theorem dX0_goToNext_25 : decode cX0_goToNext 25 = .ok (.iload_n 2, 1) := by decide +kernel
theorem dX0_goToNext_26 : decode cX0_goToNext 26 = .ok (.ifCond .eq 26, 3) := by decide +kernel
theorem dX0_goToNext_29 : decode cX0_goToNext 29 = .ok (.aload_n 0, 1) := by decide +kernel
theorem dX0_goToNext_30 : decode cX0_goToNext 30 = .ok (.getfield 26, 3) := by decide +kernel
theorem dX0_goToNext_33 : decode cX0_goToNext 33 = .ok (.getfield 38, 3) := by decide +kernel
theorem dX0_goToNext_36 : decode cX0_goToNext 36 = .ok (.iload_n 2, 1) := by decide +kernel
theorem dX0_goToNext_37 : decode cX0_goToNext 37 = .ok (.iaload, 1) := by decide +kernel
theorem dX0_goToNext_38 : decode cX0_goToNext 38 = .ok (.aload_n 0, 1) := by decide +kernel
theorem dX0_goToNext_39 : decode cX0_goToNext 39 = .ok (.getfield 26, 3) := by decide +kernel
theorem dX0_goToNext_42 : decode cX0_goToNext 42 = .ok (.getfield 38, 3) := by decide +kernel
theorem dX0_goToNext_45 : decode cX0_goToNext 45 = .ok (.iload_n 2, 1) := by decide +kernel
theorem dX0_goToNext_46 : decode cX0_goToNext 46 = .ok (.iconst 1, 1) := by decide +kernel
theorem dX0_goToNext_47 : decode cX0_goToNext 47 = .ok (.isub, 1) := by decide +kernel
theorem dX0_goToNext_48 : decode cX0_goToNext 48 = .ok (.iaload, 1) := by decide +kernel
theorem dX0_goToNext_49 : decode cX0_goToNext 49 = .ok (.if_icmp .ge 17, 3) := by decide +kernel
theorem dX0_goToNext_52 : decode cX0_goToNext 52 = .ok (.aload_n 0, 1) := by decide +kernel
theorem dX0_goToNext_53 : decode cX0_goToNext 53 = .ok (.getfield 26, 3) := by decide +kernel
theorem dX0_goToNext_56 : decode cX0_goToNext 56 = .ok (.getfield 38, 3) := by decide +kernel
theorem dX0_goToNext_59 : decode cX0_goToNext 59 = .ok (.iload_n 2, 1) := by decide +kernel
theorem dX0_goToNext_60 : decode cX0_goToNext 60 = .ok (.dup2, 1) := by decide +kernel
theorem dX0_goToNext_61 : decode cX0_goToNext 61 = .ok (.iaload, 1) := by decide +kernel
theorem dX0_goToNext_62 : decode cX0_goToNext 62 = .ok (.iconst 1, 1) := by decide +kernel
theorem dX0_goToNext_63 : decode cX0_goToNext 63 = .ok (.iadd, 1) := by decide +kernel
theorem dX0_goToNext_64 : decode cX0_goToNext 64 = .ok (.iastore, 1) := by decide +kernel
theorem dX0_goToNext_65 : decode cX0_goToNext 65 = .ok (.return_, 1) := by decide +kernel
theorem dX0_goToNext_66 : decode cX0_goToNext 66 = .ok (.aload_n 0, 1) := by decide +kernel
theorem dX0_goToNext_67 : decode cX0_goToNext 67 = .ok (.getfield 26, 3) := by decide +kernel
theorem dX0_goToNext_70 : decode cX0_goToNext 70 = .ok (.getfield 38, 3) := by decide +kernel
theorem dX0_goToNext_73 : decode cX0_goToNext 73 = .ok (.iload_n 2, 1) := by decide +kernel
theorem dX0_goToNext_74 : decode cX0_goToNext 74 = .ok (.iconst 0, 1) := by decide +kernel
theorem dX0_goToNext_75 : decode cX0_goToNext 75 = .ok (.iastore, 1) := by decide +kernel
theorem dX0_goToNext_76 : decode cX0_goToNext 76 = .ok (.iinc 2 (-1), 3) := by decide +kernel
theorem dX0_goToNext_79 : decode cX0_goToNext 79 = .ok (.goto (-76), 3) := by decide +kernel
theorem dX0_goToNext_82 : decode cX0_goToNext 82 = .ok (.return_, 1) := by decide +kernel
theorem dX0_countWays_0 : decode cX0_countWays 0 = .ok (.aload_n 0, 1) := by decide +kernel
theorem dX0_countWays_1 : decode cX0_countWays 1 = .ok (.getfield 19, 3) := by decide +kernel
theorem dX0_countWays_4 : decode cX0_countWays 4 = .ok (.aload_n 0, 1) := by decide +kernel
theorem dX0_countWays_5 : decode cX0_countWays 5 = .ok (.getfield 26, 3) := by decide +kernel
theorem dX0_countWays_8 : decode cX0_countWays 8 = .ok (.invokevirtual 63, 3) := by decide +kernel
theorem dX0_countWays_11 : decode cX0_countWays 11 = .ok (.iconst 1, 1) := by decide +kernel
theorem dX0_countWays_12 : decode cX0_countWays 12 = .ok (.isub, 1) := by decide +kernel
theorem dX0_countWays_13 : decode cX0_countWays 13 = .ok (.baload, 1) := by decide +kernel
theorem dX0_countWays_14 : decode cX0_countWays 14 = .ok (.istore_n 2, 1) := by decide +kernel
theorem dX0_countWays_15 : decode cX0_countWays 15 = .ok (.lconst 0, 1) := by decide +kernel
theorem dX0_countWays_16 : decode cX0_countWays 16 = .ok (.lstore_n 3, 1) := by decide +kernel
theorem dX0_countWays_17 : decode cX0_countWays 17 = .ok (.bipush 7, 2) := by decide +kernel
theorem dX0_countWays_19 : decode cX0_countWays 19 = .ok (.istore 5, 2) := by decide +kernel
theorem dX0_countWays_21 : decode cX0_countWays 21 = .ok (.iload 5, 2) := by decide +kernel
theorem dX0_countWays_23 : decode cX0_countWays 23 = .ok (.ifCond .lt 87, 3) := by decide +kernel
theorem dX0_countWays_26 : decode cX0_countWays 26 = .ok (.aload_n 0, 1) := by decide +kernel
theorem dX0_countWays_27 : decode cX0_countWays 27 = .ok (.getfield 26, 3) := by decide +kernel
theorem dX0_countWays_30 : decode cX0_countWays 30 = .ok (.iload 5, 2) := by decide +kernel
theorem dX0_countWays_32 : decode cX0_countWays 32 = .ok (.invokevirtual 67, 3) := by decide +kernel
theorem dX0_countWays_35 : decode cX0_countWays 35 = .ok (.ifCond .eq 56, 3) := by decide +kernel
theorem dX0_countWays_38 : decode cX0_countWays 38 = .ok (.iload_n 1, 1) := by decide +kernel
theorem dX0_countWays_39 : decode cX0_countWays 39 = .ok (.aload_n 0, 1) := by decide +kernel
theorem dX0_countWays_40 : decode cX0_countWays 40 = .ok (.getfield 15, 3) := by decide +kernel
theorem dX0_countWays_43 : decode cX0_countWays 43 = .ok (.iload 5, 2) := by decide +kernel
theorem dX0_countWays_45 : decode cX0_countWays 45 = .ok (.iconst 1, 1) := by decide +kernel
theorem dX0_countWays_46 : decode cX0_countWays 46 = .ok (.iadd, 1) := by decide +kernel
theorem dX0_countWays_47 : decode cX0_countWays 47 = .ok (.bipush 17, 2) := by decide +kernel
theorem dX0_countWays_49 : decode cX0_countWays 49 = .ok (.imul, 1) := by decide +kernel
theorem dX0_countWays_50 : decode cX0_countWays 50 = .ok (.aload_n 0, 1) := by decide +kernel
theorem dX0_countWays_51 : decode cX0_countWays 51 = .ok (.getfield 26, 3) := by decide +kernel
theorem dX0_countWays_54 : decode cX0_countWays 54 = .ok (.getfield 38, 3) := by decide +kernel
theorem dX0_countWays_57 : decode cX0_countWays 57 = .ok (.iload 5, 2) := by decide +kernel
theorem dX0_countWays_59 : decode cX0_countWays 59 = .ok (.iaload, 1) := by decide +kernel
theorem dX0_countWays_60 : decode cX0_countWays 60 = .ok (.iadd, 1) := by decide +kernel
theorem dX0_countWays_61 : decode cX0_countWays 61 = .ok (.iconst 1, 1) := by decide +kernel
theorem dX0_countWays_62 : decode cX0_countWays 62 = .ok (.isub, 1) := by decide +kernel
theorem dX0_countWays_63 : decode cX0_countWays 63 = .ok (.iaload, 1) := by decide +kernel
theorem dX0_countWays_64 : decode cX0_countWays 64 = .ok (.isub, 1) := by decide +kernel
theorem dX0_countWays_65 : decode cX0_countWays 65 = .ok (.istore 6, 2) := by decide +kernel
theorem dX0_countWays_67 : decode cX0_countWays 67 = .ok (.lload_n 3, 1) := by decide +kernel
theorem dX0_countWays_68 : decode cX0_countWays 68 = .ok (.aload_n 0, 1) := by decide +kernel
theorem dX0_countWays_69 : decode cX0_countWays 69 = .ok (.getfield 11, 3) := by decide +kernel
theorem dX0_countWays_72 : decode cX0_countWays 72 = .ok (.iload 6, 2) := by decide +kernel
theorem dX0_countWays_74 : decode cX0_countWays 74 = .ok (.bipush 8, 2) := by decide +kernel
theorem dX0_countWays_76 : decode cX0_countWays 76 = .ok (.imul, 1) := by decide +kernel
theorem dX0_countWays_77 : decode cX0_countWays 77 = .ok (.iload_n 2, 1) := by decide +kernel
theorem dX0_countWays_78 : decode cX0_countWays 78 = .ok (.ifCond .eq 7, 3) := by decide +kernel
theorem dX0_countWays_81 : decode cX0_countWays 81 = .ok (.iconst 0, 1) := by decide +kernel
theorem dX0_countWays_82 : decode cX0_countWays 82 = .ok (.goto 5, 3) := by decide +kernel
theorem dX0_countWays_85 : decode cX0_countWays 85 = .ok (.iload 5, 2) := by decide +kernel
theorem dX0_countWays_87 : decode cX0_countWays 87 = .ok (.iadd, 1) := by decide +kernel
theorem dX0_countWays_88 : decode cX0_countWays 88 = .ok (.laload, 1) := by decide +kernel
theorem dX0_countWays_89 : decode cX0_countWays 89 = .ok (.ladd, 1) := by decide +kernel
theorem dX0_countWays_90 : decode cX0_countWays 90 = .ok (.lstore_n 3, 1) := by decide +kernel
theorem dX0_countWays_91 : decode cX0_countWays 91 = .ok (.aload_n 0, 1) := by decide +kernel
theorem dX0_countWays_92 : decode cX0_countWays 92 = .ok (.getfield 11, 3) := by decide +kernel
theorem dX0_countWays_95 : decode cX0_countWays 95 = .ok (.iload_n 1, 1) := by decide +kernel
theorem dX0_countWays_96 : decode cX0_countWays 96 = .ok (.bipush 8, 2) := by decide +kernel
theorem dX0_countWays_98 : decode cX0_countWays 98 = .ok (.imul, 1) := by decide +kernel
theorem dX0_countWays_99 : decode cX0_countWays 99 = .ok (.iload 5, 2) := by decide +kernel
theorem dX0_countWays_101 : decode cX0_countWays 101 = .ok (.iadd, 1) := by decide +kernel
theorem dX0_countWays_102 : decode cX0_countWays 102 = .ok (.lload_n 3, 1) := by decide +kernel
theorem dX0_countWays_103 : decode cX0_countWays 103 = .ok (.lastore, 1) := by decide +kernel
theorem dX0_countWays_104 : decode cX0_countWays 104 = .ok (.iinc 5 (-1), 3) := by decide +kernel
theorem dX0_countWays_107 : decode cX0_countWays 107 = .ok (.goto (-86), 3) := by decide +kernel
theorem dX0_countWays_110 : decode cX0_countWays 110 = .ok (.return_, 1) := by decide +kernel
theorem dX1_init_0 : decode cX1_init 0 = .ok (.aload_n 0, 1) := by decide +kernel
theorem dX1_init_1 : decode cX1_init 1 = .ok (.invokespecial 3, 3) := by decide +kernel
theorem dX1_init_4 : decode cX1_init 4 = .ok (.aload_n 0, 1) := by decide +kernel
theorem dX1_init_5 : decode cX1_init 5 = .ok (.new 9, 3) := by decide +kernel
theorem dX1_init_8 : decode cX1_init 8 = .ok (.dup, 1) := by decide +kernel
theorem dX1_init_9 : decode cX1_init 9 = .ok (.invokespecial 11, 3) := by decide +kernel
theorem dX1_init_12 : decode cX1_init 12 = .ok (.putfield 12, 3) := by decide +kernel
theorem dX1_init_15 : decode cX1_init 15 = .ok (.aload_n 0, 1) := by decide +kernel
theorem dX1_init_16 : decode cX1_init 16 = .ok (.lconst 0, 1) := by decide +kernel
theorem dX1_init_17 : decode cX1_init 17 = .ok (.putfield 18, 3) := by decide +kernel
theorem dX1_init_20 : decode cX1_init 20 = .ok (.aload_n 0, 1) := by decide +kernel
theorem dX1_init_21 : decode cX1_init 21 = .ok (.iconst 0, 1) := by decide +kernel
theorem dX1_init_22 : decode cX1_init 22 = .ok (.putfield 22, 3) := by decide +kernel
theorem dX1_init_25 : decode cX1_init 25 = .ok (.aload_n 0, 1) := by decide +kernel
theorem dX1_init_26 : decode cX1_init 26 = .ok (.iconst 0, 1) := by decide +kernel
theorem dX1_init_27 : decode cX1_init 27 = .ok (.putfield 26, 3) := by decide +kernel
theorem dX1_init_30 : decode cX1_init 30 = .ok (.return_, 1) := by decide +kernel
theorem dX1_start_0 : decode cX1_start 0 = .ok (.aload_n 0, 1) := by decide +kernel
theorem dX1_start_1 : decode cX1_start 1 = .ok (.getfield 12, 3) := by decide +kernel
theorem dX1_start_4 : decode cX1_start 4 = .ok (.aload_n 1, 1) := by decide +kernel
theorem dX1_start_5 : decode cX1_start 5 = .ok (.invokevirtual 29, 3) := by decide +kernel
theorem dX1_start_8 : decode cX1_start 8 = .ok (.aload_n 0, 1) := by decide +kernel
theorem dX1_start_9 : decode cX1_start 9 = .ok (.lload_n 2, 1) := by decide +kernel
theorem dX1_start_10 : decode cX1_start 10 = .ok (.putfield 18, 3) := by decide +kernel
theorem dX1_start_13 : decode cX1_start 13 = .ok (.return_, 1) := by decide +kernel
theorem dX1_goToCorner_0 : decode cX1_goToCorner 0 = .ok (.aload_n 0, 1) := by decide +kernel
theorem dX1_goToCorner_1 : decode cX1_goToCorner 1 = .ok (.aload_n 0, 1) := by decide +kernel
theorem dX1_goToCorner_2 : decode cX1_goToCorner 2 = .ok (.iload_n 1, 1) := by decide +kernel
theorem dX1_goToCorner_3 : decode cX1_goToCorner 3 = .ok (.invokevirtual 33, 3) := by decide +kernel
theorem dX1_goToCorner_6 : decode cX1_goToCorner 6 = .ok (.invokevirtual 37, 3) := by decide +kernel
theorem dX1_goToCorner_9 : decode cX1_goToCorner 9 = .ok (.aload_n 0, 1) := by decide +kernel
theorem dX1_goToCorner_10 : decode cX1_goToCorner 10 = .ok (.invokevirtual 41, 3) := by decide +kernel
theorem dX1_goToCorner_13 : decode cX1_goToCorner 13 = .ok (.istore_n 2, 1) := by decide +kernel
theorem dX1_goToCorner_14 : decode cX1_goToCorner 14 = .ok (.iconst 0, 1) := by decide +kernel
theorem dX1_goToCorner_15 : decode cX1_goToCorner 15 = .ok (.istore_n 3, 1) := by decide +kernel
theorem dX1_goToCorner_16 : decode cX1_goToCorner 16 = .ok (.iload_n 3, 1) := by decide +kernel
theorem dX1_goToCorner_17 : decode cX1_goToCorner 17 = .ok (.bipush 24, 2) := by decide +kernel
theorem dX1_goToCorner_19 : decode cX1_goToCorner 19 = .ok (.if_icmp .ge 27, 3) := by decide +kernel
theorem dX1_goToCorner_22 : decode cX1_goToCorner 22 = .ok (.iload_n 2, 1) := by decide +kernel
theorem dX1_goToCorner_23 : decode cX1_goToCorner 23 = .ok (.ifCond .le 23, 3) := by decide +kernel
theorem dX1_goToCorner_26 : decode cX1_goToCorner 26 = .ok (.aload_n 0, 1) := by decide +kernel
theorem dX1_goToCorner_27 : decode cX1_goToCorner 27 = .ok (.aload_n 0, 1) := by decide +kernel
theorem dX1_goToCorner_28 : decode cX1_goToCorner 28 = .ok (.iload_n 2, 1) := by decide +kernel
theorem dX1_goToCorner_29 : decode cX1_goToCorner 29 = .ok (.invokevirtual 33, 3) := by decide +kernel
theorem dX1_goToCorner_32 : decode cX1_goToCorner 32 = .ok (.invokevirtual 45, 3) := by decide +kernel
theorem dX1_goToCorner_35 : decode cX1_goToCorner 35 = .ok (.aload_n 0, 1) := by decide +kernel
theorem dX1_goToCorner_36 : decode cX1_goToCorner 36 = .ok (.invokevirtual 41, 3) := by decide +kernel
theorem dX1_goToCorner_39 : decode cX1_goToCorner 39 = .ok (.istore_n 2, 1) := by decide +kernel
theorem dX1_goToCorner_40 : decode cX1_goToCorner 40 = .ok (.iinc 3 1, 3) := by decide +kernel
theorem dX1_goToCorner_43 : decode cX1_goToCorner 43 = .ok (.goto (-27), 3) := by decide +kernel
theorem dX1_goToCorner_46 : decode cX1_goToCorner 46 = .ok (.return_, 1) := by decide +kernel
theorem dX1_dropCorner_0 : decode cX1_dropCorner 0 = .ok (.aload_n 0, 1) := by decide +kernel
theorem dX1_dropCorner_1 : decode cX1_dropCorner 1 = .ok (.getfield 12, 3) := by decide +kernel
theorem dX1_dropCorner_4 : decode cX1_dropCorner 4 = .ok (.getfield 48, 3) := by decide +kernel
theorem dX1_dropCorner_7 : decode cX1_dropCorner 7 = .ok (.aload_n 0, 1) := by decide +kernel
theorem dX1_dropCorner_8 : decode cX1_dropCorner 8 = .ok (.getfield 22, 3) := by decide +kernel
theorem dX1_dropCorner_11 : decode cX1_dropCorner 11 = .ok (.dup2, 1) := by decide +kernel
theorem dX1_dropCorner_12 : decode cX1_dropCorner 12 = .ok (.iaload, 1) := by decide +kernel
theorem dX1_dropCorner_13 : decode cX1_dropCorner 13 = .ok (.iconst 1, 1) := by decide +kernel
theorem dX1_dropCorner_14 : decode cX1_dropCorner 14 = .ok (.isub, 1) := by decide +kernel
theorem dX1_dropCorner_15 : decode cX1_dropCorner 15 = .ok (.iastore, 1) := by decide +kernel
theorem dX1_dropCorner_16 : decode cX1_dropCorner 16 = .ok (.return_, 1) := by decide +kernel
theorem dX1_countOthers_0 : decode cX1_countOthers 0 = .ok (.aload_n 0, 1) := by decide +kernel
theorem dX1_countOthers_1 : decode cX1_countOthers 1 = .ok (.getfield 12, 3) := by decide +kernel
theorem dX1_countOthers_4 : decode cX1_countOthers 4 = .ok (.aload_n 0, 1) := by decide +kernel
theorem dX1_countOthers_5 : decode cX1_countOthers 5 = .ok (.getfield 22, 3) := by decide +kernel
theorem dX1_countOthers_8 : decode cX1_countOthers 8 = .ok (.aload_n 0, 1) := by decide +kernel
theorem dX1_countOthers_9 : decode cX1_countOthers 9 = .ok (.getfield 26, 3) := by decide +kernel
theorem dX1_countOthers_12 : decode cX1_countOthers 12 = .ok (.invokevirtual 52, 3) := by decide +kernel
theorem dX1_countOthers_15 : decode cX1_countOthers 15 = .ok (.iconst 1, 1) := by decide +kernel
theorem dX1_countOthers_16 : decode cX1_countOthers 16 = .ok (.isub, 1) := by decide +kernel
theorem dX1_countOthers_17 : decode cX1_countOthers 17 = .ok (.ireturn, 1) := by decide +kernel
theorem dX1_nextBelow_0 : decode cX1_nextBelow 0 = .ok (.aload_n 0, 1) := by decide +kernel
theorem dX1_nextBelow_1 : decode cX1_nextBelow 1 = .ok (.aload_n 0, 1) := by decide +kernel
theorem dX1_nextBelow_2 : decode cX1_nextBelow 2 = .ok (.getfield 18, 3) := by decide +kernel
theorem dX1_nextBelow_5 : decode cX1_nextBelow 5 = .ok (.ldc2_w 56, 3) := by decide +kernel
theorem dX1_nextBelow_8 : decode cX1_nextBelow 8 = .ok (.lmul, 1) := by decide +kernel
theorem dX1_nextBelow_9 : decode cX1_nextBelow 9 = .ok (.ldc2_w 58, 3) := by decide +kernel
theorem dX1_nextBelow_12 : decode cX1_nextBelow 12 = .ok (.ladd, 1) := by decide +kernel
theorem dX1_nextBelow_13 : decode cX1_nextBelow 13 = .ok (.putfield 18, 3) := by decide +kernel
theorem dX1_nextBelow_16 : decode cX1_nextBelow 16 = .ok (.aload_n 0, 1) := by decide +kernel
theorem dX1_nextBelow_17 : decode cX1_nextBelow 17 = .ok (.getfield 18, 3) := by decide +kernel
theorem dX1_nextBelow_20 : decode cX1_nextBelow 20 = .ok (.bipush 33, 2) := by decide +kernel
theorem dX1_nextBelow_22 : decode cX1_nextBelow 22 = .ok (.lushr, 1) := by decide +kernel
theorem dX1_nextBelow_23 : decode cX1_nextBelow 23 = .ok (.iload_n 1, 1) := by decide +kernel
theorem dX1_nextBelow_24 : decode cX1_nextBelow 24 = .ok (.i2l, 1) := by decide +kernel
theorem dX1_nextBelow_25 : decode cX1_nextBelow 25 = .ok (.lrem, 1) := by decide +kernel
theorem dX1_nextBelow_26 : decode cX1_nextBelow 26 = .ok (.l2i, 1) := by decide +kernel
theorem dX1_nextBelow_27 : decode cX1_nextBelow 27 = .ok (.ireturn, 1) := by decide +kernel
theorem dX1_goToBox_0 : decode cX1_goToBox 0 = .ok (.aload_n 0, 1) := by decide +kernel
theorem dX1_goToBox_1 : decode cX1_goToBox 1 = .ok (.iconst 0, 1) := by decide +kernel
theorem dX1_goToBox_2 : decode cX1_goToBox 2 = .ok (.putfield 22, 3) := by decide +kernel
theorem dX1_goToBox_5 : decode cX1_goToBox 5 = .ok (.aload_n 0, 1) := by decide +kernel
theorem dX1_goToBox_6 : decode cX1_goToBox 6 = .ok (.iload_n 1, 1) := by decide +kernel
theorem dX1_goToBox_7 : decode cX1_goToBox 7 = .ok (.putfield 26, 3) := by decide +kernel
theorem dX1_goToBox_10 : decode cX1_goToBox 10 = .ok (.aload_n 0, 1) := by decide +kernel
theorem dX1_goToBox_11 : decode cX1_goToBox 11 = .ok (.getfield 22, 3) := by decide +kernel
theorem dX1_goToBox_14 : decode cX1_goToBox 14 = .ok (.bipush 7, 2) := by decide +kernel
theorem dX1_goToBox_16 : decode cX1_goToBox 16 = .ok (.if_icmp .ge 56, 3) := by decide +kernel
theorem dX1_goToBox_19 : decode cX1_goToBox 19 = .ok (.aload_n 0, 1) := by decide +kernel
theorem dX1_goToBox_20 : decode cX1_goToBox 20 = .ok (.getfield 26, 3) := by decide +kernel
theorem dX1_goToBox_23 : decode cX1_goToBox 23 = .ok (.aload_n 0, 1) := by decide +kernel
theorem dX1_goToBox_24 : decode cX1_goToBox 24 = .ok (.getfield 12, 3) := by decide +kernel
theorem dX1_goToBox_27 : decode cX1_goToBox 27 = .ok (.getfield 48, 3) := by decide +kernel
theorem dX1_goToBox_30 : decode cX1_goToBox 30 = .ok (.aload_n 0, 1) := by decide +kernel
theorem dX1_goToBox_31 : decode cX1_goToBox 31 = .ok (.getfield 22, 3) := by decide +kernel
theorem dX1_goToBox_34 : decode cX1_goToBox 34 = .ok (.iaload, 1) := by decide +kernel
theorem dX1_goToBox_35 : decode cX1_goToBox 35 = .ok (.if_icmp .lt 37, 3) := by decide +kernel
theorem dX1_goToBox_38 : decode cX1_goToBox 38 = .ok (.aload_n 0, 1) := by decide +kernel
theorem dX1_goToBox_39 : decode cX1_goToBox 39 = .ok (.dup, 1) := by decide +kernel
theorem dX1_goToBox_40 : decode cX1_goToBox 40 = .ok (.getfield 26, 3) := by decide +kernel
theorem dX1_goToBox_43 : decode cX1_goToBox 43 = .ok (.aload_n 0, 1) := by decide +kernel
theorem dX1_goToBox_44 : decode cX1_goToBox 44 = .ok (.getfield 12, 3) := by decide +kernel
theorem dX1_goToBox_47 : decode cX1_goToBox 47 = .ok (.getfield 48, 3) := by decide +kernel
theorem dX1_goToBox_50 : decode cX1_goToBox 50 = .ok (.aload_n 0, 1) := by decide +kernel
theorem dX1_goToBox_51 : decode cX1_goToBox 51 = .ok (.getfield 22, 3) := by decide +kernel
theorem dX1_goToBox_54 : decode cX1_goToBox 54 = .ok (.iaload, 1) := by decide +kernel
theorem dX1_goToBox_55 : decode cX1_goToBox 55 = .ok (.isub, 1) := by decide +kernel
theorem dX1_goToBox_56 : decode cX1_goToBox 56 = .ok (.putfield 26, 3) := by decide +kernel
theorem dX1_goToBox_59 : decode cX1_goToBox 59 = .ok (.aload_n 0, 1) := by decide +kernel
theorem dX1_goToBox_60 : decode cX1_goToBox 60 = .ok (.dup, 1) := by decide +kernel
theorem dX1_goToBox_61 : decode cX1_goToBox 61 = .ok (.getfield 22, 3) := by decide +kernel
theorem dX1_goToBox_64 : decode cX1_goToBox 64 = .ok (.iconst 1, 1) := by decide +kernel
theorem dX1_goToBox_65 : decode cX1_goToBox 65 = .ok (.iadd, 1) := by decide +kernel
theorem dX1_goToBox_66 : decode cX1_goToBox 66 = .ok (.putfield 22, 3) := by decide +kernel
theorem dX1_goToBox_69 : decode cX1_goToBox 69 = .ok (.goto (-59), 3) := by decide +kernel
theorem dX1_goToBox_72 : decode cX1_goToBox 72 = .ok (.return_, 1) := by decide +kernel
theorem dX1_goOn_0 : decode cX1_goOn 0 = .ok (.aload_n 0, 1) := by decide +kernel
theorem dX1_goOn_1 : decode cX1_goOn 1 = .ok (.getfield 12, 3) := by decide +kernel
theorem dX1_goOn_4 : decode cX1_goOn 4 = .ok (.aload_n 0, 1) := by decide +kernel
theorem dX1_goOn_5 : decode cX1_goOn 5 = .ok (.getfield 22, 3) := by decide +kernel
theorem dX1_goOn_8 : decode cX1_goOn 8 = .ok (.aload_n 0, 1) := by decide +kernel
theorem dX1_goOn_9 : decode cX1_goOn 9 = .ok (.getfield 26, 3) := by decide +kernel
theorem dX1_goOn_12 : decode cX1_goOn 12 = .ok (.invokevirtual 60, 3) := by decide +kernel
theorem dX1_goOn_15 : decode cX1_goOn 15 = .ok (.istore_n 2, 1) := by decide +kernel
theorem dX1_goOn_16 : decode cX1_goOn 16 = .ok (.iload_n 1, 1) := by decide +kernel
theorem dX1_goOn_17 : decode cX1_goOn 17 = .ok (.iload_n 2, 1) := by decide +kernel
theorem dX1_goOn_18 : decode cX1_goOn 18 = .ok (.if_icmp .ge 18, 3) := by decide +kernel
theorem dX1_goOn_21 : decode cX1_goOn 21 = .ok (.aload_n 0, 1) := by decide +kernel
theorem dX1_goOn_22 : decode cX1_goOn 22 = .ok (.dup, 1) := by decide +kernel
theorem dX1_goOn_23 : decode cX1_goOn 23 = .ok (.getfield 26, 3) := by decide +kernel
theorem dX1_goOn_26 : decode cX1_goOn 26 = .ok (.iload_n 1, 1) := by decide +kernel
theorem dX1_goOn_27 : decode cX1_goOn 27 = .ok (.iconst 1, 1) := by decide +kernel
theorem dX1_goOn_28 : decode cX1_goOn 28 = .ok (.iadd, 1) := by decide +kernel
theorem dX1_goOn_29 : decode cX1_goOn 29 = .ok (.iadd, 1) := by decide +kernel
theorem dX1_goOn_30 : decode cX1_goOn 30 = .ok (.putfield 26, 3) := by decide +kernel
theorem dX1_goOn_33 : decode cX1_goOn 33 = .ok (.goto 17, 3) := by decide +kernel
theorem dX1_goOn_36 : decode cX1_goOn 36 = .ok (.aload_n 0, 1) := by decide +kernel
theorem dX1_goOn_37 : decode cX1_goOn 37 = .ok (.dup, 1) := by decide +kernel
theorem dX1_goOn_38 : decode cX1_goOn 38 = .ok (.getfield 22, 3) := by decide +kernel
theorem dX1_goOn_41 : decode cX1_goOn 41 = .ok (.iload_n 1, 1) := by decide +kernel
theorem dX1_goOn_42 : decode cX1_goOn 42 = .ok (.iload_n 2, 1) := by decide +kernel
theorem dX1_goOn_43 : decode cX1_goOn 43 = .ok (.isub, 1) := by decide +kernel
theorem dX1_goOn_44 : decode cX1_goOn 44 = .ok (.iconst 1, 1) := by decide +kernel
theorem dX1_goOn_45 : decode cX1_goOn 45 = .ok (.iadd, 1) := by decide +kernel
theorem dX1_goOn_46 : decode cX1_goOn 46 = .ok (.iadd, 1) := by decide +kernel
theorem dX1_goOn_47 : decode cX1_goOn 47 = .ok (.putfield 22, 3) := by decide +kernel
theorem dX1_goOn_50 : decode cX1_goOn 50 = .ok (.return_, 1) := by decide +kernel
theorem dX2_init_0 : decode cX2_init 0 = .ok (.aload_n 0, 1) := by decide +kernel
theorem dX2_init_1 : decode cX2_init 1 = .ok (.invokespecial 3, 3) := by decide +kernel
theorem dX2_init_4 : decode cX2_init 4 = .ok (.aload_n 0, 1) := by decide +kernel
theorem dX2_init_5 : decode cX2_init 5 = .ok (.bipush 24, 2) := by decide +kernel
theorem dX2_init_7 : decode cX2_init 7 = .ok (.newarray .int, 2) := by decide +kernel
theorem dX2_init_9 : decode cX2_init 9 = .ok (.putfield 9, 3) := by decide +kernel
theorem dX2_init_12 : decode cX2_init 12 = .ok (.aload_n 0, 1) := by decide +kernel
theorem dX2_init_13 : decode cX2_init 13 = .ok (.bipush 24, 2) := by decide +kernel
theorem dX2_init_15 : decode cX2_init 15 = .ok (.newarray .int, 2) := by decide +kernel
theorem dX2_init_17 : decode cX2_init 17 = .ok (.putfield 15, 3) := by decide +kernel
theorem dX2_init_20 : decode cX2_init 20 = .ok (.aload_n 0, 1) := by decide +kernel
theorem dX2_init_21 : decode cX2_init 21 = .ok (.bipush 24, 2) := by decide +kernel
theorem dX2_init_23 : decode cX2_init 23 = .ok (.newarray .int, 2) := by decide +kernel
theorem dX2_init_25 : decode cX2_init 25 = .ok (.putfield 18, 3) := by decide +kernel
theorem dX2_init_28 : decode cX2_init 28 = .ok (.aload_n 0, 1) := by decide +kernel
theorem dX2_init_29 : decode cX2_init 29 = .ok (.bipush 9, 2) := by decide +kernel
theorem dX2_init_31 : decode cX2_init 31 = .ok (.newarray .int, 2) := by decide +kernel
theorem dX2_init_33 : decode cX2_init 33 = .ok (.putfield 21, 3) := by decide +kernel
theorem dX2_init_36 : decode cX2_init 36 = .ok (.aload_n 0, 1) := by decide +kernel
theorem dX2_init_37 : decode cX2_init 37 = .ok (.new 24, 3) := by decide +kernel
theorem dX2_init_40 : decode cX2_init 40 = .ok (.dup, 1) := by decide +kernel
theorem dX2_init_41 : decode cX2_init 41 = .ok (.invokespecial 26, 3) := by decide +kernel
theorem dX2_init_44 : decode cX2_init 44 = .ok (.putfield 27, 3) := by decide +kernel
theorem dX2_init_47 : decode cX2_init 47 = .ok (.aload_n 0, 1) := by decide +kernel
theorem dX2_init_48 : decode cX2_init 48 = .ok (.iconst 0, 1) := by decide +kernel
theorem dX2_init_49 : decode cX2_init 49 = .ok (.putfield 31, 3) := by decide +kernel
theorem dX2_init_52 : decode cX2_init 52 = .ok (.return_, 1) := by decide +kernel
theorem dX2_count_0 : decode cX2_count 0 = .ok (.aload_n 0, 1) := by decide +kernel
theorem dX2_count_1 : decode cX2_count 1 = .ok (.getfield 27, 3) := by decide +kernel
theorem dX2_count_4 : decode cX2_count 4 = .ok (.aload_n 2, 1) := by decide +kernel
theorem dX2_count_5 : decode cX2_count 5 = .ok (.invokevirtual 35, 3) := by decide +kernel
theorem dX2_count_8 : decode cX2_count 8 = .ok (.aload_n 0, 1) := by decide +kernel
theorem dX2_count_9 : decode cX2_count 9 = .ok (.iconst 0, 1) := by decide +kernel
theorem dX2_count_10 : decode cX2_count 10 = .ok (.putfield 31, 3) := by decide +kernel
theorem dX2_count_13 : decode cX2_count 13 = .ok (.iconst 0, 1) := by decide +kernel
theorem dX2_count_14 : decode cX2_count 14 = .ok (.istore 4, 2) := by decide +kernel
theorem dX2_count_16 : decode cX2_count 16 = .ok (.iconst 0, 1) := by decide +kernel
theorem dX2_count_17 : decode cX2_count 17 = .ok (.istore 5, 2) := by decide +kernel
theorem dX2_count_19 : decode cX2_count 19 = .ok (.iload 5, 2) := by decide +kernel
theorem dX2_count_21 : decode cX2_count 21 = .ok (.bipush 8, 2) := by decide +kernel
theorem dX2_count_23 : decode cX2_count 23 = .ok (.if_icmp .ge 147, 3) := by decide +kernel
theorem dX2_count_26 : decode cX2_count 26 = .ok (.aload_n 0, 1) := by decide +kernel
theorem dX2_count_27 : decode cX2_count 27 = .ok (.getfield 31, 3) := by decide +kernel
theorem dX2_count_30 : decode cX2_count 30 = .ok (.istore 6, 2) := by decide +kernel
theorem dX2_count_32 : decode cX2_count 32 = .ok (.aload_n 3, 1) := by decide +kernel
theorem dX2_count_33 : decode cX2_count 33 = .ok (.getfield 39, 3) := by decide +kernel
theorem dX2_count_36 : decode cX2_count 36 = .ok (.iload 5, 2) := by decide +kernel
theorem dX2_count_38 : decode cX2_count 38 = .ok (.iaload, 1) := by decide +kernel
theorem dX2_count_39 : decode cX2_count 39 = .ok (.iconst 1, 1) := by decide +kernel
theorem dX2_count_40 : decode cX2_count 40 = .ok (.isub, 1) := by decide +kernel
theorem dX2_count_41 : decode cX2_count 41 = .ok (.istore 7, 2) := by decide +kernel
theorem dX2_count_43 : decode cX2_count 43 = .ok (.iload 7, 2) := by decide +kernel
theorem dX2_count_45 : decode cX2_count 45 = .ok (.aload_n 1, 1) := by decide +kernel
theorem dX2_count_46 : decode cX2_count 46 = .ok (.getfield 39, 3) := by decide +kernel
theorem dX2_count_49 : decode cX2_count 49 = .ok (.iload 5, 2) := by decide +kernel
theorem dX2_count_51 : decode cX2_count 51 = .ok (.iaload, 1) := by decide +kernel
theorem dX2_count_52 : decode cX2_count 52 = .ok (.if_icmp .lt 108, 3) := by decide +kernel
theorem dX2_count_55 : decode cX2_count 55 = .ok (.iload 5, 2) := by decide +kernel
theorem dX2_count_57 : decode cX2_count 57 = .ok (.ifCond .le 21, 3) := by decide +kernel
theorem dX2_count_60 : decode cX2_count 60 = .ok (.iload 7, 2) := by decide +kernel
theorem dX2_count_62 : decode cX2_count 62 = .ok (.aload_n 1, 1) := by decide +kernel
theorem dX2_count_63 : decode cX2_count 63 = .ok (.getfield 39, 3) := by decide +kernel
theorem dX2_count_66 : decode cX2_count 66 = .ok (.iload 5, 2) := by decide +kernel
theorem dX2_count_68 : decode cX2_count 68 = .ok (.iconst 1, 1) := by decide +kernel
theorem dX2_count_69 : decode cX2_count 69 = .ok (.isub, 1) := by decide +kernel
theorem dX2_count_70 : decode cX2_count 70 = .ok (.iaload, 1) := by decide +kernel
theorem dX2_count_71 : decode cX2_count 71 = .ok (.if_icmp .lt 7, 3) := by decide +kernel
theorem dX2_count_74 : decode cX2_count 74 = .ok (.iconst 1, 1) := by decide +kernel
theorem dX2_count_75 : decode cX2_count 75 = .ok (.goto 4, 3) := by decide +kernel
theorem dX2_count_78 : decode cX2_count 78 = .ok (.iconst 0, 1) := by decide +kernel
theorem dX2_count_79 : decode cX2_count 79 = .ok (.istore 8, 2) := by decide +kernel
theorem dX2_count_81 : decode cX2_count 81 = .ok (.aload_n 0, 1) := by decide +kernel
theorem dX2_count_82 : decode cX2_count 82 = .ok (.getfield 15, 3) := by decide +kernel
theorem dX2_count_85 : decode cX2_count 85 = .ok (.aload_n 0, 1) := by decide +kernel
theorem dX2_count_86 : decode cX2_count 86 = .ok (.getfield 31, 3) := by decide +kernel
theorem dX2_count_89 : decode cX2_count 89 = .ok (.iload 8, 2) := by decide +kernel
theorem dX2_count_91 : decode cX2_count 91 = .ok (.ifCond .eq 23, 3) := by decide +kernel
theorem dX2_count_94 : decode cX2_count 94 = .ok (.iload 4, 2) := by decide +kernel
theorem dX2_count_96 : decode cX2_count 96 = .ok (.aload_n 3, 1) := by decide +kernel
theorem dX2_count_97 : decode cX2_count 97 = .ok (.getfield 39, 3) := by decide +kernel
theorem dX2_count_100 : decode cX2_count 100 = .ok (.iload 5, 2) := by decide +kernel
theorem dX2_count_102 : decode cX2_count 102 = .ok (.iconst 1, 1) := by decide +kernel
theorem dX2_count_103 : decode cX2_count 103 = .ok (.isub, 1) := by decide +kernel
theorem dX2_count_104 : decode cX2_count 104 = .ok (.iaload, 1) := by decide +kernel
theorem dX2_count_105 : decode cX2_count 105 = .ok (.iadd, 1) := by decide +kernel
theorem dX2_count_106 : decode cX2_count 106 = .ok (.iconst 1, 1) := by decide +kernel
theorem dX2_count_107 : decode cX2_count 107 = .ok (.isub, 1) := by decide +kernel
theorem dX2_count_108 : decode cX2_count 108 = .ok (.iload 7, 2) := by decide +kernel
theorem dX2_count_110 : decode cX2_count 110 = .ok (.isub, 1) := by decide +kernel
theorem dX2_count_111 : decode cX2_count 111 = .ok (.goto 4, 3) := by decide +kernel
theorem dX2_count_114 : decode cX2_count 114 = .ok (.iconst (-1), 1) := by decide +kernel
theorem dX2_count_115 : decode cX2_count 115 = .ok (.iastore, 1) := by decide +kernel
theorem dX2_count_116 : decode cX2_count 116 = .ok (.aload_n 0, 1) := by decide +kernel
theorem dX2_count_117 : decode cX2_count 117 = .ok (.getfield 18, 3) := by decide +kernel
theorem dX2_count_120 : decode cX2_count 120 = .ok (.aload_n 0, 1) := by decide +kernel
theorem dX2_count_121 : decode cX2_count 121 = .ok (.getfield 31, 3) := by decide +kernel
theorem dX2_count_124 : decode cX2_count 124 = .ok (.aload_n 0, 1) := by decide +kernel
theorem dX2_count_125 : decode cX2_count 125 = .ok (.getfield 31, 3) := by decide +kernel
theorem dX2_count_128 : decode cX2_count 128 = .ok (.iload 6, 2) := by decide +kernel
theorem dX2_count_130 : decode cX2_count 130 = .ok (.if_icmp .le 12, 3) := by decide +kernel
theorem dX2_count_133 : decode cX2_count 133 = .ok (.aload_n 0, 1) := by decide +kernel
theorem dX2_count_134 : decode cX2_count 134 = .ok (.getfield 31, 3) := by decide +kernel
theorem dX2_count_137 : decode cX2_count 137 = .ok (.iconst 1, 1) := by decide +kernel
theorem dX2_count_138 : decode cX2_count 138 = .ok (.isub, 1) := by decide +kernel
theorem dX2_count_139 : decode cX2_count 139 = .ok (.goto 4, 3) := by decide +kernel
theorem dX2_count_142 : decode cX2_count 142 = .ok (.iconst (-1), 1) := by decide +kernel
theorem dX2_count_143 : decode cX2_count 143 = .ok (.iastore, 1) := by decide +kernel
theorem dX2_count_144 : decode cX2_count 144 = .ok (.aload_n 0, 1) := by decide +kernel
theorem dX2_count_145 : decode cX2_count 145 = .ok (.dup, 1) := by decide +kernel
theorem dX2_count_146 : decode cX2_count 146 = .ok (.getfield 31, 3) := by decide +kernel
theorem dX2_count_149 : decode cX2_count 149 = .ok (.iconst 1, 1) := by decide +kernel
theorem dX2_count_150 : decode cX2_count 150 = .ok (.iadd, 1) := by decide +kernel
theorem dX2_count_151 : decode cX2_count 151 = .ok (.putfield 31, 3) := by decide +kernel
theorem dX2_count_154 : decode cX2_count 154 = .ok (.iinc 7 (-1), 3) := by decide +kernel
theorem dX2_count_157 : decode cX2_count 157 = .ok (.goto (-114), 3) := by decide +kernel
theorem dX2_count_160 : decode cX2_count 160 = .ok (.iload 6, 2) := by decide +kernel
theorem dX2_count_162 : decode cX2_count 162 = .ok (.istore 4, 2) := by decide +kernel
theorem dX2_count_164 : decode cX2_count 164 = .ok (.iinc 5 1, 3) := by decide +kernel
theorem dX2_count_167 : decode cX2_count 167 = .ok (.goto (-148), 3) := by decide +kernel
theorem dX2_count_170 : decode cX2_count 170 = .ok (.aload_n 0, 1) := by decide +kernel
theorem dX2_count_171 : decode cX2_count 171 = .ok (.getfield 21, 3) := by decide +kernel
theorem dX2_count_174 : decode cX2_count 174 = .ok (.iconst 0, 1) := by decide +kernel
theorem dX2_count_175 : decode cX2_count 175 = .ok (.invokestatic 42, 3) := by decide +kernel
theorem dX2_count_178 : decode cX2_count 178 = .ok (.aload_n 0, 1) := by decide +kernel
theorem dX2_count_179 : decode cX2_count 179 = .ok (.getfield 21, 3) := by decide +kernel
theorem dX2_count_182 : decode cX2_count 182 = .ok (.iconst 0, 1) := by decide +kernel
theorem dX2_count_183 : decode cX2_count 183 = .ok (.bipush 24, 2) := by decide +kernel
theorem dX2_count_185 : decode cX2_count 185 = .ok (.iastore, 1) := by decide +kernel
theorem dX2_count_186 : decode cX2_count 186 = .ok (.aload_n 0, 1) := by decide +kernel
theorem dX2_count_187 : decode cX2_count 187 = .ok (.iconst 0, 1) := by decide +kernel
theorem dX2_count_188 : decode cX2_count 188 = .ok (.invokevirtual 48, 3) := by decide +kernel
theorem dX2_count_191 : decode cX2_count 191 = .ok (.lreturn, 1) := by decide +kernel
theorem dX2_countFrom_0 : decode cX2_countFrom 0 = .ok (.iload_n 1, 1) := by decide +kernel
theorem dX2_countFrom_1 : decode cX2_countFrom 1 = .ok (.aload_n 0, 1) := by decide +kernel
theorem dX2_countFrom_2 : decode cX2_countFrom 2 = .ok (.getfield 31, 3) := by decide +kernel
theorem dX2_countFrom_5 : decode cX2_countFrom 5 = .ok (.if_icmp .lt 5, 3) := by decide +kernel
theorem dX2_countFrom_8 : decode cX2_countFrom 8 = .ok (.lconst 1, 1) := by decide +kernel
theorem dX2_countFrom_9 : decode cX2_countFrom 9 = .ok (.lreturn, 1) := by decide +kernel
theorem dX2_countFrom_10 : decode cX2_countFrom 10 = .ok (.aload_n 0, 1) := by decide +kernel
theorem dX2_countFrom_11 : decode cX2_countFrom 11 = .ok (.getfield 15, 3) := by decide +kernel
theorem dX2_countFrom_14 : decode cX2_countFrom 14 = .ok (.iload_n 1, 1) := by decide +kernel
theorem dX2_countFrom_15 : decode cX2_countFrom 15 = .ok (.iaload, 1) := by decide +kernel
theorem dX2_countFrom_16 : decode cX2_countFrom 16 = .ok (.iconst (-1), 1) := by decide +kernel
theorem dX2_countFrom_17 : decode cX2_countFrom 17 = .ok (.if_icmp .ne 7, 3) := by decide +kernel
theorem dX2_countFrom_20 : decode cX2_countFrom 20 = .ok (.iconst 1, 1) := by decide +kernel
theorem dX2_countFrom_21 : decode cX2_countFrom 21 = .ok (.goto 16, 3) := by decide +kernel
theorem dX2_countFrom_24 : decode cX2_countFrom 24 = .ok (.aload_n 0, 1) := by decide +kernel
theorem dX2_countFrom_25 : decode cX2_countFrom 25 = .ok (.getfield 9, 3) := by decide +kernel
theorem dX2_countFrom_28 : decode cX2_countFrom 28 = .ok (.aload_n 0, 1) := by decide +kernel
theorem dX2_countFrom_29 : decode cX2_countFrom 29 = .ok (.getfield 15, 3) := by decide +kernel
theorem dX2_countFrom_32 : decode cX2_countFrom 32 = .ok (.iload_n 1, 1) := by decide +kernel
theorem dX2_countFrom_33 : decode cX2_countFrom 33 = .ok (.iaload, 1) := by decide +kernel
theorem dX2_countFrom_34 : decode cX2_countFrom 34 = .ok (.iaload, 1) := by decide +kernel
theorem dX2_countFrom_35 : decode cX2_countFrom 35 = .ok (.iconst 1, 1) := by decide +kernel
theorem dX2_countFrom_36 : decode cX2_countFrom 36 = .ok (.iadd, 1) := by decide +kernel
theorem dX2_countFrom_37 : decode cX2_countFrom 37 = .ok (.istore_n 2, 1) := by decide +kernel
theorem dX2_countFrom_38 : decode cX2_countFrom 38 = .ok (.aload_n 0, 1) := by decide +kernel
theorem dX2_countFrom_39 : decode cX2_countFrom 39 = .ok (.getfield 18, 3) := by decide +kernel
theorem dX2_countFrom_42 : decode cX2_countFrom 42 = .ok (.iload_n 1, 1) := by decide +kernel
theorem dX2_countFrom_43 : decode cX2_countFrom 43 = .ok (.iaload, 1) := by decide +kernel
theorem dX2_countFrom_44 : decode cX2_countFrom 44 = .ok (.iconst (-1), 1) := by decide +kernel
theorem dX2_countFrom_45 : decode cX2_countFrom 45 = .ok (.if_icmp .ne 8, 3) := by decide +kernel
theorem dX2_countFrom_48 : decode cX2_countFrom 48 = .ok (.bipush 8, 2) := by decide +kernel
theorem dX2_countFrom_50 : decode cX2_countFrom 50 = .ok (.goto 14, 3) := by decide +kernel
theorem dX2_countFrom_53 : decode cX2_countFrom 53 = .ok (.aload_n 0, 1) := by decide +kernel
theorem dX2_countFrom_54 : decode cX2_countFrom 54 = .ok (.getfield 9, 3) := by decide +kernel
theorem dX2_countFrom_57 : decode cX2_countFrom 57 = .ok (.aload_n 0, 1) := by decide +kernel
theorem dX2_countFrom_58 : decode cX2_countFrom 58 = .ok (.getfield 18, 3) := by decide +kernel
theorem dX2_countFrom_61 : decode cX2_countFrom 61 = .ok (.iload_n 1, 1) := by decide +kernel
theorem dX2_countFrom_62 : decode cX2_countFrom 62 = .ok (.iaload, 1) := by decide +kernel
theorem dX2_countFrom_63 : decode cX2_countFrom 63 = .ok (.iaload, 1) := by decide +kernel
theorem dX2_countFrom_64 : decode cX2_countFrom 64 = .ok (.istore_n 3, 1) := by decide +kernel
theorem dX2_countFrom_65 : decode cX2_countFrom 65 = .ok (.lconst 0, 1) := by decide +kernel
theorem dX2_countFrom_66 : decode cX2_countFrom 66 = .ok (.lstore 4, 2) := by decide +kernel
theorem dX2_countFrom_68 : decode cX2_countFrom 68 = .ok (.iload_n 2, 1) := by decide +kernel
theorem dX2_countFrom_69 : decode cX2_countFrom 69 = .ok (.istore 6, 2) := by decide +kernel
theorem dX2_countFrom_71 : decode cX2_countFrom 71 = .ok (.iload 6, 2) := by decide +kernel
theorem dX2_countFrom_73 : decode cX2_countFrom 73 = .ok (.iload_n 3, 1) := by decide +kernel
theorem dX2_countFrom_74 : decode cX2_countFrom 74 = .ok (.if_icmp .gt 92, 3) := by decide +kernel
theorem dX2_countFrom_77 : decode cX2_countFrom 77 = .ok (.aload_n 0, 1) := by decide +kernel
theorem dX2_countFrom_78 : decode cX2_countFrom 78 = .ok (.getfield 21, 3) := by decide +kernel
theorem dX2_countFrom_81 : decode cX2_countFrom 81 = .ok (.iload 6, 2) := by decide +kernel
theorem dX2_countFrom_83 : decode cX2_countFrom 83 = .ok (.iaload, 1) := by decide +kernel
theorem dX2_countFrom_84 : decode cX2_countFrom 84 = .ok (.aload_n 0, 1) := by decide +kernel
theorem dX2_countFrom_85 : decode cX2_countFrom 85 = .ok (.getfield 27, 3) := by decide +kernel
theorem dX2_countFrom_88 : decode cX2_countFrom 88 = .ok (.getfield 39, 3) := by decide +kernel
theorem dX2_countFrom_91 : decode cX2_countFrom 91 = .ok (.iload 6, 2) := by decide +kernel
theorem dX2_countFrom_93 : decode cX2_countFrom 93 = .ok (.iconst 1, 1) := by decide +kernel
theorem dX2_countFrom_94 : decode cX2_countFrom 94 = .ok (.isub, 1) := by decide +kernel
theorem dX2_countFrom_95 : decode cX2_countFrom 95 = .ok (.iaload, 1) := by decide +kernel
theorem dX2_countFrom_96 : decode cX2_countFrom 96 = .ok (.if_icmp .ge 64, 3) := by decide +kernel
theorem dX2_countFrom_99 : decode cX2_countFrom 99 = .ok (.aload_n 0, 1) := by decide +kernel
theorem dX2_countFrom_100 : decode cX2_countFrom 100 = .ok (.getfield 21, 3) := by decide +kernel
theorem dX2_countFrom_103 : decode cX2_countFrom 103 = .ok (.iload 6, 2) := by decide +kernel
theorem dX2_countFrom_105 : decode cX2_countFrom 105 = .ok (.iaload, 1) := by decide +kernel
theorem dX2_countFrom_106 : decode cX2_countFrom 106 = .ok (.aload_n 0, 1) := by decide +kernel
theorem dX2_countFrom_107 : decode cX2_countFrom 107 = .ok (.getfield 21, 3) := by decide +kernel
theorem dX2_countFrom_110 : decode cX2_countFrom 110 = .ok (.iload 6, 2) := by decide +kernel
theorem dX2_countFrom_112 : decode cX2_countFrom 112 = .ok (.iconst 1, 1) := by decide +kernel
theorem dX2_countFrom_113 : decode cX2_countFrom 113 = .ok (.isub, 1) := by decide +kernel
theorem dX2_countFrom_114 : decode cX2_countFrom 114 = .ok (.iaload, 1) := by decide +kernel
theorem dX2_countFrom_115 : decode cX2_countFrom 115 = .ok (.if_icmp .ge 45, 3) := by decide +kernel
theorem dX2_countFrom_118 : decode cX2_countFrom 118 = .ok (.aload_n 0, 1) := by decide +kernel
theorem dX2_countFrom_119 : decode cX2_countFrom 119 = .ok (.getfield 9, 3) := by decide +kernel
theorem dX2_countFrom_122 : decode cX2_countFrom 122 = .ok (.iload_n 1, 1) := by decide +kernel
theorem dX2_countFrom_123 : decode cX2_countFrom 123 = .ok (.iload 6, 2) := by decide +kernel
theorem dX2_countFrom_125 : decode cX2_countFrom 125 = .ok (.iastore, 1) := by decide +kernel
theorem dX2_countFrom_126 : decode cX2_countFrom 126 = .ok (.aload_n 0, 1) := by decide +kernel
theorem dX2_countFrom_127 : decode cX2_countFrom 127 = .ok (.getfield 21, 3) := by decide +kernel
theorem dX2_countFrom_130 : decode cX2_countFrom 130 = .ok (.iload 6, 2) := by decide +kernel
theorem dX2_countFrom_132 : decode cX2_countFrom 132 = .ok (.dup2, 1) := by decide +kernel
theorem dX2_countFrom_133 : decode cX2_countFrom 133 = .ok (.iaload, 1) := by decide +kernel
theorem dX2_countFrom_134 : decode cX2_countFrom 134 = .ok (.iconst 1, 1) := by decide +kernel
theorem dX2_countFrom_135 : decode cX2_countFrom 135 = .ok (.iadd, 1) := by decide +kernel
theorem dX2_countFrom_136 : decode cX2_countFrom 136 = .ok (.iastore, 1) := by decide +kernel
theorem dX2_countFrom_137 : decode cX2_countFrom 137 = .ok (.lload 4, 2) := by decide +kernel
theorem dX2_countFrom_139 : decode cX2_countFrom 139 = .ok (.aload_n 0, 1) := by decide +kernel
theorem dX2_countFrom_140 : decode cX2_countFrom 140 = .ok (.iload_n 1, 1) := by decide +kernel
theorem dX2_countFrom_141 : decode cX2_countFrom 141 = .ok (.iconst 1, 1) := by decide +kernel
theorem dX2_countFrom_142 : decode cX2_countFrom 142 = .ok (.iadd, 1) := by decide +kernel
theorem dX2_countFrom_143 : decode cX2_countFrom 143 = .ok (.invokevirtual 48, 3) := by decide +kernel
theorem dX2_countFrom_146 : decode cX2_countFrom 146 = .ok (.ladd, 1) := by decide +kernel
theorem dX2_countFrom_147 : decode cX2_countFrom 147 = .ok (.lstore 4, 2) := by decide +kernel
theorem dX2_countFrom_149 : decode cX2_countFrom 149 = .ok (.aload_n 0, 1) := by decide +kernel
theorem dX2_countFrom_150 : decode cX2_countFrom 150 = .ok (.getfield 21, 3) := by decide +kernel
theorem dX2_countFrom_153 : decode cX2_countFrom 153 = .ok (.iload 6, 2) := by decide +kernel
theorem dX2_countFrom_155 : decode cX2_countFrom 155 = .ok (.dup2, 1) := by decide +kernel
theorem dX2_countFrom_156 : decode cX2_countFrom 156 = .ok (.iaload, 1) := by decide +kernel
theorem dX2_countFrom_157 : decode cX2_countFrom 157 = .ok (.iconst 1, 1) := by decide +kernel
theorem dX2_countFrom_158 : decode cX2_countFrom 158 = .ok (.isub, 1) := by decide +kernel
theorem dX2_countFrom_159 : decode cX2_countFrom 159 = .ok (.iastore, 1) := by decide +kernel
theorem dX2_countFrom_160 : decode cX2_countFrom 160 = .ok (.iinc 6 1, 3) := by decide +kernel
theorem dX2_countFrom_163 : decode cX2_countFrom 163 = .ok (.goto (-92), 3) := by decide +kernel
theorem dX2_countFrom_166 : decode cX2_countFrom 166 = .ok (.lload 4, 2) := by decide +kernel
theorem dX2_countFrom_168 : decode cX2_countFrom 168 = .ok (.lreturn, 1) := by decide +kernel
theorem dX3_characterOf_0 : decode cX3_characterOf 0 = .ok (.iconst 0, 1) := by decide +kernel
theorem dX3_characterOf_1 : decode cX3_characterOf 1 = .ok (.aload_n 0, 1) := by decide +kernel
theorem dX3_characterOf_2 : decode cX3_characterOf 2 = .ok (.invokestatic 9, 3) := by decide +kernel
theorem dX3_characterOf_5 : decode cX3_characterOf 5 = .ok (.aload_n 1, 1) := by decide +kernel
theorem dX3_characterOf_6 : decode cX3_characterOf 6 = .ok (.invokestatic 15, 3) := by decide +kernel
theorem dX3_characterOf_9 : decode cX3_characterOf 9 = .ok (.lreturn, 1) := by decide +kernel
theorem dX3_beadsOf_0 : decode cX3_beadsOf 0 = .ok (.iconst 0, 1) := by decide +kernel
theorem dX3_beadsOf_1 : decode cX3_beadsOf 1 = .ok (.istore_n 1, 1) := by decide +kernel
theorem dX3_beadsOf_2 : decode cX3_beadsOf 2 = .ok (.iconst 0, 1) := by decide +kernel
theorem dX3_beadsOf_3 : decode cX3_beadsOf 3 = .ok (.istore_n 2, 1) := by decide +kernel
theorem dX3_beadsOf_4 : decode cX3_beadsOf 4 = .ok (.iload_n 2, 1) := by decide +kernel
theorem dX3_beadsOf_5 : decode cX3_beadsOf 5 = .ok (.bipush 8, 2) := by decide +kernel
theorem dX3_beadsOf_7 : decode cX3_beadsOf 7 = .ok (.if_icmp .ge 27, 3) := by decide +kernel
theorem dX3_beadsOf_10 : decode cX3_beadsOf 10 = .ok (.iload_n 1, 1) := by decide +kernel
theorem dX3_beadsOf_11 : decode cX3_beadsOf 11 = .ok (.iconst 1, 1) := by decide +kernel
theorem dX3_beadsOf_12 : decode cX3_beadsOf 12 = .ok (.aload_n 0, 1) := by decide +kernel
theorem dX3_beadsOf_13 : decode cX3_beadsOf 13 = .ok (.getfield 19, 3) := by decide +kernel
theorem dX3_beadsOf_16 : decode cX3_beadsOf 16 = .ok (.iload_n 2, 1) := by decide +kernel
theorem dX3_beadsOf_17 : decode cX3_beadsOf 17 = .ok (.iaload, 1) := by decide +kernel
theorem dX3_beadsOf_18 : decode cX3_beadsOf 18 = .ok (.bipush 8, 2) := by decide +kernel
theorem dX3_beadsOf_20 : decode cX3_beadsOf 20 = .ok (.iadd, 1) := by decide +kernel
theorem dX3_beadsOf_21 : decode cX3_beadsOf 21 = .ok (.iconst 1, 1) := by decide +kernel
theorem dX3_beadsOf_22 : decode cX3_beadsOf 22 = .ok (.isub, 1) := by decide +kernel
theorem dX3_beadsOf_23 : decode cX3_beadsOf 23 = .ok (.iload_n 2, 1) := by decide +kernel
theorem dX3_beadsOf_24 : decode cX3_beadsOf 24 = .ok (.isub, 1) := by decide +kernel
theorem dX3_beadsOf_25 : decode cX3_beadsOf 25 = .ok (.ishl, 1) := by decide +kernel
theorem dX3_beadsOf_26 : decode cX3_beadsOf 26 = .ok (.ior, 1) := by decide +kernel
theorem dX3_beadsOf_27 : decode cX3_beadsOf 27 = .ok (.istore_n 1, 1) := by decide +kernel
theorem dX3_beadsOf_28 : decode cX3_beadsOf 28 = .ok (.iinc 2 1, 3) := by decide +kernel
theorem dX3_beadsOf_31 : decode cX3_beadsOf 31 = .ok (.goto (-27), 3) := by decide +kernel
theorem dX3_beadsOf_34 : decode cX3_beadsOf 34 = .ok (.iload_n 1, 1) := by decide +kernel
theorem dX3_beadsOf_35 : decode cX3_beadsOf 35 = .ok (.ireturn, 1) := by decide +kernel
theorem dX3_sumFrom_0 : decode cX3_sumFrom 0 = .ok (.aload_n 2, 1) := by decide +kernel
theorem dX3_sumFrom_1 : decode cX3_sumFrom 1 = .ok (.iload_n 0, 1) := by decide +kernel
theorem dX3_sumFrom_2 : decode cX3_sumFrom 2 = .ok (.invokevirtual 25, 3) := by decide +kernel
theorem dX3_sumFrom_5 : decode cX3_sumFrom 5 = .ok (.istore_n 3, 1) := by decide +kernel
theorem dX3_sumFrom_6 : decode cX3_sumFrom 6 = .ok (.iload_n 3, 1) := by decide +kernel
theorem dX3_sumFrom_7 : decode cX3_sumFrom 7 = .ok (.ifCond .ne 5, 3) := by decide +kernel
theorem dX3_sumFrom_10 : decode cX3_sumFrom 10 = .ok (.lconst 1, 1) := by decide +kernel
theorem dX3_sumFrom_11 : decode cX3_sumFrom 11 = .ok (.lreturn, 1) := by decide +kernel
theorem dX3_sumFrom_12 : decode cX3_sumFrom 12 = .ok (.lconst 0, 1) := by decide +kernel
theorem dX3_sumFrom_13 : decode cX3_sumFrom 13 = .ok (.lstore 4, 2) := by decide +kernel
theorem dX3_sumFrom_15 : decode cX3_sumFrom 15 = .ok (.iload_n 3, 1) := by decide +kernel
theorem dX3_sumFrom_16 : decode cX3_sumFrom 16 = .ok (.istore 6, 2) := by decide +kernel
theorem dX3_sumFrom_18 : decode cX3_sumFrom 18 = .ok (.iload 6, 2) := by decide +kernel
theorem dX3_sumFrom_20 : decode cX3_sumFrom 20 = .ok (.bipush 22, 2) := by decide +kernel
theorem dX3_sumFrom_22 : decode cX3_sumFrom 22 = .ok (.if_icmp .ge 85, 3) := by decide +kernel
theorem dX3_sumFrom_25 : decode cX3_sumFrom 25 = .ok (.iconst 1, 1) := by decide +kernel
theorem dX3_sumFrom_26 : decode cX3_sumFrom 26 = .ok (.iload 6, 2) := by decide +kernel
theorem dX3_sumFrom_28 : decode cX3_sumFrom 28 = .ok (.ishl, 1) := by decide +kernel
theorem dX3_sumFrom_29 : decode cX3_sumFrom 29 = .ok (.istore 7, 2) := by decide +kernel
theorem dX3_sumFrom_31 : decode cX3_sumFrom 31 = .ok (.iconst 1, 1) := by decide +kernel
theorem dX3_sumFrom_32 : decode cX3_sumFrom 32 = .ok (.iload 6, 2) := by decide +kernel
theorem dX3_sumFrom_34 : decode cX3_sumFrom 34 = .ok (.iload_n 3, 1) := by decide +kernel
theorem dX3_sumFrom_35 : decode cX3_sumFrom 35 = .ok (.isub, 1) := by decide +kernel
theorem dX3_sumFrom_36 : decode cX3_sumFrom 36 = .ok (.ishl, 1) := by decide +kernel
theorem dX3_sumFrom_37 : decode cX3_sumFrom 37 = .ok (.istore 8, 2) := by decide +kernel
theorem dX3_sumFrom_39 : decode cX3_sumFrom 39 = .ok (.iload_n 1, 1) := by decide +kernel
theorem dX3_sumFrom_40 : decode cX3_sumFrom 40 = .ok (.iload 7, 2) := by decide +kernel
theorem dX3_sumFrom_42 : decode cX3_sumFrom 42 = .ok (.iand, 1) := by decide +kernel
theorem dX3_sumFrom_43 : decode cX3_sumFrom 43 = .ok (.ifCond .eq 58, 3) := by decide +kernel
theorem dX3_sumFrom_46 : decode cX3_sumFrom 46 = .ok (.iload_n 1, 1) := by decide +kernel
theorem dX3_sumFrom_47 : decode cX3_sumFrom 47 = .ok (.iload 8, 2) := by decide +kernel
theorem dX3_sumFrom_49 : decode cX3_sumFrom 49 = .ok (.iand, 1) := by decide +kernel
theorem dX3_sumFrom_50 : decode cX3_sumFrom 50 = .ok (.ifCond .ne 51, 3) := by decide +kernel
theorem dX3_sumFrom_53 : decode cX3_sumFrom 53 = .ok (.iload_n 1, 1) := by decide +kernel
theorem dX3_sumFrom_54 : decode cX3_sumFrom 54 = .ok (.iload 7, 2) := by decide +kernel
theorem dX3_sumFrom_56 : decode cX3_sumFrom 56 = .ok (.iload 8, 2) := by decide +kernel
theorem dX3_sumFrom_58 : decode cX3_sumFrom 58 = .ok (.isub, 1) := by decide +kernel
theorem dX3_sumFrom_59 : decode cX3_sumFrom 59 = .ok (.iand, 1) := by decide +kernel
theorem dX3_sumFrom_60 : decode cX3_sumFrom 60 = .ok (.invokestatic 29, 3) := by decide +kernel
theorem dX3_sumFrom_63 : decode cX3_sumFrom 63 = .ok (.istore 9, 2) := by decide +kernel
theorem dX3_sumFrom_65 : decode cX3_sumFrom 65 = .ok (.iload_n 0, 1) := by decide +kernel
theorem dX3_sumFrom_66 : decode cX3_sumFrom 66 = .ok (.iconst 1, 1) := by decide +kernel
theorem dX3_sumFrom_67 : decode cX3_sumFrom 67 = .ok (.iadd, 1) := by decide +kernel
theorem dX3_sumFrom_68 : decode cX3_sumFrom 68 = .ok (.iload_n 1, 1) := by decide +kernel
theorem dX3_sumFrom_69 : decode cX3_sumFrom 69 = .ok (.iload 7, 2) := by decide +kernel
theorem dX3_sumFrom_71 : decode cX3_sumFrom 71 = .ok (.isub, 1) := by decide +kernel
theorem dX3_sumFrom_72 : decode cX3_sumFrom 72 = .ok (.iload 8, 2) := by decide +kernel
theorem dX3_sumFrom_74 : decode cX3_sumFrom 74 = .ok (.iadd, 1) := by decide +kernel
theorem dX3_sumFrom_75 : decode cX3_sumFrom 75 = .ok (.aload_n 2, 1) := by decide +kernel
theorem dX3_sumFrom_76 : decode cX3_sumFrom 76 = .ok (.invokestatic 15, 3) := by decide +kernel
theorem dX3_sumFrom_79 : decode cX3_sumFrom 79 = .ok (.lstore 10, 2) := by decide +kernel
theorem dX3_sumFrom_81 : decode cX3_sumFrom 81 = .ok (.lload 4, 2) := by decide +kernel
theorem dX3_sumFrom_83 : decode cX3_sumFrom 83 = .ok (.iload 9, 2) := by decide +kernel
theorem dX3_sumFrom_85 : decode cX3_sumFrom 85 = .ok (.iconst 2, 1) := by decide +kernel
theorem dX3_sumFrom_86 : decode cX3_sumFrom 86 = .ok (.irem, 1) := by decide +kernel
theorem dX3_sumFrom_87 : decode cX3_sumFrom 87 = .ok (.ifCond .ne 8, 3) := by decide +kernel
theorem dX3_sumFrom_90 : decode cX3_sumFrom 90 = .ok (.lload 10, 2) := by decide +kernel
theorem dX3_sumFrom_92 : decode cX3_sumFrom 92 = .ok (.goto 6, 3) := by decide +kernel
theorem dX3_sumFrom_95 : decode cX3_sumFrom 95 = .ok (.lload 10, 2) := by decide +kernel
theorem dX3_sumFrom_97 : decode cX3_sumFrom 97 = .ok (.lneg, 1) := by decide +kernel
theorem dX3_sumFrom_98 : decode cX3_sumFrom 98 = .ok (.ladd, 1) := by decide +kernel
theorem dX3_sumFrom_99 : decode cX3_sumFrom 99 = .ok (.lstore 4, 2) := by decide +kernel
theorem dX3_sumFrom_101 : decode cX3_sumFrom 101 = .ok (.iinc 6 1, 3) := by decide +kernel
theorem dX3_sumFrom_104 : decode cX3_sumFrom 104 = .ok (.goto (-86), 3) := by decide +kernel
theorem dX3_sumFrom_107 : decode cX3_sumFrom 107 = .ok (.lload 4, 2) := by decide +kernel
theorem dX3_sumFrom_109 : decode cX3_sumFrom 109 = .ok (.lreturn, 1) := by decide +kernel
theorem dX4_init_0 : decode cX4_init 0 = .ok (.aload_n 0, 1) := by decide +kernel
theorem dX4_init_1 : decode cX4_init 1 = .ok (.invokespecial 3, 3) := by decide +kernel
theorem dX4_init_4 : decode cX4_init 4 = .ok (.aload_n 0, 1) := by decide +kernel
theorem dX4_init_5 : decode cX4_init 5 = .ok (.bipush 8, 2) := by decide +kernel
theorem dX4_init_7 : decode cX4_init 7 = .ok (.newarray .int, 2) := by decide +kernel
theorem dX4_init_9 : decode cX4_init 9 = .ok (.putfield 9, 3) := by decide +kernel
theorem dX4_init_12 : decode cX4_init 12 = .ok (.return_, 1) := by decide +kernel
theorem dX4_copyFrom_0 : decode cX4_copyFrom 0 = .ok (.aload_n 1, 1) := by decide +kernel
theorem dX4_copyFrom_1 : decode cX4_copyFrom 1 = .ok (.getfield 9, 3) := by decide +kernel
theorem dX4_copyFrom_4 : decode cX4_copyFrom 4 = .ok (.iconst 0, 1) := by decide +kernel
theorem dX4_copyFrom_5 : decode cX4_copyFrom 5 = .ok (.aload_n 0, 1) := by decide +kernel
theorem dX4_copyFrom_6 : decode cX4_copyFrom 6 = .ok (.getfield 9, 3) := by decide +kernel
theorem dX4_copyFrom_9 : decode cX4_copyFrom 9 = .ok (.iconst 0, 1) := by decide +kernel
theorem dX4_copyFrom_10 : decode cX4_copyFrom 10 = .ok (.bipush 8, 2) := by decide +kernel
theorem dX4_copyFrom_12 : decode cX4_copyFrom 12 = .ok (.invokestatic 15, 3) := by decide +kernel
theorem dX4_copyFrom_15 : decode cX4_copyFrom 15 = .ok (.return_, 1) := by decide +kernel
theorem dX4_unpack_0 : decode cX4_unpack 0 = .ok (.iconst 0, 1) := by decide +kernel
theorem dX4_unpack_1 : decode cX4_unpack 1 = .ok (.istore_n 3, 1) := by decide +kernel
theorem dX4_unpack_2 : decode cX4_unpack 2 = .ok (.iload_n 3, 1) := by decide +kernel
theorem dX4_unpack_3 : decode cX4_unpack 3 = .ok (.bipush 8, 2) := by decide +kernel
theorem dX4_unpack_5 : decode cX4_unpack 5 = .ok (.if_icmp .ge 26, 3) := by decide +kernel
theorem dX4_unpack_8 : decode cX4_unpack 8 = .ok (.aload_n 0, 1) := by decide +kernel
theorem dX4_unpack_9 : decode cX4_unpack 9 = .ok (.getfield 9, 3) := by decide +kernel
theorem dX4_unpack_12 : decode cX4_unpack 12 = .ok (.iload_n 3, 1) := by decide +kernel
theorem dX4_unpack_13 : decode cX4_unpack 13 = .ok (.lload_n 1, 1) := by decide +kernel
theorem dX4_unpack_14 : decode cX4_unpack 14 = .ok (.bipush 8, 2) := by decide +kernel
theorem dX4_unpack_16 : decode cX4_unpack 16 = .ok (.iload_n 3, 1) := by decide +kernel
theorem dX4_unpack_17 : decode cX4_unpack 17 = .ok (.imul, 1) := by decide +kernel
theorem dX4_unpack_18 : decode cX4_unpack 18 = .ok (.lushr, 1) := by decide +kernel
theorem dX4_unpack_19 : decode cX4_unpack 19 = .ok (.l2i, 1) := by decide +kernel
theorem dX4_unpack_20 : decode cX4_unpack 20 = .ok (.sipush 255, 3) := by decide +kernel
theorem dX4_unpack_23 : decode cX4_unpack 23 = .ok (.iand, 1) := by decide +kernel
theorem dX4_unpack_24 : decode cX4_unpack 24 = .ok (.iastore, 1) := by decide +kernel
theorem dX4_unpack_25 : decode cX4_unpack 25 = .ok (.iinc 3 1, 3) := by decide +kernel
theorem dX4_unpack_28 : decode cX4_unpack 28 = .ok (.goto (-26), 3) := by decide +kernel
theorem dX4_unpack_31 : decode cX4_unpack 31 = .ok (.return_, 1) := by decide +kernel
theorem dX4_isAllowed_0 : decode cX4_isAllowed 0 = .ok (.iconst 1, 1) := by decide +kernel
theorem dX4_isAllowed_1 : decode cX4_isAllowed 1 = .ok (.istore_n 1, 1) := by decide +kernel
theorem dX4_isAllowed_2 : decode cX4_isAllowed 2 = .ok (.iload_n 1, 1) := by decide +kernel
theorem dX4_isAllowed_3 : decode cX4_isAllowed 3 = .ok (.bipush 8, 2) := by decide +kernel
theorem dX4_isAllowed_5 : decode cX4_isAllowed 5 = .ok (.if_icmp .ge 28, 3) := by decide +kernel
theorem dX4_isAllowed_8 : decode cX4_isAllowed 8 = .ok (.aload_n 0, 1) := by decide +kernel
theorem dX4_isAllowed_9 : decode cX4_isAllowed 9 = .ok (.getfield 9, 3) := by decide +kernel
theorem dX4_isAllowed_12 : decode cX4_isAllowed 12 = .ok (.iload_n 1, 1) := by decide +kernel
theorem dX4_isAllowed_13 : decode cX4_isAllowed 13 = .ok (.iaload, 1) := by decide +kernel
theorem dX4_isAllowed_14 : decode cX4_isAllowed 14 = .ok (.aload_n 0, 1) := by decide +kernel
theorem dX4_isAllowed_15 : decode cX4_isAllowed 15 = .ok (.getfield 9, 3) := by decide +kernel
theorem dX4_isAllowed_18 : decode cX4_isAllowed 18 = .ok (.iload_n 1, 1) := by decide +kernel
theorem dX4_isAllowed_19 : decode cX4_isAllowed 19 = .ok (.iconst 1, 1) := by decide +kernel
theorem dX4_isAllowed_20 : decode cX4_isAllowed 20 = .ok (.isub, 1) := by decide +kernel
theorem dX4_isAllowed_21 : decode cX4_isAllowed 21 = .ok (.iaload, 1) := by decide +kernel
theorem dX4_isAllowed_22 : decode cX4_isAllowed 22 = .ok (.if_icmp .le 5, 3) := by decide +kernel
theorem dX4_isAllowed_25 : decode cX4_isAllowed 25 = .ok (.iconst 0, 1) := by decide +kernel
theorem dX4_isAllowed_26 : decode cX4_isAllowed 26 = .ok (.ireturn, 1) := by decide +kernel
theorem dX4_isAllowed_27 : decode cX4_isAllowed 27 = .ok (.iinc 1 1, 3) := by decide +kernel
theorem dX4_isAllowed_30 : decode cX4_isAllowed 30 = .ok (.goto (-28), 3) := by decide +kernel
theorem dX4_isAllowed_33 : decode cX4_isAllowed 33 = .ok (.aload_n 0, 1) := by decide +kernel
theorem dX4_isAllowed_34 : decode cX4_isAllowed 34 = .ok (.invokevirtual 21, 3) := by decide +kernel
theorem dX4_isAllowed_37 : decode cX4_isAllowed 37 = .ok (.bipush 24, 2) := by decide +kernel
theorem dX4_isAllowed_39 : decode cX4_isAllowed 39 = .ok (.if_icmp .gt 7, 3) := by decide +kernel
theorem dX4_isAllowed_42 : decode cX4_isAllowed 42 = .ok (.iconst 1, 1) := by decide +kernel
theorem dX4_isAllowed_43 : decode cX4_isAllowed 43 = .ok (.goto 4, 3) := by decide +kernel
theorem dX4_isAllowed_46 : decode cX4_isAllowed 46 = .ok (.iconst 0, 1) := by decide +kernel
theorem dX4_isAllowed_47 : decode cX4_isAllowed 47 = .ok (.ireturn, 1) := by decide +kernel
theorem dX4_rowLength_0 : decode cX4_rowLength 0 = .ok (.iload_n 1, 1) := by decide +kernel
theorem dX4_rowLength_1 : decode cX4_rowLength 1 = .ok (.ifCond .lt 9, 3) := by decide +kernel
theorem dX4_rowLength_4 : decode cX4_rowLength 4 = .ok (.iload_n 1, 1) := by decide +kernel
theorem dX4_rowLength_5 : decode cX4_rowLength 5 = .ok (.bipush 8, 2) := by decide +kernel
theorem dX4_rowLength_7 : decode cX4_rowLength 7 = .ok (.if_icmp .lt 7, 3) := by decide +kernel
theorem dX4_rowLength_10 : decode cX4_rowLength 10 = .ok (.iconst 0, 1) := by decide +kernel
theorem dX4_rowLength_11 : decode cX4_rowLength 11 = .ok (.goto 9, 3) := by decide +kernel
theorem dX4_rowLength_14 : decode cX4_rowLength 14 = .ok (.aload_n 0, 1) := by decide +kernel
theorem dX4_rowLength_15 : decode cX4_rowLength 15 = .ok (.getfield 9, 3) := by decide +kernel
theorem dX4_rowLength_18 : decode cX4_rowLength 18 = .ok (.iload_n 1, 1) := by decide +kernel
theorem dX4_rowLength_19 : decode cX4_rowLength 19 = .ok (.iaload, 1) := by decide +kernel
theorem dX4_rowLength_20 : decode cX4_rowLength 20 = .ok (.ireturn, 1) := by decide +kernel
theorem dX4_columnLength_0 : decode cX4_columnLength 0 = .ok (.iconst 0, 1) := by decide +kernel
theorem dX4_columnLength_1 : decode cX4_columnLength 1 = .ok (.istore_n 2, 1) := by decide +kernel
theorem dX4_columnLength_2 : decode cX4_columnLength 2 = .ok (.iconst 0, 1) := by decide +kernel
theorem dX4_columnLength_3 : decode cX4_columnLength 3 = .ok (.istore_n 3, 1) := by decide +kernel
theorem dX4_columnLength_4 : decode cX4_columnLength 4 = .ok (.iload_n 3, 1) := by decide +kernel
theorem dX4_columnLength_5 : decode cX4_columnLength 5 = .ok (.bipush 8, 2) := by decide +kernel
theorem dX4_columnLength_7 : decode cX4_columnLength 7 = .ok (.if_icmp .ge 22, 3) := by decide +kernel
theorem dX4_columnLength_10 : decode cX4_columnLength 10 = .ok (.aload_n 0, 1) := by decide +kernel
theorem dX4_columnLength_11 : decode cX4_columnLength 11 = .ok (.getfield 9, 3) := by decide +kernel
theorem dX4_columnLength_14 : decode cX4_columnLength 14 = .ok (.iload_n 3, 1) := by decide +kernel
theorem dX4_columnLength_15 : decode cX4_columnLength 15 = .ok (.iaload, 1) := by decide +kernel
theorem dX4_columnLength_16 : decode cX4_columnLength 16 = .ok (.iload_n 1, 1) := by decide +kernel
theorem dX4_columnLength_17 : decode cX4_columnLength 17 = .ok (.if_icmp .le 6, 3) := by decide +kernel
theorem dX4_columnLength_20 : decode cX4_columnLength 20 = .ok (.iinc 2 1, 3) := by decide +kernel
theorem dX4_columnLength_23 : decode cX4_columnLength 23 = .ok (.iinc 3 1, 3) := by decide +kernel
theorem dX4_columnLength_26 : decode cX4_columnLength 26 = .ok (.goto (-22), 3) := by decide +kernel
theorem dX4_columnLength_29 : decode cX4_columnLength 29 = .ok (.iload_n 2, 1) := by decide +kernel
theorem dX4_columnLength_30 : decode cX4_columnLength 30 = .ok (.ireturn, 1) := by decide +kernel
theorem dX4_countBoxes_0 : decode cX4_countBoxes 0 = .ok (.iconst 0, 1) := by decide +kernel
theorem dX4_countBoxes_1 : decode cX4_countBoxes 1 = .ok (.istore_n 1, 1) := by decide +kernel
theorem dX4_countBoxes_2 : decode cX4_countBoxes 2 = .ok (.iconst 0, 1) := by decide +kernel
theorem dX4_countBoxes_3 : decode cX4_countBoxes 3 = .ok (.istore_n 2, 1) := by decide +kernel
theorem dX4_countBoxes_4 : decode cX4_countBoxes 4 = .ok (.iload_n 2, 1) := by decide +kernel
theorem dX4_countBoxes_5 : decode cX4_countBoxes 5 = .ok (.bipush 8, 2) := by decide +kernel
theorem dX4_countBoxes_7 : decode cX4_countBoxes 7 = .ok (.if_icmp .ge 18, 3) := by decide +kernel
theorem dX4_countBoxes_10 : decode cX4_countBoxes 10 = .ok (.iload_n 1, 1) := by decide +kernel
theorem dX4_countBoxes_11 : decode cX4_countBoxes 11 = .ok (.aload_n 0, 1) := by decide +kernel
theorem dX4_countBoxes_12 : decode cX4_countBoxes 12 = .ok (.getfield 9, 3) := by decide +kernel
theorem dX4_countBoxes_15 : decode cX4_countBoxes 15 = .ok (.iload_n 2, 1) := by decide +kernel
theorem dX4_countBoxes_16 : decode cX4_countBoxes 16 = .ok (.iaload, 1) := by decide +kernel
theorem dX4_countBoxes_17 : decode cX4_countBoxes 17 = .ok (.iadd, 1) := by decide +kernel
theorem dX4_countBoxes_18 : decode cX4_countBoxes 18 = .ok (.istore_n 1, 1) := by decide +kernel
theorem dX4_countBoxes_19 : decode cX4_countBoxes 19 = .ok (.iinc 2 1, 3) := by decide +kernel
theorem dX4_countBoxes_22 : decode cX4_countBoxes 22 = .ok (.goto (-18), 3) := by decide +kernel
theorem dX4_countBoxes_25 : decode cX4_countBoxes 25 = .ok (.iload_n 1, 1) := by decide +kernel
theorem dX4_countBoxes_26 : decode cX4_countBoxes 26 = .ok (.ireturn, 1) := by decide +kernel
theorem dX4_contains_0 : decode cX4_contains 0 = .ok (.iconst 0, 1) := by decide +kernel
theorem dX4_contains_1 : decode cX4_contains 1 = .ok (.istore_n 2, 1) := by decide +kernel
theorem dX4_contains_2 : decode cX4_contains 2 = .ok (.iload_n 2, 1) := by decide +kernel
theorem dX4_contains_3 : decode cX4_contains 3 = .ok (.bipush 8, 2) := by decide +kernel
theorem dX4_contains_5 : decode cX4_contains 5 = .ok (.if_icmp .ge 26, 3) := by decide +kernel
theorem dX4_contains_8 : decode cX4_contains 8 = .ok (.aload_n 1, 1) := by decide +kernel
theorem dX4_contains_9 : decode cX4_contains 9 = .ok (.getfield 9, 3) := by decide +kernel
theorem dX4_contains_12 : decode cX4_contains 12 = .ok (.iload_n 2, 1) := by decide +kernel
theorem dX4_contains_13 : decode cX4_contains 13 = .ok (.iaload, 1) := by decide +kernel
theorem dX4_contains_14 : decode cX4_contains 14 = .ok (.aload_n 0, 1) := by decide +kernel
theorem dX4_contains_15 : decode cX4_contains 15 = .ok (.getfield 9, 3) := by decide +kernel
theorem dX4_contains_18 : decode cX4_contains 18 = .ok (.iload_n 2, 1) := by decide +kernel
theorem dX4_contains_19 : decode cX4_contains 19 = .ok (.iaload, 1) := by decide +kernel
theorem dX4_contains_20 : decode cX4_contains 20 = .ok (.if_icmp .le 5, 3) := by decide +kernel
theorem dX4_contains_23 : decode cX4_contains 23 = .ok (.iconst 0, 1) := by decide +kernel
theorem dX4_contains_24 : decode cX4_contains 24 = .ok (.ireturn, 1) := by decide +kernel
theorem dX4_contains_25 : decode cX4_contains 25 = .ok (.iinc 2 1, 3) := by decide +kernel
theorem dX4_contains_28 : decode cX4_contains 28 = .ok (.goto (-26), 3) := by decide +kernel
theorem dX4_contains_31 : decode cX4_contains 31 = .ok (.iconst 1, 1) := by decide +kernel
theorem dX4_contains_32 : decode cX4_contains 32 = .ok (.ireturn, 1) := by decide +kernel
theorem dX4_armOf_0 : decode cX4_armOf 0 = .ok (.aload_n 0, 1) := by decide +kernel
theorem dX4_armOf_1 : decode cX4_armOf 1 = .ok (.iload_n 1, 1) := by decide +kernel
theorem dX4_armOf_2 : decode cX4_armOf 2 = .ok (.invokevirtual 25, 3) := by decide +kernel
theorem dX4_armOf_5 : decode cX4_armOf 5 = .ok (.iconst 1, 1) := by decide +kernel
theorem dX4_armOf_6 : decode cX4_armOf 6 = .ok (.isub, 1) := by decide +kernel
theorem dX4_armOf_7 : decode cX4_armOf 7 = .ok (.iload_n 2, 1) := by decide +kernel
theorem dX4_armOf_8 : decode cX4_armOf 8 = .ok (.isub, 1) := by decide +kernel
theorem dX4_armOf_9 : decode cX4_armOf 9 = .ok (.ireturn, 1) := by decide +kernel
theorem dX4_hookOf_0 : decode cX4_hookOf 0 = .ok (.aload_n 0, 1) := by decide +kernel
theorem dX4_hookOf_1 : decode cX4_hookOf 1 = .ok (.iload_n 1, 1) := by decide +kernel
theorem dX4_hookOf_2 : decode cX4_hookOf 2 = .ok (.iload_n 2, 1) := by decide +kernel
theorem dX4_hookOf_3 : decode cX4_hookOf 3 = .ok (.invokevirtual 29, 3) := by decide +kernel
theorem dX4_hookOf_6 : decode cX4_hookOf 6 = .ok (.aload_n 0, 1) := by decide +kernel
theorem dX4_hookOf_7 : decode cX4_hookOf 7 = .ok (.iload_n 2, 1) := by decide +kernel
theorem dX4_hookOf_8 : decode cX4_hookOf 8 = .ok (.invokevirtual 33, 3) := by decide +kernel
theorem dX4_hookOf_11 : decode cX4_hookOf 11 = .ok (.iadd, 1) := by decide +kernel
theorem dX4_hookOf_12 : decode cX4_hookOf 12 = .ok (.iload_n 1, 1) := by decide +kernel
theorem dX4_hookOf_13 : decode cX4_hookOf 13 = .ok (.isub, 1) := by decide +kernel
theorem dX4_hookOf_14 : decode cX4_hookOf 14 = .ok (.ireturn, 1) := by decide +kernel
theorem dX4_endsColumn_0 : decode cX4_endsColumn 0 = .ok (.aload_n 0, 1) := by decide +kernel
theorem dX4_endsColumn_1 : decode cX4_endsColumn 1 = .ok (.iload_n 1, 1) := by decide +kernel
theorem dX4_endsColumn_2 : decode cX4_endsColumn 2 = .ok (.invokevirtual 25, 3) := by decide +kernel
theorem dX4_endsColumn_5 : decode cX4_endsColumn 5 = .ok (.aload_n 0, 1) := by decide +kernel
theorem dX4_endsColumn_6 : decode cX4_endsColumn 6 = .ok (.iload_n 1, 1) := by decide +kernel
theorem dX4_endsColumn_7 : decode cX4_endsColumn 7 = .ok (.iconst 1, 1) := by decide +kernel
theorem dX4_endsColumn_8 : decode cX4_endsColumn 8 = .ok (.iadd, 1) := by decide +kernel
theorem dX4_endsColumn_9 : decode cX4_endsColumn 9 = .ok (.invokevirtual 25, 3) := by decide +kernel
theorem dX4_endsColumn_12 : decode cX4_endsColumn 12 = .ok (.if_icmp .le 7, 3) := by decide +kernel
theorem dX4_endsColumn_15 : decode cX4_endsColumn 15 = .ok (.iconst 1, 1) := by decide +kernel
theorem dX4_endsColumn_16 : decode cX4_endsColumn 16 = .ok (.goto 4, 3) := by decide +kernel
theorem dX4_endsColumn_19 : decode cX4_endsColumn 19 = .ok (.iconst 0, 1) := by decide +kernel
theorem dX4_endsColumn_20 : decode cX4_endsColumn 20 = .ok (.ireturn, 1) := by decide +kernel
theorem dX4_lowestCorner_0 : decode cX4_lowestCorner 0 = .ok (.bipush 7, 2) := by decide +kernel
theorem dX4_lowestCorner_2 : decode cX4_lowestCorner 2 = .ok (.istore_n 1, 1) := by decide +kernel
theorem dX4_lowestCorner_3 : decode cX4_lowestCorner 3 = .ok (.iload_n 1, 1) := by decide +kernel
theorem dX4_lowestCorner_4 : decode cX4_lowestCorner 4 = .ok (.ifCond .le 18, 3) := by decide +kernel
theorem dX4_lowestCorner_7 : decode cX4_lowestCorner 7 = .ok (.aload_n 0, 1) := by decide +kernel
theorem dX4_lowestCorner_8 : decode cX4_lowestCorner 8 = .ok (.getfield 9, 3) := by decide +kernel
theorem dX4_lowestCorner_11 : decode cX4_lowestCorner 11 = .ok (.iload_n 1, 1) := by decide +kernel
theorem dX4_lowestCorner_12 : decode cX4_lowestCorner 12 = .ok (.iaload, 1) := by decide +kernel
theorem dX4_lowestCorner_13 : decode cX4_lowestCorner 13 = .ok (.ifCond .ne 9, 3) := by decide +kernel
theorem dX4_lowestCorner_16 : decode cX4_lowestCorner 16 = .ok (.iinc 1 (-1), 3) := by decide +kernel
theorem dX4_lowestCorner_19 : decode cX4_lowestCorner 19 = .ok (.goto (-16), 3) := by decide +kernel
theorem dX4_lowestCorner_22 : decode cX4_lowestCorner 22 = .ok (.iload_n 1, 1) := by decide +kernel
theorem dX4_lowestCorner_23 : decode cX4_lowestCorner 23 = .ok (.ireturn, 1) := by decide +kernel
theorem dX4_highestCorner_0 : decode cX4_highestCorner 0 = .ok (.iconst 0, 1) := by decide +kernel
theorem dX4_highestCorner_1 : decode cX4_highestCorner 1 = .ok (.istore_n 1, 1) := by decide +kernel
theorem dX4_highestCorner_2 : decode cX4_highestCorner 2 = .ok (.iload_n 1, 1) := by decide +kernel
theorem dX4_highestCorner_3 : decode cX4_highestCorner 3 = .ok (.bipush 7, 2) := by decide +kernel
theorem dX4_highestCorner_5 : decode cX4_highestCorner 5 = .ok (.if_icmp .ge 17, 3) := by decide +kernel
theorem dX4_highestCorner_8 : decode cX4_highestCorner 8 = .ok (.aload_n 0, 1) := by decide +kernel
theorem dX4_highestCorner_9 : decode cX4_highestCorner 9 = .ok (.iload_n 1, 1) := by decide +kernel
theorem dX4_highestCorner_10 : decode cX4_highestCorner 10 = .ok (.invokevirtual 36, 3) := by decide +kernel
theorem dX4_highestCorner_13 : decode cX4_highestCorner 13 = .ok (.ifCond .ne 9, 3) := by decide +kernel
theorem dX4_highestCorner_16 : decode cX4_highestCorner 16 = .ok (.iinc 1 1, 3) := by decide +kernel
theorem dX4_highestCorner_19 : decode cX4_highestCorner 19 = .ok (.goto (-17), 3) := by decide +kernel
theorem dX4_highestCorner_22 : decode cX4_highestCorner 22 = .ok (.iload_n 1, 1) := by decide +kernel
theorem dX4_highestCorner_23 : decode cX4_highestCorner 23 = .ok (.ireturn, 1) := by decide +kernel
theorem dX5_init_0 : decode cX5_init 0 = .ok (.aload_n 0, 1) := by decide +kernel
theorem dX5_init_1 : decode cX5_init 1 = .ok (.invokespecial 3, 3) := by decide +kernel
theorem dX5_init_4 : decode cX5_init 4 = .ok (.aload_n 0, 1) := by decide +kernel
theorem dX5_init_5 : decode cX5_init 5 = .ok (.sipush 625, 3) := by decide +kernel
theorem dX5_init_8 : decode cX5_init 8 = .ok (.newarray .int, 2) := by decide +kernel
theorem dX5_init_10 : decode cX5_init 10 = .ok (.putfield 11, 3) := by decide +kernel
theorem dX5_init_13 : decode cX5_init 13 = .ok (.iconst 0, 1) := by decide +kernel
theorem dX5_init_14 : decode cX5_init 14 = .ok (.istore_n 1, 1) := by decide +kernel
theorem dX5_init_15 : decode cX5_init 15 = .ok (.iload_n 1, 1) := by decide +kernel
theorem dX5_init_16 : decode cX5_init 16 = .ok (.bipush 25, 2) := by decide +kernel
theorem dX5_init_18 : decode cX5_init 18 = .ok (.if_icmp .ge 16, 3) := by decide +kernel
theorem dX5_init_21 : decode cX5_init 21 = .ok (.aload_n 0, 1) := by decide +kernel
theorem dX5_init_22 : decode cX5_init 22 = .ok (.getfield 11, 3) := by decide +kernel
theorem dX5_init_25 : decode cX5_init 25 = .ok (.iload_n 1, 1) := by decide +kernel
theorem dX5_init_26 : decode cX5_init 26 = .ok (.iconst 1, 1) := by decide +kernel
theorem dX5_init_27 : decode cX5_init 27 = .ok (.iastore, 1) := by decide +kernel
theorem dX5_init_28 : decode cX5_init 28 = .ok (.iinc 1 1, 3) := by decide +kernel
theorem dX5_init_31 : decode cX5_init 31 = .ok (.goto (-16), 3) := by decide +kernel
theorem dX5_init_34 : decode cX5_init 34 = .ok (.iconst 1, 1) := by decide +kernel
theorem dX5_init_35 : decode cX5_init 35 = .ok (.istore_n 1, 1) := by decide +kernel
theorem dX5_init_36 : decode cX5_init 36 = .ok (.iload_n 1, 1) := by decide +kernel
theorem dX5_init_37 : decode cX5_init 37 = .ok (.bipush 25, 2) := by decide +kernel
theorem dX5_init_39 : decode cX5_init 39 = .ok (.if_icmp .ge 72, 3) := by decide +kernel
theorem dX5_init_42 : decode cX5_init 42 = .ok (.iconst 1, 1) := by decide +kernel
theorem dX5_init_43 : decode cX5_init 43 = .ok (.istore_n 2, 1) := by decide +kernel
theorem dX5_init_44 : decode cX5_init 44 = .ok (.iload_n 2, 1) := by decide +kernel
theorem dX5_init_45 : decode cX5_init 45 = .ok (.bipush 25, 2) := by decide +kernel
theorem dX5_init_47 : decode cX5_init 47 = .ok (.if_icmp .ge 58, 3) := by decide +kernel
theorem dX5_init_50 : decode cX5_init 50 = .ok (.iload_n 1, 1) := by decide +kernel
theorem dX5_init_51 : decode cX5_init 51 = .ok (.iload_n 2, 1) := by decide +kernel
theorem dX5_init_52 : decode cX5_init 52 = .ok (.if_icmp .ge 7, 3) := by decide +kernel
theorem dX5_init_55 : decode cX5_init 55 = .ok (.iconst 0, 1) := by decide +kernel
theorem dX5_init_56 : decode cX5_init 56 = .ok (.goto 16, 3) := by decide +kernel
theorem dX5_init_59 : decode cX5_init 59 = .ok (.aload_n 0, 1) := by decide +kernel
theorem dX5_init_60 : decode cX5_init 60 = .ok (.getfield 11, 3) := by decide +kernel
theorem dX5_init_63 : decode cX5_init 63 = .ok (.iload_n 1, 1) := by decide +kernel
theorem dX5_init_64 : decode cX5_init 64 = .ok (.iload_n 2, 1) := by decide +kernel
theorem dX5_init_65 : decode cX5_init 65 = .ok (.isub, 1) := by decide +kernel
theorem dX5_init_66 : decode cX5_init 66 = .ok (.bipush 25, 2) := by decide +kernel
theorem dX5_init_68 : decode cX5_init 68 = .ok (.imul, 1) := by decide +kernel
theorem dX5_init_69 : decode cX5_init 69 = .ok (.iload_n 2, 1) := by decide +kernel
theorem dX5_init_70 : decode cX5_init 70 = .ok (.iadd, 1) := by decide +kernel
theorem dX5_init_71 : decode cX5_init 71 = .ok (.iaload, 1) := by decide +kernel
theorem dX5_init_72 : decode cX5_init 72 = .ok (.istore_n 3, 1) := by decide +kernel
theorem dX5_init_73 : decode cX5_init 73 = .ok (.aload_n 0, 1) := by decide +kernel
theorem dX5_init_74 : decode cX5_init 74 = .ok (.getfield 11, 3) := by decide +kernel
theorem dX5_init_77 : decode cX5_init 77 = .ok (.iload_n 1, 1) := by decide +kernel
theorem dX5_init_78 : decode cX5_init 78 = .ok (.bipush 25, 2) := by decide +kernel
theorem dX5_init_80 : decode cX5_init 80 = .ok (.imul, 1) := by decide +kernel
theorem dX5_init_81 : decode cX5_init 81 = .ok (.iload_n 2, 1) := by decide +kernel
theorem dX5_init_82 : decode cX5_init 82 = .ok (.iadd, 1) := by decide +kernel
theorem dX5_init_83 : decode cX5_init 83 = .ok (.aload_n 0, 1) := by decide +kernel
theorem dX5_init_84 : decode cX5_init 84 = .ok (.getfield 11, 3) := by decide +kernel
theorem dX5_init_87 : decode cX5_init 87 = .ok (.iload_n 1, 1) := by decide +kernel
theorem dX5_init_88 : decode cX5_init 88 = .ok (.bipush 25, 2) := by decide +kernel
theorem dX5_init_90 : decode cX5_init 90 = .ok (.imul, 1) := by decide +kernel
theorem dX5_init_91 : decode cX5_init 91 = .ok (.iload_n 2, 1) := by decide +kernel
theorem dX5_init_92 : decode cX5_init 92 = .ok (.iadd, 1) := by decide +kernel
theorem dX5_init_93 : decode cX5_init 93 = .ok (.iconst 1, 1) := by decide +kernel
theorem dX5_init_94 : decode cX5_init 94 = .ok (.isub, 1) := by decide +kernel
theorem dX5_init_95 : decode cX5_init 95 = .ok (.iaload, 1) := by decide +kernel
theorem dX5_init_96 : decode cX5_init 96 = .ok (.iload_n 3, 1) := by decide +kernel
theorem dX5_init_97 : decode cX5_init 97 = .ok (.iadd, 1) := by decide +kernel
theorem dX5_init_98 : decode cX5_init 98 = .ok (.iastore, 1) := by decide +kernel
theorem dX5_init_99 : decode cX5_init 99 = .ok (.iinc 2 1, 3) := by decide +kernel
theorem dX5_init_102 : decode cX5_init 102 = .ok (.goto (-58), 3) := by decide +kernel
theorem dX5_init_105 : decode cX5_init 105 = .ok (.iinc 1 1, 3) := by decide +kernel
theorem dX5_init_108 : decode cX5_init 108 = .ok (.goto (-72), 3) := by decide +kernel
theorem dX5_init_111 : decode cX5_init 111 = .ok (.return_, 1) := by decide +kernel
theorem dX5_countOf_0 : decode cX5_countOf 0 = .ok (.aload_n 0, 1) := by decide +kernel
theorem dX5_countOf_1 : decode cX5_countOf 1 = .ok (.getfield 11, 3) := by decide +kernel
theorem dX5_countOf_4 : decode cX5_countOf 4 = .ok (.iload_n 1, 1) := by decide +kernel
theorem dX5_countOf_5 : decode cX5_countOf 5 = .ok (.bipush 25, 2) := by decide +kernel
theorem dX5_countOf_7 : decode cX5_countOf 7 = .ok (.imul, 1) := by decide +kernel
theorem dX5_countOf_8 : decode cX5_countOf 8 = .ok (.iload_n 2, 1) := by decide +kernel
theorem dX5_countOf_9 : decode cX5_countOf 9 = .ok (.iadd, 1) := by decide +kernel
theorem dX5_countOf_10 : decode cX5_countOf 10 = .ok (.iaload, 1) := by decide +kernel
theorem dX5_countOf_11 : decode cX5_countOf 11 = .ok (.ireturn, 1) := by decide +kernel
theorem dX5_countBefore_0 : decode cX5_countBefore 0 = .ok (.iconst 0, 1) := by decide +kernel
theorem dX5_countBefore_1 : decode cX5_countBefore 1 = .ok (.istore_n 2, 1) := by decide +kernel
theorem dX5_countBefore_2 : decode cX5_countBefore 2 = .ok (.aload_n 1, 1) := by decide +kernel
theorem dX5_countBefore_3 : decode cX5_countBefore 3 = .ok (.invokevirtual 15, 3) := by decide +kernel
theorem dX5_countBefore_6 : decode cX5_countBefore 6 = .ok (.istore_n 3, 1) := by decide +kernel
theorem dX5_countBefore_7 : decode cX5_countBefore 7 = .ok (.iload_n 3, 1) := by decide +kernel
theorem dX5_countBefore_8 : decode cX5_countBefore 8 = .ok (.istore 4, 2) := by decide +kernel
theorem dX5_countBefore_10 : decode cX5_countBefore 10 = .ok (.iconst 0, 1) := by decide +kernel
theorem dX5_countBefore_11 : decode cX5_countBefore 11 = .ok (.istore 5, 2) := by decide +kernel
theorem dX5_countBefore_13 : decode cX5_countBefore 13 = .ok (.iload 5, 2) := by decide +kernel
theorem dX5_countBefore_15 : decode cX5_countBefore 15 = .ok (.bipush 8, 2) := by decide +kernel
theorem dX5_countBefore_17 : decode cX5_countBefore 17 = .ok (.if_icmp .ge 45, 3) := by decide +kernel
theorem dX5_countBefore_20 : decode cX5_countBefore 20 = .ok (.aload_n 1, 1) := by decide +kernel
theorem dX5_countBefore_21 : decode cX5_countBefore 21 = .ok (.getfield 21, 3) := by decide +kernel
theorem dX5_countBefore_24 : decode cX5_countBefore 24 = .ok (.iload 5, 2) := by decide +kernel
theorem dX5_countBefore_26 : decode cX5_countBefore 26 = .ok (.iaload, 1) := by decide +kernel
theorem dX5_countBefore_27 : decode cX5_countBefore 27 = .ok (.istore 6, 2) := by decide +kernel
theorem dX5_countBefore_29 : decode cX5_countBefore 29 = .ok (.iload_n 2, 1) := by decide +kernel
theorem dX5_countBefore_30 : decode cX5_countBefore 30 = .ok (.aload_n 0, 1) := by decide +kernel
theorem dX5_countBefore_31 : decode cX5_countBefore 31 = .ok (.iload_n 3, 1) := by decide +kernel
theorem dX5_countBefore_32 : decode cX5_countBefore 32 = .ok (.iload 4, 2) := by decide +kernel
theorem dX5_countBefore_34 : decode cX5_countBefore 34 = .ok (.invokevirtual 24, 3) := by decide +kernel
theorem dX5_countBefore_37 : decode cX5_countBefore 37 = .ok (.aload_n 0, 1) := by decide +kernel
theorem dX5_countBefore_38 : decode cX5_countBefore 38 = .ok (.iload_n 3, 1) := by decide +kernel
theorem dX5_countBefore_39 : decode cX5_countBefore 39 = .ok (.iload 6, 2) := by decide +kernel
theorem dX5_countBefore_41 : decode cX5_countBefore 41 = .ok (.invokevirtual 24, 3) := by decide +kernel
theorem dX5_countBefore_44 : decode cX5_countBefore 44 = .ok (.isub, 1) := by decide +kernel
theorem dX5_countBefore_45 : decode cX5_countBefore 45 = .ok (.iadd, 1) := by decide +kernel
theorem dX5_countBefore_46 : decode cX5_countBefore 46 = .ok (.istore_n 2, 1) := by decide +kernel
theorem dX5_countBefore_47 : decode cX5_countBefore 47 = .ok (.iload_n 3, 1) := by decide +kernel
theorem dX5_countBefore_48 : decode cX5_countBefore 48 = .ok (.iload 6, 2) := by decide +kernel
theorem dX5_countBefore_50 : decode cX5_countBefore 50 = .ok (.isub, 1) := by decide +kernel
theorem dX5_countBefore_51 : decode cX5_countBefore 51 = .ok (.istore_n 3, 1) := by decide +kernel
theorem dX5_countBefore_52 : decode cX5_countBefore 52 = .ok (.iload 6, 2) := by decide +kernel
theorem dX5_countBefore_54 : decode cX5_countBefore 54 = .ok (.istore 4, 2) := by decide +kernel
theorem dX5_countBefore_56 : decode cX5_countBefore 56 = .ok (.iinc 5 1, 3) := by decide +kernel
theorem dX5_countBefore_59 : decode cX5_countBefore 59 = .ok (.goto (-46), 3) := by decide +kernel
theorem dX5_countBefore_62 : decode cX5_countBefore 62 = .ok (.iload_n 2, 1) := by decide +kernel
theorem dX5_countBefore_63 : decode cX5_countBefore 63 = .ok (.ireturn, 1) := by decide +kernel
theorem dX5_find_0 : decode cX5_find 0 = .ok (.iload_n 1, 1) := by decide +kernel
theorem dX5_find_1 : decode cX5_find 1 = .ok (.istore 4, 2) := by decide +kernel
theorem dX5_find_3 : decode cX5_find 3 = .ok (.iload_n 2, 1) := by decide +kernel
theorem dX5_find_4 : decode cX5_find 4 = .ok (.istore 5, 2) := by decide +kernel
theorem dX5_find_6 : decode cX5_find 6 = .ok (.iload_n 1, 1) := by decide +kernel
theorem dX5_find_7 : decode cX5_find 7 = .ok (.istore 6, 2) := by decide +kernel
theorem dX5_find_9 : decode cX5_find 9 = .ok (.iconst 0, 1) := by decide +kernel
theorem dX5_find_10 : decode cX5_find 10 = .ok (.istore 7, 2) := by decide +kernel
theorem dX5_find_12 : decode cX5_find 12 = .ok (.iload 7, 2) := by decide +kernel
theorem dX5_find_14 : decode cX5_find 14 = .ok (.bipush 8, 2) := by decide +kernel
theorem dX5_find_16 : decode cX5_find 16 = .ok (.if_icmp .ge 81, 3) := by decide +kernel
theorem dX5_find_19 : decode cX5_find 19 = .ok (.iload 6, 2) := by decide +kernel
theorem dX5_find_21 : decode cX5_find 21 = .ok (.iload 4, 2) := by decide +kernel
theorem dX5_find_23 : decode cX5_find 23 = .ok (.invokestatic 28, 3) := by decide +kernel
theorem dX5_find_26 : decode cX5_find 26 = .ok (.istore 8, 2) := by decide +kernel
theorem dX5_find_28 : decode cX5_find 28 = .ok (.iload 8, 2) := by decide +kernel
theorem dX5_find_30 : decode cX5_find 30 = .ok (.ifCond .le 41, 3) := by decide +kernel
theorem dX5_find_33 : decode cX5_find 33 = .ok (.iload 5, 2) := by decide +kernel
theorem dX5_find_35 : decode cX5_find 35 = .ok (.aload_n 0, 1) := by decide +kernel
theorem dX5_find_36 : decode cX5_find 36 = .ok (.iload 4, 2) := by decide +kernel
theorem dX5_find_38 : decode cX5_find 38 = .ok (.iload 8, 2) := by decide +kernel
theorem dX5_find_40 : decode cX5_find 40 = .ok (.isub, 1) := by decide +kernel
theorem dX5_find_41 : decode cX5_find 41 = .ok (.iload 8, 2) := by decide +kernel
theorem dX5_find_43 : decode cX5_find 43 = .ok (.invokevirtual 24, 3) := by decide +kernel
theorem dX5_find_46 : decode cX5_find 46 = .ok (.if_icmp .lt 25, 3) := by decide +kernel
theorem dX5_find_49 : decode cX5_find 49 = .ok (.iload 5, 2) := by decide +kernel
theorem dX5_find_51 : decode cX5_find 51 = .ok (.aload_n 0, 1) := by decide +kernel
theorem dX5_find_52 : decode cX5_find 52 = .ok (.iload 4, 2) := by decide +kernel
theorem dX5_find_54 : decode cX5_find 54 = .ok (.iload 8, 2) := by decide +kernel
theorem dX5_find_56 : decode cX5_find 56 = .ok (.isub, 1) := by decide +kernel
theorem dX5_find_57 : decode cX5_find 57 = .ok (.iload 8, 2) := by decide +kernel
theorem dX5_find_59 : decode cX5_find 59 = .ok (.invokevirtual 24, 3) := by decide +kernel
theorem dX5_find_62 : decode cX5_find 62 = .ok (.isub, 1) := by decide +kernel
theorem dX5_find_63 : decode cX5_find 63 = .ok (.istore 5, 2) := by decide +kernel
theorem dX5_find_65 : decode cX5_find 65 = .ok (.iinc 8 (-1), 3) := by decide +kernel
theorem dX5_find_68 : decode cX5_find 68 = .ok (.goto (-40), 3) := by decide +kernel
theorem dX5_find_71 : decode cX5_find 71 = .ok (.aload_n 3, 1) := by decide +kernel
theorem dX5_find_72 : decode cX5_find 72 = .ok (.getfield 21, 3) := by decide +kernel
theorem dX5_find_75 : decode cX5_find 75 = .ok (.iload 7, 2) := by decide +kernel
theorem dX5_find_77 : decode cX5_find 77 = .ok (.iload 8, 2) := by decide +kernel
theorem dX5_find_79 : decode cX5_find 79 = .ok (.iastore, 1) := by decide +kernel
theorem dX5_find_80 : decode cX5_find 80 = .ok (.iload 4, 2) := by decide +kernel
theorem dX5_find_82 : decode cX5_find 82 = .ok (.iload 8, 2) := by decide +kernel
theorem dX5_find_84 : decode cX5_find 84 = .ok (.isub, 1) := by decide +kernel
theorem dX5_find_85 : decode cX5_find 85 = .ok (.istore 4, 2) := by decide +kernel
theorem dX5_find_87 : decode cX5_find 87 = .ok (.iload 8, 2) := by decide +kernel
theorem dX5_find_89 : decode cX5_find 89 = .ok (.istore 6, 2) := by decide +kernel
theorem dX5_find_91 : decode cX5_find 91 = .ok (.iinc 7 1, 3) := by decide +kernel
theorem dX5_find_94 : decode cX5_find 94 = .ok (.goto (-82), 3) := by decide +kernel
theorem dX5_find_97 : decode cX5_find 97 = .ok (.iload 4, 2) := by decide +kernel
theorem dX5_find_99 : decode cX5_find 99 = .ok (.ifCond .ne 7, 3) := by decide +kernel
theorem dX5_find_102 : decode cX5_find 102 = .ok (.iconst 1, 1) := by decide +kernel
theorem dX5_find_103 : decode cX5_find 103 = .ok (.goto 4, 3) := by decide +kernel
theorem dX5_find_106 : decode cX5_find 106 = .ok (.iconst 0, 1) := by decide +kernel
theorem dX5_find_107 : decode cX5_find 107 = .ok (.ireturn, 1) := by decide +kernel
theorem dX6_init_0 : decode cX6_init 0 = .ok (.aload_n 0, 1) := by decide +kernel
theorem dX6_init_1 : decode cX6_init 1 = .ok (.invokespecial 3, 3) := by decide +kernel
theorem dX6_init_4 : decode cX6_init 4 = .ok (.aload_n 0, 1) := by decide +kernel
theorem dX6_init_5 : decode cX6_init 5 = .ok (.bipush 25, 2) := by decide +kernel
theorem dX6_init_7 : decode cX6_init 7 = .ok (.newarray .int, 2) := by decide +kernel
theorem dX6_init_9 : decode cX6_init 9 = .ok (.putfield 9, 3) := by decide +kernel
theorem dX6_init_12 : decode cX6_init 12 = .ok (.return_, 1) := by decide +kernel
theorem dX6_count_0 : decode cX6_count 0 = .ok (.aload_n 0, 1) := by decide +kernel
theorem dX6_count_1 : decode cX6_count 1 = .ok (.getfield 9, 3) := by decide +kernel
theorem dX6_count_4 : decode cX6_count 4 = .ok (.iconst 0, 1) := by decide +kernel
theorem dX6_count_5 : decode cX6_count 5 = .ok (.invokestatic 15, 3) := by decide +kernel
theorem dX6_count_8 : decode cX6_count 8 = .ok (.aload_n 1, 1) := by decide +kernel
theorem dX6_count_9 : decode cX6_count 9 = .ok (.invokevirtual 21, 3) := by decide +kernel
theorem dX6_count_12 : decode cX6_count 12 = .ok (.istore_n 2, 1) := by decide +kernel
theorem dX6_count_13 : decode cX6_count 13 = .ok (.iload_n 2, 1) := by decide +kernel
theorem dX6_count_14 : decode cX6_count 14 = .ok (.ifCond .le 19, 3) := by decide +kernel
theorem dX6_count_17 : decode cX6_count 17 = .ok (.aload_n 0, 1) := by decide +kernel
theorem dX6_count_18 : decode cX6_count 18 = .ok (.getfield 9, 3) := by decide +kernel
theorem dX6_count_21 : decode cX6_count 21 = .ok (.iload_n 2, 1) := by decide +kernel
theorem dX6_count_22 : decode cX6_count 22 = .ok (.dup2, 1) := by decide +kernel
theorem dX6_count_23 : decode cX6_count 23 = .ok (.iaload, 1) := by decide +kernel
theorem dX6_count_24 : decode cX6_count 24 = .ok (.iconst 1, 1) := by decide +kernel
theorem dX6_count_25 : decode cX6_count 25 = .ok (.iadd, 1) := by decide +kernel
theorem dX6_count_26 : decode cX6_count 26 = .ok (.iastore, 1) := by decide +kernel
theorem dX6_count_27 : decode cX6_count 27 = .ok (.iinc 2 (-1), 3) := by decide +kernel
theorem dX6_count_30 : decode cX6_count 30 = .ok (.goto (-17), 3) := by decide +kernel
theorem dX6_count_33 : decode cX6_count 33 = .ok (.iconst 0, 1) := by decide +kernel
theorem dX6_count_34 : decode cX6_count 34 = .ok (.istore_n 2, 1) := by decide +kernel
theorem dX6_count_35 : decode cX6_count 35 = .ok (.iload_n 2, 1) := by decide +kernel
theorem dX6_count_36 : decode cX6_count 36 = .ok (.bipush 8, 2) := by decide +kernel
theorem dX6_count_38 : decode cX6_count 38 = .ok (.if_icmp .ge 42, 3) := by decide +kernel
theorem dX6_count_41 : decode cX6_count 41 = .ok (.iconst 0, 1) := by decide +kernel
theorem dX6_count_42 : decode cX6_count 42 = .ok (.istore_n 3, 1) := by decide +kernel
theorem dX6_count_43 : decode cX6_count 43 = .ok (.iload_n 3, 1) := by decide +kernel
theorem dX6_count_44 : decode cX6_count 44 = .ok (.aload_n 1, 1) := by decide +kernel
theorem dX6_count_45 : decode cX6_count 45 = .ok (.getfield 27, 3) := by decide +kernel
theorem dX6_count_48 : decode cX6_count 48 = .ok (.iload_n 2, 1) := by decide +kernel
theorem dX6_count_49 : decode cX6_count 49 = .ok (.iaload, 1) := by decide +kernel
theorem dX6_count_50 : decode cX6_count 50 = .ok (.if_icmp .ge 24, 3) := by decide +kernel
theorem dX6_count_53 : decode cX6_count 53 = .ok (.aload_n 0, 1) := by decide +kernel
theorem dX6_count_54 : decode cX6_count 54 = .ok (.getfield 9, 3) := by decide +kernel
theorem dX6_count_57 : decode cX6_count 57 = .ok (.aload_n 1, 1) := by decide +kernel
theorem dX6_count_58 : decode cX6_count 58 = .ok (.iload_n 2, 1) := by decide +kernel
theorem dX6_count_59 : decode cX6_count 59 = .ok (.iload_n 3, 1) := by decide +kernel
theorem dX6_count_60 : decode cX6_count 60 = .ok (.invokevirtual 30, 3) := by decide +kernel
theorem dX6_count_63 : decode cX6_count 63 = .ok (.dup2, 1) := by decide +kernel
theorem dX6_count_64 : decode cX6_count 64 = .ok (.iaload, 1) := by decide +kernel
theorem dX6_count_65 : decode cX6_count 65 = .ok (.iconst 1, 1) := by decide +kernel
theorem dX6_count_66 : decode cX6_count 66 = .ok (.isub, 1) := by decide +kernel
theorem dX6_count_67 : decode cX6_count 67 = .ok (.iastore, 1) := by decide +kernel
theorem dX6_count_68 : decode cX6_count 68 = .ok (.iinc 3 1, 3) := by decide +kernel
theorem dX6_count_71 : decode cX6_count 71 = .ok (.goto (-28), 3) := by decide +kernel
theorem dX6_count_74 : decode cX6_count 74 = .ok (.iinc 2 1, 3) := by decide +kernel
theorem dX6_count_77 : decode cX6_count 77 = .ok (.goto (-42), 3) := by decide +kernel
theorem dX6_count_80 : decode cX6_count 80 = .ok (.bipush 24, 2) := by decide +kernel
theorem dX6_count_82 : decode cX6_count 82 = .ok (.istore_n 2, 1) := by decide +kernel
theorem dX6_count_83 : decode cX6_count 83 = .ok (.iload_n 2, 1) := by decide +kernel
theorem dX6_count_84 : decode cX6_count 84 = .ok (.iconst 1, 1) := by decide +kernel
theorem dX6_count_85 : decode cX6_count 85 = .ok (.if_icmp .le 14, 3) := by decide +kernel
theorem dX6_count_88 : decode cX6_count 88 = .ok (.aload_n 0, 1) := by decide +kernel
theorem dX6_count_89 : decode cX6_count 89 = .ok (.iload_n 2, 1) := by decide +kernel
theorem dX6_count_90 : decode cX6_count 90 = .ok (.invokevirtual 34, 3) := by decide +kernel
theorem dX6_count_93 : decode cX6_count 93 = .ok (.iinc 2 (-1), 3) := by decide +kernel
theorem dX6_count_96 : decode cX6_count 96 = .ok (.goto (-13), 3) := by decide +kernel
theorem dX6_count_99 : decode cX6_count 99 = .ok (.aload_n 0, 1) := by decide +kernel
theorem dX6_count_100 : decode cX6_count 100 = .ok (.invokevirtual 38, 3) := by decide +kernel
theorem dX6_count_103 : decode cX6_count 103 = .ok (.lreturn, 1) := by decide +kernel
theorem dX6_splitIntoFactors_0 : decode cX6_splitIntoFactors 0 = .ok (.iconst 2, 1) := by decide +kernel
theorem dX6_splitIntoFactors_1 : decode cX6_splitIntoFactors 1 = .ok (.istore_n 2, 1) := by decide +kernel
theorem dX6_splitIntoFactors_2 : decode cX6_splitIntoFactors 2 = .ok (.iload_n 2, 1) := by decide +kernel
theorem dX6_splitIntoFactors_3 : decode cX6_splitIntoFactors 3 = .ok (.iload_n 2, 1) := by decide +kernel
theorem dX6_splitIntoFactors_4 : decode cX6_splitIntoFactors 4 = .ok (.imul, 1) := by decide +kernel
theorem dX6_splitIntoFactors_5 : decode cX6_splitIntoFactors 5 = .ok (.iload_n 1, 1) := by decide +kernel
theorem dX6_splitIntoFactors_6 : decode cX6_splitIntoFactors 6 = .ok (.if_icmp .gt 55, 3) := by decide +kernel
theorem dX6_splitIntoFactors_9 : decode cX6_splitIntoFactors 9 = .ok (.iload_n 1, 1) := by decide +kernel
theorem dX6_splitIntoFactors_10 : decode cX6_splitIntoFactors 10 = .ok (.iload_n 2, 1) := by decide +kernel
theorem dX6_splitIntoFactors_11 : decode cX6_splitIntoFactors 11 = .ok (.irem, 1) := by decide +kernel
theorem dX6_splitIntoFactors_12 : decode cX6_splitIntoFactors 12 = .ok (.ifCond .ne 43, 3) := by decide +kernel
theorem dX6_splitIntoFactors_15 : decode cX6_splitIntoFactors 15 = .ok (.aload_n 0, 1) := by decide +kernel
theorem dX6_splitIntoFactors_16 : decode cX6_splitIntoFactors 16 = .ok (.getfield 9, 3) := by decide +kernel
theorem dX6_splitIntoFactors_19 : decode cX6_splitIntoFactors 19 = .ok (.iload_n 2, 1) := by decide +kernel
theorem dX6_splitIntoFactors_20 : decode cX6_splitIntoFactors 20 = .ok (.dup2, 1) := by decide +kernel
theorem dX6_splitIntoFactors_21 : decode cX6_splitIntoFactors 21 = .ok (.iaload, 1) := by decide +kernel
theorem dX6_splitIntoFactors_22 : decode cX6_splitIntoFactors 22 = .ok (.aload_n 0, 1) := by decide +kernel
theorem dX6_splitIntoFactors_23 : decode cX6_splitIntoFactors 23 = .ok (.getfield 9, 3) := by decide +kernel
theorem dX6_splitIntoFactors_26 : decode cX6_splitIntoFactors 26 = .ok (.iload_n 1, 1) := by decide +kernel
theorem dX6_splitIntoFactors_27 : decode cX6_splitIntoFactors 27 = .ok (.iaload, 1) := by decide +kernel
theorem dX6_splitIntoFactors_28 : decode cX6_splitIntoFactors 28 = .ok (.iadd, 1) := by decide +kernel
theorem dX6_splitIntoFactors_29 : decode cX6_splitIntoFactors 29 = .ok (.iastore, 1) := by decide +kernel
theorem dX6_splitIntoFactors_30 : decode cX6_splitIntoFactors 30 = .ok (.aload_n 0, 1) := by decide +kernel
theorem dX6_splitIntoFactors_31 : decode cX6_splitIntoFactors 31 = .ok (.getfield 9, 3) := by decide +kernel
theorem dX6_splitIntoFactors_34 : decode cX6_splitIntoFactors 34 = .ok (.iload_n 1, 1) := by decide +kernel
theorem dX6_splitIntoFactors_35 : decode cX6_splitIntoFactors 35 = .ok (.iload_n 2, 1) := by decide +kernel
theorem dX6_splitIntoFactors_36 : decode cX6_splitIntoFactors 36 = .ok (.idiv, 1) := by decide +kernel
theorem dX6_splitIntoFactors_37 : decode cX6_splitIntoFactors 37 = .ok (.dup2, 1) := by decide +kernel
theorem dX6_splitIntoFactors_38 : decode cX6_splitIntoFactors 38 = .ok (.iaload, 1) := by decide +kernel
theorem dX6_splitIntoFactors_39 : decode cX6_splitIntoFactors 39 = .ok (.aload_n 0, 1) := by decide +kernel
theorem dX6_splitIntoFactors_40 : decode cX6_splitIntoFactors 40 = .ok (.getfield 9, 3) := by decide +kernel
theorem dX6_splitIntoFactors_43 : decode cX6_splitIntoFactors 43 = .ok (.iload_n 1, 1) := by decide +kernel
theorem dX6_splitIntoFactors_44 : decode cX6_splitIntoFactors 44 = .ok (.iaload, 1) := by decide +kernel
theorem dX6_splitIntoFactors_45 : decode cX6_splitIntoFactors 45 = .ok (.iadd, 1) := by decide +kernel
theorem dX6_splitIntoFactors_46 : decode cX6_splitIntoFactors 46 = .ok (.iastore, 1) := by decide +kernel
theorem dX6_splitIntoFactors_47 : decode cX6_splitIntoFactors 47 = .ok (.aload_n 0, 1) := by decide +kernel
theorem dX6_splitIntoFactors_48 : decode cX6_splitIntoFactors 48 = .ok (.getfield 9, 3) := by decide +kernel
theorem dX6_splitIntoFactors_51 : decode cX6_splitIntoFactors 51 = .ok (.iload_n 1, 1) := by decide +kernel
theorem dX6_splitIntoFactors_52 : decode cX6_splitIntoFactors 52 = .ok (.iconst 0, 1) := by decide +kernel
theorem dX6_splitIntoFactors_53 : decode cX6_splitIntoFactors 53 = .ok (.iastore, 1) := by decide +kernel
theorem dX6_splitIntoFactors_54 : decode cX6_splitIntoFactors 54 = .ok (.return_, 1) := by decide +kernel
theorem dX6_splitIntoFactors_55 : decode cX6_splitIntoFactors 55 = .ok (.iinc 2 1, 3) := by decide +kernel
theorem dX6_splitIntoFactors_58 : decode cX6_splitIntoFactors 58 = .ok (.goto (-56), 3) := by decide +kernel
theorem dX6_splitIntoFactors_61 : decode cX6_splitIntoFactors 61 = .ok (.return_, 1) := by decide +kernel
theorem dX6_multiply_0 : decode cX6_multiply 0 = .ok (.lconst 1, 1) := by decide +kernel
theorem dX6_multiply_1 : decode cX6_multiply 1 = .ok (.lstore_n 1, 1) := by decide +kernel
theorem dX6_multiply_2 : decode cX6_multiply 2 = .ok (.iconst 2, 1) := by decide +kernel
theorem dX6_multiply_3 : decode cX6_multiply 3 = .ok (.istore_n 3, 1) := by decide +kernel
theorem dX6_multiply_4 : decode cX6_multiply 4 = .ok (.iload_n 3, 1) := by decide +kernel
theorem dX6_multiply_5 : decode cX6_multiply 5 = .ok (.bipush 24, 2) := by decide +kernel
theorem dX6_multiply_7 : decode cX6_multiply 7 = .ok (.if_icmp .gt 34, 3) := by decide +kernel
theorem dX6_multiply_10 : decode cX6_multiply 10 = .ok (.iconst 0, 1) := by decide +kernel
theorem dX6_multiply_11 : decode cX6_multiply 11 = .ok (.istore 4, 2) := by decide +kernel
theorem dX6_multiply_13 : decode cX6_multiply 13 = .ok (.iload 4, 2) := by decide +kernel
theorem dX6_multiply_15 : decode cX6_multiply 15 = .ok (.aload_n 0, 1) := by decide +kernel
theorem dX6_multiply_16 : decode cX6_multiply 16 = .ok (.getfield 9, 3) := by decide +kernel
theorem dX6_multiply_19 : decode cX6_multiply 19 = .ok (.iload_n 3, 1) := by decide +kernel
theorem dX6_multiply_20 : decode cX6_multiply 20 = .ok (.iaload, 1) := by decide +kernel
theorem dX6_multiply_21 : decode cX6_multiply 21 = .ok (.if_icmp .ge 14, 3) := by decide +kernel
theorem dX6_multiply_24 : decode cX6_multiply 24 = .ok (.lload_n 1, 1) := by decide +kernel
theorem dX6_multiply_25 : decode cX6_multiply 25 = .ok (.iload_n 3, 1) := by decide +kernel
theorem dX6_multiply_26 : decode cX6_multiply 26 = .ok (.i2l, 1) := by decide +kernel
theorem dX6_multiply_27 : decode cX6_multiply 27 = .ok (.lmul, 1) := by decide +kernel
theorem dX6_multiply_28 : decode cX6_multiply 28 = .ok (.lstore_n 1, 1) := by decide +kernel
theorem dX6_multiply_29 : decode cX6_multiply 29 = .ok (.iinc 4 1, 3) := by decide +kernel
theorem dX6_multiply_32 : decode cX6_multiply 32 = .ok (.goto (-19), 3) := by decide +kernel
theorem dX6_multiply_35 : decode cX6_multiply 35 = .ok (.iinc 3 1, 3) := by decide +kernel
theorem dX6_multiply_38 : decode cX6_multiply 38 = .ok (.goto (-34), 3) := by decide +kernel
theorem dX6_multiply_41 : decode cX6_multiply 41 = .ok (.lload_n 1, 1) := by decide +kernel
theorem dX6_multiply_42 : decode cX6_multiply 42 = .ok (.lreturn, 1) := by decide +kernel
end
section
theorem dX7_init_0 : decode cX7_init 0 = .ok (.aload_n 0, 1) := by decide +kernel
theorem dX7_init_1 : decode cX7_init 1 = .ok (.invokespecial 3, 3) := by decide +kernel
theorem dX7_init_4 : decode cX7_init 4 = .ok (.aload_n 0, 1) := by decide +kernel
theorem dX7_init_5 : decode cX7_init 5 = .ok (.bipush 16, 2) := by decide +kernel
theorem dX7_init_7 : decode cX7_init 7 = .ok (.newarray .int, 2) := by decide +kernel
theorem dX7_init_9 : decode cX7_init 9 = .ok (.putfield 11, 3) := by decide +kernel
theorem dX7_init_12 : decode cX7_init 12 = .ok (.aload_n 0, 1) := by decide +kernel
theorem dX7_init_13 : decode cX7_init 13 = .ok (.sipush 384, 3) := by decide +kernel
theorem dX7_init_16 : decode cX7_init 16 = .ok (.newarray .int, 2) := by decide +kernel
theorem dX7_init_18 : decode cX7_init 18 = .ok (.putfield 15, 3) := by decide +kernel
theorem dX7_init_21 : decode cX7_init 21 = .ok (.return_, 1) := by decide +kernel
theorem dX7_clear_0 : decode cX7_clear 0 = .ok (.aload_n 0, 1) := by decide +kernel
theorem dX7_clear_1 : decode cX7_clear 1 = .ok (.getfield 11, 3) := by decide +kernel
theorem dX7_clear_4 : decode cX7_clear 4 = .ok (.iconst 0, 1) := by decide +kernel
theorem dX7_clear_5 : decode cX7_clear 5 = .ok (.invokestatic 18, 3) := by decide +kernel
theorem dX7_clear_8 : decode cX7_clear 8 = .ok (.return_, 1) := by decide +kernel
theorem dX7_copyFrom_0 : decode cX7_copyFrom 0 = .ok (.aload_n 1, 1) := by decide +kernel
theorem dX7_copyFrom_1 : decode cX7_copyFrom 1 = .ok (.getfield 11, 3) := by decide +kernel
theorem dX7_copyFrom_4 : decode cX7_copyFrom 4 = .ok (.iconst 0, 1) := by decide +kernel
theorem dX7_copyFrom_5 : decode cX7_copyFrom 5 = .ok (.aload_n 0, 1) := by decide +kernel
theorem dX7_copyFrom_6 : decode cX7_copyFrom 6 = .ok (.getfield 11, 3) := by decide +kernel
theorem dX7_copyFrom_9 : decode cX7_copyFrom 9 = .ok (.iconst 0, 1) := by decide +kernel
theorem dX7_copyFrom_10 : decode cX7_copyFrom 10 = .ok (.bipush 16, 2) := by decide +kernel
theorem dX7_copyFrom_12 : decode cX7_copyFrom 12 = .ok (.invokestatic 24, 3) := by decide +kernel
theorem dX7_copyFrom_15 : decode cX7_copyFrom 15 = .ok (.aload_n 1, 1) := by decide +kernel
theorem dX7_copyFrom_16 : decode cX7_copyFrom 16 = .ok (.getfield 15, 3) := by decide +kernel
theorem dX7_copyFrom_19 : decode cX7_copyFrom 19 = .ok (.iconst 0, 1) := by decide +kernel
theorem dX7_copyFrom_20 : decode cX7_copyFrom 20 = .ok (.aload_n 0, 1) := by decide +kernel
theorem dX7_copyFrom_21 : decode cX7_copyFrom 21 = .ok (.getfield 15, 3) := by decide +kernel
theorem dX7_copyFrom_24 : decode cX7_copyFrom 24 = .ok (.iconst 0, 1) := by decide +kernel
theorem dX7_copyFrom_25 : decode cX7_copyFrom 25 = .ok (.sipush 384, 3) := by decide +kernel
theorem dX7_copyFrom_28 : decode cX7_copyFrom 28 = .ok (.invokestatic 24, 3) := by decide +kernel
theorem dX7_copyFrom_31 : decode cX7_copyFrom 31 = .ok (.return_, 1) := by decide +kernel
theorem dX7_takeShape_0 : decode cX7_takeShape 0 = .ok (.aload_n 0, 1) := by decide +kernel
theorem dX7_takeShape_1 : decode cX7_takeShape 1 = .ok (.invokevirtual 30, 3) := by decide +kernel
theorem dX7_takeShape_4 : decode cX7_takeShape 4 = .ok (.aload_n 1, 1) := by decide +kernel
theorem dX7_takeShape_5 : decode cX7_takeShape 5 = .ok (.getfield 33, 3) := by decide +kernel
theorem dX7_takeShape_8 : decode cX7_takeShape 8 = .ok (.iconst 0, 1) := by decide +kernel
theorem dX7_takeShape_9 : decode cX7_takeShape 9 = .ok (.aload_n 0, 1) := by decide +kernel
theorem dX7_takeShape_10 : decode cX7_takeShape 10 = .ok (.getfield 11, 3) := by decide +kernel
theorem dX7_takeShape_13 : decode cX7_takeShape 13 = .ok (.iconst 0, 1) := by decide +kernel
theorem dX7_takeShape_14 : decode cX7_takeShape 14 = .ok (.bipush 8, 2) := by decide +kernel
theorem dX7_takeShape_16 : decode cX7_takeShape 16 = .ok (.invokestatic 24, 3) := by decide +kernel
theorem dX7_takeShape_19 : decode cX7_takeShape 19 = .ok (.return_, 1) := by decide +kernel
theorem dX7_has_0 : decode cX7_has 0 = .ok (.iload_n 1, 1) := by decide +kernel
theorem dX7_has_1 : decode cX7_has 1 = .ok (.ifCond .lt 27, 3) := by decide +kernel
theorem dX7_has_4 : decode cX7_has 4 = .ok (.iload_n 1, 1) := by decide +kernel
theorem dX7_has_5 : decode cX7_has 5 = .ok (.bipush 16, 2) := by decide +kernel
theorem dX7_has_7 : decode cX7_has 7 = .ok (.if_icmp .ge 21, 3) := by decide +kernel
theorem dX7_has_10 : decode cX7_has 10 = .ok (.iload_n 2, 1) := by decide +kernel
theorem dX7_has_11 : decode cX7_has 11 = .ok (.ifCond .lt 17, 3) := by decide +kernel
theorem dX7_has_14 : decode cX7_has 14 = .ok (.iload_n 2, 1) := by decide +kernel
theorem dX7_has_15 : decode cX7_has 15 = .ok (.aload_n 0, 1) := by decide +kernel
theorem dX7_has_16 : decode cX7_has 16 = .ok (.getfield 11, 3) := by decide +kernel
theorem dX7_has_19 : decode cX7_has 19 = .ok (.iload_n 1, 1) := by decide +kernel
theorem dX7_has_20 : decode cX7_has 20 = .ok (.iaload, 1) := by decide +kernel
theorem dX7_has_21 : decode cX7_has 21 = .ok (.if_icmp .ge 7, 3) := by decide +kernel
theorem dX7_has_24 : decode cX7_has 24 = .ok (.iconst 1, 1) := by decide +kernel
theorem dX7_has_25 : decode cX7_has 25 = .ok (.goto 4, 3) := by decide +kernel
theorem dX7_has_28 : decode cX7_has 28 = .ok (.iconst 0, 1) := by decide +kernel
theorem dX7_has_29 : decode cX7_has 29 = .ok (.ireturn, 1) := by decide +kernel
theorem dX7_letterAt_0 : decode cX7_letterAt 0 = .ok (.aload_n 0, 1) := by decide +kernel
theorem dX7_letterAt_1 : decode cX7_letterAt 1 = .ok (.iload_n 1, 1) := by decide +kernel
theorem dX7_letterAt_2 : decode cX7_letterAt 2 = .ok (.iload_n 2, 1) := by decide +kernel
theorem dX7_letterAt_3 : decode cX7_letterAt 3 = .ok (.invokevirtual 36, 3) := by decide +kernel
theorem dX7_letterAt_6 : decode cX7_letterAt 6 = .ok (.ifCond .eq 17, 3) := by decide +kernel
theorem dX7_letterAt_9 : decode cX7_letterAt 9 = .ok (.aload_n 0, 1) := by decide +kernel
theorem dX7_letterAt_10 : decode cX7_letterAt 10 = .ok (.getfield 15, 3) := by decide +kernel
theorem dX7_letterAt_13 : decode cX7_letterAt 13 = .ok (.iload_n 1, 1) := by decide +kernel
theorem dX7_letterAt_14 : decode cX7_letterAt 14 = .ok (.bipush 24, 2) := by decide +kernel
theorem dX7_letterAt_16 : decode cX7_letterAt 16 = .ok (.imul, 1) := by decide +kernel
theorem dX7_letterAt_17 : decode cX7_letterAt 17 = .ok (.iload_n 2, 1) := by decide +kernel
theorem dX7_letterAt_18 : decode cX7_letterAt 18 = .ok (.iadd, 1) := by decide +kernel
theorem dX7_letterAt_19 : decode cX7_letterAt 19 = .ok (.iaload, 1) := by decide +kernel
theorem dX7_letterAt_20 : decode cX7_letterAt 20 = .ok (.goto 4, 3) := by decide +kernel
theorem dX7_letterAt_23 : decode cX7_letterAt 23 = .ok (.iconst 0, 1) := by decide +kernel
theorem dX7_letterAt_24 : decode cX7_letterAt 24 = .ok (.ireturn, 1) := by decide +kernel
theorem dX7_put_0 : decode cX7_put 0 = .ok (.aload_n 0, 1) := by decide +kernel
theorem dX7_put_1 : decode cX7_put 1 = .ok (.getfield 15, 3) := by decide +kernel
theorem dX7_put_4 : decode cX7_put 4 = .ok (.iload_n 1, 1) := by decide +kernel
theorem dX7_put_5 : decode cX7_put 5 = .ok (.bipush 24, 2) := by decide +kernel
theorem dX7_put_7 : decode cX7_put 7 = .ok (.imul, 1) := by decide +kernel
theorem dX7_put_8 : decode cX7_put 8 = .ok (.iload_n 2, 1) := by decide +kernel
theorem dX7_put_9 : decode cX7_put 9 = .ok (.iadd, 1) := by decide +kernel
theorem dX7_put_10 : decode cX7_put 10 = .ok (.iload_n 3, 1) := by decide +kernel
theorem dX7_put_11 : decode cX7_put 11 = .ok (.iastore, 1) := by decide +kernel
theorem dX7_put_12 : decode cX7_put 12 = .ok (.return_, 1) := by decide +kernel
theorem dX7_append_0 : decode cX7_append 0 = .ok (.aload_n 0, 1) := by decide +kernel
theorem dX7_append_1 : decode cX7_append 1 = .ok (.iload_n 1, 1) := by decide +kernel
theorem dX7_append_2 : decode cX7_append 2 = .ok (.aload_n 0, 1) := by decide +kernel
theorem dX7_append_3 : decode cX7_append 3 = .ok (.getfield 11, 3) := by decide +kernel
theorem dX7_append_6 : decode cX7_append 6 = .ok (.iload_n 1, 1) := by decide +kernel
theorem dX7_append_7 : decode cX7_append 7 = .ok (.iaload, 1) := by decide +kernel
theorem dX7_append_8 : decode cX7_append 8 = .ok (.iload_n 2, 1) := by decide +kernel
theorem dX7_append_9 : decode cX7_append 9 = .ok (.invokevirtual 40, 3) := by decide +kernel
theorem dX7_append_12 : decode cX7_append 12 = .ok (.aload_n 0, 1) := by decide +kernel
theorem dX7_append_13 : decode cX7_append 13 = .ok (.getfield 11, 3) := by decide +kernel
theorem dX7_append_16 : decode cX7_append 16 = .ok (.iload_n 1, 1) := by decide +kernel
theorem dX7_append_17 : decode cX7_append 17 = .ok (.dup2, 1) := by decide +kernel
theorem dX7_append_18 : decode cX7_append 18 = .ok (.iaload, 1) := by decide +kernel
theorem dX7_append_19 : decode cX7_append 19 = .ok (.iconst 1, 1) := by decide +kernel
theorem dX7_append_20 : decode cX7_append 20 = .ok (.iadd, 1) := by decide +kernel
theorem dX7_append_21 : decode cX7_append 21 = .ok (.iastore, 1) := by decide +kernel
theorem dX7_append_22 : decode cX7_append 22 = .ok (.return_, 1) := by decide +kernel
theorem dX7_replace_0 : decode cX7_replace 0 = .ok (.aload_n 0, 1) := by decide +kernel
theorem dX7_replace_1 : decode cX7_replace 1 = .ok (.iload_n 1, 1) := by decide +kernel
theorem dX7_replace_2 : decode cX7_replace 2 = .ok (.iload_n 2, 1) := by decide +kernel
theorem dX7_replace_3 : decode cX7_replace 3 = .ok (.invokevirtual 44, 3) := by decide +kernel
theorem dX7_replace_6 : decode cX7_replace 6 = .ok (.istore 4, 2) := by decide +kernel
theorem dX7_replace_8 : decode cX7_replace 8 = .ok (.aload_n 0, 1) := by decide +kernel
theorem dX7_replace_9 : decode cX7_replace 9 = .ok (.iload_n 1, 1) := by decide +kernel
theorem dX7_replace_10 : decode cX7_replace 10 = .ok (.iload_n 2, 1) := by decide +kernel
theorem dX7_replace_11 : decode cX7_replace 11 = .ok (.iload_n 3, 1) := by decide +kernel
theorem dX7_replace_12 : decode cX7_replace 12 = .ok (.invokevirtual 40, 3) := by decide +kernel
theorem dX7_replace_15 : decode cX7_replace 15 = .ok (.iload 4, 2) := by decide +kernel
theorem dX7_replace_17 : decode cX7_replace 17 = .ok (.ireturn, 1) := by decide +kernel
theorem dX7_countRows_0 : decode cX7_countRows 0 = .ok (.iconst 0, 1) := by decide +kernel
theorem dX7_countRows_1 : decode cX7_countRows 1 = .ok (.istore_n 1, 1) := by decide +kernel
theorem dX7_countRows_2 : decode cX7_countRows 2 = .ok (.iconst 0, 1) := by decide +kernel
theorem dX7_countRows_3 : decode cX7_countRows 3 = .ok (.istore_n 2, 1) := by decide +kernel
theorem dX7_countRows_4 : decode cX7_countRows 4 = .ok (.iload_n 2, 1) := by decide +kernel
theorem dX7_countRows_5 : decode cX7_countRows 5 = .ok (.bipush 16, 2) := by decide +kernel
theorem dX7_countRows_7 : decode cX7_countRows 7 = .ok (.if_icmp .ge 21, 3) := by decide +kernel
theorem dX7_countRows_10 : decode cX7_countRows 10 = .ok (.aload_n 0, 1) := by decide +kernel
theorem dX7_countRows_11 : decode cX7_countRows 11 = .ok (.getfield 11, 3) := by decide +kernel
theorem dX7_countRows_14 : decode cX7_countRows 14 = .ok (.iload_n 2, 1) := by decide +kernel
theorem dX7_countRows_15 : decode cX7_countRows 15 = .ok (.iaload, 1) := by decide +kernel
theorem dX7_countRows_16 : decode cX7_countRows 16 = .ok (.ifCond .le 6, 3) := by decide +kernel
theorem dX7_countRows_19 : decode cX7_countRows 19 = .ok (.iinc 1 1, 3) := by decide +kernel
theorem dX7_countRows_22 : decode cX7_countRows 22 = .ok (.iinc 2 1, 3) := by decide +kernel
theorem dX7_countRows_25 : decode cX7_countRows 25 = .ok (.goto (-21), 3) := by decide +kernel
theorem dX7_countRows_28 : decode cX7_countRows 28 = .ok (.iload_n 1, 1) := by decide +kernel
theorem dX7_countRows_29 : decode cX7_countRows 29 = .ok (.ireturn, 1) := by decide +kernel
theorem dX7_countBoxes_0 : decode cX7_countBoxes 0 = .ok (.iconst 0, 1) := by decide +kernel
theorem dX7_countBoxes_1 : decode cX7_countBoxes 1 = .ok (.istore_n 1, 1) := by decide +kernel
theorem dX7_countBoxes_2 : decode cX7_countBoxes 2 = .ok (.iconst 0, 1) := by decide +kernel
theorem dX7_countBoxes_3 : decode cX7_countBoxes 3 = .ok (.istore_n 2, 1) := by decide +kernel
theorem dX7_countBoxes_4 : decode cX7_countBoxes 4 = .ok (.iload_n 2, 1) := by decide +kernel
theorem dX7_countBoxes_5 : decode cX7_countBoxes 5 = .ok (.bipush 16, 2) := by decide +kernel
theorem dX7_countBoxes_7 : decode cX7_countBoxes 7 = .ok (.if_icmp .ge 18, 3) := by decide +kernel
theorem dX7_countBoxes_10 : decode cX7_countBoxes 10 = .ok (.iload_n 1, 1) := by decide +kernel
theorem dX7_countBoxes_11 : decode cX7_countBoxes 11 = .ok (.aload_n 0, 1) := by decide +kernel
theorem dX7_countBoxes_12 : decode cX7_countBoxes 12 = .ok (.getfield 11, 3) := by decide +kernel
theorem dX7_countBoxes_15 : decode cX7_countBoxes 15 = .ok (.iload_n 2, 1) := by decide +kernel
theorem dX7_countBoxes_16 : decode cX7_countBoxes 16 = .ok (.iaload, 1) := by decide +kernel
theorem dX7_countBoxes_17 : decode cX7_countBoxes 17 = .ok (.iadd, 1) := by decide +kernel
theorem dX7_countBoxes_18 : decode cX7_countBoxes 18 = .ok (.istore_n 1, 1) := by decide +kernel
theorem dX7_countBoxes_19 : decode cX7_countBoxes 19 = .ok (.iinc 2 1, 3) := by decide +kernel
theorem dX7_countBoxes_22 : decode cX7_countBoxes 22 = .ok (.goto (-18), 3) := by decide +kernel
theorem dX7_countBoxes_25 : decode cX7_countBoxes 25 = .ok (.iload_n 1, 1) := by decide +kernel
theorem dX7_countBoxes_26 : decode cX7_countBoxes 26 = .ok (.ireturn, 1) := by decide +kernel
theorem dX7_greatestLetter_0 : decode cX7_greatestLetter 0 = .ok (.iconst 0, 1) := by decide +kernel
theorem dX7_greatestLetter_1 : decode cX7_greatestLetter 1 = .ok (.istore_n 1, 1) := by decide +kernel
theorem dX7_greatestLetter_2 : decode cX7_greatestLetter 2 = .ok (.iconst 0, 1) := by decide +kernel
theorem dX7_greatestLetter_3 : decode cX7_greatestLetter 3 = .ok (.istore_n 2, 1) := by decide +kernel
theorem dX7_greatestLetter_4 : decode cX7_greatestLetter 4 = .ok (.iload_n 2, 1) := by decide +kernel
theorem dX7_greatestLetter_5 : decode cX7_greatestLetter 5 = .ok (.bipush 16, 2) := by decide +kernel
theorem dX7_greatestLetter_7 : decode cX7_greatestLetter 7 = .ok (.if_icmp .ge 27, 3) := by decide +kernel
theorem dX7_greatestLetter_10 : decode cX7_greatestLetter 10 = .ok (.iload_n 1, 1) := by decide +kernel
theorem dX7_greatestLetter_11 : decode cX7_greatestLetter 11 = .ok (.aload_n 0, 1) := by decide +kernel
theorem dX7_greatestLetter_12 : decode cX7_greatestLetter 12 = .ok (.iload_n 2, 1) := by decide +kernel
theorem dX7_greatestLetter_13 : decode cX7_greatestLetter 13 = .ok (.aload_n 0, 1) := by decide +kernel
theorem dX7_greatestLetter_14 : decode cX7_greatestLetter 14 = .ok (.getfield 11, 3) := by decide +kernel
theorem dX7_greatestLetter_17 : decode cX7_greatestLetter 17 = .ok (.iload_n 2, 1) := by decide +kernel
theorem dX7_greatestLetter_18 : decode cX7_greatestLetter 18 = .ok (.iaload, 1) := by decide +kernel
theorem dX7_greatestLetter_19 : decode cX7_greatestLetter 19 = .ok (.iconst 1, 1) := by decide +kernel
theorem dX7_greatestLetter_20 : decode cX7_greatestLetter 20 = .ok (.isub, 1) := by decide +kernel
theorem dX7_greatestLetter_21 : decode cX7_greatestLetter 21 = .ok (.invokevirtual 44, 3) := by decide +kernel
theorem dX7_greatestLetter_24 : decode cX7_greatestLetter 24 = .ok (.invokestatic 48, 3) := by decide +kernel
theorem dX7_greatestLetter_27 : decode cX7_greatestLetter 27 = .ok (.istore_n 1, 1) := by decide +kernel
theorem dX7_greatestLetter_28 : decode cX7_greatestLetter 28 = .ok (.iinc 2 1, 3) := by decide +kernel
theorem dX7_greatestLetter_31 : decode cX7_greatestLetter 31 = .ok (.goto (-27), 3) := by decide +kernel
theorem dX7_greatestLetter_34 : decode cX7_greatestLetter 34 = .ok (.iload_n 1, 1) := by decide +kernel
theorem dX7_greatestLetter_35 : decode cX7_greatestLetter 35 = .ok (.ireturn, 1) := by decide +kernel
theorem dX7_isStandard_0 : decode cX7_isStandard 0 = .ok (.aload_n 0, 1) := by decide +kernel
theorem dX7_isStandard_1 : decode cX7_isStandard 1 = .ok (.invokevirtual 53, 3) := by decide +kernel
theorem dX7_isStandard_4 : decode cX7_isStandard 4 = .ok (.istore_n 1, 1) := by decide +kernel
theorem dX7_isStandard_5 : decode cX7_isStandard 5 = .ok (.iconst 0, 1) := by decide +kernel
theorem dX7_isStandard_6 : decode cX7_isStandard 6 = .ok (.istore_n 2, 1) := by decide +kernel
theorem dX7_isStandard_7 : decode cX7_isStandard 7 = .ok (.iconst 0, 1) := by decide +kernel
theorem dX7_isStandard_8 : decode cX7_isStandard 8 = .ok (.istore_n 3, 1) := by decide +kernel
theorem dX7_isStandard_9 : decode cX7_isStandard 9 = .ok (.iload_n 3, 1) := by decide +kernel
theorem dX7_isStandard_10 : decode cX7_isStandard 10 = .ok (.bipush 16, 2) := by decide +kernel
theorem dX7_isStandard_12 : decode cX7_isStandard 12 = .ok (.if_icmp .ge 41, 3) := by decide +kernel
theorem dX7_isStandard_15 : decode cX7_isStandard 15 = .ok (.iconst 0, 1) := by decide +kernel
theorem dX7_isStandard_16 : decode cX7_isStandard 16 = .ok (.istore 4, 2) := by decide +kernel
theorem dX7_isStandard_18 : decode cX7_isStandard 18 = .ok (.iload 4, 2) := by decide +kernel
theorem dX7_isStandard_20 : decode cX7_isStandard 20 = .ok (.aload_n 0, 1) := by decide +kernel
theorem dX7_isStandard_21 : decode cX7_isStandard 21 = .ok (.getfield 11, 3) := by decide +kernel
theorem dX7_isStandard_24 : decode cX7_isStandard 24 = .ok (.iload_n 3, 1) := by decide +kernel
theorem dX7_isStandard_25 : decode cX7_isStandard 25 = .ok (.iaload, 1) := by decide +kernel
theorem dX7_isStandard_26 : decode cX7_isStandard 26 = .ok (.if_icmp .ge 21, 3) := by decide +kernel
theorem dX7_isStandard_29 : decode cX7_isStandard 29 = .ok (.iload_n 2, 1) := by decide +kernel
theorem dX7_isStandard_30 : decode cX7_isStandard 30 = .ok (.iconst 1, 1) := by decide +kernel
theorem dX7_isStandard_31 : decode cX7_isStandard 31 = .ok (.aload_n 0, 1) := by decide +kernel
theorem dX7_isStandard_32 : decode cX7_isStandard 32 = .ok (.iload_n 3, 1) := by decide +kernel
theorem dX7_isStandard_33 : decode cX7_isStandard 33 = .ok (.iload 4, 2) := by decide +kernel
theorem dX7_isStandard_35 : decode cX7_isStandard 35 = .ok (.invokevirtual 44, 3) := by decide +kernel
theorem dX7_isStandard_38 : decode cX7_isStandard 38 = .ok (.ishl, 1) := by decide +kernel
theorem dX7_isStandard_39 : decode cX7_isStandard 39 = .ok (.ior, 1) := by decide +kernel
theorem dX7_isStandard_40 : decode cX7_isStandard 40 = .ok (.istore_n 2, 1) := by decide +kernel
theorem dX7_isStandard_41 : decode cX7_isStandard 41 = .ok (.iinc 4 1, 3) := by decide +kernel
theorem dX7_isStandard_44 : decode cX7_isStandard 44 = .ok (.goto (-26), 3) := by decide +kernel
theorem dX7_isStandard_47 : decode cX7_isStandard 47 = .ok (.iinc 3 1, 3) := by decide +kernel
theorem dX7_isStandard_50 : decode cX7_isStandard 50 = .ok (.goto (-41), 3) := by decide +kernel
theorem dX7_isStandard_53 : decode cX7_isStandard 53 = .ok (.iload_n 2, 1) := by decide +kernel
theorem dX7_isStandard_54 : decode cX7_isStandard 54 = .ok (.iconst 1, 1) := by decide +kernel
theorem dX7_isStandard_55 : decode cX7_isStandard 55 = .ok (.iload_n 1, 1) := by decide +kernel
theorem dX7_isStandard_56 : decode cX7_isStandard 56 = .ok (.iconst 1, 1) := by decide +kernel
theorem dX7_isStandard_57 : decode cX7_isStandard 57 = .ok (.iadd, 1) := by decide +kernel
theorem dX7_isStandard_58 : decode cX7_isStandard 58 = .ok (.ishl, 1) := by decide +kernel
theorem dX7_isStandard_59 : decode cX7_isStandard 59 = .ok (.iconst 2, 1) := by decide +kernel
theorem dX7_isStandard_60 : decode cX7_isStandard 60 = .ok (.isub, 1) := by decide +kernel
theorem dX7_isStandard_61 : decode cX7_isStandard 61 = .ok (.if_icmp .ne 7, 3) := by decide +kernel
theorem dX7_isStandard_64 : decode cX7_isStandard 64 = .ok (.iconst 1, 1) := by decide +kernel
theorem dX7_isStandard_65 : decode cX7_isStandard 65 = .ok (.goto 4, 3) := by decide +kernel
theorem dX7_isStandard_68 : decode cX7_isStandard 68 = .ok (.iconst 0, 1) := by decide +kernel
theorem dX7_isStandard_69 : decode cX7_isStandard 69 = .ok (.ireturn, 1) := by decide +kernel
theorem dX7_isSameAs_0 : decode cX7_isSameAs 0 = .ok (.iconst 0, 1) := by decide +kernel
theorem dX7_isSameAs_1 : decode cX7_isSameAs 1 = .ok (.istore_n 2, 1) := by decide +kernel
theorem dX7_isSameAs_2 : decode cX7_isSameAs 2 = .ok (.iload_n 2, 1) := by decide +kernel
theorem dX7_isSameAs_3 : decode cX7_isSameAs 3 = .ok (.bipush 16, 2) := by decide +kernel
theorem dX7_isSameAs_5 : decode cX7_isSameAs 5 = .ok (.if_icmp .ge 61, 3) := by decide +kernel
theorem dX7_isSameAs_8 : decode cX7_isSameAs 8 = .ok (.aload_n 0, 1) := by decide +kernel
theorem dX7_isSameAs_9 : decode cX7_isSameAs 9 = .ok (.getfield 11, 3) := by decide +kernel
theorem dX7_isSameAs_12 : decode cX7_isSameAs 12 = .ok (.iload_n 2, 1) := by decide +kernel
theorem dX7_isSameAs_13 : decode cX7_isSameAs 13 = .ok (.iaload, 1) := by decide +kernel
theorem dX7_isSameAs_14 : decode cX7_isSameAs 14 = .ok (.aload_n 1, 1) := by decide +kernel
theorem dX7_isSameAs_15 : decode cX7_isSameAs 15 = .ok (.getfield 11, 3) := by decide +kernel
theorem dX7_isSameAs_18 : decode cX7_isSameAs 18 = .ok (.iload_n 2, 1) := by decide +kernel
theorem dX7_isSameAs_19 : decode cX7_isSameAs 19 = .ok (.iaload, 1) := by decide +kernel
theorem dX7_isSameAs_20 : decode cX7_isSameAs 20 = .ok (.if_icmp .eq 5, 3) := by decide +kernel
theorem dX7_isSameAs_23 : decode cX7_isSameAs 23 = .ok (.iconst 0, 1) := by decide +kernel
theorem dX7_isSameAs_24 : decode cX7_isSameAs 24 = .ok (.ireturn, 1) := by decide +kernel
theorem dX7_isSameAs_25 : decode cX7_isSameAs 25 = .ok (.iconst 0, 1) := by decide +kernel
theorem dX7_isSameAs_26 : decode cX7_isSameAs 26 = .ok (.istore_n 3, 1) := by decide +kernel
theorem dX7_isSameAs_27 : decode cX7_isSameAs 27 = .ok (.iload_n 3, 1) := by decide +kernel
theorem dX7_isSameAs_28 : decode cX7_isSameAs 28 = .ok (.aload_n 0, 1) := by decide +kernel
theorem dX7_isSameAs_29 : decode cX7_isSameAs 29 = .ok (.getfield 11, 3) := by decide +kernel
theorem dX7_isSameAs_32 : decode cX7_isSameAs 32 = .ok (.iload_n 2, 1) := by decide +kernel
theorem dX7_isSameAs_33 : decode cX7_isSameAs 33 = .ok (.iaload, 1) := by decide +kernel
theorem dX7_isSameAs_34 : decode cX7_isSameAs 34 = .ok (.if_icmp .ge 26, 3) := by decide +kernel
theorem dX7_isSameAs_37 : decode cX7_isSameAs 37 = .ok (.aload_n 0, 1) := by decide +kernel
theorem dX7_isSameAs_38 : decode cX7_isSameAs 38 = .ok (.iload_n 2, 1) := by decide +kernel
theorem dX7_isSameAs_39 : decode cX7_isSameAs 39 = .ok (.iload_n 3, 1) := by decide +kernel
theorem dX7_isSameAs_40 : decode cX7_isSameAs 40 = .ok (.invokevirtual 44, 3) := by decide +kernel
theorem dX7_isSameAs_43 : decode cX7_isSameAs 43 = .ok (.aload_n 1, 1) := by decide +kernel
theorem dX7_isSameAs_44 : decode cX7_isSameAs 44 = .ok (.iload_n 2, 1) := by decide +kernel
theorem dX7_isSameAs_45 : decode cX7_isSameAs 45 = .ok (.iload_n 3, 1) := by decide +kernel
theorem dX7_isSameAs_46 : decode cX7_isSameAs 46 = .ok (.invokevirtual 44, 3) := by decide +kernel
theorem dX7_isSameAs_49 : decode cX7_isSameAs 49 = .ok (.if_icmp .eq 5, 3) := by decide +kernel
theorem dX7_isSameAs_52 : decode cX7_isSameAs 52 = .ok (.iconst 0, 1) := by decide +kernel
theorem dX7_isSameAs_53 : decode cX7_isSameAs 53 = .ok (.ireturn, 1) := by decide +kernel
theorem dX7_isSameAs_54 : decode cX7_isSameAs 54 = .ok (.iinc 3 1, 3) := by decide +kernel
theorem dX7_isSameAs_57 : decode cX7_isSameAs 57 = .ok (.goto (-30), 3) := by decide +kernel
theorem dX7_isSameAs_60 : decode cX7_isSameAs 60 = .ok (.iinc 2 1, 3) := by decide +kernel
theorem dX7_isSameAs_63 : decode cX7_isSameAs 63 = .ok (.goto (-61), 3) := by decide +kernel
theorem dX7_isSameAs_66 : decode cX7_isSameAs 66 = .ok (.iconst 1, 1) := by decide +kernel
theorem dX7_isSameAs_67 : decode cX7_isSameAs 67 = .ok (.ireturn, 1) := by decide +kernel
theorem dX7_insertAll_0 : decode cX7_insertAll 0 = .ok (.aload_n 0, 1) := by decide +kernel
theorem dX7_insertAll_1 : decode cX7_insertAll 1 = .ok (.invokevirtual 30, 3) := by decide +kernel
theorem dX7_insertAll_4 : decode cX7_insertAll 4 = .ok (.iconst 0, 1) := by decide +kernel
theorem dX7_insertAll_5 : decode cX7_insertAll 5 = .ok (.istore_n 2, 1) := by decide +kernel
theorem dX7_insertAll_6 : decode cX7_insertAll 6 = .ok (.iload_n 2, 1) := by decide +kernel
theorem dX7_insertAll_7 : decode cX7_insertAll 7 = .ok (.aload_n 1, 1) := by decide +kernel
theorem dX7_insertAll_8 : decode cX7_insertAll 8 = .ok (.getfield 57, 3) := by decide +kernel
theorem dX7_insertAll_11 : decode cX7_insertAll 11 = .ok (.if_icmp .ge 19, 3) := by decide +kernel
theorem dX7_insertAll_14 : decode cX7_insertAll 14 = .ok (.aload_n 0, 1) := by decide +kernel
theorem dX7_insertAll_15 : decode cX7_insertAll 15 = .ok (.aload_n 1, 1) := by decide +kernel
theorem dX7_insertAll_16 : decode cX7_insertAll 16 = .ok (.iload_n 2, 1) := by decide +kernel
theorem dX7_insertAll_17 : decode cX7_insertAll 17 = .ok (.invokevirtual 63, 3) := by decide +kernel
theorem dX7_insertAll_20 : decode cX7_insertAll 20 = .ok (.invokevirtual 66, 3) := by decide +kernel
theorem dX7_insertAll_23 : decode cX7_insertAll 23 = .ok (.pop, 1) := by decide +kernel
theorem dX7_insertAll_24 : decode cX7_insertAll 24 = .ok (.iinc 2 1, 3) := by decide +kernel
theorem dX7_insertAll_27 : decode cX7_insertAll 27 = .ok (.goto (-21), 3) := by decide +kernel
theorem dX7_insertAll_30 : decode cX7_insertAll 30 = .ok (.return_, 1) := by decide +kernel
theorem dX7_addByRows_0 : decode cX7_addByRows 0 = .ok (.iload_n 1, 1) := by decide +kernel
theorem dX7_addByRows_1 : decode cX7_addByRows 1 = .ok (.istore_n 2, 1) := by decide +kernel
theorem dX7_addByRows_2 : decode cX7_addByRows 2 = .ok (.iconst 0, 1) := by decide +kernel
theorem dX7_addByRows_3 : decode cX7_addByRows 3 = .ok (.istore_n 3, 1) := by decide +kernel
theorem dX7_addByRows_4 : decode cX7_addByRows 4 = .ok (.aload_n 0, 1) := by decide +kernel
theorem dX7_addByRows_5 : decode cX7_addByRows 5 = .ok (.iload_n 3, 1) := by decide +kernel
theorem dX7_addByRows_6 : decode cX7_addByRows 6 = .ok (.iload_n 2, 1) := by decide +kernel
theorem dX7_addByRows_7 : decode cX7_addByRows 7 = .ok (.invokevirtual 69, 3) := by decide +kernel
theorem dX7_addByRows_10 : decode cX7_addByRows 10 = .ok (.istore 4, 2) := by decide +kernel
theorem dX7_addByRows_12 : decode cX7_addByRows 12 = .ok (.iload_n 3, 1) := by decide +kernel
theorem dX7_addByRows_13 : decode cX7_addByRows 13 = .ok (.bipush 15, 2) := by decide +kernel
theorem dX7_addByRows_15 : decode cX7_addByRows 15 = .ok (.if_icmp .ge 37, 3) := by decide +kernel
theorem dX7_addByRows_18 : decode cX7_addByRows 18 = .ok (.iload 4, 2) := by decide +kernel
theorem dX7_addByRows_20 : decode cX7_addByRows 20 = .ok (.aload_n 0, 1) := by decide +kernel
theorem dX7_addByRows_21 : decode cX7_addByRows 21 = .ok (.getfield 11, 3) := by decide +kernel
theorem dX7_addByRows_24 : decode cX7_addByRows 24 = .ok (.iload_n 3, 1) := by decide +kernel
theorem dX7_addByRows_25 : decode cX7_addByRows 25 = .ok (.iaload, 1) := by decide +kernel
theorem dX7_addByRows_26 : decode cX7_addByRows 26 = .ok (.if_icmp .ge 26, 3) := by decide +kernel
theorem dX7_addByRows_29 : decode cX7_addByRows 29 = .ok (.aload_n 0, 1) := by decide +kernel
theorem dX7_addByRows_30 : decode cX7_addByRows 30 = .ok (.iload_n 3, 1) := by decide +kernel
theorem dX7_addByRows_31 : decode cX7_addByRows 31 = .ok (.iload 4, 2) := by decide +kernel
theorem dX7_addByRows_33 : decode cX7_addByRows 33 = .ok (.iload_n 2, 1) := by decide +kernel
theorem dX7_addByRows_34 : decode cX7_addByRows 34 = .ok (.invokevirtual 72, 3) := by decide +kernel
theorem dX7_addByRows_37 : decode cX7_addByRows 37 = .ok (.istore_n 2, 1) := by decide +kernel
theorem dX7_addByRows_38 : decode cX7_addByRows 38 = .ok (.iinc 3 1, 3) := by decide +kernel
theorem dX7_addByRows_41 : decode cX7_addByRows 41 = .ok (.aload_n 0, 1) := by decide +kernel
theorem dX7_addByRows_42 : decode cX7_addByRows 42 = .ok (.iload_n 3, 1) := by decide +kernel
theorem dX7_addByRows_43 : decode cX7_addByRows 43 = .ok (.iload_n 2, 1) := by decide +kernel
theorem dX7_addByRows_44 : decode cX7_addByRows 44 = .ok (.invokevirtual 69, 3) := by decide +kernel
theorem dX7_addByRows_47 : decode cX7_addByRows 47 = .ok (.istore 4, 2) := by decide +kernel
theorem dX7_addByRows_49 : decode cX7_addByRows 49 = .ok (.goto (-37), 3) := by decide +kernel
theorem dX7_addByRows_52 : decode cX7_addByRows 52 = .ok (.aload_n 0, 1) := by decide +kernel
theorem dX7_addByRows_53 : decode cX7_addByRows 53 = .ok (.iload_n 3, 1) := by decide +kernel
theorem dX7_addByRows_54 : decode cX7_addByRows 54 = .ok (.iload_n 2, 1) := by decide +kernel
theorem dX7_addByRows_55 : decode cX7_addByRows 55 = .ok (.invokevirtual 76, 3) := by decide +kernel
theorem dX7_addByRows_58 : decode cX7_addByRows 58 = .ok (.iload_n 3, 1) := by decide +kernel
theorem dX7_addByRows_59 : decode cX7_addByRows 59 = .ok (.ireturn, 1) := by decide +kernel
theorem dX7_addByColumns_0 : decode cX7_addByColumns 0 = .ok (.iload_n 1, 1) := by decide +kernel
theorem dX7_addByColumns_1 : decode cX7_addByColumns 1 = .ok (.istore_n 2, 1) := by decide +kernel
theorem dX7_addByColumns_2 : decode cX7_addByColumns 2 = .ok (.iconst 0, 1) := by decide +kernel
theorem dX7_addByColumns_3 : decode cX7_addByColumns 3 = .ok (.istore_n 3, 1) := by decide +kernel
theorem dX7_addByColumns_4 : decode cX7_addByColumns 4 = .ok (.aload_n 0, 1) := by decide +kernel
theorem dX7_addByColumns_5 : decode cX7_addByColumns 5 = .ok (.iload_n 3, 1) := by decide +kernel
theorem dX7_addByColumns_6 : decode cX7_addByColumns 6 = .ok (.iload_n 2, 1) := by decide +kernel
theorem dX7_addByColumns_7 : decode cX7_addByColumns 7 = .ok (.invokevirtual 80, 3) := by decide +kernel
theorem dX7_addByColumns_10 : decode cX7_addByColumns 10 = .ok (.istore 4, 2) := by decide +kernel
theorem dX7_addByColumns_12 : decode cX7_addByColumns 12 = .ok (.iload_n 3, 1) := by decide +kernel
theorem dX7_addByColumns_13 : decode cX7_addByColumns 13 = .ok (.bipush 23, 2) := by decide +kernel
theorem dX7_addByColumns_15 : decode cX7_addByColumns 15 = .ok (.if_icmp .ge 36, 3) := by decide +kernel
theorem dX7_addByColumns_18 : decode cX7_addByColumns 18 = .ok (.aload_n 0, 1) := by decide +kernel
theorem dX7_addByColumns_19 : decode cX7_addByColumns 19 = .ok (.iload 4, 2) := by decide +kernel
theorem dX7_addByColumns_21 : decode cX7_addByColumns 21 = .ok (.iload_n 3, 1) := by decide +kernel
theorem dX7_addByColumns_22 : decode cX7_addByColumns 22 = .ok (.invokevirtual 36, 3) := by decide +kernel
theorem dX7_addByColumns_25 : decode cX7_addByColumns 25 = .ok (.ifCond .eq 26, 3) := by decide +kernel
theorem dX7_addByColumns_28 : decode cX7_addByColumns 28 = .ok (.aload_n 0, 1) := by decide +kernel
theorem dX7_addByColumns_29 : decode cX7_addByColumns 29 = .ok (.iload 4, 2) := by decide +kernel
theorem dX7_addByColumns_31 : decode cX7_addByColumns 31 = .ok (.iload_n 3, 1) := by decide +kernel
theorem dX7_addByColumns_32 : decode cX7_addByColumns 32 = .ok (.iload_n 2, 1) := by decide +kernel
theorem dX7_addByColumns_33 : decode cX7_addByColumns 33 = .ok (.invokevirtual 72, 3) := by decide +kernel
theorem dX7_addByColumns_36 : decode cX7_addByColumns 36 = .ok (.istore_n 2, 1) := by decide +kernel
theorem dX7_addByColumns_37 : decode cX7_addByColumns 37 = .ok (.iinc 3 1, 3) := by decide +kernel
theorem dX7_addByColumns_40 : decode cX7_addByColumns 40 = .ok (.aload_n 0, 1) := by decide +kernel
theorem dX7_addByColumns_41 : decode cX7_addByColumns 41 = .ok (.iload_n 3, 1) := by decide +kernel
theorem dX7_addByColumns_42 : decode cX7_addByColumns 42 = .ok (.iload_n 2, 1) := by decide +kernel
theorem dX7_addByColumns_43 : decode cX7_addByColumns 43 = .ok (.invokevirtual 80, 3) := by decide +kernel
theorem dX7_addByColumns_46 : decode cX7_addByColumns 46 = .ok (.istore 4, 2) := by decide +kernel
theorem dX7_addByColumns_48 : decode cX7_addByColumns 48 = .ok (.goto (-36), 3) := by decide +kernel
theorem dX7_addByColumns_51 : decode cX7_addByColumns 51 = .ok (.aload_n 0, 1) := by decide +kernel
theorem dX7_addByColumns_52 : decode cX7_addByColumns 52 = .ok (.iload 4, 2) := by decide +kernel
theorem dX7_addByColumns_54 : decode cX7_addByColumns 54 = .ok (.iload_n 2, 1) := by decide +kernel
theorem dX7_addByColumns_55 : decode cX7_addByColumns 55 = .ok (.invokevirtual 76, 3) := by decide +kernel
theorem dX7_addByColumns_58 : decode cX7_addByColumns 58 = .ok (.iload 4, 2) := by decide +kernel
theorem dX7_addByColumns_60 : decode cX7_addByColumns 60 = .ok (.ireturn, 1) := by decide +kernel
theorem dX7_takeByRows_0 : decode cX7_takeByRows 0 = .ok (.aload_n 0, 1) := by decide +kernel
theorem dX7_takeByRows_1 : decode cX7_takeByRows 1 = .ok (.getfield 11, 3) := by decide +kernel
theorem dX7_takeByRows_4 : decode cX7_takeByRows 4 = .ok (.iload_n 1, 1) := by decide +kernel
theorem dX7_takeByRows_5 : decode cX7_takeByRows 5 = .ok (.iaload, 1) := by decide +kernel
theorem dX7_takeByRows_6 : decode cX7_takeByRows 6 = .ok (.ifCond .ne 5, 3) := by decide +kernel
theorem dX7_takeByRows_9 : decode cX7_takeByRows 9 = .ok (.iconst 0, 1) := by decide +kernel
theorem dX7_takeByRows_10 : decode cX7_takeByRows 10 = .ok (.ireturn, 1) := by decide +kernel
theorem dX7_takeByRows_11 : decode cX7_takeByRows 11 = .ok (.aload_n 0, 1) := by decide +kernel
theorem dX7_takeByRows_12 : decode cX7_takeByRows 12 = .ok (.getfield 11, 3) := by decide +kernel
theorem dX7_takeByRows_15 : decode cX7_takeByRows 15 = .ok (.iload_n 1, 1) := by decide +kernel
theorem dX7_takeByRows_16 : decode cX7_takeByRows 16 = .ok (.dup2, 1) := by decide +kernel
theorem dX7_takeByRows_17 : decode cX7_takeByRows 17 = .ok (.iaload, 1) := by decide +kernel
theorem dX7_takeByRows_18 : decode cX7_takeByRows 18 = .ok (.iconst 1, 1) := by decide +kernel
theorem dX7_takeByRows_19 : decode cX7_takeByRows 19 = .ok (.isub, 1) := by decide +kernel
theorem dX7_takeByRows_20 : decode cX7_takeByRows 20 = .ok (.iastore, 1) := by decide +kernel
theorem dX7_takeByRows_21 : decode cX7_takeByRows 21 = .ok (.aload_n 0, 1) := by decide +kernel
theorem dX7_takeByRows_22 : decode cX7_takeByRows 22 = .ok (.getfield 15, 3) := by decide +kernel
theorem dX7_takeByRows_25 : decode cX7_takeByRows 25 = .ok (.iload_n 1, 1) := by decide +kernel
theorem dX7_takeByRows_26 : decode cX7_takeByRows 26 = .ok (.bipush 24, 2) := by decide +kernel
theorem dX7_takeByRows_28 : decode cX7_takeByRows 28 = .ok (.imul, 1) := by decide +kernel
theorem dX7_takeByRows_29 : decode cX7_takeByRows 29 = .ok (.aload_n 0, 1) := by decide +kernel
theorem dX7_takeByRows_30 : decode cX7_takeByRows 30 = .ok (.getfield 11, 3) := by decide +kernel
theorem dX7_takeByRows_33 : decode cX7_takeByRows 33 = .ok (.iload_n 1, 1) := by decide +kernel
theorem dX7_takeByRows_34 : decode cX7_takeByRows 34 = .ok (.iaload, 1) := by decide +kernel
theorem dX7_takeByRows_35 : decode cX7_takeByRows 35 = .ok (.iadd, 1) := by decide +kernel
theorem dX7_takeByRows_36 : decode cX7_takeByRows 36 = .ok (.iaload, 1) := by decide +kernel
theorem dX7_takeByRows_37 : decode cX7_takeByRows 37 = .ok (.istore_n 2, 1) := by decide +kernel
theorem dX7_takeByRows_38 : decode cX7_takeByRows 38 = .ok (.iload_n 1, 1) := by decide +kernel
theorem dX7_takeByRows_39 : decode cX7_takeByRows 39 = .ok (.iconst 1, 1) := by decide +kernel
theorem dX7_takeByRows_40 : decode cX7_takeByRows 40 = .ok (.isub, 1) := by decide +kernel
theorem dX7_takeByRows_41 : decode cX7_takeByRows 41 = .ok (.istore_n 3, 1) := by decide +kernel
theorem dX7_takeByRows_42 : decode cX7_takeByRows 42 = .ok (.iload_n 3, 1) := by decide +kernel
theorem dX7_takeByRows_43 : decode cX7_takeByRows 43 = .ok (.ifCond .lt 22, 3) := by decide +kernel
theorem dX7_takeByRows_46 : decode cX7_takeByRows 46 = .ok (.aload_n 0, 1) := by decide +kernel
theorem dX7_takeByRows_47 : decode cX7_takeByRows 47 = .ok (.iload_n 3, 1) := by decide +kernel
theorem dX7_takeByRows_48 : decode cX7_takeByRows 48 = .ok (.aload_n 0, 1) := by decide +kernel
theorem dX7_takeByRows_49 : decode cX7_takeByRows 49 = .ok (.iload_n 3, 1) := by decide +kernel
theorem dX7_takeByRows_50 : decode cX7_takeByRows 50 = .ok (.iload_n 2, 1) := by decide +kernel
theorem dX7_takeByRows_51 : decode cX7_takeByRows 51 = .ok (.invokevirtual 83, 3) := by decide +kernel
theorem dX7_takeByRows_54 : decode cX7_takeByRows 54 = .ok (.iload_n 2, 1) := by decide +kernel
theorem dX7_takeByRows_55 : decode cX7_takeByRows 55 = .ok (.invokevirtual 72, 3) := by decide +kernel
theorem dX7_takeByRows_58 : decode cX7_takeByRows 58 = .ok (.istore_n 2, 1) := by decide +kernel
theorem dX7_takeByRows_59 : decode cX7_takeByRows 59 = .ok (.iinc 3 (-1), 3) := by decide +kernel
theorem dX7_takeByRows_62 : decode cX7_takeByRows 62 = .ok (.goto (-20), 3) := by decide +kernel
theorem dX7_takeByRows_65 : decode cX7_takeByRows 65 = .ok (.iload_n 2, 1) := by decide +kernel
theorem dX7_takeByRows_66 : decode cX7_takeByRows 66 = .ok (.ireturn, 1) := by decide +kernel
theorem dX7_firstGreater_0 : decode cX7_firstGreater 0 = .ok (.iconst 0, 1) := by decide +kernel
theorem dX7_firstGreater_1 : decode cX7_firstGreater 1 = .ok (.istore_n 3, 1) := by decide +kernel
theorem dX7_firstGreater_2 : decode cX7_firstGreater 2 = .ok (.iload_n 3, 1) := by decide +kernel
theorem dX7_firstGreater_3 : decode cX7_firstGreater 3 = .ok (.aload_n 0, 1) := by decide +kernel
theorem dX7_firstGreater_4 : decode cX7_firstGreater 4 = .ok (.getfield 11, 3) := by decide +kernel
theorem dX7_firstGreater_7 : decode cX7_firstGreater 7 = .ok (.iload_n 1, 1) := by decide +kernel
theorem dX7_firstGreater_8 : decode cX7_firstGreater 8 = .ok (.iaload, 1) := by decide +kernel
theorem dX7_firstGreater_9 : decode cX7_firstGreater 9 = .ok (.if_icmp .ge 19, 3) := by decide +kernel
theorem dX7_firstGreater_12 : decode cX7_firstGreater 12 = .ok (.aload_n 0, 1) := by decide +kernel
theorem dX7_firstGreater_13 : decode cX7_firstGreater 13 = .ok (.iload_n 1, 1) := by decide +kernel
theorem dX7_firstGreater_14 : decode cX7_firstGreater 14 = .ok (.iload_n 3, 1) := by decide +kernel
theorem dX7_firstGreater_15 : decode cX7_firstGreater 15 = .ok (.invokevirtual 44, 3) := by decide +kernel
theorem dX7_firstGreater_18 : decode cX7_firstGreater 18 = .ok (.iload_n 2, 1) := by decide +kernel
theorem dX7_firstGreater_19 : decode cX7_firstGreater 19 = .ok (.if_icmp .gt 9, 3) := by decide +kernel
theorem dX7_firstGreater_22 : decode cX7_firstGreater 22 = .ok (.iinc 3 1, 3) := by decide +kernel
theorem dX7_firstGreater_25 : decode cX7_firstGreater 25 = .ok (.goto (-23), 3) := by decide +kernel
theorem dX7_firstGreater_28 : decode cX7_firstGreater 28 = .ok (.iload_n 3, 1) := by decide +kernel
theorem dX7_firstGreater_29 : decode cX7_firstGreater 29 = .ok (.ireturn, 1) := by decide +kernel
theorem dX7_firstNotLess_0 : decode cX7_firstNotLess 0 = .ok (.iconst 0, 1) := by decide +kernel
theorem dX7_firstNotLess_1 : decode cX7_firstNotLess 1 = .ok (.istore_n 3, 1) := by decide +kernel
theorem dX7_firstNotLess_2 : decode cX7_firstNotLess 2 = .ok (.iload_n 3, 1) := by decide +kernel
theorem dX7_firstNotLess_3 : decode cX7_firstNotLess 3 = .ok (.bipush 15, 2) := by decide +kernel
theorem dX7_firstNotLess_5 : decode cX7_firstNotLess 5 = .ok (.if_icmp .ge 28, 3) := by decide +kernel
theorem dX7_firstNotLess_8 : decode cX7_firstNotLess 8 = .ok (.aload_n 0, 1) := by decide +kernel
theorem dX7_firstNotLess_9 : decode cX7_firstNotLess 9 = .ok (.iload_n 3, 1) := by decide +kernel
theorem dX7_firstNotLess_10 : decode cX7_firstNotLess 10 = .ok (.iload_n 1, 1) := by decide +kernel
theorem dX7_firstNotLess_11 : decode cX7_firstNotLess 11 = .ok (.invokevirtual 36, 3) := by decide +kernel
theorem dX7_firstNotLess_14 : decode cX7_firstNotLess 14 = .ok (.ifCond .eq 19, 3) := by decide +kernel
theorem dX7_firstNotLess_17 : decode cX7_firstNotLess 17 = .ok (.aload_n 0, 1) := by decide +kernel
theorem dX7_firstNotLess_18 : decode cX7_firstNotLess 18 = .ok (.iload_n 3, 1) := by decide +kernel
theorem dX7_firstNotLess_19 : decode cX7_firstNotLess 19 = .ok (.iload_n 1, 1) := by decide +kernel
theorem dX7_firstNotLess_20 : decode cX7_firstNotLess 20 = .ok (.invokevirtual 44, 3) := by decide +kernel
theorem dX7_firstNotLess_23 : decode cX7_firstNotLess 23 = .ok (.iload_n 2, 1) := by decide +kernel
theorem dX7_firstNotLess_24 : decode cX7_firstNotLess 24 = .ok (.if_icmp .ge 9, 3) := by decide +kernel
theorem dX7_firstNotLess_27 : decode cX7_firstNotLess 27 = .ok (.iinc 3 1, 3) := by decide +kernel
theorem dX7_firstNotLess_30 : decode cX7_firstNotLess 30 = .ok (.goto (-28), 3) := by decide +kernel
theorem dX7_firstNotLess_33 : decode cX7_firstNotLess 33 = .ok (.iload_n 3, 1) := by decide +kernel
theorem dX7_firstNotLess_34 : decode cX7_firstNotLess 34 = .ok (.ireturn, 1) := by decide +kernel
theorem dX7_lastLess_0 : decode cX7_lastLess 0 = .ok (.aload_n 0, 1) := by decide +kernel
theorem dX7_lastLess_1 : decode cX7_lastLess 1 = .ok (.getfield 11, 3) := by decide +kernel
theorem dX7_lastLess_4 : decode cX7_lastLess 4 = .ok (.iload_n 1, 1) := by decide +kernel
theorem dX7_lastLess_5 : decode cX7_lastLess 5 = .ok (.iaload, 1) := by decide +kernel
theorem dX7_lastLess_6 : decode cX7_lastLess 6 = .ok (.iconst 1, 1) := by decide +kernel
theorem dX7_lastLess_7 : decode cX7_lastLess 7 = .ok (.isub, 1) := by decide +kernel
theorem dX7_lastLess_8 : decode cX7_lastLess 8 = .ok (.iconst 0, 1) := by decide +kernel
theorem dX7_lastLess_9 : decode cX7_lastLess 9 = .ok (.invokestatic 48, 3) := by decide +kernel
theorem dX7_lastLess_12 : decode cX7_lastLess 12 = .ok (.istore_n 3, 1) := by decide +kernel
theorem dX7_lastLess_13 : decode cX7_lastLess 13 = .ok (.iload_n 3, 1) := by decide +kernel
theorem dX7_lastLess_14 : decode cX7_lastLess 14 = .ok (.ifCond .le 19, 3) := by decide +kernel
theorem dX7_lastLess_17 : decode cX7_lastLess 17 = .ok (.aload_n 0, 1) := by decide +kernel
theorem dX7_lastLess_18 : decode cX7_lastLess 18 = .ok (.iload_n 1, 1) := by decide +kernel
theorem dX7_lastLess_19 : decode cX7_lastLess 19 = .ok (.iload_n 3, 1) := by decide +kernel
theorem dX7_lastLess_20 : decode cX7_lastLess 20 = .ok (.invokevirtual 44, 3) := by decide +kernel
theorem dX7_lastLess_23 : decode cX7_lastLess 23 = .ok (.iload_n 2, 1) := by decide +kernel
theorem dX7_lastLess_24 : decode cX7_lastLess 24 = .ok (.if_icmp .lt 9, 3) := by decide +kernel
theorem dX7_lastLess_27 : decode cX7_lastLess 27 = .ok (.iinc 3 (-1), 3) := by decide +kernel
theorem dX7_lastLess_30 : decode cX7_lastLess 30 = .ok (.goto (-17), 3) := by decide +kernel
theorem dX7_lastLess_33 : decode cX7_lastLess 33 = .ok (.iload_n 3, 1) := by decide +kernel
theorem dX7_lastLess_34 : decode cX7_lastLess 34 = .ok (.ireturn, 1) := by decide +kernel
theorem dX7_fillSkew_0 : decode cX7_fillSkew 0 = .ok (.aload_n 0, 1) := by decide +kernel
theorem dX7_fillSkew_1 : decode cX7_fillSkew 1 = .ok (.aload_n 2, 1) := by decide +kernel
theorem dX7_fillSkew_2 : decode cX7_fillSkew 2 = .ok (.invokevirtual 86, 3) := by decide +kernel
theorem dX7_fillSkew_5 : decode cX7_fillSkew 5 = .ok (.iconst 0, 1) := by decide +kernel
theorem dX7_fillSkew_6 : decode cX7_fillSkew 6 = .ok (.istore 4, 2) := by decide +kernel
theorem dX7_fillSkew_8 : decode cX7_fillSkew 8 = .ok (.bipush 7, 2) := by decide +kernel
theorem dX7_fillSkew_10 : decode cX7_fillSkew 10 = .ok (.istore 5, 2) := by decide +kernel
theorem dX7_fillSkew_12 : decode cX7_fillSkew 12 = .ok (.iload 5, 2) := by decide +kernel
theorem dX7_fillSkew_14 : decode cX7_fillSkew 14 = .ok (.ifCond .lt 53, 3) := by decide +kernel
theorem dX7_fillSkew_17 : decode cX7_fillSkew 17 = .ok (.aload_n 1, 1) := by decide +kernel
theorem dX7_fillSkew_18 : decode cX7_fillSkew 18 = .ok (.getfield 33, 3) := by decide +kernel
theorem dX7_fillSkew_21 : decode cX7_fillSkew 21 = .ok (.iload 5, 2) := by decide +kernel
theorem dX7_fillSkew_23 : decode cX7_fillSkew 23 = .ok (.iaload, 1) := by decide +kernel
theorem dX7_fillSkew_24 : decode cX7_fillSkew 24 = .ok (.istore 6, 2) := by decide +kernel
theorem dX7_fillSkew_26 : decode cX7_fillSkew 26 = .ok (.iload 6, 2) := by decide +kernel
theorem dX7_fillSkew_28 : decode cX7_fillSkew 28 = .ok (.aload_n 2, 1) := by decide +kernel
theorem dX7_fillSkew_29 : decode cX7_fillSkew 29 = .ok (.getfield 33, 3) := by decide +kernel
theorem dX7_fillSkew_32 : decode cX7_fillSkew 32 = .ok (.iload 5, 2) := by decide +kernel
theorem dX7_fillSkew_34 : decode cX7_fillSkew 34 = .ok (.iaload, 1) := by decide +kernel
theorem dX7_fillSkew_35 : decode cX7_fillSkew 35 = .ok (.if_icmp .ge 26, 3) := by decide +kernel
theorem dX7_fillSkew_38 : decode cX7_fillSkew 38 = .ok (.aload_n 0, 1) := by decide +kernel
theorem dX7_fillSkew_39 : decode cX7_fillSkew 39 = .ok (.iload 5, 2) := by decide +kernel
theorem dX7_fillSkew_41 : decode cX7_fillSkew 41 = .ok (.iload 6, 2) := by decide +kernel
theorem dX7_fillSkew_43 : decode cX7_fillSkew 43 = .ok (.aload_n 3, 1) := by decide +kernel
theorem dX7_fillSkew_44 : decode cX7_fillSkew 44 = .ok (.iload 4, 2) := by decide +kernel
theorem dX7_fillSkew_46 : decode cX7_fillSkew 46 = .ok (.invokevirtual 63, 3) := by decide +kernel
theorem dX7_fillSkew_49 : decode cX7_fillSkew 49 = .ok (.invokevirtual 40, 3) := by decide +kernel
theorem dX7_fillSkew_52 : decode cX7_fillSkew 52 = .ok (.iinc 4 1, 3) := by decide +kernel
theorem dX7_fillSkew_55 : decode cX7_fillSkew 55 = .ok (.iinc 6 1, 3) := by decide +kernel
theorem dX7_fillSkew_58 : decode cX7_fillSkew 58 = .ok (.goto (-32), 3) := by decide +kernel
theorem dX7_fillSkew_61 : decode cX7_fillSkew 61 = .ok (.iinc 5 (-1), 3) := by decide +kernel
theorem dX7_fillSkew_64 : decode cX7_fillSkew 64 = .ok (.goto (-52), 3) := by decide +kernel
theorem dX7_fillSkew_67 : decode cX7_fillSkew 67 = .ok (.return_, 1) := by decide +kernel
theorem dX7_isColumnStrictOutside_0 : decode cX7_isColumnStrictOutside 0 = .ok (.iconst 0, 1) := by decide +kernel
theorem dX7_isColumnStrictOutside_1 : decode cX7_isColumnStrictOutside 1 = .ok (.istore_n 2, 1) := by decide +kernel
theorem dX7_isColumnStrictOutside_2 : decode cX7_isColumnStrictOutside 2 = .ok (.iload_n 2, 1) := by decide +kernel
theorem dX7_isColumnStrictOutside_3 : decode cX7_isColumnStrictOutside 3 = .ok (.bipush 8, 2) := by decide +kernel
theorem dX7_isColumnStrictOutside_5 : decode cX7_isColumnStrictOutside 5 = .ok (.if_icmp .ge 96, 3) := by decide +kernel
theorem dX7_isColumnStrictOutside_8 : decode cX7_isColumnStrictOutside 8 = .ok (.aload_n 1, 1) := by decide +kernel
theorem dX7_isColumnStrictOutside_9 : decode cX7_isColumnStrictOutside 9 = .ok (.getfield 33, 3) := by decide +kernel
theorem dX7_isColumnStrictOutside_12 : decode cX7_isColumnStrictOutside 12 = .ok (.iload_n 2, 1) := by decide +kernel
theorem dX7_isColumnStrictOutside_13 : decode cX7_isColumnStrictOutside 13 = .ok (.iaload, 1) := by decide +kernel
theorem dX7_isColumnStrictOutside_14 : decode cX7_isColumnStrictOutside 14 = .ok (.istore_n 3, 1) := by decide +kernel
theorem dX7_isColumnStrictOutside_15 : decode cX7_isColumnStrictOutside 15 = .ok (.iload_n 3, 1) := by decide +kernel
theorem dX7_isColumnStrictOutside_16 : decode cX7_isColumnStrictOutside 16 = .ok (.aload_n 0, 1) := by decide +kernel
theorem dX7_isColumnStrictOutside_17 : decode cX7_isColumnStrictOutside 17 = .ok (.getfield 11, 3) := by decide +kernel
theorem dX7_isColumnStrictOutside_20 : decode cX7_isColumnStrictOutside 20 = .ok (.iload_n 2, 1) := by decide +kernel
theorem dX7_isColumnStrictOutside_21 : decode cX7_isColumnStrictOutside 21 = .ok (.iaload, 1) := by decide +kernel
theorem dX7_isColumnStrictOutside_22 : decode cX7_isColumnStrictOutside 22 = .ok (.if_icmp .ge 73, 3) := by decide +kernel
theorem dX7_isColumnStrictOutside_25 : decode cX7_isColumnStrictOutside 25 = .ok (.aload_n 0, 1) := by decide +kernel
theorem dX7_isColumnStrictOutside_26 : decode cX7_isColumnStrictOutside 26 = .ok (.iload_n 2, 1) := by decide +kernel
theorem dX7_isColumnStrictOutside_27 : decode cX7_isColumnStrictOutside 27 = .ok (.iload_n 3, 1) := by decide +kernel
theorem dX7_isColumnStrictOutside_28 : decode cX7_isColumnStrictOutside 28 = .ok (.invokevirtual 44, 3) := by decide +kernel
theorem dX7_isColumnStrictOutside_31 : decode cX7_isColumnStrictOutside 31 = .ok (.istore 4, 2) := by decide +kernel
theorem dX7_isColumnStrictOutside_33 : decode cX7_isColumnStrictOutside 33 = .ok (.iload_n 3, 1) := by decide +kernel
theorem dX7_isColumnStrictOutside_34 : decode cX7_isColumnStrictOutside 34 = .ok (.aload_n 1, 1) := by decide +kernel
theorem dX7_isColumnStrictOutside_35 : decode cX7_isColumnStrictOutside 35 = .ok (.getfield 33, 3) := by decide +kernel
theorem dX7_isColumnStrictOutside_38 : decode cX7_isColumnStrictOutside 38 = .ok (.iload_n 2, 1) := by decide +kernel
theorem dX7_isColumnStrictOutside_39 : decode cX7_isColumnStrictOutside 39 = .ok (.iaload, 1) := by decide +kernel
theorem dX7_isColumnStrictOutside_40 : decode cX7_isColumnStrictOutside 40 = .ok (.if_icmp .le 18, 3) := by decide +kernel
theorem dX7_isColumnStrictOutside_43 : decode cX7_isColumnStrictOutside 43 = .ok (.aload_n 0, 1) := by decide +kernel
theorem dX7_isColumnStrictOutside_44 : decode cX7_isColumnStrictOutside 44 = .ok (.iload_n 2, 1) := by decide +kernel
theorem dX7_isColumnStrictOutside_45 : decode cX7_isColumnStrictOutside 45 = .ok (.iload_n 3, 1) := by decide +kernel
theorem dX7_isColumnStrictOutside_46 : decode cX7_isColumnStrictOutside 46 = .ok (.iconst 1, 1) := by decide +kernel
theorem dX7_isColumnStrictOutside_47 : decode cX7_isColumnStrictOutside 47 = .ok (.isub, 1) := by decide +kernel
theorem dX7_isColumnStrictOutside_48 : decode cX7_isColumnStrictOutside 48 = .ok (.invokevirtual 44, 3) := by decide +kernel
theorem dX7_isColumnStrictOutside_51 : decode cX7_isColumnStrictOutside 51 = .ok (.iload 4, 2) := by decide +kernel
theorem dX7_isColumnStrictOutside_53 : decode cX7_isColumnStrictOutside 53 = .ok (.if_icmp .le 5, 3) := by decide +kernel
theorem dX7_isColumnStrictOutside_56 : decode cX7_isColumnStrictOutside 56 = .ok (.iconst 0, 1) := by decide +kernel
theorem dX7_isColumnStrictOutside_57 : decode cX7_isColumnStrictOutside 57 = .ok (.ireturn, 1) := by decide +kernel
theorem dX7_isColumnStrictOutside_58 : decode cX7_isColumnStrictOutside 58 = .ok (.iload_n 2, 1) := by decide +kernel
theorem dX7_isColumnStrictOutside_59 : decode cX7_isColumnStrictOutside 59 = .ok (.ifCond .le 30, 3) := by decide +kernel
theorem dX7_isColumnStrictOutside_62 : decode cX7_isColumnStrictOutside 62 = .ok (.iload_n 3, 1) := by decide +kernel
theorem dX7_isColumnStrictOutside_63 : decode cX7_isColumnStrictOutside 63 = .ok (.aload_n 1, 1) := by decide +kernel
theorem dX7_isColumnStrictOutside_64 : decode cX7_isColumnStrictOutside 64 = .ok (.getfield 33, 3) := by decide +kernel
theorem dX7_isColumnStrictOutside_67 : decode cX7_isColumnStrictOutside 67 = .ok (.iload_n 2, 1) := by decide +kernel
theorem dX7_isColumnStrictOutside_68 : decode cX7_isColumnStrictOutside 68 = .ok (.iconst 1, 1) := by decide +kernel
theorem dX7_isColumnStrictOutside_69 : decode cX7_isColumnStrictOutside 69 = .ok (.isub, 1) := by decide +kernel
theorem dX7_isColumnStrictOutside_70 : decode cX7_isColumnStrictOutside 70 = .ok (.iaload, 1) := by decide +kernel
theorem dX7_isColumnStrictOutside_71 : decode cX7_isColumnStrictOutside 71 = .ok (.if_icmp .lt 18, 3) := by decide +kernel
theorem dX7_isColumnStrictOutside_74 : decode cX7_isColumnStrictOutside 74 = .ok (.aload_n 0, 1) := by decide +kernel
theorem dX7_isColumnStrictOutside_75 : decode cX7_isColumnStrictOutside 75 = .ok (.iload_n 2, 1) := by decide +kernel
theorem dX7_isColumnStrictOutside_76 : decode cX7_isColumnStrictOutside 76 = .ok (.iconst 1, 1) := by decide +kernel
theorem dX7_isColumnStrictOutside_77 : decode cX7_isColumnStrictOutside 77 = .ok (.isub, 1) := by decide +kernel
theorem dX7_isColumnStrictOutside_78 : decode cX7_isColumnStrictOutside 78 = .ok (.iload_n 3, 1) := by decide +kernel
theorem dX7_isColumnStrictOutside_79 : decode cX7_isColumnStrictOutside 79 = .ok (.invokevirtual 44, 3) := by decide +kernel
theorem dX7_isColumnStrictOutside_82 : decode cX7_isColumnStrictOutside 82 = .ok (.iload 4, 2) := by decide +kernel
theorem dX7_isColumnStrictOutside_84 : decode cX7_isColumnStrictOutside 84 = .ok (.if_icmp .lt 5, 3) := by decide +kernel
theorem dX7_isColumnStrictOutside_87 : decode cX7_isColumnStrictOutside 87 = .ok (.iconst 0, 1) := by decide +kernel
theorem dX7_isColumnStrictOutside_88 : decode cX7_isColumnStrictOutside 88 = .ok (.ireturn, 1) := by decide +kernel
theorem dX7_isColumnStrictOutside_89 : decode cX7_isColumnStrictOutside 89 = .ok (.iinc 3 1, 3) := by decide +kernel
theorem dX7_isColumnStrictOutside_92 : decode cX7_isColumnStrictOutside 92 = .ok (.goto (-77), 3) := by decide +kernel
theorem dX7_isColumnStrictOutside_95 : decode cX7_isColumnStrictOutside 95 = .ok (.iinc 2 1, 3) := by decide +kernel
theorem dX7_isColumnStrictOutside_98 : decode cX7_isColumnStrictOutside 98 = .ok (.goto (-96), 3) := by decide +kernel
theorem dX7_isColumnStrictOutside_101 : decode cX7_isColumnStrictOutside 101 = .ok (.iconst 1, 1) := by decide +kernel
theorem dX7_isColumnStrictOutside_102 : decode cX7_isColumnStrictOutside 102 = .ok (.ireturn, 1) := by decide +kernel
theorem dX7_slideInto_0 : decode cX7_slideInto 0 = .ok (.iload_n 1, 1) := by decide +kernel
theorem dX7_slideInto_1 : decode cX7_slideInto 1 = .ok (.istore_n 3, 1) := by decide +kernel
theorem dX7_slideInto_2 : decode cX7_slideInto 2 = .ok (.iload_n 2, 1) := by decide +kernel
theorem dX7_slideInto_3 : decode cX7_slideInto 3 = .ok (.istore 4, 2) := by decide +kernel
theorem dX7_slideInto_5 : decode cX7_slideInto 5 = .ok (.iconst 0, 1) := by decide +kernel
theorem dX7_slideInto_6 : decode cX7_slideInto 6 = .ok (.istore 5, 2) := by decide +kernel
theorem dX7_slideInto_8 : decode cX7_slideInto 8 = .ok (.iload 5, 2) := by decide +kernel
theorem dX7_slideInto_10 : decode cX7_slideInto 10 = .ok (.bipush 40, 2) := by decide +kernel
theorem dX7_slideInto_12 : decode cX7_slideInto 12 = .ok (.if_icmp .ge 88, 3) := by decide +kernel
theorem dX7_slideInto_15 : decode cX7_slideInto 15 = .ok (.aload_n 0, 1) := by decide +kernel
theorem dX7_slideInto_16 : decode cX7_slideInto 16 = .ok (.iload_n 3, 1) := by decide +kernel
theorem dX7_slideInto_17 : decode cX7_slideInto 17 = .ok (.iload 4, 2) := by decide +kernel
theorem dX7_slideInto_19 : decode cX7_slideInto 19 = .ok (.iconst 1, 1) := by decide +kernel
theorem dX7_slideInto_20 : decode cX7_slideInto 20 = .ok (.iadd, 1) := by decide +kernel
theorem dX7_slideInto_21 : decode cX7_slideInto 21 = .ok (.invokevirtual 44, 3) := by decide +kernel
theorem dX7_slideInto_24 : decode cX7_slideInto 24 = .ok (.istore 6, 2) := by decide +kernel
theorem dX7_slideInto_26 : decode cX7_slideInto 26 = .ok (.aload_n 0, 1) := by decide +kernel
theorem dX7_slideInto_27 : decode cX7_slideInto 27 = .ok (.iload_n 3, 1) := by decide +kernel
theorem dX7_slideInto_28 : decode cX7_slideInto 28 = .ok (.iconst 1, 1) := by decide +kernel
theorem dX7_slideInto_29 : decode cX7_slideInto 29 = .ok (.iadd, 1) := by decide +kernel
theorem dX7_slideInto_30 : decode cX7_slideInto 30 = .ok (.iload 4, 2) := by decide +kernel
theorem dX7_slideInto_32 : decode cX7_slideInto 32 = .ok (.invokevirtual 44, 3) := by decide +kernel
theorem dX7_slideInto_35 : decode cX7_slideInto 35 = .ok (.istore 7, 2) := by decide +kernel
theorem dX7_slideInto_37 : decode cX7_slideInto 37 = .ok (.iload 6, 2) := by decide +kernel
theorem dX7_slideInto_39 : decode cX7_slideInto 39 = .ok (.ifCond .ne 11, 3) := by decide +kernel
theorem dX7_slideInto_42 : decode cX7_slideInto 42 = .ok (.iload 7, 2) := by decide +kernel
theorem dX7_slideInto_44 : decode cX7_slideInto 44 = .ok (.ifCond .ne 6, 3) := by decide +kernel
theorem dX7_slideInto_47 : decode cX7_slideInto 47 = .ok (.goto 53, 3) := by decide +kernel
theorem dX7_slideInto_50 : decode cX7_slideInto 50 = .ok (.iload 7, 2) := by decide +kernel
theorem dX7_slideInto_52 : decode cX7_slideInto 52 = .ok (.ifCond .eq 30, 3) := by decide +kernel
theorem dX7_slideInto_55 : decode cX7_slideInto 55 = .ok (.iload 6, 2) := by decide +kernel
theorem dX7_slideInto_57 : decode cX7_slideInto 57 = .ok (.ifCond .eq 10, 3) := by decide +kernel
theorem dX7_slideInto_60 : decode cX7_slideInto 60 = .ok (.iload 7, 2) := by decide +kernel
theorem dX7_slideInto_62 : decode cX7_slideInto 62 = .ok (.iload 6, 2) := by decide +kernel
theorem dX7_slideInto_64 : decode cX7_slideInto 64 = .ok (.if_icmp .gt 18, 3) := by decide +kernel
theorem dX7_slideInto_67 : decode cX7_slideInto 67 = .ok (.aload_n 0, 1) := by decide +kernel
theorem dX7_slideInto_68 : decode cX7_slideInto 68 = .ok (.iload_n 3, 1) := by decide +kernel
theorem dX7_slideInto_69 : decode cX7_slideInto 69 = .ok (.iload 4, 2) := by decide +kernel
theorem dX7_slideInto_71 : decode cX7_slideInto 71 = .ok (.iload 7, 2) := by decide +kernel
theorem dX7_slideInto_73 : decode cX7_slideInto 73 = .ok (.invokevirtual 40, 3) := by decide +kernel
theorem dX7_slideInto_76 : decode cX7_slideInto 76 = .ok (.iinc 3 1, 3) := by decide +kernel
theorem dX7_slideInto_79 : decode cX7_slideInto 79 = .ok (.goto 15, 3) := by decide +kernel
theorem dX7_slideInto_82 : decode cX7_slideInto 82 = .ok (.aload_n 0, 1) := by decide +kernel
theorem dX7_slideInto_83 : decode cX7_slideInto 83 = .ok (.iload_n 3, 1) := by decide +kernel
theorem dX7_slideInto_84 : decode cX7_slideInto 84 = .ok (.iload 4, 2) := by decide +kernel
theorem dX7_slideInto_86 : decode cX7_slideInto 86 = .ok (.iload 6, 2) := by decide +kernel
theorem dX7_slideInto_88 : decode cX7_slideInto 88 = .ok (.invokevirtual 40, 3) := by decide +kernel
theorem dX7_slideInto_91 : decode cX7_slideInto 91 = .ok (.iinc 4 1, 3) := by decide +kernel
theorem dX7_slideInto_94 : decode cX7_slideInto 94 = .ok (.iinc 5 1, 3) := by decide +kernel
theorem dX7_slideInto_97 : decode cX7_slideInto 97 = .ok (.goto (-89), 3) := by decide +kernel
theorem dX7_slideInto_100 : decode cX7_slideInto 100 = .ok (.aload_n 0, 1) := by decide +kernel
theorem dX7_slideInto_101 : decode cX7_slideInto 101 = .ok (.getfield 11, 3) := by decide +kernel
theorem dX7_slideInto_104 : decode cX7_slideInto 104 = .ok (.iload_n 3, 1) := by decide +kernel
theorem dX7_slideInto_105 : decode cX7_slideInto 105 = .ok (.dup2, 1) := by decide +kernel
theorem dX7_slideInto_106 : decode cX7_slideInto 106 = .ok (.iaload, 1) := by decide +kernel
theorem dX7_slideInto_107 : decode cX7_slideInto 107 = .ok (.iconst 1, 1) := by decide +kernel
theorem dX7_slideInto_108 : decode cX7_slideInto 108 = .ok (.isub, 1) := by decide +kernel
theorem dX7_slideInto_109 : decode cX7_slideInto 109 = .ok (.iastore, 1) := by decide +kernel
theorem dX7_slideInto_110 : decode cX7_slideInto 110 = .ok (.iload_n 3, 1) := by decide +kernel
theorem dX7_slideInto_111 : decode cX7_slideInto 111 = .ok (.ireturn, 1) := by decide +kernel
theorem dX8_init_0 : decode cX8_init 0 = .ok (.aload_n 0, 1) := by decide +kernel
theorem dX8_init_1 : decode cX8_init 1 = .ok (.invokespecial 3, 3) := by decide +kernel
theorem dX8_init_4 : decode cX8_init 4 = .ok (.aload_n 0, 1) := by decide +kernel
theorem dX8_init_5 : decode cX8_init 5 = .ok (.bipush 16, 2) := by decide +kernel
theorem dX8_init_7 : decode cX8_init 7 = .ok (.newarray .int, 2) := by decide +kernel
theorem dX8_init_9 : decode cX8_init 9 = .ok (.putfield 9, 3) := by decide +kernel
theorem dX8_init_12 : decode cX8_init 12 = .ok (.aload_n 0, 1) := by decide +kernel
theorem dX8_init_13 : decode cX8_init 13 = .ok (.iconst 0, 1) := by decide +kernel
theorem dX8_init_14 : decode cX8_init 14 = .ok (.putfield 15, 3) := by decide +kernel
theorem dX8_init_17 : decode cX8_init 17 = .ok (.return_, 1) := by decide +kernel
theorem dX8_letterAt_0 : decode cX8_letterAt 0 = .ok (.iload_n 1, 1) := by decide +kernel
theorem dX8_letterAt_1 : decode cX8_letterAt 1 = .ok (.ifCond .lt 11, 3) := by decide +kernel
theorem dX8_letterAt_4 : decode cX8_letterAt 4 = .ok (.iload_n 1, 1) := by decide +kernel
theorem dX8_letterAt_5 : decode cX8_letterAt 5 = .ok (.aload_n 0, 1) := by decide +kernel
theorem dX8_letterAt_6 : decode cX8_letterAt 6 = .ok (.getfield 15, 3) := by decide +kernel
theorem dX8_letterAt_9 : decode cX8_letterAt 9 = .ok (.if_icmp .lt 7, 3) := by decide +kernel
theorem dX8_letterAt_12 : decode cX8_letterAt 12 = .ok (.iconst 0, 1) := by decide +kernel
theorem dX8_letterAt_13 : decode cX8_letterAt 13 = .ok (.goto 9, 3) := by decide +kernel
theorem dX8_letterAt_16 : decode cX8_letterAt 16 = .ok (.aload_n 0, 1) := by decide +kernel
theorem dX8_letterAt_17 : decode cX8_letterAt 17 = .ok (.getfield 9, 3) := by decide +kernel
theorem dX8_letterAt_20 : decode cX8_letterAt 20 = .ok (.iload_n 1, 1) := by decide +kernel
theorem dX8_letterAt_21 : decode cX8_letterAt 21 = .ok (.iaload, 1) := by decide +kernel
theorem dX8_letterAt_22 : decode cX8_letterAt 22 = .ok (.ireturn, 1) := by decide +kernel
theorem dX8_add_0 : decode cX8_add 0 = .ok (.aload_n 0, 1) := by decide +kernel
theorem dX8_add_1 : decode cX8_add 1 = .ok (.getfield 15, 3) := by decide +kernel
theorem dX8_add_4 : decode cX8_add 4 = .ok (.bipush 16, 2) := by decide +kernel
theorem dX8_add_6 : decode cX8_add 6 = .ok (.if_icmp .ge 23, 3) := by decide +kernel
theorem dX8_add_9 : decode cX8_add 9 = .ok (.aload_n 0, 1) := by decide +kernel
theorem dX8_add_10 : decode cX8_add 10 = .ok (.getfield 9, 3) := by decide +kernel
theorem dX8_add_13 : decode cX8_add 13 = .ok (.aload_n 0, 1) := by decide +kernel
theorem dX8_add_14 : decode cX8_add 14 = .ok (.getfield 15, 3) := by decide +kernel
theorem dX8_add_17 : decode cX8_add 17 = .ok (.iload_n 1, 1) := by decide +kernel
theorem dX8_add_18 : decode cX8_add 18 = .ok (.iastore, 1) := by decide +kernel
theorem dX8_add_19 : decode cX8_add 19 = .ok (.aload_n 0, 1) := by decide +kernel
theorem dX8_add_20 : decode cX8_add 20 = .ok (.dup, 1) := by decide +kernel
theorem dX8_add_21 : decode cX8_add 21 = .ok (.getfield 15, 3) := by decide +kernel
theorem dX8_add_24 : decode cX8_add 24 = .ok (.iconst 1, 1) := by decide +kernel
theorem dX8_add_25 : decode cX8_add 25 = .ok (.iadd, 1) := by decide +kernel
theorem dX8_add_26 : decode cX8_add 26 = .ok (.putfield 15, 3) := by decide +kernel
theorem dX8_add_29 : decode cX8_add 29 = .ok (.return_, 1) := by decide +kernel
theorem dX9_init_0 : decode cX9_init 0 = .ok (.aload_n 0, 1) := by decide +kernel
theorem dX9_init_1 : decode cX9_init 1 = .ok (.invokespecial 1, 3) := by decide +kernel
theorem dX9_init_4 : decode cX9_init 4 = .ok (.aload_n 0, 1) := by decide +kernel
theorem dX9_init_5 : decode cX9_init 5 = .ok (.iconst 4, 1) := by decide +kernel
theorem dX9_init_6 : decode cX9_init 6 = .ok (.anewarray 9, 3) := by decide +kernel
theorem dX9_init_9 : decode cX9_init 9 = .ok (.putfield 11, 3) := by decide +kernel
theorem dX9_init_12 : decode cX9_init 12 = .ok (.aload_n 0, 1) := by decide +kernel
theorem dX9_init_13 : decode cX9_init 13 = .ok (.iconst 2, 1) := by decide +kernel
theorem dX9_init_14 : decode cX9_init 14 = .ok (.anewarray 15, 3) := by decide +kernel
theorem dX9_init_17 : decode cX9_init 17 = .ok (.putfield 17, 3) := by decide +kernel
theorem dX9_init_20 : decode cX9_init 20 = .ok (.aload_n 0, 1) := by decide +kernel
theorem dX9_init_21 : decode cX9_init 21 = .ok (.new 21, 3) := by decide +kernel
theorem dX9_init_24 : decode cX9_init 24 = .ok (.dup, 1) := by decide +kernel
theorem dX9_init_25 : decode cX9_init 25 = .ok (.invokespecial 23, 3) := by decide +kernel
theorem dX9_init_28 : decode cX9_init 28 = .ok (.putfield 24, 3) := by decide +kernel
theorem dX9_init_31 : decode cX9_init 31 = .ok (.aload_n 0, 1) := by decide +kernel
theorem dX9_init_32 : decode cX9_init 32 = .ok (.new 21, 3) := by decide +kernel
theorem dX9_init_35 : decode cX9_init 35 = .ok (.dup, 1) := by decide +kernel
theorem dX9_init_36 : decode cX9_init 36 = .ok (.invokespecial 23, 3) := by decide +kernel
theorem dX9_init_39 : decode cX9_init 39 = .ok (.putfield 28, 3) := by decide +kernel
theorem dX9_init_42 : decode cX9_init 42 = .ok (.aload_n 0, 1) := by decide +kernel
theorem dX9_init_43 : decode cX9_init 43 = .ok (.iconst 1, 1) := by decide +kernel
theorem dX9_init_44 : decode cX9_init 44 = .ok (.putfield 31, 3) := by decide +kernel
theorem dX9_init_47 : decode cX9_init 47 = .ok (.aload_n 0, 1) := by decide +kernel
theorem dX9_init_48 : decode cX9_init 48 = .ok (.new 21, 3) := by decide +kernel
theorem dX9_init_51 : decode cX9_init 51 = .ok (.dup, 1) := by decide +kernel
theorem dX9_init_52 : decode cX9_init 52 = .ok (.invokespecial 23, 3) := by decide +kernel
theorem dX9_init_55 : decode cX9_init 55 = .ok (.putfield 35, 3) := by decide +kernel
theorem dX9_init_58 : decode cX9_init 58 = .ok (.aload_n 0, 1) := by decide +kernel
theorem dX9_init_59 : decode cX9_init 59 = .ok (.new 21, 3) := by decide +kernel
theorem dX9_init_62 : decode cX9_init 62 = .ok (.dup, 1) := by decide +kernel
theorem dX9_init_63 : decode cX9_init 63 = .ok (.invokespecial 23, 3) := by decide +kernel
theorem dX9_init_66 : decode cX9_init 66 = .ok (.putfield 38, 3) := by decide +kernel
theorem dX9_init_69 : decode cX9_init 69 = .ok (.aload_n 0, 1) := by decide +kernel
theorem dX9_init_70 : decode cX9_init 70 = .ok (.new 9, 3) := by decide +kernel
theorem dX9_init_73 : decode cX9_init 73 = .ok (.dup, 1) := by decide +kernel
theorem dX9_init_74 : decode cX9_init 74 = .ok (.invokespecial 41, 3) := by decide +kernel
theorem dX9_init_77 : decode cX9_init 77 = .ok (.putfield 42, 3) := by decide +kernel
theorem dX9_init_80 : decode cX9_init 80 = .ok (.aload_n 0, 1) := by decide +kernel
theorem dX9_init_81 : decode cX9_init 81 = .ok (.new 46, 3) := by decide +kernel
theorem dX9_init_84 : decode cX9_init 84 = .ok (.dup, 1) := by decide +kernel
theorem dX9_init_85 : decode cX9_init 85 = .ok (.invokespecial 48, 3) := by decide +kernel
theorem dX9_init_88 : decode cX9_init 88 = .ok (.putfield 49, 3) := by decide +kernel
theorem dX9_init_91 : decode cX9_init 91 = .ok (.aload_n 0, 1) := by decide +kernel
theorem dX9_init_92 : decode cX9_init 92 = .ok (.new 53, 3) := by decide +kernel
theorem dX9_init_95 : decode cX9_init 95 = .ok (.dup, 1) := by decide +kernel
theorem dX9_init_96 : decode cX9_init 96 = .ok (.invokespecial 55, 3) := by decide +kernel
theorem dX9_init_99 : decode cX9_init 99 = .ok (.putfield 56, 3) := by decide +kernel
theorem dX9_init_102 : decode cX9_init 102 = .ok (.aload_n 0, 1) := by decide +kernel
theorem dX9_init_103 : decode cX9_init 103 = .ok (.new 60, 3) := by decide +kernel
theorem dX9_init_106 : decode cX9_init 106 = .ok (.dup, 1) := by decide +kernel
theorem dX9_init_107 : decode cX9_init 107 = .ok (.invokespecial 62, 3) := by decide +kernel
theorem dX9_init_110 : decode cX9_init 110 = .ok (.putfield 63, 3) := by decide +kernel
theorem dX9_init_113 : decode cX9_init 113 = .ok (.aload_n 0, 1) := by decide +kernel
theorem dX9_init_114 : decode cX9_init 114 = .ok (.new 67, 3) := by decide +kernel
theorem dX9_init_117 : decode cX9_init 117 = .ok (.dup, 1) := by decide +kernel
theorem dX9_init_118 : decode cX9_init 118 = .ok (.invokespecial 69, 3) := by decide +kernel
theorem dX9_init_121 : decode cX9_init 121 = .ok (.putfield 70, 3) := by decide +kernel
theorem dX9_init_124 : decode cX9_init 124 = .ok (.aload_n 0, 1) := by decide +kernel
theorem dX9_init_125 : decode cX9_init 125 = .ok (.new 74, 3) := by decide +kernel
theorem dX9_init_128 : decode cX9_init 128 = .ok (.dup, 1) := by decide +kernel
theorem dX9_init_129 : decode cX9_init 129 = .ok (.invokespecial 76, 3) := by decide +kernel
theorem dX9_init_132 : decode cX9_init 132 = .ok (.putfield 77, 3) := by decide +kernel
theorem dX9_init_135 : decode cX9_init 135 = .ok (.iconst 0, 1) := by decide +kernel
theorem dX9_init_136 : decode cX9_init 136 = .ok (.istore_n 1, 1) := by decide +kernel
theorem dX9_init_137 : decode cX9_init 137 = .ok (.iload_n 1, 1) := by decide +kernel
theorem dX9_init_138 : decode cX9_init 138 = .ok (.iconst 4, 1) := by decide +kernel
theorem dX9_init_139 : decode cX9_init 139 = .ok (.if_icmp .ge 22, 3) := by decide +kernel
theorem dX9_init_142 : decode cX9_init 142 = .ok (.aload_n 0, 1) := by decide +kernel
theorem dX9_init_143 : decode cX9_init 143 = .ok (.getfield 11, 3) := by decide +kernel
theorem dX9_init_146 : decode cX9_init 146 = .ok (.iload_n 1, 1) := by decide +kernel
theorem dX9_init_147 : decode cX9_init 147 = .ok (.new 9, 3) := by decide +kernel
theorem dX9_init_150 : decode cX9_init 150 = .ok (.dup, 1) := by decide +kernel
theorem dX9_init_151 : decode cX9_init 151 = .ok (.invokespecial 41, 3) := by decide +kernel
theorem dX9_init_154 : decode cX9_init 154 = .ok (.aastore, 1) := by decide +kernel
theorem dX9_init_155 : decode cX9_init 155 = .ok (.iinc 1 1, 3) := by decide +kernel
theorem dX9_init_158 : decode cX9_init 158 = .ok (.goto (-21), 3) := by decide +kernel
theorem dX9_init_161 : decode cX9_init 161 = .ok (.iconst 0, 1) := by decide +kernel
theorem dX9_init_162 : decode cX9_init 162 = .ok (.istore_n 1, 1) := by decide +kernel
theorem dX9_init_163 : decode cX9_init 163 = .ok (.iload_n 1, 1) := by decide +kernel
theorem dX9_init_164 : decode cX9_init 164 = .ok (.iconst 2, 1) := by decide +kernel
theorem dX9_init_165 : decode cX9_init 165 = .ok (.if_icmp .ge 22, 3) := by decide +kernel
theorem dX9_init_168 : decode cX9_init 168 = .ok (.aload_n 0, 1) := by decide +kernel
theorem dX9_init_169 : decode cX9_init 169 = .ok (.getfield 17, 3) := by decide +kernel
theorem dX9_init_172 : decode cX9_init 172 = .ok (.iload_n 1, 1) := by decide +kernel
theorem dX9_init_173 : decode cX9_init 173 = .ok (.new 15, 3) := by decide +kernel
theorem dX9_init_176 : decode cX9_init 176 = .ok (.dup, 1) := by decide +kernel
theorem dX9_init_177 : decode cX9_init 177 = .ok (.invokespecial 81, 3) := by decide +kernel
theorem dX9_init_180 : decode cX9_init 180 = .ok (.aastore, 1) := by decide +kernel
theorem dX9_init_181 : decode cX9_init 181 = .ok (.iinc 1 1, 3) := by decide +kernel
theorem dX9_init_184 : decode cX9_init 184 = .ok (.goto (-21), 3) := by decide +kernel
theorem dX9_init_187 : decode cX9_init 187 = .ok (.return_, 1) := by decide +kernel
theorem dX9_shape_0 : decode cX9_shape 0 = .ok (.aload_n 0, 1) := by decide +kernel
theorem dX9_shape_1 : decode cX9_shape 1 = .ok (.iload_n 1, 1) := by decide +kernel
theorem dX9_shape_2 : decode cX9_shape 2 = .ok (.invokevirtual 82, 3) := by decide +kernel
theorem dX9_shape_5 : decode cX9_shape 5 = .ok (.astore 4, 2) := by decide +kernel
theorem dX9_shape_7 : decode cX9_shape 7 = .ok (.aload_n 0, 1) := by decide +kernel
theorem dX9_shape_8 : decode cX9_shape 8 = .ok (.getfield 42, 3) := by decide +kernel
theorem dX9_shape_11 : decode cX9_shape 11 = .ok (.lload_n 2, 1) := by decide +kernel
theorem dX9_shape_12 : decode cX9_shape 12 = .ok (.invokevirtual 86, 3) := by decide +kernel
theorem dX9_shape_15 : decode cX9_shape 15 = .ok (.aload_n 0, 1) := by decide +kernel
theorem dX9_shape_16 : decode cX9_shape 16 = .ok (.getfield 42, 3) := by decide +kernel
theorem dX9_shape_19 : decode cX9_shape 19 = .ok (.invokevirtual 90, 3) := by decide +kernel
theorem dX9_shape_22 : decode cX9_shape 22 = .ok (.ifCond .ne 5, 3) := by decide +kernel
theorem dX9_shape_25 : decode cX9_shape 25 = .ok (.iconst 0, 1) := by decide +kernel
theorem dX9_shape_26 : decode cX9_shape 26 = .ok (.ireturn, 1) := by decide +kernel
theorem dX9_shape_27 : decode cX9_shape 27 = .ok (.aload 4, 2) := by decide +kernel
theorem dX9_shape_29 : decode cX9_shape 29 = .ok (.aload_n 0, 1) := by decide +kernel
theorem dX9_shape_30 : decode cX9_shape 30 = .ok (.getfield 42, 3) := by decide +kernel
theorem dX9_shape_33 : decode cX9_shape 33 = .ok (.invokevirtual 94, 3) := by decide +kernel
theorem dX9_shape_36 : decode cX9_shape 36 = .ok (.iconst 1, 1) := by decide +kernel
theorem dX9_shape_37 : decode cX9_shape 37 = .ok (.ireturn, 1) := by decide +kernel
theorem dX9_row_0 : decode cX9_row 0 = .ok (.aload_n 0, 1) := by decide +kernel
theorem dX9_row_1 : decode cX9_row 1 = .ok (.iload_n 1, 1) := by decide +kernel
theorem dX9_row_2 : decode cX9_row 2 = .ok (.invokevirtual 82, 3) := by decide +kernel
theorem dX9_row_5 : decode cX9_row 5 = .ok (.iload_n 2, 1) := by decide +kernel
theorem dX9_row_6 : decode cX9_row 6 = .ok (.invokevirtual 98, 3) := by decide +kernel
theorem dX9_row_9 : decode cX9_row 9 = .ok (.ireturn, 1) := by decide +kernel
theorem dX9_conjugate_0 : decode cX9_conjugate 0 = .ok (.aload_n 0, 1) := by decide +kernel
theorem dX9_conjugate_1 : decode cX9_conjugate 1 = .ok (.iload_n 1, 1) := by decide +kernel
theorem dX9_conjugate_2 : decode cX9_conjugate 2 = .ok (.invokevirtual 82, 3) := by decide +kernel
theorem dX9_conjugate_5 : decode cX9_conjugate 5 = .ok (.astore_n 2, 1) := by decide +kernel
theorem dX9_conjugate_6 : decode cX9_conjugate 6 = .ok (.aload_n 2, 1) := by decide +kernel
theorem dX9_conjugate_7 : decode cX9_conjugate 7 = .ok (.iconst 0, 1) := by decide +kernel
theorem dX9_conjugate_8 : decode cX9_conjugate 8 = .ok (.invokevirtual 98, 3) := by decide +kernel
theorem dX9_conjugate_11 : decode cX9_conjugate 11 = .ok (.bipush 8, 2) := by decide +kernel
theorem dX9_conjugate_13 : decode cX9_conjugate 13 = .ok (.if_icmp .le 5, 3) := by decide +kernel
theorem dX9_conjugate_16 : decode cX9_conjugate 16 = .ok (.iconst 0, 1) := by decide +kernel
theorem dX9_conjugate_17 : decode cX9_conjugate 17 = .ok (.ireturn, 1) := by decide +kernel
theorem dX9_conjugate_18 : decode cX9_conjugate 18 = .ok (.aload_n 0, 1) := by decide +kernel
theorem dX9_conjugate_19 : decode cX9_conjugate 19 = .ok (.getfield 42, 3) := by decide +kernel
theorem dX9_conjugate_22 : decode cX9_conjugate 22 = .ok (.aload_n 2, 1) := by decide +kernel
theorem dX9_conjugate_23 : decode cX9_conjugate 23 = .ok (.invokevirtual 94, 3) := by decide +kernel
theorem dX9_conjugate_26 : decode cX9_conjugate 26 = .ok (.iconst 0, 1) := by decide +kernel
theorem dX9_conjugate_27 : decode cX9_conjugate 27 = .ok (.istore_n 3, 1) := by decide +kernel
theorem dX9_conjugate_28 : decode cX9_conjugate 28 = .ok (.iload_n 3, 1) := by decide +kernel
theorem dX9_conjugate_29 : decode cX9_conjugate 29 = .ok (.bipush 8, 2) := by decide +kernel
theorem dX9_conjugate_31 : decode cX9_conjugate 31 = .ok (.if_icmp .ge 23, 3) := by decide +kernel
theorem dX9_conjugate_34 : decode cX9_conjugate 34 = .ok (.aload_n 2, 1) := by decide +kernel
theorem dX9_conjugate_35 : decode cX9_conjugate 35 = .ok (.getfield 102, 3) := by decide +kernel
theorem dX9_conjugate_38 : decode cX9_conjugate 38 = .ok (.iload_n 3, 1) := by decide +kernel
theorem dX9_conjugate_39 : decode cX9_conjugate 39 = .ok (.aload_n 0, 1) := by decide +kernel
theorem dX9_conjugate_40 : decode cX9_conjugate 40 = .ok (.getfield 42, 3) := by decide +kernel
theorem dX9_conjugate_43 : decode cX9_conjugate 43 = .ok (.iload_n 3, 1) := by decide +kernel
theorem dX9_conjugate_44 : decode cX9_conjugate 44 = .ok (.invokevirtual 106, 3) := by decide +kernel
theorem dX9_conjugate_47 : decode cX9_conjugate 47 = .ok (.iastore, 1) := by decide +kernel
theorem dX9_conjugate_48 : decode cX9_conjugate 48 = .ok (.iinc 3 1, 3) := by decide +kernel
theorem dX9_conjugate_51 : decode cX9_conjugate 51 = .ok (.goto (-23), 3) := by decide +kernel
theorem dX9_conjugate_54 : decode cX9_conjugate 54 = .ok (.iconst 1, 1) := by decide +kernel
theorem dX9_conjugate_55 : decode cX9_conjugate 55 = .ok (.ireturn, 1) := by decide +kernel
theorem dX9_rank_0 : decode cX9_rank 0 = .ok (.aload_n 0, 1) := by decide +kernel
theorem dX9_rank_1 : decode cX9_rank 1 = .ok (.getfield 56, 3) := by decide +kernel
theorem dX9_rank_4 : decode cX9_rank 4 = .ok (.aload_n 0, 1) := by decide +kernel
theorem dX9_rank_5 : decode cX9_rank 5 = .ok (.iload_n 1, 1) := by decide +kernel
theorem dX9_rank_6 : decode cX9_rank 6 = .ok (.invokevirtual 82, 3) := by decide +kernel
theorem dX9_rank_9 : decode cX9_rank 9 = .ok (.invokevirtual 109, 3) := by decide +kernel
theorem dX9_rank_12 : decode cX9_rank 12 = .ok (.ireturn, 1) := by decide +kernel
theorem dX9_unrank_0 : decode cX9_unrank 0 = .ok (.aload_n 0, 1) := by decide +kernel
theorem dX9_unrank_1 : decode cX9_unrank 1 = .ok (.iload_n 1, 1) := by decide +kernel
theorem dX9_unrank_2 : decode cX9_unrank 2 = .ok (.invokevirtual 82, 3) := by decide +kernel
theorem dX9_unrank_5 : decode cX9_unrank 5 = .ok (.astore 4, 2) := by decide +kernel
theorem dX9_unrank_7 : decode cX9_unrank 7 = .ok (.iload_n 2, 1) := by decide +kernel
theorem dX9_unrank_8 : decode cX9_unrank 8 = .ok (.ifCond .lt 9, 3) := by decide +kernel
theorem dX9_unrank_11 : decode cX9_unrank 11 = .ok (.iload_n 2, 1) := by decide +kernel
theorem dX9_unrank_12 : decode cX9_unrank 12 = .ok (.bipush 24, 2) := by decide +kernel
theorem dX9_unrank_14 : decode cX9_unrank 14 = .ok (.if_icmp .le 13, 3) := by decide +kernel
theorem dX9_unrank_17 : decode cX9_unrank 17 = .ok (.new 113, 3) := by decide +kernel
theorem dX9_unrank_20 : decode cX9_unrank 20 = .ok (.dup, 1) := by decide +kernel
theorem dX9_unrank_21 : decode cX9_unrank 21 = .ok (.ldc 115, 2) := by decide +kernel
theorem dX9_unrank_23 : decode cX9_unrank 23 = .ok (.invokespecial 117, 3) := by decide +kernel
theorem dX9_unrank_26 : decode cX9_unrank 26 = .ok (.athrow, 1) := by decide +kernel
theorem dX9_unrank_27 : decode cX9_unrank 27 = .ok (.iload_n 3, 1) := by decide +kernel
theorem dX9_unrank_28 : decode cX9_unrank 28 = .ok (.ifCond .lt 16, 3) := by decide +kernel
theorem dX9_unrank_31 : decode cX9_unrank 31 = .ok (.iload_n 3, 1) := by decide +kernel
theorem dX9_unrank_32 : decode cX9_unrank 32 = .ok (.aload_n 0, 1) := by decide +kernel
theorem dX9_unrank_33 : decode cX9_unrank 33 = .ok (.getfield 56, 3) := by decide +kernel
theorem dX9_unrank_36 : decode cX9_unrank 36 = .ok (.iload_n 2, 1) := by decide +kernel
theorem dX9_unrank_37 : decode cX9_unrank 37 = .ok (.iload_n 2, 1) := by decide +kernel
theorem dX9_unrank_38 : decode cX9_unrank 38 = .ok (.invokevirtual 120, 3) := by decide +kernel
theorem dX9_unrank_41 : decode cX9_unrank 41 = .ok (.if_icmp .lt 13, 3) := by decide +kernel
theorem dX9_unrank_44 : decode cX9_unrank 44 = .ok (.new 124, 3) := by decide +kernel
theorem dX9_unrank_47 : decode cX9_unrank 47 = .ok (.dup, 1) := by decide +kernel
theorem dX9_unrank_48 : decode cX9_unrank 48 = .ok (.ldc 126, 2) := by decide +kernel
theorem dX9_unrank_50 : decode cX9_unrank 50 = .ok (.invokespecial 128, 3) := by decide +kernel
theorem dX9_unrank_53 : decode cX9_unrank 53 = .ok (.athrow, 1) := by decide +kernel
theorem dX9_unrank_54 : decode cX9_unrank 54 = .ok (.aload_n 0, 1) := by decide +kernel
theorem dX9_unrank_55 : decode cX9_unrank 55 = .ok (.getfield 56, 3) := by decide +kernel
theorem dX9_unrank_58 : decode cX9_unrank 58 = .ok (.iload_n 2, 1) := by decide +kernel
theorem dX9_unrank_59 : decode cX9_unrank 59 = .ok (.iload_n 3, 1) := by decide +kernel
theorem dX9_unrank_60 : decode cX9_unrank 60 = .ok (.aload_n 0, 1) := by decide +kernel
theorem dX9_unrank_61 : decode cX9_unrank 61 = .ok (.getfield 42, 3) := by decide +kernel
theorem dX9_unrank_64 : decode cX9_unrank 64 = .ok (.invokevirtual 129, 3) := by decide +kernel
theorem dX9_unrank_67 : decode cX9_unrank 67 = .ok (.ifCond .ne 13, 3) := by decide +kernel
theorem dX9_unrank_70 : decode cX9_unrank 70 = .ok (.new 133, 3) := by decide +kernel
theorem dX9_unrank_73 : decode cX9_unrank 73 = .ok (.dup, 1) := by decide +kernel
theorem dX9_unrank_74 : decode cX9_unrank 74 = .ok (.ldc 135, 2) := by decide +kernel
theorem dX9_unrank_76 : decode cX9_unrank 76 = .ok (.invokespecial 137, 3) := by decide +kernel
theorem dX9_unrank_79 : decode cX9_unrank 79 = .ok (.athrow, 1) := by decide +kernel
theorem dX9_unrank_80 : decode cX9_unrank 80 = .ok (.aload 4, 2) := by decide +kernel
theorem dX9_unrank_82 : decode cX9_unrank 82 = .ok (.aload_n 0, 1) := by decide +kernel
theorem dX9_unrank_83 : decode cX9_unrank 83 = .ok (.getfield 42, 3) := by decide +kernel
theorem dX9_unrank_86 : decode cX9_unrank 86 = .ok (.invokevirtual 94, 3) := by decide +kernel
theorem dX9_unrank_89 : decode cX9_unrank 89 = .ok (.return_, 1) := by decide +kernel
theorem dX9_letter_0 : decode cX9_letter 0 = .ok (.aload_n 0, 1) := by decide +kernel
theorem dX9_letter_1 : decode cX9_letter 1 = .ok (.iload_n 1, 1) := by decide +kernel
theorem dX9_letter_2 : decode cX9_letter 2 = .ok (.invokevirtual 138, 3) := by decide +kernel
theorem dX9_letter_5 : decode cX9_letter 5 = .ok (.astore_n 3, 1) := by decide +kernel
theorem dX9_letter_6 : decode cX9_letter 6 = .ok (.iload_n 2, 1) := by decide +kernel
theorem dX9_letter_7 : decode cX9_letter 7 = .ok (.iconst 1, 1) := by decide +kernel
theorem dX9_letter_8 : decode cX9_letter 8 = .ok (.if_icmp .lt 18, 3) := by decide +kernel
theorem dX9_letter_11 : decode cX9_letter 11 = .ok (.iload_n 2, 1) := by decide +kernel
theorem dX9_letter_12 : decode cX9_letter 12 = .ok (.bipush 16, 2) := by decide +kernel
theorem dX9_letter_14 : decode cX9_letter 14 = .ok (.if_icmp .gt 12, 3) := by decide +kernel
theorem dX9_letter_17 : decode cX9_letter 17 = .ok (.aload_n 3, 1) := by decide +kernel
theorem dX9_letter_18 : decode cX9_letter 18 = .ok (.getfield 142, 3) := by decide +kernel
theorem dX9_letter_21 : decode cX9_letter 21 = .ok (.bipush 16, 2) := by decide +kernel
theorem dX9_letter_23 : decode cX9_letter 23 = .ok (.if_icmp .lt 5, 3) := by decide +kernel
theorem dX9_letter_26 : decode cX9_letter 26 = .ok (.iconst 0, 1) := by decide +kernel
theorem dX9_letter_27 : decode cX9_letter 27 = .ok (.ireturn, 1) := by decide +kernel
theorem dX9_letter_28 : decode cX9_letter 28 = .ok (.aload_n 3, 1) := by decide +kernel
theorem dX9_letter_29 : decode cX9_letter 29 = .ok (.iload_n 2, 1) := by decide +kernel
theorem dX9_letter_30 : decode cX9_letter 30 = .ok (.invokevirtual 146, 3) := by decide +kernel
theorem dX9_letter_33 : decode cX9_letter 33 = .ok (.iconst 1, 1) := by decide +kernel
theorem dX9_letter_34 : decode cX9_letter 34 = .ok (.ireturn, 1) := by decide +kernel
theorem dX9_cut_0 : decode cX9_cut 0 = .ok (.aload_n 0, 1) := by decide +kernel
theorem dX9_cut_1 : decode cX9_cut 1 = .ok (.iload_n 1, 1) := by decide +kernel
theorem dX9_cut_2 : decode cX9_cut 2 = .ok (.invokevirtual 138, 3) := by decide +kernel
theorem dX9_cut_5 : decode cX9_cut 5 = .ok (.astore_n 3, 1) := by decide +kernel
theorem dX9_cut_6 : decode cX9_cut 6 = .ok (.iload_n 2, 1) := by decide +kernel
theorem dX9_cut_7 : decode cX9_cut 7 = .ok (.ifCond .lt 11, 3) := by decide +kernel
theorem dX9_cut_10 : decode cX9_cut 10 = .ok (.iload_n 2, 1) := by decide +kernel
theorem dX9_cut_11 : decode cX9_cut 11 = .ok (.aload_n 3, 1) := by decide +kernel
theorem dX9_cut_12 : decode cX9_cut 12 = .ok (.getfield 142, 3) := by decide +kernel
theorem dX9_cut_15 : decode cX9_cut 15 = .ok (.if_icmp .le 5, 3) := by decide +kernel
theorem dX9_cut_18 : decode cX9_cut 18 = .ok (.iconst 0, 1) := by decide +kernel
theorem dX9_cut_19 : decode cX9_cut 19 = .ok (.ireturn, 1) := by decide +kernel
theorem dX9_cut_20 : decode cX9_cut 20 = .ok (.aload_n 3, 1) := by decide +kernel
theorem dX9_cut_21 : decode cX9_cut 21 = .ok (.iload_n 2, 1) := by decide +kernel
theorem dX9_cut_22 : decode cX9_cut 22 = .ok (.putfield 142, 3) := by decide +kernel
theorem dX9_cut_25 : decode cX9_cut 25 = .ok (.iconst 1, 1) := by decide +kernel
theorem dX9_cut_26 : decode cX9_cut 26 = .ok (.ireturn, 1) := by decide +kernel
theorem dX9_length_0 : decode cX9_length 0 = .ok (.aload_n 0, 1) := by decide +kernel
theorem dX9_length_1 : decode cX9_length 1 = .ok (.iload_n 1, 1) := by decide +kernel
theorem dX9_length_2 : decode cX9_length 2 = .ok (.invokevirtual 138, 3) := by decide +kernel
theorem dX9_length_5 : decode cX9_length 5 = .ok (.getfield 142, 3) := by decide +kernel
theorem dX9_length_8 : decode cX9_length 8 = .ok (.ireturn, 1) := by decide +kernel
theorem dX9_at_0 : decode cX9_at 0 = .ok (.aload_n 0, 1) := by decide +kernel
theorem dX9_at_1 : decode cX9_at 1 = .ok (.iload_n 1, 1) := by decide +kernel
theorem dX9_at_2 : decode cX9_at 2 = .ok (.invokevirtual 138, 3) := by decide +kernel
theorem dX9_at_5 : decode cX9_at 5 = .ok (.iload_n 2, 1) := by decide +kernel
theorem dX9_at_6 : decode cX9_at 6 = .ok (.invokevirtual 150, 3) := by decide +kernel
theorem dX9_at_9 : decode cX9_at 9 = .ok (.ireturn, 1) := by decide +kernel
theorem dX9_insert_0 : decode cX9_insert 0 = .ok (.aload_n 0, 1) := by decide +kernel
theorem dX9_insert_1 : decode cX9_insert 1 = .ok (.iload_n 1, 1) := by decide +kernel
theorem dX9_insert_2 : decode cX9_insert 2 = .ok (.invokevirtual 138, 3) := by decide +kernel
theorem dX9_insert_5 : decode cX9_insert 5 = .ok (.astore_n 3, 1) := by decide +kernel
theorem dX9_insert_6 : decode cX9_insert 6 = .ok (.aload_n 0, 1) := by decide +kernel
theorem dX9_insert_7 : decode cX9_insert 7 = .ok (.getfield 24, 3) := by decide +kernel
theorem dX9_insert_10 : decode cX9_insert 10 = .ok (.invokevirtual 153, 3) := by decide +kernel
theorem dX9_insert_13 : decode cX9_insert 13 = .ok (.aload_n 0, 1) := by decide +kernel
theorem dX9_insert_14 : decode cX9_insert 14 = .ok (.getfield 28, 3) := by decide +kernel
theorem dX9_insert_17 : decode cX9_insert 17 = .ok (.invokevirtual 153, 3) := by decide +kernel
theorem dX9_insert_20 : decode cX9_insert 20 = .ok (.iconst 0, 1) := by decide +kernel
theorem dX9_insert_21 : decode cX9_insert 21 = .ok (.istore 4, 2) := by decide +kernel
theorem dX9_insert_23 : decode cX9_insert 23 = .ok (.iload 4, 2) := by decide +kernel
theorem dX9_insert_25 : decode cX9_insert 25 = .ok (.aload_n 3, 1) := by decide +kernel
theorem dX9_insert_26 : decode cX9_insert 26 = .ok (.getfield 142, 3) := by decide +kernel
theorem dX9_insert_29 : decode cX9_insert 29 = .ok (.if_icmp .ge 57, 3) := by decide +kernel
theorem dX9_insert_32 : decode cX9_insert 32 = .ok (.aload_n 3, 1) := by decide +kernel
theorem dX9_insert_33 : decode cX9_insert 33 = .ok (.iload 4, 2) := by decide +kernel
theorem dX9_insert_35 : decode cX9_insert 35 = .ok (.invokevirtual 150, 3) := by decide +kernel
theorem dX9_insert_38 : decode cX9_insert 38 = .ok (.istore 5, 2) := by decide +kernel
theorem dX9_insert_40 : decode cX9_insert 40 = .ok (.iload_n 2, 1) := by decide +kernel
theorem dX9_insert_41 : decode cX9_insert 41 = .ok (.ifCond .eq 15, 3) := by decide +kernel
theorem dX9_insert_44 : decode cX9_insert 44 = .ok (.aload_n 0, 1) := by decide +kernel
theorem dX9_insert_45 : decode cX9_insert 45 = .ok (.getfield 24, 3) := by decide +kernel
theorem dX9_insert_48 : decode cX9_insert 48 = .ok (.iload 5, 2) := by decide +kernel
theorem dX9_insert_50 : decode cX9_insert 50 = .ok (.invokevirtual 156, 3) := by decide +kernel
theorem dX9_insert_53 : decode cX9_insert 53 = .ok (.goto 12, 3) := by decide +kernel
theorem dX9_insert_56 : decode cX9_insert 56 = .ok (.aload_n 0, 1) := by decide +kernel
theorem dX9_insert_57 : decode cX9_insert 57 = .ok (.getfield 24, 3) := by decide +kernel
theorem dX9_insert_60 : decode cX9_insert 60 = .ok (.iload 5, 2) := by decide +kernel
theorem dX9_insert_62 : decode cX9_insert 62 = .ok (.invokevirtual 159, 3) := by decide +kernel
theorem dX9_insert_65 : decode cX9_insert 65 = .ok (.istore 6, 2) := by decide +kernel
theorem dX9_insert_67 : decode cX9_insert 67 = .ok (.aload_n 0, 1) := by decide +kernel
theorem dX9_insert_68 : decode cX9_insert 68 = .ok (.getfield 28, 3) := by decide +kernel
theorem dX9_insert_71 : decode cX9_insert 71 = .ok (.iload 6, 2) := by decide +kernel
theorem dX9_insert_73 : decode cX9_insert 73 = .ok (.iload 4, 2) := by decide +kernel
theorem dX9_insert_75 : decode cX9_insert 75 = .ok (.iconst 1, 1) := by decide +kernel
theorem dX9_insert_76 : decode cX9_insert 76 = .ok (.iadd, 1) := by decide +kernel
theorem dX9_insert_77 : decode cX9_insert 77 = .ok (.invokevirtual 162, 3) := by decide +kernel
theorem dX9_insert_80 : decode cX9_insert 80 = .ok (.iinc 4 1, 3) := by decide +kernel
theorem dX9_insert_83 : decode cX9_insert 83 = .ok (.goto (-60), 3) := by decide +kernel
theorem dX9_insert_86 : decode cX9_insert 86 = .ok (.aload_n 0, 1) := by decide +kernel
theorem dX9_insert_87 : decode cX9_insert 87 = .ok (.iconst 0, 1) := by decide +kernel
theorem dX9_insert_88 : decode cX9_insert 88 = .ok (.putfield 31, 3) := by decide +kernel
theorem dX9_insert_91 : decode cX9_insert 91 = .ok (.aload_n 0, 1) := by decide +kernel
theorem dX9_insert_92 : decode cX9_insert 92 = .ok (.getfield 24, 3) := by decide +kernel
theorem dX9_insert_95 : decode cX9_insert 95 = .ok (.invokevirtual 166, 3) := by decide +kernel
theorem dX9_insert_98 : decode cX9_insert 98 = .ok (.ireturn, 1) := by decide +kernel
theorem dX9_entry_0 : decode cX9_entry 0 = .ok (.iload_n 1, 1) := by decide +kernel
theorem dX9_entry_1 : decode cX9_entry 1 = .ok (.ifCond .ne 13, 3) := by decide +kernel
theorem dX9_entry_4 : decode cX9_entry 4 = .ok (.aload_n 0, 1) := by decide +kernel
theorem dX9_entry_5 : decode cX9_entry 5 = .ok (.getfield 24, 3) := by decide +kernel
theorem dX9_entry_8 : decode cX9_entry 8 = .ok (.iload_n 2, 1) := by decide +kernel
theorem dX9_entry_9 : decode cX9_entry 9 = .ok (.iload_n 3, 1) := by decide +kernel
theorem dX9_entry_10 : decode cX9_entry 10 = .ok (.invokevirtual 170, 3) := by decide +kernel
theorem dX9_entry_13 : decode cX9_entry 13 = .ok (.ireturn, 1) := by decide +kernel
theorem dX9_entry_14 : decode cX9_entry 14 = .ok (.aload_n 0, 1) := by decide +kernel
theorem dX9_entry_15 : decode cX9_entry 15 = .ok (.getfield 31, 3) := by decide +kernel
theorem dX9_entry_18 : decode cX9_entry 18 = .ok (.ifCond .eq 7, 3) := by decide +kernel
theorem dX9_entry_21 : decode cX9_entry 21 = .ok (.iconst 0, 1) := by decide +kernel
theorem dX9_entry_22 : decode cX9_entry 22 = .ok (.goto 12, 3) := by decide +kernel
theorem dX9_entry_25 : decode cX9_entry 25 = .ok (.aload_n 0, 1) := by decide +kernel
theorem dX9_entry_26 : decode cX9_entry 26 = .ok (.getfield 28, 3) := by decide +kernel
theorem dX9_entry_29 : decode cX9_entry 29 = .ok (.iload_n 2, 1) := by decide +kernel
theorem dX9_entry_30 : decode cX9_entry 30 = .ok (.iload_n 3, 1) := by decide +kernel
theorem dX9_entry_31 : decode cX9_entry 31 = .ok (.invokevirtual 170, 3) := by decide +kernel
theorem dX9_entry_34 : decode cX9_entry 34 = .ok (.ireturn, 1) := by decide +kernel
theorem dX9_recover_0 : decode cX9_recover 0 = .ok (.aload_n 0, 1) := by decide +kernel
theorem dX9_recover_1 : decode cX9_recover 1 = .ok (.iload_n 1, 1) := by decide +kernel
theorem dX9_recover_2 : decode cX9_recover 2 = .ok (.invokevirtual 138, 3) := by decide +kernel
theorem dX9_recover_5 : decode cX9_recover 5 = .ok (.astore_n 2, 1) := by decide +kernel
theorem dX9_recover_6 : decode cX9_recover 6 = .ok (.aload_n 0, 1) := by decide +kernel
theorem dX9_recover_7 : decode cX9_recover 7 = .ok (.getfield 31, 3) := by decide +kernel
theorem dX9_recover_10 : decode cX9_recover 10 = .ok (.ifCond .eq 13, 3) := by decide +kernel
theorem dX9_recover_13 : decode cX9_recover 13 = .ok (.new 172, 3) := by decide +kernel
theorem dX9_recover_16 : decode cX9_recover 16 = .ok (.dup, 1) := by decide +kernel
theorem dX9_recover_17 : decode cX9_recover 17 = .ok (.ldc 174, 2) := by decide +kernel
theorem dX9_recover_19 : decode cX9_recover 19 = .ok (.invokespecial 176, 3) := by decide +kernel
theorem dX9_recover_22 : decode cX9_recover 22 = .ok (.athrow, 1) := by decide +kernel
theorem dX9_recover_23 : decode cX9_recover 23 = .ok (.aload_n 0, 1) := by decide +kernel
theorem dX9_recover_24 : decode cX9_recover 24 = .ok (.getfield 35, 3) := by decide +kernel
theorem dX9_recover_27 : decode cX9_recover 27 = .ok (.aload_n 0, 1) := by decide +kernel
theorem dX9_recover_28 : decode cX9_recover 28 = .ok (.getfield 24, 3) := by decide +kernel
theorem dX9_recover_31 : decode cX9_recover 31 = .ok (.invokevirtual 177, 3) := by decide +kernel
theorem dX9_recover_34 : decode cX9_recover 34 = .ok (.aload_n 2, 1) := by decide +kernel
theorem dX9_recover_35 : decode cX9_recover 35 = .ok (.aload_n 0, 1) := by decide +kernel
theorem dX9_recover_36 : decode cX9_recover 36 = .ok (.getfield 24, 3) := by decide +kernel
theorem dX9_recover_39 : decode cX9_recover 39 = .ok (.invokevirtual 180, 3) := by decide +kernel
theorem dX9_recover_42 : decode cX9_recover 42 = .ok (.bipush 16, 2) := by decide +kernel
theorem dX9_recover_44 : decode cX9_recover 44 = .ok (.invokestatic 183, 3) := by decide +kernel
theorem dX9_recover_47 : decode cX9_recover 47 = .ok (.putfield 142, 3) := by decide +kernel
theorem dX9_recover_50 : decode cX9_recover 50 = .ok (.aload_n 2, 1) := by decide +kernel
theorem dX9_recover_51 : decode cX9_recover 51 = .ok (.getfield 142, 3) := by decide +kernel
theorem dX9_recover_54 : decode cX9_recover 54 = .ok (.istore_n 3, 1) := by decide +kernel
theorem dX9_recover_55 : decode cX9_recover 55 = .ok (.iload_n 3, 1) := by decide +kernel
theorem dX9_recover_56 : decode cX9_recover 56 = .ok (.iconst 1, 1) := by decide +kernel
theorem dX9_recover_57 : decode cX9_recover 57 = .ok (.if_icmp .lt 29, 3) := by decide +kernel
theorem dX9_recover_60 : decode cX9_recover 60 = .ok (.aload_n 2, 1) := by decide +kernel
theorem dX9_recover_61 : decode cX9_recover 61 = .ok (.getfield 188, 3) := by decide +kernel
theorem dX9_recover_64 : decode cX9_recover 64 = .ok (.iload_n 3, 1) := by decide +kernel
theorem dX9_recover_65 : decode cX9_recover 65 = .ok (.iconst 1, 1) := by decide +kernel
theorem dX9_recover_66 : decode cX9_recover 66 = .ok (.isub, 1) := by decide +kernel
theorem dX9_recover_67 : decode cX9_recover 67 = .ok (.aload_n 0, 1) := by decide +kernel
theorem dX9_recover_68 : decode cX9_recover 68 = .ok (.getfield 35, 3) := by decide +kernel
theorem dX9_recover_71 : decode cX9_recover 71 = .ok (.aload_n 0, 1) := by decide +kernel
theorem dX9_recover_72 : decode cX9_recover 72 = .ok (.iload_n 3, 1) := by decide +kernel
theorem dX9_recover_73 : decode cX9_recover 73 = .ok (.invokevirtual 191, 3) := by decide +kernel
theorem dX9_recover_76 : decode cX9_recover 76 = .ok (.invokevirtual 194, 3) := by decide +kernel
theorem dX9_recover_79 : decode cX9_recover 79 = .ok (.iastore, 1) := by decide +kernel
theorem dX9_recover_80 : decode cX9_recover 80 = .ok (.iinc 3 (-1), 3) := by decide +kernel
theorem dX9_recover_83 : decode cX9_recover 83 = .ok (.goto (-28), 3) := by decide +kernel
theorem dX9_recover_86 : decode cX9_recover 86 = .ok (.return_, 1) := by decide +kernel
theorem dX9_read_0 : decode cX9_read 0 = .ok (.aload_n 0, 1) := by decide +kernel
theorem dX9_read_1 : decode cX9_read 1 = .ok (.iload_n 1, 1) := by decide +kernel
theorem dX9_read_2 : decode cX9_read 2 = .ok (.invokevirtual 138, 3) := by decide +kernel
theorem dX9_read_5 : decode cX9_read 5 = .ok (.astore_n 2, 1) := by decide +kernel
theorem dX9_read_6 : decode cX9_read 6 = .ok (.aload_n 0, 1) := by decide +kernel
theorem dX9_read_7 : decode cX9_read 7 = .ok (.getfield 24, 3) := by decide +kernel
theorem dX9_read_10 : decode cX9_read 10 = .ok (.invokevirtual 180, 3) := by decide +kernel
theorem dX9_read_13 : decode cX9_read 13 = .ok (.bipush 16, 2) := by decide +kernel
theorem dX9_read_15 : decode cX9_read 15 = .ok (.if_icmp .gt 15, 3) := by decide +kernel
theorem dX9_read_18 : decode cX9_read 18 = .ok (.aload_n 0, 1) := by decide +kernel
theorem dX9_read_19 : decode cX9_read 19 = .ok (.getfield 24, 3) := by decide +kernel
theorem dX9_read_22 : decode cX9_read 22 = .ok (.invokevirtual 197, 3) := by decide +kernel
theorem dX9_read_25 : decode cX9_read 25 = .ok (.bipush 16, 2) := by decide +kernel
theorem dX9_read_27 : decode cX9_read 27 = .ok (.if_icmp .le 13, 3) := by decide +kernel
theorem dX9_read_30 : decode cX9_read 30 = .ok (.new 172, 3) := by decide +kernel
theorem dX9_read_33 : decode cX9_read 33 = .ok (.dup, 1) := by decide +kernel
theorem dX9_read_34 : decode cX9_read 34 = .ok (.ldc 200, 2) := by decide +kernel
theorem dX9_read_36 : decode cX9_read 36 = .ok (.invokespecial 176, 3) := by decide +kernel
theorem dX9_read_39 : decode cX9_read 39 = .ok (.athrow, 1) := by decide +kernel
theorem dX9_read_40 : decode cX9_read 40 = .ok (.aload_n 2, 1) := by decide +kernel
theorem dX9_read_41 : decode cX9_read 41 = .ok (.iconst 0, 1) := by decide +kernel
theorem dX9_read_42 : decode cX9_read 42 = .ok (.putfield 142, 3) := by decide +kernel
theorem dX9_read_45 : decode cX9_read 45 = .ok (.bipush 15, 2) := by decide +kernel
theorem dX9_read_47 : decode cX9_read 47 = .ok (.istore_n 3, 1) := by decide +kernel
theorem dX9_read_48 : decode cX9_read 48 = .ok (.iload_n 3, 1) := by decide +kernel
theorem dX9_read_49 : decode cX9_read 49 = .ok (.ifCond .lt 46, 3) := by decide +kernel
theorem dX9_read_52 : decode cX9_read 52 = .ok (.iconst 0, 1) := by decide +kernel
theorem dX9_read_53 : decode cX9_read 53 = .ok (.istore 4, 2) := by decide +kernel
theorem dX9_read_55 : decode cX9_read 55 = .ok (.iload 4, 2) := by decide +kernel
theorem dX9_read_57 : decode cX9_read 57 = .ok (.aload_n 0, 1) := by decide +kernel
theorem dX9_read_58 : decode cX9_read 58 = .ok (.getfield 24, 3) := by decide +kernel
theorem dX9_read_61 : decode cX9_read 61 = .ok (.getfield 202, 3) := by decide +kernel
theorem dX9_read_64 : decode cX9_read 64 = .ok (.iload_n 3, 1) := by decide +kernel
theorem dX9_read_65 : decode cX9_read 65 = .ok (.iaload, 1) := by decide +kernel
theorem dX9_read_66 : decode cX9_read 66 = .ok (.if_icmp .ge 23, 3) := by decide +kernel
theorem dX9_read_69 : decode cX9_read 69 = .ok (.aload_n 2, 1) := by decide +kernel
theorem dX9_read_70 : decode cX9_read 70 = .ok (.aload_n 0, 1) := by decide +kernel
theorem dX9_read_71 : decode cX9_read 71 = .ok (.getfield 24, 3) := by decide +kernel
theorem dX9_read_74 : decode cX9_read 74 = .ok (.iload_n 3, 1) := by decide +kernel
theorem dX9_read_75 : decode cX9_read 75 = .ok (.iload 4, 2) := by decide +kernel
theorem dX9_read_77 : decode cX9_read 77 = .ok (.invokevirtual 170, 3) := by decide +kernel
theorem dX9_read_80 : decode cX9_read 80 = .ok (.invokevirtual 146, 3) := by decide +kernel
theorem dX9_read_83 : decode cX9_read 83 = .ok (.iinc 4 1, 3) := by decide +kernel
theorem dX9_read_86 : decode cX9_read 86 = .ok (.goto (-31), 3) := by decide +kernel
theorem dX9_read_89 : decode cX9_read 89 = .ok (.iinc 3 (-1), 3) := by decide +kernel
theorem dX9_read_92 : decode cX9_read 92 = .ok (.goto (-44), 3) := by decide +kernel
theorem dX9_read_95 : decode cX9_read 95 = .ok (.return_, 1) := by decide +kernel
theorem dX9_equivalent_0 : decode cX9_equivalent 0 = .ok (.aload_n 0, 1) := by decide +kernel
theorem dX9_equivalent_1 : decode cX9_equivalent 1 = .ok (.getfield 35, 3) := by decide +kernel
theorem dX9_equivalent_4 : decode cX9_equivalent 4 = .ok (.aload_n 0, 1) := by decide +kernel
theorem dX9_equivalent_5 : decode cX9_equivalent 5 = .ok (.getfield 17, 3) := by decide +kernel
theorem dX9_equivalent_8 : decode cX9_equivalent 8 = .ok (.iconst 0, 1) := by decide +kernel
theorem dX9_equivalent_9 : decode cX9_equivalent 9 = .ok (.aaload, 1) := by decide +kernel
theorem dX9_equivalent_10 : decode cX9_equivalent 10 = .ok (.invokevirtual 203, 3) := by decide +kernel
theorem dX9_equivalent_13 : decode cX9_equivalent 13 = .ok (.aload_n 0, 1) := by decide +kernel
theorem dX9_equivalent_14 : decode cX9_equivalent 14 = .ok (.getfield 38, 3) := by decide +kernel
theorem dX9_equivalent_17 : decode cX9_equivalent 17 = .ok (.aload_n 0, 1) := by decide +kernel
theorem dX9_equivalent_18 : decode cX9_equivalent 18 = .ok (.getfield 17, 3) := by decide +kernel
theorem dX9_equivalent_21 : decode cX9_equivalent 21 = .ok (.iconst 1, 1) := by decide +kernel
theorem dX9_equivalent_22 : decode cX9_equivalent 22 = .ok (.aaload, 1) := by decide +kernel
theorem dX9_equivalent_23 : decode cX9_equivalent 23 = .ok (.invokevirtual 203, 3) := by decide +kernel
theorem dX9_equivalent_26 : decode cX9_equivalent 26 = .ok (.aload_n 0, 1) := by decide +kernel
theorem dX9_equivalent_27 : decode cX9_equivalent 27 = .ok (.getfield 35, 3) := by decide +kernel
theorem dX9_equivalent_30 : decode cX9_equivalent 30 = .ok (.aload_n 0, 1) := by decide +kernel
theorem dX9_equivalent_31 : decode cX9_equivalent 31 = .ok (.getfield 38, 3) := by decide +kernel
theorem dX9_equivalent_34 : decode cX9_equivalent 34 = .ok (.invokevirtual 207, 3) := by decide +kernel
theorem dX9_equivalent_37 : decode cX9_equivalent 37 = .ok (.ireturn, 1) := by decide +kernel
theorem dX9_rectify_0 : decode cX9_rectify 0 = .ok (.aload_n 0, 1) := by decide +kernel
theorem dX9_rectify_1 : decode cX9_rectify 1 = .ok (.iload_n 1, 1) := by decide +kernel
theorem dX9_rectify_2 : decode cX9_rectify 2 = .ok (.invokevirtual 82, 3) := by decide +kernel
theorem dX9_rectify_5 : decode cX9_rectify 5 = .ok (.astore 5, 2) := by decide +kernel
theorem dX9_rectify_7 : decode cX9_rectify 7 = .ok (.aload_n 0, 1) := by decide +kernel
theorem dX9_rectify_8 : decode cX9_rectify 8 = .ok (.iload_n 2, 1) := by decide +kernel
theorem dX9_rectify_9 : decode cX9_rectify 9 = .ok (.invokevirtual 82, 3) := by decide +kernel
theorem dX9_rectify_12 : decode cX9_rectify 12 = .ok (.astore 6, 2) := by decide +kernel
theorem dX9_rectify_14 : decode cX9_rectify 14 = .ok (.aload_n 0, 1) := by decide +kernel
theorem dX9_rectify_15 : decode cX9_rectify 15 = .ok (.iload_n 3, 1) := by decide +kernel
theorem dX9_rectify_16 : decode cX9_rectify 16 = .ok (.invokevirtual 138, 3) := by decide +kernel
theorem dX9_rectify_19 : decode cX9_rectify 19 = .ok (.astore 7, 2) := by decide +kernel
theorem dX9_rectify_21 : decode cX9_rectify 21 = .ok (.iload 4, 2) := by decide +kernel
theorem dX9_rectify_23 : decode cX9_rectify 23 = .ok (.ifCond .lt 19, 3) := by decide +kernel
theorem dX9_rectify_26 : decode cX9_rectify 26 = .ok (.iload 4, 2) := by decide +kernel
theorem dX9_rectify_28 : decode cX9_rectify 28 = .ok (.iconst 3, 1) := by decide +kernel
theorem dX9_rectify_29 : decode cX9_rectify 29 = .ok (.if_icmp .ge 13, 3) := by decide +kernel
theorem dX9_rectify_32 : decode cX9_rectify 32 = .ok (.aload 6, 2) := by decide +kernel
theorem dX9_rectify_34 : decode cX9_rectify 34 = .ok (.aload 5, 2) := by decide +kernel
theorem dX9_rectify_36 : decode cX9_rectify 36 = .ok (.invokevirtual 211, 3) := by decide +kernel
theorem dX9_rectify_39 : decode cX9_rectify 39 = .ok (.ifCond .ne 13, 3) := by decide +kernel
theorem dX9_rectify_42 : decode cX9_rectify 42 = .ok (.new 113, 3) := by decide +kernel
theorem dX9_rectify_45 : decode cX9_rectify 45 = .ok (.dup, 1) := by decide +kernel
theorem dX9_rectify_46 : decode cX9_rectify 46 = .ok (.ldc 215, 2) := by decide +kernel
theorem dX9_rectify_48 : decode cX9_rectify 48 = .ok (.invokespecial 117, 3) := by decide +kernel
theorem dX9_rectify_51 : decode cX9_rectify 51 = .ok (.athrow, 1) := by decide +kernel
theorem dX9_rectify_52 : decode cX9_rectify 52 = .ok (.aload 7, 2) := by decide +kernel
theorem dX9_rectify_54 : decode cX9_rectify 54 = .ok (.getfield 142, 3) := by decide +kernel
theorem dX9_rectify_57 : decode cX9_rectify 57 = .ok (.aload 6, 2) := by decide +kernel
theorem dX9_rectify_59 : decode cX9_rectify 59 = .ok (.invokevirtual 217, 3) := by decide +kernel
theorem dX9_rectify_62 : decode cX9_rectify 62 = .ok (.aload 5, 2) := by decide +kernel
theorem dX9_rectify_64 : decode cX9_rectify 64 = .ok (.invokevirtual 217, 3) := by decide +kernel
theorem dX9_rectify_67 : decode cX9_rectify 67 = .ok (.isub, 1) := by decide +kernel
theorem dX9_rectify_68 : decode cX9_rectify 68 = .ok (.if_icmp .eq 13, 3) := by decide +kernel
theorem dX9_rectify_71 : decode cX9_rectify 71 = .ok (.new 172, 3) := by decide +kernel
theorem dX9_rectify_74 : decode cX9_rectify 74 = .ok (.dup, 1) := by decide +kernel
theorem dX9_rectify_75 : decode cX9_rectify 75 = .ok (.ldc 218, 2) := by decide +kernel
theorem dX9_rectify_77 : decode cX9_rectify 77 = .ok (.invokespecial 176, 3) := by decide +kernel
theorem dX9_rectify_80 : decode cX9_rectify 80 = .ok (.athrow, 1) := by decide +kernel
theorem dX9_rectify_81 : decode cX9_rectify 81 = .ok (.aload_n 0, 1) := by decide +kernel
theorem dX9_rectify_82 : decode cX9_rectify 82 = .ok (.getfield 35, 3) := by decide +kernel
theorem dX9_rectify_85 : decode cX9_rectify 85 = .ok (.aload 5, 2) := by decide +kernel
theorem dX9_rectify_87 : decode cX9_rectify 87 = .ok (.aload 6, 2) := by decide +kernel
theorem dX9_rectify_89 : decode cX9_rectify 89 = .ok (.aload 7, 2) := by decide +kernel
theorem dX9_rectify_91 : decode cX9_rectify 91 = .ok (.invokevirtual 220, 3) := by decide +kernel
theorem dX9_rectify_94 : decode cX9_rectify 94 = .ok (.aload_n 0, 1) := by decide +kernel
theorem dX9_rectify_95 : decode cX9_rectify 95 = .ok (.getfield 35, 3) := by decide +kernel
theorem dX9_rectify_98 : decode cX9_rectify 98 = .ok (.aload 5, 2) := by decide +kernel
theorem dX9_rectify_100 : decode cX9_rectify 100 = .ok (.invokevirtual 224, 3) := by decide +kernel
theorem dX9_rectify_103 : decode cX9_rectify 103 = .ok (.ifCond .ne 13, 3) := by decide +kernel
theorem dX9_rectify_106 : decode cX9_rectify 106 = .ok (.new 133, 3) := by decide +kernel
theorem dX9_rectify_109 : decode cX9_rectify 109 = .ok (.dup, 1) := by decide +kernel
theorem dX9_rectify_110 : decode cX9_rectify 110 = .ok (.ldc 227, 2) := by decide +kernel
theorem dX9_rectify_112 : decode cX9_rectify 112 = .ok (.invokespecial 137, 3) := by decide +kernel
theorem dX9_rectify_115 : decode cX9_rectify 115 = .ok (.athrow, 1) := by decide +kernel
theorem dX9_rectify_116 : decode cX9_rectify 116 = .ok (.aload_n 0, 1) := by decide +kernel
theorem dX9_rectify_117 : decode cX9_rectify 117 = .ok (.getfield 42, 3) := by decide +kernel
theorem dX9_rectify_120 : decode cX9_rectify 120 = .ok (.aload 5, 2) := by decide +kernel
theorem dX9_rectify_122 : decode cX9_rectify 122 = .ok (.invokevirtual 94, 3) := by decide +kernel
theorem dX9_rectify_125 : decode cX9_rectify 125 = .ok (.aload_n 0, 1) := by decide +kernel
theorem dX9_rectify_126 : decode cX9_rectify 126 = .ok (.iload 4, 2) := by decide +kernel
theorem dX9_rectify_128 : decode cX9_rectify 128 = .ok (.invokevirtual 229, 3) := by decide +kernel
theorem dX9_rectify_131 : decode cX9_rectify 131 = .ok (.istore 8, 2) := by decide +kernel
theorem dX9_rectify_133 : decode cX9_rectify 133 = .ok (.aload_n 0, 1) := by decide +kernel
theorem dX9_rectify_134 : decode cX9_rectify 134 = .ok (.getfield 24, 3) := by decide +kernel
theorem dX9_rectify_137 : decode cX9_rectify 137 = .ok (.aload_n 0, 1) := by decide +kernel
theorem dX9_rectify_138 : decode cX9_rectify 138 = .ok (.getfield 35, 3) := by decide +kernel
theorem dX9_rectify_141 : decode cX9_rectify 141 = .ok (.invokevirtual 177, 3) := by decide +kernel
theorem dX9_rectify_144 : decode cX9_rectify 144 = .ok (.aload_n 0, 1) := by decide +kernel
theorem dX9_rectify_145 : decode cX9_rectify 145 = .ok (.iconst 1, 1) := by decide +kernel
theorem dX9_rectify_146 : decode cX9_rectify 146 = .ok (.putfield 31, 3) := by decide +kernel
theorem dX9_rectify_149 : decode cX9_rectify 149 = .ok (.iload 8, 2) := by decide +kernel
theorem dX9_rectify_151 : decode cX9_rectify 151 = .ok (.ireturn, 1) := by decide +kernel
theorem dX9_turn_0 : decode cX9_turn 0 = .ok (.aload_n 0, 1) := by decide +kernel
theorem dX9_turn_1 : decode cX9_turn 1 = .ok (.getfield 24, 3) := by decide +kernel
theorem dX9_turn_4 : decode cX9_turn 4 = .ok (.invokevirtual 232, 3) := by decide +kernel
theorem dX9_turn_7 : decode cX9_turn 7 = .ok (.ifCond .ne 13, 3) := by decide +kernel
theorem dX9_turn_10 : decode cX9_turn 10 = .ok (.new 172, 3) := by decide +kernel
theorem dX9_turn_13 : decode cX9_turn 13 = .ok (.dup, 1) := by decide +kernel
theorem dX9_turn_14 : decode cX9_turn 14 = .ok (.ldc 235, 2) := by decide +kernel
theorem dX9_turn_16 : decode cX9_turn 16 = .ok (.invokespecial 176, 3) := by decide +kernel
theorem dX9_turn_19 : decode cX9_turn 19 = .ok (.athrow, 1) := by decide +kernel
theorem dX9_turn_20 : decode cX9_turn 20 = .ok (.aload_n 0, 1) := by decide +kernel
theorem dX9_turn_21 : decode cX9_turn 21 = .ok (.getfield 35, 3) := by decide +kernel
theorem dX9_turn_24 : decode cX9_turn 24 = .ok (.aload_n 0, 1) := by decide +kernel
theorem dX9_turn_25 : decode cX9_turn 25 = .ok (.getfield 24, 3) := by decide +kernel
theorem dX9_turn_28 : decode cX9_turn 28 = .ok (.invokevirtual 177, 3) := by decide +kernel
theorem dX9_turn_31 : decode cX9_turn 31 = .ok (.aload_n 0, 1) := by decide +kernel
theorem dX9_turn_32 : decode cX9_turn 32 = .ok (.getfield 24, 3) := by decide +kernel
theorem dX9_turn_35 : decode cX9_turn 35 = .ok (.invokevirtual 180, 3) := by decide +kernel
theorem dX9_turn_38 : decode cX9_turn 38 = .ok (.istore_n 1, 1) := by decide +kernel
theorem dX9_turn_39 : decode cX9_turn 39 = .ok (.iload_n 1, 1) := by decide +kernel
theorem dX9_turn_40 : decode cX9_turn 40 = .ok (.iconst 1, 1) := by decide +kernel
theorem dX9_turn_41 : decode cX9_turn 41 = .ok (.if_icmp .lt 37, 3) := by decide +kernel
theorem dX9_turn_44 : decode cX9_turn 44 = .ok (.aload_n 0, 1) := by decide +kernel
theorem dX9_turn_45 : decode cX9_turn 45 = .ok (.getfield 35, 3) := by decide +kernel
theorem dX9_turn_48 : decode cX9_turn 48 = .ok (.iconst 0, 1) := by decide +kernel
theorem dX9_turn_49 : decode cX9_turn 49 = .ok (.iconst 0, 1) := by decide +kernel
theorem dX9_turn_50 : decode cX9_turn 50 = .ok (.invokevirtual 237, 3) := by decide +kernel
theorem dX9_turn_53 : decode cX9_turn 53 = .ok (.istore_n 2, 1) := by decide +kernel
theorem dX9_turn_54 : decode cX9_turn 54 = .ok (.aload_n 0, 1) := by decide +kernel
theorem dX9_turn_55 : decode cX9_turn 55 = .ok (.getfield 24, 3) := by decide +kernel
theorem dX9_turn_58 : decode cX9_turn 58 = .ok (.iload_n 2, 1) := by decide +kernel
theorem dX9_turn_59 : decode cX9_turn 59 = .ok (.aload_n 0, 1) := by decide +kernel
theorem dX9_turn_60 : decode cX9_turn 60 = .ok (.getfield 35, 3) := by decide +kernel
theorem dX9_turn_63 : decode cX9_turn 63 = .ok (.getfield 202, 3) := by decide +kernel
theorem dX9_turn_66 : decode cX9_turn 66 = .ok (.iload_n 2, 1) := by decide +kernel
theorem dX9_turn_67 : decode cX9_turn 67 = .ok (.iaload, 1) := by decide +kernel
theorem dX9_turn_68 : decode cX9_turn 68 = .ok (.iload_n 1, 1) := by decide +kernel
theorem dX9_turn_69 : decode cX9_turn 69 = .ok (.invokevirtual 240, 3) := by decide +kernel
theorem dX9_turn_72 : decode cX9_turn 72 = .ok (.iinc 1 (-1), 3) := by decide +kernel
theorem dX9_turn_75 : decode cX9_turn 75 = .ok (.goto (-36), 3) := by decide +kernel
theorem dX9_turn_78 : decode cX9_turn 78 = .ok (.aload_n 0, 1) := by decide +kernel
theorem dX9_turn_79 : decode cX9_turn 79 = .ok (.iconst 1, 1) := by decide +kernel
theorem dX9_turn_80 : decode cX9_turn 80 = .ok (.putfield 31, 3) := by decide +kernel
theorem dX9_turn_83 : decode cX9_turn 83 = .ok (.return_, 1) := by decide +kernel
theorem dX9_draw_0 : decode cX9_draw 0 = .ok (.aload_n 0, 1) := by decide +kernel
theorem dX9_draw_1 : decode cX9_draw 1 = .ok (.iload_n 1, 1) := by decide +kernel
theorem dX9_draw_2 : decode cX9_draw 2 = .ok (.invokevirtual 82, 3) := by decide +kernel
theorem dX9_draw_5 : decode cX9_draw 5 = .ok (.astore 4, 2) := by decide +kernel
theorem dX9_draw_7 : decode cX9_draw 7 = .ok (.aload_n 0, 1) := by decide +kernel
theorem dX9_draw_8 : decode cX9_draw 8 = .ok (.getfield 24, 3) := by decide +kernel
theorem dX9_draw_11 : decode cX9_draw 11 = .ok (.aload 4, 2) := by decide +kernel
theorem dX9_draw_13 : decode cX9_draw 13 = .ok (.invokevirtual 244, 3) := by decide +kernel
theorem dX9_draw_16 : decode cX9_draw 16 = .ok (.aload_n 0, 1) := by decide +kernel
theorem dX9_draw_17 : decode cX9_draw 17 = .ok (.getfield 49, 3) := by decide +kernel
theorem dX9_draw_20 : decode cX9_draw 20 = .ok (.aload 4, 2) := by decide +kernel
theorem dX9_draw_22 : decode cX9_draw 22 = .ok (.lload_n 2, 1) := by decide +kernel
theorem dX9_draw_23 : decode cX9_draw 23 = .ok (.invokevirtual 247, 3) := by decide +kernel
theorem dX9_draw_26 : decode cX9_draw 26 = .ok (.aload 4, 2) := by decide +kernel
theorem dX9_draw_28 : decode cX9_draw 28 = .ok (.invokevirtual 217, 3) := by decide +kernel
theorem dX9_draw_31 : decode cX9_draw 31 = .ok (.istore 5, 2) := by decide +kernel
theorem dX9_draw_33 : decode cX9_draw 33 = .ok (.iload 5, 2) := by decide +kernel
theorem dX9_draw_35 : decode cX9_draw 35 = .ok (.iconst 1, 1) := by decide +kernel
theorem dX9_draw_36 : decode cX9_draw 36 = .ok (.if_icmp .lt 48, 3) := by decide +kernel
theorem dX9_draw_39 : decode cX9_draw 39 = .ok (.aload_n 0, 1) := by decide +kernel
theorem dX9_draw_40 : decode cX9_draw 40 = .ok (.getfield 49, 3) := by decide +kernel
theorem dX9_draw_43 : decode cX9_draw 43 = .ok (.iload 5, 2) := by decide +kernel
theorem dX9_draw_45 : decode cX9_draw 45 = .ok (.invokevirtual 251, 3) := by decide +kernel
theorem dX9_draw_48 : decode cX9_draw 48 = .ok (.aload_n 0, 1) := by decide +kernel
theorem dX9_draw_49 : decode cX9_draw 49 = .ok (.getfield 24, 3) := by decide +kernel
theorem dX9_draw_52 : decode cX9_draw 52 = .ok (.aload_n 0, 1) := by decide +kernel
theorem dX9_draw_53 : decode cX9_draw 53 = .ok (.getfield 49, 3) := by decide +kernel
theorem dX9_draw_56 : decode cX9_draw 56 = .ok (.getfield 254, 3) := by decide +kernel
theorem dX9_draw_59 : decode cX9_draw 59 = .ok (.aload_n 0, 1) := by decide +kernel
theorem dX9_draw_60 : decode cX9_draw 60 = .ok (.getfield 49, 3) := by decide +kernel
theorem dX9_draw_63 : decode cX9_draw 63 = .ok (.getfield 257, 3) := by decide +kernel
theorem dX9_draw_66 : decode cX9_draw 66 = .ok (.iload 5, 2) := by decide +kernel
theorem dX9_draw_68 : decode cX9_draw 68 = .ok (.invokevirtual 240, 3) := by decide +kernel
theorem dX9_draw_71 : decode cX9_draw 71 = .ok (.aload_n 0, 1) := by decide +kernel
theorem dX9_draw_72 : decode cX9_draw 72 = .ok (.getfield 49, 3) := by decide +kernel
theorem dX9_draw_75 : decode cX9_draw 75 = .ok (.invokevirtual 260, 3) := by decide +kernel
theorem dX9_draw_78 : decode cX9_draw 78 = .ok (.iinc 5 (-1), 3) := by decide +kernel
theorem dX9_draw_81 : decode cX9_draw 81 = .ok (.goto (-48), 3) := by decide +kernel
theorem dX9_draw_84 : decode cX9_draw 84 = .ok (.aload_n 0, 1) := by decide +kernel
theorem dX9_draw_85 : decode cX9_draw 85 = .ok (.iconst 1, 1) := by decide +kernel
theorem dX9_draw_86 : decode cX9_draw 86 = .ok (.putfield 31, 3) := by decide +kernel
theorem dX9_draw_89 : decode cX9_draw 89 = .ok (.aload_n 0, 1) := by decide +kernel
theorem dX9_draw_90 : decode cX9_draw 90 = .ok (.getfield 49, 3) := by decide +kernel
theorem dX9_draw_93 : decode cX9_draw 93 = .ok (.getfield 263, 3) := by decide +kernel
theorem dX9_draw_96 : decode cX9_draw 96 = .ok (.lreturn, 1) := by decide +kernel
theorem dX9_standard_0 : decode cX9_standard 0 = .ok (.aload_n 0, 1) := by decide +kernel
theorem dX9_standard_1 : decode cX9_standard 1 = .ok (.getfield 63, 3) := by decide +kernel
theorem dX9_standard_4 : decode cX9_standard 4 = .ok (.aload_n 0, 1) := by decide +kernel
theorem dX9_standard_5 : decode cX9_standard 5 = .ok (.iload_n 1, 1) := by decide +kernel
theorem dX9_standard_6 : decode cX9_standard 6 = .ok (.invokevirtual 82, 3) := by decide +kernel
theorem dX9_standard_9 : decode cX9_standard 9 = .ok (.invokevirtual 267, 3) := by decide +kernel
theorem dX9_standard_12 : decode cX9_standard 12 = .ok (.lreturn, 1) := by decide +kernel
theorem dX9_fillings_0 : decode cX9_fillings 0 = .ok (.aload_n 0, 1) := by decide +kernel
theorem dX9_fillings_1 : decode cX9_fillings 1 = .ok (.iload_n 1, 1) := by decide +kernel
theorem dX9_fillings_2 : decode cX9_fillings 2 = .ok (.invokevirtual 82, 3) := by decide +kernel
theorem dX9_fillings_5 : decode cX9_fillings 5 = .ok (.astore_n 3, 1) := by decide +kernel
theorem dX9_fillings_6 : decode cX9_fillings 6 = .ok (.aload_n 0, 1) := by decide +kernel
theorem dX9_fillings_7 : decode cX9_fillings 7 = .ok (.iload_n 2, 1) := by decide +kernel
theorem dX9_fillings_8 : decode cX9_fillings 8 = .ok (.invokevirtual 138, 3) := by decide +kernel
theorem dX9_fillings_11 : decode cX9_fillings 11 = .ok (.astore 4, 2) := by decide +kernel
theorem dX9_fillings_13 : decode cX9_fillings 13 = .ok (.aload 4, 2) := by decide +kernel
theorem dX9_fillings_15 : decode cX9_fillings 15 = .ok (.getfield 142, 3) := by decide +kernel
theorem dX9_fillings_18 : decode cX9_fillings 18 = .ok (.aload_n 3, 1) := by decide +kernel
theorem dX9_fillings_19 : decode cX9_fillings 19 = .ok (.invokevirtual 217, 3) := by decide +kernel
theorem dX9_fillings_22 : decode cX9_fillings 22 = .ok (.if_icmp .eq 5, 3) := by decide +kernel
theorem dX9_fillings_25 : decode cX9_fillings 25 = .ok (.lconst 0, 1) := by decide +kernel
theorem dX9_fillings_26 : decode cX9_fillings 26 = .ok (.lreturn, 1) := by decide +kernel
theorem dX9_fillings_27 : decode cX9_fillings 27 = .ok (.aload_n 0, 1) := by decide +kernel
theorem dX9_fillings_28 : decode cX9_fillings 28 = .ok (.getfield 70, 3) := by decide +kernel
theorem dX9_fillings_31 : decode cX9_fillings 31 = .ok (.aload_n 3, 1) := by decide +kernel
theorem dX9_fillings_32 : decode cX9_fillings 32 = .ok (.aload 4, 2) := by decide +kernel
theorem dX9_fillings_34 : decode cX9_fillings 34 = .ok (.invokevirtual 271, 3) := by decide +kernel
theorem dX9_fillings_37 : decode cX9_fillings 37 = .ok (.lreturn, 1) := by decide +kernel
theorem dX9_coefficient_0 : decode cX9_coefficient 0 = .ok (.aload_n 0, 1) := by decide +kernel
theorem dX9_coefficient_1 : decode cX9_coefficient 1 = .ok (.iload_n 1, 1) := by decide +kernel
theorem dX9_coefficient_2 : decode cX9_coefficient 2 = .ok (.invokevirtual 82, 3) := by decide +kernel
theorem dX9_coefficient_5 : decode cX9_coefficient 5 = .ok (.astore 4, 2) := by decide +kernel
theorem dX9_coefficient_7 : decode cX9_coefficient 7 = .ok (.aload_n 0, 1) := by decide +kernel
theorem dX9_coefficient_8 : decode cX9_coefficient 8 = .ok (.iload_n 2, 1) := by decide +kernel
theorem dX9_coefficient_9 : decode cX9_coefficient 9 = .ok (.invokevirtual 82, 3) := by decide +kernel
theorem dX9_coefficient_12 : decode cX9_coefficient 12 = .ok (.astore 5, 2) := by decide +kernel
theorem dX9_coefficient_14 : decode cX9_coefficient 14 = .ok (.aload_n 0, 1) := by decide +kernel
theorem dX9_coefficient_15 : decode cX9_coefficient 15 = .ok (.iload_n 3, 1) := by decide +kernel
theorem dX9_coefficient_16 : decode cX9_coefficient 16 = .ok (.invokevirtual 82, 3) := by decide +kernel
theorem dX9_coefficient_19 : decode cX9_coefficient 19 = .ok (.astore 6, 2) := by decide +kernel
theorem dX9_coefficient_21 : decode cX9_coefficient 21 = .ok (.aload 6, 2) := by decide +kernel
theorem dX9_coefficient_23 : decode cX9_coefficient 23 = .ok (.aload 4, 2) := by decide +kernel
theorem dX9_coefficient_25 : decode cX9_coefficient 25 = .ok (.invokevirtual 211, 3) := by decide +kernel
theorem dX9_coefficient_28 : decode cX9_coefficient 28 = .ok (.ifCond .eq 22, 3) := by decide +kernel
theorem dX9_coefficient_31 : decode cX9_coefficient 31 = .ok (.aload 6, 2) := by decide +kernel
theorem dX9_coefficient_33 : decode cX9_coefficient 33 = .ok (.invokevirtual 217, 3) := by decide +kernel
theorem dX9_coefficient_36 : decode cX9_coefficient 36 = .ok (.aload 4, 2) := by decide +kernel
theorem dX9_coefficient_38 : decode cX9_coefficient 38 = .ok (.invokevirtual 217, 3) := by decide +kernel
theorem dX9_coefficient_41 : decode cX9_coefficient 41 = .ok (.aload 5, 2) := by decide +kernel
theorem dX9_coefficient_43 : decode cX9_coefficient 43 = .ok (.invokevirtual 217, 3) := by decide +kernel
theorem dX9_coefficient_46 : decode cX9_coefficient 46 = .ok (.iadd, 1) := by decide +kernel
theorem dX9_coefficient_47 : decode cX9_coefficient 47 = .ok (.if_icmp .eq 5, 3) := by decide +kernel
theorem dX9_coefficient_50 : decode cX9_coefficient 50 = .ok (.lconst 0, 1) := by decide +kernel
theorem dX9_coefficient_51 : decode cX9_coefficient 51 = .ok (.lreturn, 1) := by decide +kernel
theorem dX9_coefficient_52 : decode cX9_coefficient 52 = .ok (.aload_n 0, 1) := by decide +kernel
theorem dX9_coefficient_53 : decode cX9_coefficient 53 = .ok (.getfield 77, 3) := by decide +kernel
theorem dX9_coefficient_56 : decode cX9_coefficient 56 = .ok (.aload 4, 2) := by decide +kernel
theorem dX9_coefficient_58 : decode cX9_coefficient 58 = .ok (.aload 5, 2) := by decide +kernel
theorem dX9_coefficient_60 : decode cX9_coefficient 60 = .ok (.aload 6, 2) := by decide +kernel
theorem dX9_coefficient_62 : decode cX9_coefficient 62 = .ok (.invokevirtual 274, 3) := by decide +kernel
theorem dX9_coefficient_65 : decode cX9_coefficient 65 = .ok (.lreturn, 1) := by decide +kernel
theorem dX9_character_0 : decode cX9_character 0 = .ok (.aload_n 0, 1) := by decide +kernel
theorem dX9_character_1 : decode cX9_character 1 = .ok (.iload_n 1, 1) := by decide +kernel
theorem dX9_character_2 : decode cX9_character 2 = .ok (.invokevirtual 82, 3) := by decide +kernel
theorem dX9_character_5 : decode cX9_character 5 = .ok (.astore_n 3, 1) := by decide +kernel
theorem dX9_character_6 : decode cX9_character 6 = .ok (.aload_n 0, 1) := by decide +kernel
theorem dX9_character_7 : decode cX9_character 7 = .ok (.iload_n 2, 1) := by decide +kernel
theorem dX9_character_8 : decode cX9_character 8 = .ok (.invokevirtual 82, 3) := by decide +kernel
theorem dX9_character_11 : decode cX9_character 11 = .ok (.astore 4, 2) := by decide +kernel
theorem dX9_character_13 : decode cX9_character 13 = .ok (.aload_n 3, 1) := by decide +kernel
theorem dX9_character_14 : decode cX9_character 14 = .ok (.invokevirtual 217, 3) := by decide +kernel
theorem dX9_character_17 : decode cX9_character 17 = .ok (.aload 4, 2) := by decide +kernel
theorem dX9_character_19 : decode cX9_character 19 = .ok (.invokevirtual 217, 3) := by decide +kernel
theorem dX9_character_22 : decode cX9_character 22 = .ok (.if_icmp .eq 14, 3) := by decide +kernel
theorem dX9_character_25 : decode cX9_character 25 = .ok (.new 172, 3) := by decide +kernel
theorem dX9_character_28 : decode cX9_character 28 = .ok (.dup, 1) := by decide +kernel
theorem dX9_character_29 : decode cX9_character 29 = .ok (.ldc_w 277, 3) := by decide +kernel
theorem dX9_character_32 : decode cX9_character 32 = .ok (.invokespecial 176, 3) := by decide +kernel
theorem dX9_character_35 : decode cX9_character 35 = .ok (.athrow, 1) := by decide +kernel
theorem dX9_character_36 : decode cX9_character 36 = .ok (.aload_n 3, 1) := by decide +kernel
theorem dX9_character_37 : decode cX9_character 37 = .ok (.invokevirtual 217, 3) := by decide +kernel
theorem dX9_character_40 : decode cX9_character 40 = .ok (.bipush 14, 2) := by decide +kernel
theorem dX9_character_42 : decode cX9_character 42 = .ok (.if_icmp .le 14, 3) := by decide +kernel
theorem dX9_character_45 : decode cX9_character 45 = .ok (.new 133, 3) := by decide +kernel
theorem dX9_character_48 : decode cX9_character 48 = .ok (.dup, 1) := by decide +kernel
theorem dX9_character_49 : decode cX9_character 49 = .ok (.ldc_w 279, 3) := by decide +kernel
theorem dX9_character_52 : decode cX9_character 52 = .ok (.invokespecial 137, 3) := by decide +kernel
theorem dX9_character_55 : decode cX9_character 55 = .ok (.athrow, 1) := by decide +kernel
theorem dX9_character_56 : decode cX9_character 56 = .ok (.aload_n 3, 1) := by decide +kernel
theorem dX9_character_57 : decode cX9_character 57 = .ok (.aload 4, 2) := by decide +kernel
theorem dX9_character_59 : decode cX9_character 59 = .ok (.invokestatic 281, 3) := by decide +kernel
theorem dX9_character_62 : decode cX9_character 62 = .ok (.lreturn, 1) := by decide +kernel
theorem dX9_slotNumbered_0 : decode cX9_slotNumbered 0 = .ok (.iload_n 1, 1) := by decide +kernel
theorem dX9_slotNumbered_1 : decode cX9_slotNumbered 1 = .ok (.ifCond .lt 8, 3) := by decide +kernel
theorem dX9_slotNumbered_4 : decode cX9_slotNumbered 4 = .ok (.iload_n 1, 1) := by decide +kernel
theorem dX9_slotNumbered_5 : decode cX9_slotNumbered 5 = .ok (.iconst 4, 1) := by decide +kernel
theorem dX9_slotNumbered_6 : decode cX9_slotNumbered 6 = .ok (.if_icmp .lt 14, 3) := by decide +kernel
theorem dX9_slotNumbered_9 : decode cX9_slotNumbered 9 = .ok (.new 287, 3) := by decide +kernel
theorem dX9_slotNumbered_12 : decode cX9_slotNumbered 12 = .ok (.dup, 1) := by decide +kernel
theorem dX9_slotNumbered_13 : decode cX9_slotNumbered 13 = .ok (.ldc_w 289, 3) := by decide +kernel
theorem dX9_slotNumbered_16 : decode cX9_slotNumbered 16 = .ok (.invokespecial 291, 3) := by decide +kernel
theorem dX9_slotNumbered_19 : decode cX9_slotNumbered 19 = .ok (.athrow, 1) := by decide +kernel
theorem dX9_slotNumbered_20 : decode cX9_slotNumbered 20 = .ok (.aload_n 0, 1) := by decide +kernel
theorem dX9_slotNumbered_21 : decode cX9_slotNumbered 21 = .ok (.getfield 11, 3) := by decide +kernel
theorem dX9_slotNumbered_24 : decode cX9_slotNumbered 24 = .ok (.iload_n 1, 1) := by decide +kernel
theorem dX9_slotNumbered_25 : decode cX9_slotNumbered 25 = .ok (.aaload, 1) := by decide +kernel
theorem dX9_slotNumbered_26 : decode cX9_slotNumbered 26 = .ok (.areturn, 1) := by decide +kernel
theorem dX9_wordNumbered_0 : decode cX9_wordNumbered 0 = .ok (.iload_n 1, 1) := by decide +kernel
theorem dX9_wordNumbered_1 : decode cX9_wordNumbered 1 = .ok (.ifCond .lt 8, 3) := by decide +kernel
theorem dX9_wordNumbered_4 : decode cX9_wordNumbered 4 = .ok (.iload_n 1, 1) := by decide +kernel
theorem dX9_wordNumbered_5 : decode cX9_wordNumbered 5 = .ok (.iconst 2, 1) := by decide +kernel
theorem dX9_wordNumbered_6 : decode cX9_wordNumbered 6 = .ok (.if_icmp .lt 14, 3) := by decide +kernel
theorem dX9_wordNumbered_9 : decode cX9_wordNumbered 9 = .ok (.new 287, 3) := by decide +kernel
theorem dX9_wordNumbered_12 : decode cX9_wordNumbered 12 = .ok (.dup, 1) := by decide +kernel
theorem dX9_wordNumbered_13 : decode cX9_wordNumbered 13 = .ok (.ldc_w 292, 3) := by decide +kernel
theorem dX9_wordNumbered_16 : decode cX9_wordNumbered 16 = .ok (.invokespecial 291, 3) := by decide +kernel
theorem dX9_wordNumbered_19 : decode cX9_wordNumbered 19 = .ok (.athrow, 1) := by decide +kernel
theorem dX9_wordNumbered_20 : decode cX9_wordNumbered 20 = .ok (.aload_n 0, 1) := by decide +kernel
theorem dX9_wordNumbered_21 : decode cX9_wordNumbered 21 = .ok (.getfield 17, 3) := by decide +kernel
theorem dX9_wordNumbered_24 : decode cX9_wordNumbered 24 = .ok (.iload_n 1, 1) := by decide +kernel
theorem dX9_wordNumbered_25 : decode cX9_wordNumbered 25 = .ok (.aaload, 1) := by decide +kernel
theorem dX9_wordNumbered_26 : decode cX9_wordNumbered 26 = .ok (.areturn, 1) := by decide +kernel
theorem dX9_rowThatEndsWith_0 : decode cX9_rowThatEndsWith 0 = .ok (.iconst 0, 1) := by decide +kernel
theorem dX9_rowThatEndsWith_1 : decode cX9_rowThatEndsWith 1 = .ok (.istore_n 2, 1) := by decide +kernel
theorem dX9_rowThatEndsWith_2 : decode cX9_rowThatEndsWith 2 = .ok (.iload_n 2, 1) := by decide +kernel
theorem dX9_rowThatEndsWith_3 : decode cX9_rowThatEndsWith 3 = .ok (.bipush 15, 2) := by decide +kernel
theorem dX9_rowThatEndsWith_5 : decode cX9_rowThatEndsWith 5 = .ok (.if_icmp .ge 34, 3) := by decide +kernel
theorem dX9_rowThatEndsWith_8 : decode cX9_rowThatEndsWith 8 = .ok (.aload_n 0, 1) := by decide +kernel
theorem dX9_rowThatEndsWith_9 : decode cX9_rowThatEndsWith 9 = .ok (.getfield 28, 3) := by decide +kernel
theorem dX9_rowThatEndsWith_12 : decode cX9_rowThatEndsWith 12 = .ok (.iload_n 2, 1) := by decide +kernel
theorem dX9_rowThatEndsWith_13 : decode cX9_rowThatEndsWith 13 = .ok (.aload_n 0, 1) := by decide +kernel
theorem dX9_rowThatEndsWith_14 : decode cX9_rowThatEndsWith 14 = .ok (.getfield 35, 3) := by decide +kernel
theorem dX9_rowThatEndsWith_17 : decode cX9_rowThatEndsWith 17 = .ok (.getfield 202, 3) := by decide +kernel
theorem dX9_rowThatEndsWith_20 : decode cX9_rowThatEndsWith 20 = .ok (.iload_n 2, 1) := by decide +kernel
theorem dX9_rowThatEndsWith_21 : decode cX9_rowThatEndsWith 21 = .ok (.iaload, 1) := by decide +kernel
theorem dX9_rowThatEndsWith_22 : decode cX9_rowThatEndsWith 22 = .ok (.iconst 1, 1) := by decide +kernel
theorem dX9_rowThatEndsWith_23 : decode cX9_rowThatEndsWith 23 = .ok (.isub, 1) := by decide +kernel
theorem dX9_rowThatEndsWith_24 : decode cX9_rowThatEndsWith 24 = .ok (.invokevirtual 170, 3) := by decide +kernel
theorem dX9_rowThatEndsWith_27 : decode cX9_rowThatEndsWith 27 = .ok (.iload_n 1, 1) := by decide +kernel
theorem dX9_rowThatEndsWith_28 : decode cX9_rowThatEndsWith 28 = .ok (.if_icmp .ne 5, 3) := by decide +kernel
theorem dX9_rowThatEndsWith_31 : decode cX9_rowThatEndsWith 31 = .ok (.iload_n 2, 1) := by decide +kernel
theorem dX9_rowThatEndsWith_32 : decode cX9_rowThatEndsWith 32 = .ok (.ireturn, 1) := by decide +kernel
theorem dX9_rowThatEndsWith_33 : decode cX9_rowThatEndsWith 33 = .ok (.iinc 2 1, 3) := by decide +kernel
theorem dX9_rowThatEndsWith_36 : decode cX9_rowThatEndsWith 36 = .ok (.goto (-34), 3) := by decide +kernel
theorem dX9_rowThatEndsWith_39 : decode cX9_rowThatEndsWith 39 = .ok (.bipush 15, 2) := by decide +kernel
theorem dX9_rowThatEndsWith_41 : decode cX9_rowThatEndsWith 41 = .ok (.ireturn, 1) := by decide +kernel
theorem dX9_slideUntilStraight_0 : decode cX9_slideUntilStraight 0 = .ok (.aload_n 0, 1) := by decide +kernel
theorem dX9_slideUntilStraight_1 : decode cX9_slideUntilStraight 1 = .ok (.getfield 42, 3) := by decide +kernel
theorem dX9_slideUntilStraight_4 : decode cX9_slideUntilStraight 4 = .ok (.invokevirtual 217, 3) := by decide +kernel
theorem dX9_slideUntilStraight_7 : decode cX9_slideUntilStraight 7 = .ok (.istore_n 2, 1) := by decide +kernel
theorem dX9_slideUntilStraight_8 : decode cX9_slideUntilStraight 8 = .ok (.iconst 0, 1) := by decide +kernel
theorem dX9_slideUntilStraight_9 : decode cX9_slideUntilStraight 9 = .ok (.istore_n 3, 1) := by decide +kernel
theorem dX9_slideUntilStraight_10 : decode cX9_slideUntilStraight 10 = .ok (.iload_n 3, 1) := by decide +kernel
theorem dX9_slideUntilStraight_11 : decode cX9_slideUntilStraight 11 = .ok (.iload_n 2, 1) := by decide +kernel
theorem dX9_slideUntilStraight_12 : decode cX9_slideUntilStraight 12 = .ok (.if_icmp .ge 97, 3) := by decide +kernel
theorem dX9_slideUntilStraight_15 : decode cX9_slideUntilStraight 15 = .ok (.iload_n 1, 1) := by decide +kernel
theorem dX9_slideUntilStraight_16 : decode cX9_slideUntilStraight 16 = .ok (.iconst 2, 1) := by decide +kernel
theorem dX9_slideUntilStraight_17 : decode cX9_slideUntilStraight 17 = .ok (.if_icmp .ne 17, 3) := by decide +kernel
theorem dX9_slideUntilStraight_20 : decode cX9_slideUntilStraight 20 = .ok (.iload_n 3, 1) := by decide +kernel
theorem dX9_slideUntilStraight_21 : decode cX9_slideUntilStraight 21 = .ok (.iconst 2, 1) := by decide +kernel
theorem dX9_slideUntilStraight_22 : decode cX9_slideUntilStraight 22 = .ok (.irem, 1) := by decide +kernel
theorem dX9_slideUntilStraight_23 : decode cX9_slideUntilStraight 23 = .ok (.ifCond .ne 7, 3) := by decide +kernel
theorem dX9_slideUntilStraight_26 : decode cX9_slideUntilStraight 26 = .ok (.iconst 1, 1) := by decide +kernel
theorem dX9_slideUntilStraight_27 : decode cX9_slideUntilStraight 27 = .ok (.goto 16, 3) := by decide +kernel
theorem dX9_slideUntilStraight_30 : decode cX9_slideUntilStraight 30 = .ok (.iconst 0, 1) := by decide +kernel
theorem dX9_slideUntilStraight_31 : decode cX9_slideUntilStraight 31 = .ok (.goto 12, 3) := by decide +kernel
theorem dX9_slideUntilStraight_34 : decode cX9_slideUntilStraight 34 = .ok (.iload_n 1, 1) := by decide +kernel
theorem dX9_slideUntilStraight_35 : decode cX9_slideUntilStraight 35 = .ok (.ifCond .ne 7, 3) := by decide +kernel
theorem dX9_slideUntilStraight_38 : decode cX9_slideUntilStraight 38 = .ok (.iconst 1, 1) := by decide +kernel
theorem dX9_slideUntilStraight_39 : decode cX9_slideUntilStraight 39 = .ok (.goto 4, 3) := by decide +kernel
theorem dX9_slideUntilStraight_42 : decode cX9_slideUntilStraight 42 = .ok (.iconst 0, 1) := by decide +kernel
theorem dX9_slideUntilStraight_43 : decode cX9_slideUntilStraight 43 = .ok (.istore 4, 2) := by decide +kernel
theorem dX9_slideUntilStraight_45 : decode cX9_slideUntilStraight 45 = .ok (.iload 4, 2) := by decide +kernel
theorem dX9_slideUntilStraight_47 : decode cX9_slideUntilStraight 47 = .ok (.ifCond .eq 13, 3) := by decide +kernel
theorem dX9_slideUntilStraight_50 : decode cX9_slideUntilStraight 50 = .ok (.aload_n 0, 1) := by decide +kernel
theorem dX9_slideUntilStraight_51 : decode cX9_slideUntilStraight 51 = .ok (.getfield 42, 3) := by decide +kernel
theorem dX9_slideUntilStraight_54 : decode cX9_slideUntilStraight 54 = .ok (.invokevirtual 294, 3) := by decide +kernel
theorem dX9_slideUntilStraight_57 : decode cX9_slideUntilStraight 57 = .ok (.goto 10, 3) := by decide +kernel
theorem dX9_slideUntilStraight_60 : decode cX9_slideUntilStraight 60 = .ok (.aload_n 0, 1) := by decide +kernel
theorem dX9_slideUntilStraight_61 : decode cX9_slideUntilStraight 61 = .ok (.getfield 42, 3) := by decide +kernel
theorem dX9_slideUntilStraight_64 : decode cX9_slideUntilStraight 64 = .ok (.invokevirtual 297, 3) := by decide +kernel
theorem dX9_slideUntilStraight_67 : decode cX9_slideUntilStraight 67 = .ok (.istore 5, 2) := by decide +kernel
theorem dX9_slideUntilStraight_69 : decode cX9_slideUntilStraight 69 = .ok (.aload_n 0, 1) := by decide +kernel
theorem dX9_slideUntilStraight_70 : decode cX9_slideUntilStraight 70 = .ok (.getfield 42, 3) := by decide +kernel
theorem dX9_slideUntilStraight_73 : decode cX9_slideUntilStraight 73 = .ok (.getfield 102, 3) := by decide +kernel
theorem dX9_slideUntilStraight_76 : decode cX9_slideUntilStraight 76 = .ok (.iload 5, 2) := by decide +kernel
theorem dX9_slideUntilStraight_78 : decode cX9_slideUntilStraight 78 = .ok (.dup2, 1) := by decide +kernel
theorem dX9_slideUntilStraight_79 : decode cX9_slideUntilStraight 79 = .ok (.iaload, 1) := by decide +kernel
theorem dX9_slideUntilStraight_80 : decode cX9_slideUntilStraight 80 = .ok (.iconst 1, 1) := by decide +kernel
theorem dX9_slideUntilStraight_81 : decode cX9_slideUntilStraight 81 = .ok (.isub, 1) := by decide +kernel
theorem dX9_slideUntilStraight_82 : decode cX9_slideUntilStraight 82 = .ok (.iastore, 1) := by decide +kernel
theorem dX9_slideUntilStraight_83 : decode cX9_slideUntilStraight 83 = .ok (.aload_n 0, 1) := by decide +kernel
theorem dX9_slideUntilStraight_84 : decode cX9_slideUntilStraight 84 = .ok (.getfield 35, 3) := by decide +kernel
theorem dX9_slideUntilStraight_87 : decode cX9_slideUntilStraight 87 = .ok (.iload 5, 2) := by decide +kernel
theorem dX9_slideUntilStraight_89 : decode cX9_slideUntilStraight 89 = .ok (.aload_n 0, 1) := by decide +kernel
theorem dX9_slideUntilStraight_90 : decode cX9_slideUntilStraight 90 = .ok (.getfield 42, 3) := by decide +kernel
theorem dX9_slideUntilStraight_93 : decode cX9_slideUntilStraight 93 = .ok (.getfield 102, 3) := by decide +kernel
theorem dX9_slideUntilStraight_96 : decode cX9_slideUntilStraight 96 = .ok (.iload 5, 2) := by decide +kernel
theorem dX9_slideUntilStraight_98 : decode cX9_slideUntilStraight 98 = .ok (.iaload, 1) := by decide +kernel
theorem dX9_slideUntilStraight_99 : decode cX9_slideUntilStraight 99 = .ok (.invokevirtual 237, 3) := by decide +kernel
theorem dX9_slideUntilStraight_102 : decode cX9_slideUntilStraight 102 = .ok (.pop, 1) := by decide +kernel
theorem dX9_slideUntilStraight_103 : decode cX9_slideUntilStraight 103 = .ok (.iinc 3 1, 3) := by decide +kernel
theorem dX9_slideUntilStraight_106 : decode cX9_slideUntilStraight 106 = .ok (.goto (-96), 3) := by decide +kernel
theorem dX9_slideUntilStraight_109 : decode cX9_slideUntilStraight 109 = .ok (.iload_n 2, 1) := by decide +kernel
theorem dX9_slideUntilStraight_110 : decode cX9_slideUntilStraight 110 = .ok (.ireturn, 1) := by decide +kernel
theorem dJ6_bitCount_0f7a4_0 : decode cJ6_bitCount_0f7a4 0 = .ok (.iload_n 0, 1) := by decide +kernel
theorem dJ6_bitCount_0f7a4_1 : decode cJ6_bitCount_0f7a4 1 = .ok (.iload_n 0, 1) := by decide +kernel
theorem dJ6_bitCount_0f7a4_2 : decode cJ6_bitCount_0f7a4 2 = .ok (.iconst 1, 1) := by decide +kernel
theorem dJ6_bitCount_0f7a4_3 : decode cJ6_bitCount_0f7a4 3 = .ok (.iushr, 1) := by decide +kernel
theorem dJ6_bitCount_0f7a4_4 : decode cJ6_bitCount_0f7a4 4 = .ok (.ldc_w 265, 3) := by decide +kernel
theorem dJ6_bitCount_0f7a4_7 : decode cJ6_bitCount_0f7a4 7 = .ok (.iand, 1) := by decide +kernel
theorem dJ6_bitCount_0f7a4_8 : decode cJ6_bitCount_0f7a4 8 = .ok (.isub, 1) := by decide +kernel
theorem dJ6_bitCount_0f7a4_9 : decode cJ6_bitCount_0f7a4 9 = .ok (.istore_n 0, 1) := by decide +kernel
theorem dJ6_bitCount_0f7a4_10 : decode cJ6_bitCount_0f7a4 10 = .ok (.iload_n 0, 1) := by decide +kernel
theorem dJ6_bitCount_0f7a4_11 : decode cJ6_bitCount_0f7a4 11 = .ok (.ldc_w 266, 3) := by decide +kernel
theorem dJ6_bitCount_0f7a4_14 : decode cJ6_bitCount_0f7a4 14 = .ok (.iand, 1) := by decide +kernel
theorem dJ6_bitCount_0f7a4_15 : decode cJ6_bitCount_0f7a4 15 = .ok (.iload_n 0, 1) := by decide +kernel
theorem dJ6_bitCount_0f7a4_16 : decode cJ6_bitCount_0f7a4 16 = .ok (.iconst 2, 1) := by decide +kernel
theorem dJ6_bitCount_0f7a4_17 : decode cJ6_bitCount_0f7a4 17 = .ok (.iushr, 1) := by decide +kernel
theorem dJ6_bitCount_0f7a4_18 : decode cJ6_bitCount_0f7a4 18 = .ok (.ldc_w 266, 3) := by decide +kernel
theorem dJ6_bitCount_0f7a4_21 : decode cJ6_bitCount_0f7a4 21 = .ok (.iand, 1) := by decide +kernel
theorem dJ6_bitCount_0f7a4_22 : decode cJ6_bitCount_0f7a4 22 = .ok (.iadd, 1) := by decide +kernel
theorem dJ6_bitCount_0f7a4_23 : decode cJ6_bitCount_0f7a4 23 = .ok (.istore_n 0, 1) := by decide +kernel
theorem dJ6_bitCount_0f7a4_24 : decode cJ6_bitCount_0f7a4 24 = .ok (.iload_n 0, 1) := by decide +kernel
theorem dJ6_bitCount_0f7a4_25 : decode cJ6_bitCount_0f7a4 25 = .ok (.iload_n 0, 1) := by decide +kernel
theorem dJ6_bitCount_0f7a4_26 : decode cJ6_bitCount_0f7a4 26 = .ok (.iconst 4, 1) := by decide +kernel
theorem dJ6_bitCount_0f7a4_27 : decode cJ6_bitCount_0f7a4 27 = .ok (.iushr, 1) := by decide +kernel
theorem dJ6_bitCount_0f7a4_28 : decode cJ6_bitCount_0f7a4 28 = .ok (.iadd, 1) := by decide +kernel
theorem dJ6_bitCount_0f7a4_29 : decode cJ6_bitCount_0f7a4 29 = .ok (.ldc_w 267, 3) := by decide +kernel
theorem dJ6_bitCount_0f7a4_32 : decode cJ6_bitCount_0f7a4 32 = .ok (.iand, 1) := by decide +kernel
theorem dJ6_bitCount_0f7a4_33 : decode cJ6_bitCount_0f7a4 33 = .ok (.istore_n 0, 1) := by decide +kernel
theorem dJ6_bitCount_0f7a4_34 : decode cJ6_bitCount_0f7a4 34 = .ok (.iload_n 0, 1) := by decide +kernel
theorem dJ6_bitCount_0f7a4_35 : decode cJ6_bitCount_0f7a4 35 = .ok (.iload_n 0, 1) := by decide +kernel
theorem dJ6_bitCount_0f7a4_36 : decode cJ6_bitCount_0f7a4 36 = .ok (.bipush 8, 2) := by decide +kernel
theorem dJ6_bitCount_0f7a4_38 : decode cJ6_bitCount_0f7a4 38 = .ok (.iushr, 1) := by decide +kernel
theorem dJ6_bitCount_0f7a4_39 : decode cJ6_bitCount_0f7a4 39 = .ok (.iadd, 1) := by decide +kernel
theorem dJ6_bitCount_0f7a4_40 : decode cJ6_bitCount_0f7a4 40 = .ok (.istore_n 0, 1) := by decide +kernel
theorem dJ6_bitCount_0f7a4_41 : decode cJ6_bitCount_0f7a4 41 = .ok (.iload_n 0, 1) := by decide +kernel
theorem dJ6_bitCount_0f7a4_42 : decode cJ6_bitCount_0f7a4 42 = .ok (.iload_n 0, 1) := by decide +kernel
theorem dJ6_bitCount_0f7a4_43 : decode cJ6_bitCount_0f7a4 43 = .ok (.bipush 16, 2) := by decide +kernel
theorem dJ6_bitCount_0f7a4_45 : decode cJ6_bitCount_0f7a4 45 = .ok (.iushr, 1) := by decide +kernel
theorem dJ6_bitCount_0f7a4_46 : decode cJ6_bitCount_0f7a4 46 = .ok (.iadd, 1) := by decide +kernel
theorem dJ6_bitCount_0f7a4_47 : decode cJ6_bitCount_0f7a4 47 = .ok (.istore_n 0, 1) := by decide +kernel
theorem dJ6_bitCount_0f7a4_48 : decode cJ6_bitCount_0f7a4 48 = .ok (.iload_n 0, 1) := by decide +kernel
theorem dJ6_bitCount_0f7a4_49 : decode cJ6_bitCount_0f7a4 49 = .ok (.bipush 63, 2) := by decide +kernel
theorem dJ6_bitCount_0f7a4_51 : decode cJ6_bitCount_0f7a4 51 = .ok (.iand, 1) := by decide +kernel
theorem dJ6_bitCount_0f7a4_52 : decode cJ6_bitCount_0f7a4 52 = .ok (.ireturn, 1) := by decide +kernel
theorem dJ9_max_7cf53_0 : decode cJ9_max_7cf53 0 = .ok (.iload_n 0, 1) := by decide +kernel
theorem dJ9_max_7cf53_1 : decode cJ9_max_7cf53 1 = .ok (.iload_n 1, 1) := by decide +kernel
theorem dJ9_max_7cf53_2 : decode cJ9_max_7cf53 2 = .ok (.if_icmp .lt 7, 3) := by decide +kernel
theorem dJ9_max_7cf53_5 : decode cJ9_max_7cf53 5 = .ok (.iload_n 0, 1) := by decide +kernel
theorem dJ9_max_7cf53_6 : decode cJ9_max_7cf53 6 = .ok (.goto 4, 3) := by decide +kernel
theorem dJ9_max_7cf53_9 : decode cJ9_max_7cf53 9 = .ok (.iload_n 1, 1) := by decide +kernel
theorem dJ9_max_7cf53_10 : decode cJ9_max_7cf53 10 = .ok (.ireturn, 1) := by decide +kernel
theorem dJ9_min_7cf53_0 : decode cJ9_min_7cf53 0 = .ok (.iload_n 0, 1) := by decide +kernel
theorem dJ9_min_7cf53_1 : decode cJ9_min_7cf53 1 = .ok (.iload_n 1, 1) := by decide +kernel
theorem dJ9_min_7cf53_2 : decode cJ9_min_7cf53 2 = .ok (.if_icmp .gt 7, 3) := by decide +kernel
theorem dJ9_min_7cf53_5 : decode cJ9_min_7cf53 5 = .ok (.iload_n 0, 1) := by decide +kernel
theorem dJ9_min_7cf53_6 : decode cJ9_min_7cf53 6 = .ok (.goto 4, 3) := by decide +kernel
theorem dJ9_min_7cf53_9 : decode cJ9_min_7cf53 9 = .ok (.iload_n 1, 1) := by decide +kernel
theorem dJ9_min_7cf53_10 : decode cJ9_min_7cf53 10 = .ok (.ireturn, 1) := by decide +kernel
theorem dJ7_fill_53178_0 : decode cJ7_fill_53178 0 = .ok (.iconst 0, 1) := by decide +kernel
theorem dJ7_fill_53178_1 : decode cJ7_fill_53178 1 = .ok (.istore_n 2, 1) := by decide +kernel
theorem dJ7_fill_53178_2 : decode cJ7_fill_53178 2 = .ok (.aload_n 0, 1) := by decide +kernel
theorem dJ7_fill_53178_3 : decode cJ7_fill_53178 3 = .ok (.arraylength, 1) := by decide +kernel
theorem dJ7_fill_53178_4 : decode cJ7_fill_53178 4 = .ok (.istore_n 3, 1) := by decide +kernel
theorem dJ7_fill_53178_5 : decode cJ7_fill_53178 5 = .ok (.iload_n 2, 1) := by decide +kernel
theorem dJ7_fill_53178_6 : decode cJ7_fill_53178 6 = .ok (.iload_n 3, 1) := by decide +kernel
theorem dJ7_fill_53178_7 : decode cJ7_fill_53178 7 = .ok (.if_icmp .ge 13, 3) := by decide +kernel
theorem dJ7_fill_53178_10 : decode cJ7_fill_53178 10 = .ok (.aload_n 0, 1) := by decide +kernel
theorem dJ7_fill_53178_11 : decode cJ7_fill_53178 11 = .ok (.iload_n 2, 1) := by decide +kernel
theorem dJ7_fill_53178_12 : decode cJ7_fill_53178 12 = .ok (.iload_n 1, 1) := by decide +kernel
theorem dJ7_fill_53178_13 : decode cJ7_fill_53178 13 = .ok (.iastore, 1) := by decide +kernel
theorem dJ7_fill_53178_14 : decode cJ7_fill_53178 14 = .ok (.iinc 2 1, 3) := by decide +kernel
theorem dJ7_fill_53178_17 : decode cJ7_fill_53178 17 = .ok (.goto (-12), 3) := by decide +kernel
theorem dJ7_fill_53178_20 : decode cJ7_fill_53178 20 = .ok (.return_, 1) := by decide +kernel
end
section
theorem dX10_init_0 : decode cX10_init 0 = .ok (.aload_n 0, 1) := by decide +kernel
theorem dX10_init_1 : decode cX10_init 1 = .ok (.invokespecial 1, 3) := by decide +kernel
theorem dX10_init_4 : decode cX10_init 4 = .ok (.aload_n 0, 1) := by decide +kernel
theorem dX10_init_5 : decode cX10_init 5 = .ok (.bipush 32, 2) := by decide +kernel
theorem dX10_init_7 : decode cX10_init 7 = .ok (.newarray .int, 2) := by decide +kernel
theorem dX10_init_9 : decode cX10_init 9 = .ok (.putfield 7, 3) := by decide +kernel
theorem dX10_init_12 : decode cX10_init 12 = .ok (.aload_n 0, 1) := by decide +kernel
theorem dX10_init_13 : decode cX10_init 13 = .ok (.bipush 32, 2) := by decide +kernel
theorem dX10_init_15 : decode cX10_init 15 = .ok (.newarray .int, 2) := by decide +kernel
theorem dX10_init_17 : decode cX10_init 17 = .ok (.putfield 13, 3) := by decide +kernel
theorem dX10_init_20 : decode cX10_init 20 = .ok (.aload_n 0, 1) := by decide +kernel
theorem dX10_init_21 : decode cX10_init 21 = .ok (.iconst 2, 1) := by decide +kernel
theorem dX10_init_22 : decode cX10_init 22 = .ok (.newarray .int, 2) := by decide +kernel
theorem dX10_init_24 : decode cX10_init 24 = .ok (.putfield 16, 3) := by decide +kernel
theorem dX10_init_27 : decode cX10_init 27 = .ok (.aload_n 0, 1) := by decide +kernel
theorem dX10_init_28 : decode cX10_init 28 = .ok (.sipush 1728, 3) := by decide +kernel
theorem dX10_init_31 : decode cX10_init 31 = .ok (.newarray .int, 2) := by decide +kernel
theorem dX10_init_33 : decode cX10_init 33 = .ok (.putfield 19, 3) := by decide +kernel
theorem dX10_init_36 : decode cX10_init 36 = .ok (.aload_n 0, 1) := by decide +kernel
theorem dX10_init_37 : decode cX10_init 37 = .ok (.bipush 72, 2) := by decide +kernel
theorem dX10_init_39 : decode cX10_init 39 = .ok (.newarray .int, 2) := by decide +kernel
theorem dX10_init_41 : decode cX10_init 41 = .ok (.putfield 22, 3) := by decide +kernel
theorem dX10_init_44 : decode cX10_init 44 = .ok (.aload_n 0, 1) := by decide +kernel
theorem dX10_init_45 : decode cX10_init 45 = .ok (.iconst 1, 1) := by decide +kernel
theorem dX10_init_46 : decode cX10_init 46 = .ok (.putfield 25, 3) := by decide +kernel
theorem dX10_init_49 : decode cX10_init 49 = .ok (.aload_n 0, 1) := by decide +kernel
theorem dX10_init_50 : decode cX10_init 50 = .ok (.bipush 24, 2) := by decide +kernel
theorem dX10_init_52 : decode cX10_init 52 = .ok (.newarray .int, 2) := by decide +kernel
theorem dX10_init_54 : decode cX10_init 54 = .ok (.putfield 29, 3) := by decide +kernel
theorem dX10_init_57 : decode cX10_init 57 = .ok (.aload_n 0, 1) := by decide +kernel
theorem dX10_init_58 : decode cX10_init 58 = .ok (.sipush 625, 3) := by decide +kernel
theorem dX10_init_61 : decode cX10_init 61 = .ok (.newarray .int, 2) := by decide +kernel
theorem dX10_init_63 : decode cX10_init 63 = .ok (.putfield 32, 3) := by decide +kernel
theorem dX10_init_66 : decode cX10_init 66 = .ok (.aload_n 0, 1) := by decide +kernel
theorem dX10_init_67 : decode cX10_init 67 = .ok (.bipush 9, 2) := by decide +kernel
theorem dX10_init_69 : decode cX10_init 69 = .ok (.newarray .int, 2) := by decide +kernel
theorem dX10_init_71 : decode cX10_init 71 = .ok (.putfield 35, 3) := by decide +kernel
theorem dX10_init_74 : decode cX10_init 74 = .ok (.aload_n 0, 1) := by decide +kernel
theorem dX10_init_75 : decode cX10_init 75 = .ok (.bipush 9, 2) := by decide +kernel
theorem dX10_init_77 : decode cX10_init 77 = .ok (.newarray .int, 2) := by decide +kernel
theorem dX10_init_79 : decode cX10_init 79 = .ok (.putfield 38, 3) := by decide +kernel
theorem dX10_init_82 : decode cX10_init 82 = .ok (.aload_n 0, 1) := by decide +kernel
theorem dX10_init_83 : decode cX10_init 83 = .ok (.bipush 9, 2) := by decide +kernel
theorem dX10_init_85 : decode cX10_init 85 = .ok (.newarray .int, 2) := by decide +kernel
theorem dX10_init_87 : decode cX10_init 87 = .ok (.putfield 41, 3) := by decide +kernel
theorem dX10_init_90 : decode cX10_init 90 = .ok (.aload_n 0, 1) := by decide +kernel
theorem dX10_init_91 : decode cX10_init 91 = .ok (.bipush 17, 2) := by decide +kernel
theorem dX10_init_93 : decode cX10_init 93 = .ok (.newarray .int, 2) := by decide +kernel
theorem dX10_init_95 : decode cX10_init 95 = .ok (.putfield 44, 3) := by decide +kernel
theorem dX10_init_98 : decode cX10_init 98 = .ok (.aload_n 0, 1) := by decide +kernel
theorem dX10_init_99 : decode cX10_init 99 = .ok (.sipush 2000, 3) := by decide +kernel
theorem dX10_init_102 : decode cX10_init 102 = .ok (.newarray .long, 2) := by decide +kernel
theorem dX10_init_104 : decode cX10_init 104 = .ok (.putfield 47, 3) := by decide +kernel
theorem dX10_init_107 : decode cX10_init 107 = .ok (.aload_n 0, 1) := by decide +kernel
theorem dX10_init_108 : decode cX10_init 108 = .ok (.sipush 2000, 3) := by decide +kernel
theorem dX10_init_111 : decode cX10_init 111 = .ok (.newarray .long, 2) := by decide +kernel
theorem dX10_init_113 : decode cX10_init 113 = .ok (.putfield 51, 3) := by decide +kernel
theorem dX10_init_116 : decode cX10_init 116 = .ok (.aload_n 0, 1) := by decide +kernel
theorem dX10_init_117 : decode cX10_init 117 = .ok (.sipush 2000, 3) := by decide +kernel
theorem dX10_init_120 : decode cX10_init 120 = .ok (.newarray .long, 2) := by decide +kernel
theorem dX10_init_122 : decode cX10_init 122 = .ok (.putfield 54, 3) := by decide +kernel
theorem dX10_init_125 : decode cX10_init 125 = .ok (.aload_n 0, 1) := by decide +kernel
theorem dX10_init_126 : decode cX10_init 126 = .ok (.sipush 2000, 3) := by decide +kernel
theorem dX10_init_129 : decode cX10_init 129 = .ok (.newarray .long, 2) := by decide +kernel
theorem dX10_init_131 : decode cX10_init 131 = .ok (.putfield 57, 3) := by decide +kernel
theorem dX10_init_134 : decode cX10_init 134 = .ok (.aload_n 0, 1) := by decide +kernel
theorem dX10_init_135 : decode cX10_init 135 = .ok (.bipush 40, 2) := by decide +kernel
theorem dX10_init_137 : decode cX10_init 137 = .ok (.newarray .int, 2) := by decide +kernel
theorem dX10_init_139 : decode cX10_init 139 = .ok (.putfield 60, 3) := by decide +kernel
theorem dX10_init_142 : decode cX10_init 142 = .ok (.iconst 0, 1) := by decide +kernel
theorem dX10_init_143 : decode cX10_init 143 = .ok (.istore_n 1, 1) := by decide +kernel
theorem dX10_init_144 : decode cX10_init 144 = .ok (.iload_n 1, 1) := by decide +kernel
theorem dX10_init_145 : decode cX10_init 145 = .ok (.bipush 25, 2) := by decide +kernel
theorem dX10_init_147 : decode cX10_init 147 = .ok (.if_icmp .ge 16, 3) := by decide +kernel
theorem dX10_init_150 : decode cX10_init 150 = .ok (.aload_n 0, 1) := by decide +kernel
theorem dX10_init_151 : decode cX10_init 151 = .ok (.getfield 32, 3) := by decide +kernel
theorem dX10_init_154 : decode cX10_init 154 = .ok (.iload_n 1, 1) := by decide +kernel
theorem dX10_init_155 : decode cX10_init 155 = .ok (.iconst 1, 1) := by decide +kernel
theorem dX10_init_156 : decode cX10_init 156 = .ok (.iastore, 1) := by decide +kernel
theorem dX10_init_157 : decode cX10_init 157 = .ok (.iinc 1 1, 3) := by decide +kernel
theorem dX10_init_160 : decode cX10_init 160 = .ok (.goto (-16), 3) := by decide +kernel
theorem dX10_init_163 : decode cX10_init 163 = .ok (.iconst 1, 1) := by decide +kernel
theorem dX10_init_164 : decode cX10_init 164 = .ok (.istore_n 1, 1) := by decide +kernel
theorem dX10_init_165 : decode cX10_init 165 = .ok (.iload_n 1, 1) := by decide +kernel
theorem dX10_init_166 : decode cX10_init 166 = .ok (.bipush 25, 2) := by decide +kernel
theorem dX10_init_168 : decode cX10_init 168 = .ok (.if_icmp .ge 70, 3) := by decide +kernel
theorem dX10_init_171 : decode cX10_init 171 = .ok (.iconst 1, 1) := by decide +kernel
theorem dX10_init_172 : decode cX10_init 172 = .ok (.istore_n 2, 1) := by decide +kernel
theorem dX10_init_173 : decode cX10_init 173 = .ok (.iload_n 2, 1) := by decide +kernel
theorem dX10_init_174 : decode cX10_init 174 = .ok (.bipush 25, 2) := by decide +kernel
theorem dX10_init_176 : decode cX10_init 176 = .ok (.if_icmp .ge 56, 3) := by decide +kernel
theorem dX10_init_179 : decode cX10_init 179 = .ok (.aload_n 0, 1) := by decide +kernel
theorem dX10_init_180 : decode cX10_init 180 = .ok (.getfield 32, 3) := by decide +kernel
theorem dX10_init_183 : decode cX10_init 183 = .ok (.bipush 25, 2) := by decide +kernel
theorem dX10_init_185 : decode cX10_init 185 = .ok (.iload_n 1, 1) := by decide +kernel
theorem dX10_init_186 : decode cX10_init 186 = .ok (.imul, 1) := by decide +kernel
theorem dX10_init_187 : decode cX10_init 187 = .ok (.iload_n 2, 1) := by decide +kernel
theorem dX10_init_188 : decode cX10_init 188 = .ok (.iadd, 1) := by decide +kernel
theorem dX10_init_189 : decode cX10_init 189 = .ok (.aload_n 0, 1) := by decide +kernel
theorem dX10_init_190 : decode cX10_init 190 = .ok (.getfield 32, 3) := by decide +kernel
theorem dX10_init_193 : decode cX10_init 193 = .ok (.bipush 25, 2) := by decide +kernel
theorem dX10_init_195 : decode cX10_init 195 = .ok (.iload_n 1, 1) := by decide +kernel
theorem dX10_init_196 : decode cX10_init 196 = .ok (.imul, 1) := by decide +kernel
theorem dX10_init_197 : decode cX10_init 197 = .ok (.iload_n 2, 1) := by decide +kernel
theorem dX10_init_198 : decode cX10_init 198 = .ok (.iadd, 1) := by decide +kernel
theorem dX10_init_199 : decode cX10_init 199 = .ok (.iconst 1, 1) := by decide +kernel
theorem dX10_init_200 : decode cX10_init 200 = .ok (.isub, 1) := by decide +kernel
theorem dX10_init_201 : decode cX10_init 201 = .ok (.iaload, 1) := by decide +kernel
theorem dX10_init_202 : decode cX10_init 202 = .ok (.iload_n 2, 1) := by decide +kernel
theorem dX10_init_203 : decode cX10_init 203 = .ok (.iload_n 1, 1) := by decide +kernel
theorem dX10_init_204 : decode cX10_init 204 = .ok (.if_icmp .gt 19, 3) := by decide +kernel
theorem dX10_init_207 : decode cX10_init 207 = .ok (.aload_n 0, 1) := by decide +kernel
theorem dX10_init_208 : decode cX10_init 208 = .ok (.getfield 32, 3) := by decide +kernel
theorem dX10_init_211 : decode cX10_init 211 = .ok (.bipush 25, 2) := by decide +kernel
theorem dX10_init_213 : decode cX10_init 213 = .ok (.iload_n 1, 1) := by decide +kernel
theorem dX10_init_214 : decode cX10_init 214 = .ok (.iload_n 2, 1) := by decide +kernel
theorem dX10_init_215 : decode cX10_init 215 = .ok (.isub, 1) := by decide +kernel
theorem dX10_init_216 : decode cX10_init 216 = .ok (.imul, 1) := by decide +kernel
theorem dX10_init_217 : decode cX10_init 217 = .ok (.iload_n 2, 1) := by decide +kernel
theorem dX10_init_218 : decode cX10_init 218 = .ok (.iadd, 1) := by decide +kernel
theorem dX10_init_219 : decode cX10_init 219 = .ok (.iaload, 1) := by decide +kernel
theorem dX10_init_220 : decode cX10_init 220 = .ok (.goto 4, 3) := by decide +kernel
theorem dX10_init_223 : decode cX10_init 223 = .ok (.iconst 0, 1) := by decide +kernel
theorem dX10_init_224 : decode cX10_init 224 = .ok (.iadd, 1) := by decide +kernel
theorem dX10_init_225 : decode cX10_init 225 = .ok (.iastore, 1) := by decide +kernel
theorem dX10_init_226 : decode cX10_init 226 = .ok (.iinc 2 1, 3) := by decide +kernel
theorem dX10_init_229 : decode cX10_init 229 = .ok (.goto (-56), 3) := by decide +kernel
theorem dX10_init_232 : decode cX10_init 232 = .ok (.iinc 1 1, 3) := by decide +kernel
theorem dX10_init_235 : decode cX10_init 235 = .ok (.goto (-70), 3) := by decide +kernel
theorem dX10_init_238 : decode cX10_init 238 = .ok (.return_, 1) := by decide +kernel
theorem dX10_thrown_0 : decode cX10_thrown 0 = .ok (.aload_n 0, 1) := by decide +kernel
theorem dX10_thrown_1 : decode cX10_thrown 1 = .ok (.getfield 63, 3) := by decide +kernel
theorem dX10_thrown_4 : decode cX10_thrown 4 = .ok (.ireturn, 1) := by decide +kernel
theorem dX10_fail_0 : decode cX10_fail 0 = .ok (.aload_n 0, 1) := by decide +kernel
theorem dX10_fail_1 : decode cX10_fail 1 = .ok (.iload_n 1, 1) := by decide +kernel
theorem dX10_fail_2 : decode cX10_fail 2 = .ok (.putfield 63, 3) := by decide +kernel
theorem dX10_fail_5 : decode cX10_fail 5 = .ok (.iconst 0, 1) := by decide +kernel
theorem dX10_fail_6 : decode cX10_fail 6 = .ok (.ireturn, 1) := by decide +kernel
theorem dX10_isSlot_0 : decode cX10_isSlot 0 = .ok (.iload_n 0, 1) := by decide +kernel
theorem dX10_isSlot_1 : decode cX10_isSlot 1 = .ok (.ifCond .lt 12, 3) := by decide +kernel
theorem dX10_isSlot_4 : decode cX10_isSlot 4 = .ok (.iload_n 0, 1) := by decide +kernel
theorem dX10_isSlot_5 : decode cX10_isSlot 5 = .ok (.iconst 4, 1) := by decide +kernel
theorem dX10_isSlot_6 : decode cX10_isSlot 6 = .ok (.if_icmp .ge 7, 3) := by decide +kernel
theorem dX10_isSlot_9 : decode cX10_isSlot 9 = .ok (.iconst 1, 1) := by decide +kernel
theorem dX10_isSlot_10 : decode cX10_isSlot 10 = .ok (.goto 4, 3) := by decide +kernel
theorem dX10_isSlot_13 : decode cX10_isSlot 13 = .ok (.iconst 0, 1) := by decide +kernel
theorem dX10_isSlot_14 : decode cX10_isSlot 14 = .ok (.ireturn, 1) := by decide +kernel
theorem dX10_isWord_0 : decode cX10_isWord 0 = .ok (.iload_n 0, 1) := by decide +kernel
theorem dX10_isWord_1 : decode cX10_isWord 1 = .ok (.ifCond .eq 8, 3) := by decide +kernel
theorem dX10_isWord_4 : decode cX10_isWord 4 = .ok (.iload_n 0, 1) := by decide +kernel
theorem dX10_isWord_5 : decode cX10_isWord 5 = .ok (.iconst 1, 1) := by decide +kernel
theorem dX10_isWord_6 : decode cX10_isWord 6 = .ok (.if_icmp .ne 7, 3) := by decide +kernel
theorem dX10_isWord_9 : decode cX10_isWord 9 = .ok (.iconst 1, 1) := by decide +kernel
theorem dX10_isWord_10 : decode cX10_isWord 10 = .ok (.goto 4, 3) := by decide +kernel
theorem dX10_isWord_13 : decode cX10_isWord 13 = .ok (.iconst 0, 1) := by decide +kernel
theorem dX10_isWord_14 : decode cX10_isWord 14 = .ok (.ireturn, 1) := by decide +kernel
theorem dX10_shape_0 : decode cX10_shape 0 = .ok (.aload_n 0, 1) := by decide +kernel
theorem dX10_shape_1 : decode cX10_shape 1 = .ok (.iload_n 1, 1) := by decide +kernel
theorem dX10_shape_2 : decode cX10_shape 2 = .ok (.invokestatic 67, 3) := by decide +kernel
theorem dX10_shape_5 : decode cX10_shape 5 = .ok (.ifCond .eq 7, 3) := by decide +kernel
theorem dX10_shape_8 : decode cX10_shape 8 = .ok (.iconst 0, 1) := by decide +kernel
theorem dX10_shape_9 : decode cX10_shape 9 = .ok (.goto 4, 3) := by decide +kernel
theorem dX10_shape_12 : decode cX10_shape 12 = .ok (.iconst 1, 1) := by decide +kernel
theorem dX10_shape_13 : decode cX10_shape 13 = .ok (.putfield 63, 3) := by decide +kernel
theorem dX10_shape_16 : decode cX10_shape 16 = .ok (.aload_n 0, 1) := by decide +kernel
theorem dX10_shape_17 : decode cX10_shape 17 = .ok (.getfield 63, 3) := by decide +kernel
theorem dX10_shape_20 : decode cX10_shape 20 = .ok (.ifCond .le 5, 3) := by decide +kernel
theorem dX10_shape_23 : decode cX10_shape 23 = .ok (.iconst 0, 1) := by decide +kernel
theorem dX10_shape_24 : decode cX10_shape 24 = .ok (.ireturn, 1) := by decide +kernel
theorem dX10_shape_25 : decode cX10_shape 25 = .ok (.iconst 0, 1) := by decide +kernel
theorem dX10_shape_26 : decode cX10_shape 26 = .ok (.istore 4, 2) := by decide +kernel
theorem dX10_shape_28 : decode cX10_shape 28 = .ok (.sipush 255, 3) := by decide +kernel
theorem dX10_shape_31 : decode cX10_shape 31 = .ok (.istore 5, 2) := by decide +kernel
theorem dX10_shape_33 : decode cX10_shape 33 = .ok (.iconst 0, 1) := by decide +kernel
theorem dX10_shape_34 : decode cX10_shape 34 = .ok (.istore 6, 2) := by decide +kernel
theorem dX10_shape_36 : decode cX10_shape 36 = .ok (.iload 6, 2) := by decide +kernel
theorem dX10_shape_38 : decode cX10_shape 38 = .ok (.bipush 8, 2) := by decide +kernel
theorem dX10_shape_40 : decode cX10_shape 40 = .ok (.if_icmp .ge 43, 3) := by decide +kernel
theorem dX10_shape_43 : decode cX10_shape 43 = .ok (.lload_n 2, 1) := by decide +kernel
theorem dX10_shape_44 : decode cX10_shape 44 = .ok (.bipush 8, 2) := by decide +kernel
theorem dX10_shape_46 : decode cX10_shape 46 = .ok (.iload 6, 2) := by decide +kernel
theorem dX10_shape_48 : decode cX10_shape 48 = .ok (.imul, 1) := by decide +kernel
theorem dX10_shape_49 : decode cX10_shape 49 = .ok (.lshr, 1) := by decide +kernel
theorem dX10_shape_50 : decode cX10_shape 50 = .ok (.ldc2_w 71, 3) := by decide +kernel
theorem dX10_shape_53 : decode cX10_shape 53 = .ok (.land, 1) := by decide +kernel
theorem dX10_shape_54 : decode cX10_shape 54 = .ok (.l2i, 1) := by decide +kernel
theorem dX10_shape_55 : decode cX10_shape 55 = .ok (.istore 7, 2) := by decide +kernel
theorem dX10_shape_57 : decode cX10_shape 57 = .ok (.iload 7, 2) := by decide +kernel
theorem dX10_shape_59 : decode cX10_shape 59 = .ok (.iload 5, 2) := by decide +kernel
theorem dX10_shape_61 : decode cX10_shape 61 = .ok (.if_icmp .le 5, 3) := by decide +kernel
theorem dX10_shape_64 : decode cX10_shape 64 = .ok (.iconst 0, 1) := by decide +kernel
theorem dX10_shape_65 : decode cX10_shape 65 = .ok (.ireturn, 1) := by decide +kernel
theorem dX10_shape_66 : decode cX10_shape 66 = .ok (.iload 7, 2) := by decide +kernel
theorem dX10_shape_68 : decode cX10_shape 68 = .ok (.istore 5, 2) := by decide +kernel
theorem dX10_shape_70 : decode cX10_shape 70 = .ok (.iload 4, 2) := by decide +kernel
theorem dX10_shape_72 : decode cX10_shape 72 = .ok (.iload 7, 2) := by decide +kernel
theorem dX10_shape_74 : decode cX10_shape 74 = .ok (.iadd, 1) := by decide +kernel
theorem dX10_shape_75 : decode cX10_shape 75 = .ok (.istore 4, 2) := by decide +kernel
theorem dX10_shape_77 : decode cX10_shape 77 = .ok (.iinc 6 1, 3) := by decide +kernel
theorem dX10_shape_80 : decode cX10_shape 80 = .ok (.goto (-44), 3) := by decide +kernel
theorem dX10_shape_83 : decode cX10_shape 83 = .ok (.iload 4, 2) := by decide +kernel
theorem dX10_shape_85 : decode cX10_shape 85 = .ok (.bipush 24, 2) := by decide +kernel
theorem dX10_shape_87 : decode cX10_shape 87 = .ok (.if_icmp .le 5, 3) := by decide +kernel
theorem dX10_shape_90 : decode cX10_shape 90 = .ok (.iconst 0, 1) := by decide +kernel
theorem dX10_shape_91 : decode cX10_shape 91 = .ok (.ireturn, 1) := by decide +kernel
theorem dX10_shape_92 : decode cX10_shape 92 = .ok (.iconst 0, 1) := by decide +kernel
theorem dX10_shape_93 : decode cX10_shape 93 = .ok (.istore 6, 2) := by decide +kernel
theorem dX10_shape_95 : decode cX10_shape 95 = .ok (.iload 6, 2) := by decide +kernel
theorem dX10_shape_97 : decode cX10_shape 97 = .ok (.bipush 8, 2) := by decide +kernel
theorem dX10_shape_99 : decode cX10_shape 99 = .ok (.if_icmp .ge 33, 3) := by decide +kernel
theorem dX10_shape_102 : decode cX10_shape 102 = .ok (.aload_n 0, 1) := by decide +kernel
theorem dX10_shape_103 : decode cX10_shape 103 = .ok (.getfield 7, 3) := by decide +kernel
theorem dX10_shape_106 : decode cX10_shape 106 = .ok (.bipush 8, 2) := by decide +kernel
theorem dX10_shape_108 : decode cX10_shape 108 = .ok (.iload_n 1, 1) := by decide +kernel
theorem dX10_shape_109 : decode cX10_shape 109 = .ok (.imul, 1) := by decide +kernel
theorem dX10_shape_110 : decode cX10_shape 110 = .ok (.iload 6, 2) := by decide +kernel
theorem dX10_shape_112 : decode cX10_shape 112 = .ok (.iadd, 1) := by decide +kernel
theorem dX10_shape_113 : decode cX10_shape 113 = .ok (.lload_n 2, 1) := by decide +kernel
theorem dX10_shape_114 : decode cX10_shape 114 = .ok (.bipush 8, 2) := by decide +kernel
theorem dX10_shape_116 : decode cX10_shape 116 = .ok (.iload 6, 2) := by decide +kernel
theorem dX10_shape_118 : decode cX10_shape 118 = .ok (.imul, 1) := by decide +kernel
theorem dX10_shape_119 : decode cX10_shape 119 = .ok (.lshr, 1) := by decide +kernel
theorem dX10_shape_120 : decode cX10_shape 120 = .ok (.ldc2_w 71, 3) := by decide +kernel
theorem dX10_shape_123 : decode cX10_shape 123 = .ok (.land, 1) := by decide +kernel
theorem dX10_shape_124 : decode cX10_shape 124 = .ok (.l2i, 1) := by decide +kernel
theorem dX10_shape_125 : decode cX10_shape 125 = .ok (.iastore, 1) := by decide +kernel
theorem dX10_shape_126 : decode cX10_shape 126 = .ok (.iinc 6 1, 3) := by decide +kernel
theorem dX10_shape_129 : decode cX10_shape 129 = .ok (.goto (-34), 3) := by decide +kernel
theorem dX10_shape_132 : decode cX10_shape 132 = .ok (.iconst 1, 1) := by decide +kernel
theorem dX10_shape_133 : decode cX10_shape 133 = .ok (.ireturn, 1) := by decide +kernel
theorem dX10_rowOf_0 : decode cX10_rowOf 0 = .ok (.iload_n 2, 1) := by decide +kernel
theorem dX10_rowOf_1 : decode cX10_rowOf 1 = .ok (.ifCond .lt 9, 3) := by decide +kernel
theorem dX10_rowOf_4 : decode cX10_rowOf 4 = .ok (.iload_n 2, 1) := by decide +kernel
theorem dX10_rowOf_5 : decode cX10_rowOf 5 = .ok (.bipush 7, 2) := by decide +kernel
theorem dX10_rowOf_7 : decode cX10_rowOf 7 = .ok (.if_icmp .le 7, 3) := by decide +kernel
theorem dX10_rowOf_10 : decode cX10_rowOf 10 = .ok (.iconst 0, 1) := by decide +kernel
theorem dX10_rowOf_11 : decode cX10_rowOf 11 = .ok (.goto 14, 3) := by decide +kernel
theorem dX10_rowOf_14 : decode cX10_rowOf 14 = .ok (.aload_n 0, 1) := by decide +kernel
theorem dX10_rowOf_15 : decode cX10_rowOf 15 = .ok (.getfield 7, 3) := by decide +kernel
theorem dX10_rowOf_18 : decode cX10_rowOf 18 = .ok (.bipush 8, 2) := by decide +kernel
theorem dX10_rowOf_20 : decode cX10_rowOf 20 = .ok (.iload_n 1, 1) := by decide +kernel
theorem dX10_rowOf_21 : decode cX10_rowOf 21 = .ok (.imul, 1) := by decide +kernel
theorem dX10_rowOf_22 : decode cX10_rowOf 22 = .ok (.iload_n 2, 1) := by decide +kernel
theorem dX10_rowOf_23 : decode cX10_rowOf 23 = .ok (.iadd, 1) := by decide +kernel
theorem dX10_rowOf_24 : decode cX10_rowOf 24 = .ok (.iaload, 1) := by decide +kernel
theorem dX10_rowOf_25 : decode cX10_rowOf 25 = .ok (.ireturn, 1) := by decide +kernel
theorem dX10_row_0 : decode cX10_row 0 = .ok (.aload_n 0, 1) := by decide +kernel
theorem dX10_row_1 : decode cX10_row 1 = .ok (.iload_n 1, 1) := by decide +kernel
theorem dX10_row_2 : decode cX10_row 2 = .ok (.invokestatic 67, 3) := by decide +kernel
theorem dX10_row_5 : decode cX10_row 5 = .ok (.ifCond .eq 7, 3) := by decide +kernel
theorem dX10_row_8 : decode cX10_row 8 = .ok (.iconst 0, 1) := by decide +kernel
theorem dX10_row_9 : decode cX10_row 9 = .ok (.goto 4, 3) := by decide +kernel
theorem dX10_row_12 : decode cX10_row 12 = .ok (.iconst 1, 1) := by decide +kernel
theorem dX10_row_13 : decode cX10_row 13 = .ok (.putfield 63, 3) := by decide +kernel
theorem dX10_row_16 : decode cX10_row 16 = .ok (.aload_n 0, 1) := by decide +kernel
theorem dX10_row_17 : decode cX10_row 17 = .ok (.getfield 63, 3) := by decide +kernel
theorem dX10_row_20 : decode cX10_row 20 = .ok (.ifCond .le 7, 3) := by decide +kernel
theorem dX10_row_23 : decode cX10_row 23 = .ok (.iconst 0, 1) := by decide +kernel
theorem dX10_row_24 : decode cX10_row 24 = .ok (.goto 9, 3) := by decide +kernel
theorem dX10_row_27 : decode cX10_row 27 = .ok (.aload_n 0, 1) := by decide +kernel
theorem dX10_row_28 : decode cX10_row 28 = .ok (.iload_n 1, 1) := by decide +kernel
theorem dX10_row_29 : decode cX10_row 29 = .ok (.iload_n 2, 1) := by decide +kernel
theorem dX10_row_30 : decode cX10_row 30 = .ok (.invokevirtual 73, 3) := by decide +kernel
theorem dX10_row_33 : decode cX10_row 33 = .ok (.ireturn, 1) := by decide +kernel
theorem dX10_boxesOf_0 : decode cX10_boxesOf 0 = .ok (.iconst 0, 1) := by decide +kernel
theorem dX10_boxesOf_1 : decode cX10_boxesOf 1 = .ok (.istore_n 2, 1) := by decide +kernel
theorem dX10_boxesOf_2 : decode cX10_boxesOf 2 = .ok (.iconst 0, 1) := by decide +kernel
theorem dX10_boxesOf_3 : decode cX10_boxesOf 3 = .ok (.istore_n 3, 1) := by decide +kernel
theorem dX10_boxesOf_4 : decode cX10_boxesOf 4 = .ok (.iload_n 3, 1) := by decide +kernel
theorem dX10_boxesOf_5 : decode cX10_boxesOf 5 = .ok (.bipush 8, 2) := by decide +kernel
theorem dX10_boxesOf_7 : decode cX10_boxesOf 7 = .ok (.if_icmp .ge 18, 3) := by decide +kernel
theorem dX10_boxesOf_10 : decode cX10_boxesOf 10 = .ok (.iload_n 2, 1) := by decide +kernel
theorem dX10_boxesOf_11 : decode cX10_boxesOf 11 = .ok (.aload_n 0, 1) := by decide +kernel
theorem dX10_boxesOf_12 : decode cX10_boxesOf 12 = .ok (.iload_n 1, 1) := by decide +kernel
theorem dX10_boxesOf_13 : decode cX10_boxesOf 13 = .ok (.iload_n 3, 1) := by decide +kernel
theorem dX10_boxesOf_14 : decode cX10_boxesOf 14 = .ok (.invokevirtual 73, 3) := by decide +kernel
theorem dX10_boxesOf_17 : decode cX10_boxesOf 17 = .ok (.iadd, 1) := by decide +kernel
theorem dX10_boxesOf_18 : decode cX10_boxesOf 18 = .ok (.istore_n 2, 1) := by decide +kernel
theorem dX10_boxesOf_19 : decode cX10_boxesOf 19 = .ok (.iinc 3 1, 3) := by decide +kernel
theorem dX10_boxesOf_22 : decode cX10_boxesOf 22 = .ok (.goto (-18), 3) := by decide +kernel
theorem dX10_boxesOf_25 : decode cX10_boxesOf 25 = .ok (.iload_n 2, 1) := by decide +kernel
theorem dX10_boxesOf_26 : decode cX10_boxesOf 26 = .ok (.ireturn, 1) := by decide +kernel
theorem dX10_conjugate_0 : decode cX10_conjugate 0 = .ok (.aload_n 0, 1) := by decide +kernel
theorem dX10_conjugate_1 : decode cX10_conjugate 1 = .ok (.iload_n 1, 1) := by decide +kernel
theorem dX10_conjugate_2 : decode cX10_conjugate 2 = .ok (.invokestatic 67, 3) := by decide +kernel
theorem dX10_conjugate_5 : decode cX10_conjugate 5 = .ok (.ifCond .eq 7, 3) := by decide +kernel
theorem dX10_conjugate_8 : decode cX10_conjugate 8 = .ok (.iconst 0, 1) := by decide +kernel
theorem dX10_conjugate_9 : decode cX10_conjugate 9 = .ok (.goto 4, 3) := by decide +kernel
theorem dX10_conjugate_12 : decode cX10_conjugate 12 = .ok (.iconst 1, 1) := by decide +kernel
theorem dX10_conjugate_13 : decode cX10_conjugate 13 = .ok (.putfield 63, 3) := by decide +kernel
theorem dX10_conjugate_16 : decode cX10_conjugate 16 = .ok (.aload_n 0, 1) := by decide +kernel
theorem dX10_conjugate_17 : decode cX10_conjugate 17 = .ok (.getfield 63, 3) := by decide +kernel
theorem dX10_conjugate_20 : decode cX10_conjugate 20 = .ok (.ifCond .gt 14, 3) := by decide +kernel
theorem dX10_conjugate_23 : decode cX10_conjugate 23 = .ok (.aload_n 0, 1) := by decide +kernel
theorem dX10_conjugate_24 : decode cX10_conjugate 24 = .ok (.iload_n 1, 1) := by decide +kernel
theorem dX10_conjugate_25 : decode cX10_conjugate 25 = .ok (.iconst 0, 1) := by decide +kernel
theorem dX10_conjugate_26 : decode cX10_conjugate 26 = .ok (.invokevirtual 73, 3) := by decide +kernel
theorem dX10_conjugate_29 : decode cX10_conjugate 29 = .ok (.bipush 8, 2) := by decide +kernel
theorem dX10_conjugate_31 : decode cX10_conjugate 31 = .ok (.if_icmp .le 5, 3) := by decide +kernel
theorem dX10_conjugate_34 : decode cX10_conjugate 34 = .ok (.iconst 0, 1) := by decide +kernel
theorem dX10_conjugate_35 : decode cX10_conjugate 35 = .ok (.ireturn, 1) := by decide +kernel
theorem dX10_conjugate_36 : decode cX10_conjugate 36 = .ok (.iconst 0, 1) := by decide +kernel
theorem dX10_conjugate_37 : decode cX10_conjugate 37 = .ok (.istore_n 2, 1) := by decide +kernel
theorem dX10_conjugate_38 : decode cX10_conjugate 38 = .ok (.iload_n 2, 1) := by decide +kernel
theorem dX10_conjugate_39 : decode cX10_conjugate 39 = .ok (.bipush 8, 2) := by decide +kernel
theorem dX10_conjugate_41 : decode cX10_conjugate 41 = .ok (.if_icmp .ge 53, 3) := by decide +kernel
theorem dX10_conjugate_44 : decode cX10_conjugate 44 = .ok (.iconst 0, 1) := by decide +kernel
theorem dX10_conjugate_45 : decode cX10_conjugate 45 = .ok (.istore_n 3, 1) := by decide +kernel
theorem dX10_conjugate_46 : decode cX10_conjugate 46 = .ok (.iconst 0, 1) := by decide +kernel
theorem dX10_conjugate_47 : decode cX10_conjugate 47 = .ok (.istore 4, 2) := by decide +kernel
theorem dX10_conjugate_49 : decode cX10_conjugate 49 = .ok (.iload 4, 2) := by decide +kernel
theorem dX10_conjugate_51 : decode cX10_conjugate 51 = .ok (.bipush 8, 2) := by decide +kernel
theorem dX10_conjugate_53 : decode cX10_conjugate 53 = .ok (.if_icmp .ge 28, 3) := by decide +kernel
theorem dX10_conjugate_56 : decode cX10_conjugate 56 = .ok (.aload_n 0, 1) := by decide +kernel
theorem dX10_conjugate_57 : decode cX10_conjugate 57 = .ok (.iload_n 1, 1) := by decide +kernel
theorem dX10_conjugate_58 : decode cX10_conjugate 58 = .ok (.iload 4, 2) := by decide +kernel
theorem dX10_conjugate_60 : decode cX10_conjugate 60 = .ok (.invokevirtual 73, 3) := by decide +kernel
theorem dX10_conjugate_63 : decode cX10_conjugate 63 = .ok (.iload_n 2, 1) := by decide +kernel
theorem dX10_conjugate_64 : decode cX10_conjugate 64 = .ok (.if_icmp .le 9, 3) := by decide +kernel
theorem dX10_conjugate_67 : decode cX10_conjugate 67 = .ok (.iload_n 3, 1) := by decide +kernel
theorem dX10_conjugate_68 : decode cX10_conjugate 68 = .ok (.iconst 1, 1) := by decide +kernel
theorem dX10_conjugate_69 : decode cX10_conjugate 69 = .ok (.iadd, 1) := by decide +kernel
theorem dX10_conjugate_70 : decode cX10_conjugate 70 = .ok (.goto 4, 3) := by decide +kernel
theorem dX10_conjugate_73 : decode cX10_conjugate 73 = .ok (.iload_n 3, 1) := by decide +kernel
theorem dX10_conjugate_74 : decode cX10_conjugate 74 = .ok (.istore_n 3, 1) := by decide +kernel
theorem dX10_conjugate_75 : decode cX10_conjugate 75 = .ok (.iinc 4 1, 3) := by decide +kernel
theorem dX10_conjugate_78 : decode cX10_conjugate 78 = .ok (.goto (-29), 3) := by decide +kernel
theorem dX10_conjugate_81 : decode cX10_conjugate 81 = .ok (.aload_n 0, 1) := by decide +kernel
theorem dX10_conjugate_82 : decode cX10_conjugate 82 = .ok (.getfield 35, 3) := by decide +kernel
theorem dX10_conjugate_85 : decode cX10_conjugate 85 = .ok (.iload_n 2, 1) := by decide +kernel
theorem dX10_conjugate_86 : decode cX10_conjugate 86 = .ok (.iload_n 3, 1) := by decide +kernel
theorem dX10_conjugate_87 : decode cX10_conjugate 87 = .ok (.iastore, 1) := by decide +kernel
theorem dX10_conjugate_88 : decode cX10_conjugate 88 = .ok (.iinc 2 1, 3) := by decide +kernel
theorem dX10_conjugate_91 : decode cX10_conjugate 91 = .ok (.goto (-53), 3) := by decide +kernel
theorem dX10_conjugate_94 : decode cX10_conjugate 94 = .ok (.iconst 0, 1) := by decide +kernel
theorem dX10_conjugate_95 : decode cX10_conjugate 95 = .ok (.istore_n 2, 1) := by decide +kernel
theorem dX10_conjugate_96 : decode cX10_conjugate 96 = .ok (.iload_n 2, 1) := by decide +kernel
theorem dX10_conjugate_97 : decode cX10_conjugate 97 = .ok (.bipush 8, 2) := by decide +kernel
theorem dX10_conjugate_99 : decode cX10_conjugate 99 = .ok (.if_icmp .ge 26, 3) := by decide +kernel
theorem dX10_conjugate_102 : decode cX10_conjugate 102 = .ok (.aload_n 0, 1) := by decide +kernel
theorem dX10_conjugate_103 : decode cX10_conjugate 103 = .ok (.getfield 7, 3) := by decide +kernel
theorem dX10_conjugate_106 : decode cX10_conjugate 106 = .ok (.bipush 8, 2) := by decide +kernel
theorem dX10_conjugate_108 : decode cX10_conjugate 108 = .ok (.iload_n 1, 1) := by decide +kernel
theorem dX10_conjugate_109 : decode cX10_conjugate 109 = .ok (.imul, 1) := by decide +kernel
theorem dX10_conjugate_110 : decode cX10_conjugate 110 = .ok (.iload_n 2, 1) := by decide +kernel
theorem dX10_conjugate_111 : decode cX10_conjugate 111 = .ok (.iadd, 1) := by decide +kernel
theorem dX10_conjugate_112 : decode cX10_conjugate 112 = .ok (.aload_n 0, 1) := by decide +kernel
theorem dX10_conjugate_113 : decode cX10_conjugate 113 = .ok (.getfield 35, 3) := by decide +kernel
theorem dX10_conjugate_116 : decode cX10_conjugate 116 = .ok (.iload_n 2, 1) := by decide +kernel
theorem dX10_conjugate_117 : decode cX10_conjugate 117 = .ok (.iaload, 1) := by decide +kernel
theorem dX10_conjugate_118 : decode cX10_conjugate 118 = .ok (.iastore, 1) := by decide +kernel
theorem dX10_conjugate_119 : decode cX10_conjugate 119 = .ok (.iinc 2 1, 3) := by decide +kernel
theorem dX10_conjugate_122 : decode cX10_conjugate 122 = .ok (.goto (-26), 3) := by decide +kernel
theorem dX10_conjugate_125 : decode cX10_conjugate 125 = .ok (.iconst 1, 1) := by decide +kernel
theorem dX10_conjugate_126 : decode cX10_conjugate 126 = .ok (.ireturn, 1) := by decide +kernel
theorem dX10_rank_0 : decode cX10_rank 0 = .ok (.aload_n 0, 1) := by decide +kernel
theorem dX10_rank_1 : decode cX10_rank 1 = .ok (.iload_n 1, 1) := by decide +kernel
theorem dX10_rank_2 : decode cX10_rank 2 = .ok (.invokestatic 67, 3) := by decide +kernel
theorem dX10_rank_5 : decode cX10_rank 5 = .ok (.ifCond .eq 7, 3) := by decide +kernel
theorem dX10_rank_8 : decode cX10_rank 8 = .ok (.iconst 0, 1) := by decide +kernel
theorem dX10_rank_9 : decode cX10_rank 9 = .ok (.goto 4, 3) := by decide +kernel
theorem dX10_rank_12 : decode cX10_rank 12 = .ok (.iconst 1, 1) := by decide +kernel
theorem dX10_rank_13 : decode cX10_rank 13 = .ok (.putfield 63, 3) := by decide +kernel
theorem dX10_rank_16 : decode cX10_rank 16 = .ok (.aload_n 0, 1) := by decide +kernel
theorem dX10_rank_17 : decode cX10_rank 17 = .ok (.getfield 63, 3) := by decide +kernel
theorem dX10_rank_20 : decode cX10_rank 20 = .ok (.ifCond .le 5, 3) := by decide +kernel
theorem dX10_rank_23 : decode cX10_rank 23 = .ok (.iconst 0, 1) := by decide +kernel
theorem dX10_rank_24 : decode cX10_rank 24 = .ok (.ireturn, 1) := by decide +kernel
theorem dX10_rank_25 : decode cX10_rank 25 = .ok (.aload_n 0, 1) := by decide +kernel
theorem dX10_rank_26 : decode cX10_rank 26 = .ok (.iload_n 1, 1) := by decide +kernel
theorem dX10_rank_27 : decode cX10_rank 27 = .ok (.invokevirtual 77, 3) := by decide +kernel
theorem dX10_rank_30 : decode cX10_rank 30 = .ok (.istore_n 2, 1) := by decide +kernel
theorem dX10_rank_31 : decode cX10_rank 31 = .ok (.iload_n 2, 1) := by decide +kernel
theorem dX10_rank_32 : decode cX10_rank 32 = .ok (.istore_n 3, 1) := by decide +kernel
theorem dX10_rank_33 : decode cX10_rank 33 = .ok (.iconst 0, 1) := by decide +kernel
theorem dX10_rank_34 : decode cX10_rank 34 = .ok (.istore 4, 2) := by decide +kernel
theorem dX10_rank_36 : decode cX10_rank 36 = .ok (.iconst 0, 1) := by decide +kernel
theorem dX10_rank_37 : decode cX10_rank 37 = .ok (.istore 5, 2) := by decide +kernel
theorem dX10_rank_39 : decode cX10_rank 39 = .ok (.iload 5, 2) := by decide +kernel
theorem dX10_rank_41 : decode cX10_rank 41 = .ok (.bipush 8, 2) := by decide +kernel
theorem dX10_rank_43 : decode cX10_rank 43 = .ok (.if_icmp .ge 79, 3) := by decide +kernel
theorem dX10_rank_46 : decode cX10_rank 46 = .ok (.iload_n 2, 1) := by decide +kernel
theorem dX10_rank_47 : decode cX10_rank 47 = .ok (.ifCond .le 75, 3) := by decide +kernel
theorem dX10_rank_50 : decode cX10_rank 50 = .ok (.aload_n 0, 1) := by decide +kernel
theorem dX10_rank_51 : decode cX10_rank 51 = .ok (.iload_n 1, 1) := by decide +kernel
theorem dX10_rank_52 : decode cX10_rank 52 = .ok (.iload 5, 2) := by decide +kernel
theorem dX10_rank_54 : decode cX10_rank 54 = .ok (.invokevirtual 73, 3) := by decide +kernel
theorem dX10_rank_57 : decode cX10_rank 57 = .ok (.istore 6, 2) := by decide +kernel
theorem dX10_rank_59 : decode cX10_rank 59 = .ok (.iload_n 3, 1) := by decide +kernel
theorem dX10_rank_60 : decode cX10_rank 60 = .ok (.iload_n 2, 1) := by decide +kernel
theorem dX10_rank_61 : decode cX10_rank 61 = .ok (.if_icmp .ge 7, 3) := by decide +kernel
theorem dX10_rank_64 : decode cX10_rank 64 = .ok (.iload_n 3, 1) := by decide +kernel
theorem dX10_rank_65 : decode cX10_rank 65 = .ok (.goto 4, 3) := by decide +kernel
theorem dX10_rank_68 : decode cX10_rank 68 = .ok (.iload_n 2, 1) := by decide +kernel
theorem dX10_rank_69 : decode cX10_rank 69 = .ok (.istore 7, 2) := by decide +kernel
theorem dX10_rank_71 : decode cX10_rank 71 = .ok (.iload 7, 2) := by decide +kernel
theorem dX10_rank_73 : decode cX10_rank 73 = .ok (.istore 8, 2) := by decide +kernel
theorem dX10_rank_75 : decode cX10_rank 75 = .ok (.iload 8, 2) := by decide +kernel
theorem dX10_rank_77 : decode cX10_rank 77 = .ok (.iload 6, 2) := by decide +kernel
theorem dX10_rank_79 : decode cX10_rank 79 = .ok (.if_icmp .le 29, 3) := by decide +kernel
theorem dX10_rank_82 : decode cX10_rank 82 = .ok (.iload 4, 2) := by decide +kernel
theorem dX10_rank_84 : decode cX10_rank 84 = .ok (.aload_n 0, 1) := by decide +kernel
theorem dX10_rank_85 : decode cX10_rank 85 = .ok (.getfield 32, 3) := by decide +kernel
theorem dX10_rank_88 : decode cX10_rank 88 = .ok (.bipush 25, 2) := by decide +kernel
theorem dX10_rank_90 : decode cX10_rank 90 = .ok (.iload_n 2, 1) := by decide +kernel
theorem dX10_rank_91 : decode cX10_rank 91 = .ok (.iload 8, 2) := by decide +kernel
theorem dX10_rank_93 : decode cX10_rank 93 = .ok (.isub, 1) := by decide +kernel
theorem dX10_rank_94 : decode cX10_rank 94 = .ok (.imul, 1) := by decide +kernel
theorem dX10_rank_95 : decode cX10_rank 95 = .ok (.iload 8, 2) := by decide +kernel
theorem dX10_rank_97 : decode cX10_rank 97 = .ok (.iadd, 1) := by decide +kernel
theorem dX10_rank_98 : decode cX10_rank 98 = .ok (.iaload, 1) := by decide +kernel
theorem dX10_rank_99 : decode cX10_rank 99 = .ok (.iadd, 1) := by decide +kernel
theorem dX10_rank_100 : decode cX10_rank 100 = .ok (.istore 4, 2) := by decide +kernel
theorem dX10_rank_102 : decode cX10_rank 102 = .ok (.iinc 8 (-1), 3) := by decide +kernel
theorem dX10_rank_105 : decode cX10_rank 105 = .ok (.goto (-30), 3) := by decide +kernel
theorem dX10_rank_108 : decode cX10_rank 108 = .ok (.iload_n 2, 1) := by decide +kernel
theorem dX10_rank_109 : decode cX10_rank 109 = .ok (.iload 6, 2) := by decide +kernel
theorem dX10_rank_111 : decode cX10_rank 111 = .ok (.isub, 1) := by decide +kernel
theorem dX10_rank_112 : decode cX10_rank 112 = .ok (.istore_n 2, 1) := by decide +kernel
theorem dX10_rank_113 : decode cX10_rank 113 = .ok (.iload 6, 2) := by decide +kernel
theorem dX10_rank_115 : decode cX10_rank 115 = .ok (.istore_n 3, 1) := by decide +kernel
theorem dX10_rank_116 : decode cX10_rank 116 = .ok (.iinc 5 1, 3) := by decide +kernel
theorem dX10_rank_119 : decode cX10_rank 119 = .ok (.goto (-80), 3) := by decide +kernel
theorem dX10_rank_122 : decode cX10_rank 122 = .ok (.iload 4, 2) := by decide +kernel
theorem dX10_rank_124 : decode cX10_rank 124 = .ok (.ireturn, 1) := by decide +kernel
theorem dX10_unrank_0 : decode cX10_unrank 0 = .ok (.aload_n 0, 1) := by decide +kernel
theorem dX10_unrank_1 : decode cX10_unrank 1 = .ok (.iload_n 1, 1) := by decide +kernel
theorem dX10_unrank_2 : decode cX10_unrank 2 = .ok (.invokestatic 67, 3) := by decide +kernel
theorem dX10_unrank_5 : decode cX10_unrank 5 = .ok (.ifCond .ne 7, 3) := by decide +kernel
theorem dX10_unrank_8 : decode cX10_unrank 8 = .ok (.iconst 1, 1) := by decide +kernel
theorem dX10_unrank_9 : decode cX10_unrank 9 = .ok (.goto 41, 3) := by decide +kernel
theorem dX10_unrank_12 : decode cX10_unrank 12 = .ok (.iload_n 2, 1) := by decide +kernel
theorem dX10_unrank_13 : decode cX10_unrank 13 = .ok (.ifCond .lt 9, 3) := by decide +kernel
theorem dX10_unrank_16 : decode cX10_unrank 16 = .ok (.iload_n 2, 1) := by decide +kernel
theorem dX10_unrank_17 : decode cX10_unrank 17 = .ok (.bipush 24, 2) := by decide +kernel
theorem dX10_unrank_19 : decode cX10_unrank 19 = .ok (.if_icmp .le 7, 3) := by decide +kernel
theorem dX10_unrank_22 : decode cX10_unrank 22 = .ok (.iconst 2, 1) := by decide +kernel
theorem dX10_unrank_23 : decode cX10_unrank 23 = .ok (.goto 27, 3) := by decide +kernel
theorem dX10_unrank_26 : decode cX10_unrank 26 = .ok (.iload_n 3, 1) := by decide +kernel
theorem dX10_unrank_27 : decode cX10_unrank 27 = .ok (.ifCond .lt 18, 3) := by decide +kernel
theorem dX10_unrank_30 : decode cX10_unrank 30 = .ok (.iload_n 3, 1) := by decide +kernel
theorem dX10_unrank_31 : decode cX10_unrank 31 = .ok (.aload_n 0, 1) := by decide +kernel
theorem dX10_unrank_32 : decode cX10_unrank 32 = .ok (.getfield 32, 3) := by decide +kernel
theorem dX10_unrank_35 : decode cX10_unrank 35 = .ok (.bipush 25, 2) := by decide +kernel
theorem dX10_unrank_37 : decode cX10_unrank 37 = .ok (.iload_n 2, 1) := by decide +kernel
theorem dX10_unrank_38 : decode cX10_unrank 38 = .ok (.imul, 1) := by decide +kernel
theorem dX10_unrank_39 : decode cX10_unrank 39 = .ok (.iload_n 2, 1) := by decide +kernel
theorem dX10_unrank_40 : decode cX10_unrank 40 = .ok (.iadd, 1) := by decide +kernel
theorem dX10_unrank_41 : decode cX10_unrank 41 = .ok (.iaload, 1) := by decide +kernel
theorem dX10_unrank_42 : decode cX10_unrank 42 = .ok (.if_icmp .lt 7, 3) := by decide +kernel
theorem dX10_unrank_45 : decode cX10_unrank 45 = .ok (.iconst 3, 1) := by decide +kernel
theorem dX10_unrank_46 : decode cX10_unrank 46 = .ok (.goto 4, 3) := by decide +kernel
theorem dX10_unrank_49 : decode cX10_unrank 49 = .ok (.iconst 0, 1) := by decide +kernel
theorem dX10_unrank_50 : decode cX10_unrank 50 = .ok (.putfield 63, 3) := by decide +kernel
theorem dX10_unrank_53 : decode cX10_unrank 53 = .ok (.aload_n 0, 1) := by decide +kernel
theorem dX10_unrank_54 : decode cX10_unrank 54 = .ok (.getfield 63, 3) := by decide +kernel
theorem dX10_unrank_57 : decode cX10_unrank 57 = .ok (.ifCond .le 4, 3) := by decide +kernel
theorem dX10_unrank_60 : decode cX10_unrank 60 = .ok (.return_, 1) := by decide +kernel
theorem dX10_unrank_61 : decode cX10_unrank 61 = .ok (.iload_n 2, 1) := by decide +kernel
theorem dX10_unrank_62 : decode cX10_unrank 62 = .ok (.istore 4, 2) := by decide +kernel
theorem dX10_unrank_64 : decode cX10_unrank 64 = .ok (.iload_n 2, 1) := by decide +kernel
theorem dX10_unrank_65 : decode cX10_unrank 65 = .ok (.istore 5, 2) := by decide +kernel
theorem dX10_unrank_67 : decode cX10_unrank 67 = .ok (.iconst 0, 1) := by decide +kernel
theorem dX10_unrank_68 : decode cX10_unrank 68 = .ok (.istore 6, 2) := by decide +kernel
theorem dX10_unrank_70 : decode cX10_unrank 70 = .ok (.iload_n 3, 1) := by decide +kernel
theorem dX10_unrank_71 : decode cX10_unrank 71 = .ok (.istore 7, 2) := by decide +kernel
theorem dX10_unrank_73 : decode cX10_unrank 73 = .ok (.iconst 0, 1) := by decide +kernel
theorem dX10_unrank_74 : decode cX10_unrank 74 = .ok (.istore 8, 2) := by decide +kernel
theorem dX10_unrank_76 : decode cX10_unrank 76 = .ok (.iload 8, 2) := by decide +kernel
theorem dX10_unrank_78 : decode cX10_unrank 78 = .ok (.bipush 9, 2) := by decide +kernel
theorem dX10_unrank_80 : decode cX10_unrank 80 = .ok (.if_icmp .ge 17, 3) := by decide +kernel
theorem dX10_unrank_83 : decode cX10_unrank 83 = .ok (.aload_n 0, 1) := by decide +kernel
theorem dX10_unrank_84 : decode cX10_unrank 84 = .ok (.getfield 35, 3) := by decide +kernel
theorem dX10_unrank_87 : decode cX10_unrank 87 = .ok (.iload 8, 2) := by decide +kernel
theorem dX10_unrank_89 : decode cX10_unrank 89 = .ok (.iconst 0, 1) := by decide +kernel
theorem dX10_unrank_90 : decode cX10_unrank 90 = .ok (.iastore, 1) := by decide +kernel
theorem dX10_unrank_91 : decode cX10_unrank 91 = .ok (.iinc 8 1, 3) := by decide +kernel
theorem dX10_unrank_94 : decode cX10_unrank 94 = .ok (.goto (-18), 3) := by decide +kernel
theorem dX10_unrank_97 : decode cX10_unrank 97 = .ok (.iload 4, 2) := by decide +kernel
theorem dX10_unrank_99 : decode cX10_unrank 99 = .ok (.ifCond .le 100, 3) := by decide +kernel
theorem dX10_unrank_102 : decode cX10_unrank 102 = .ok (.iload 6, 2) := by decide +kernel
theorem dX10_unrank_104 : decode cX10_unrank 104 = .ok (.bipush 9, 2) := by decide +kernel
theorem dX10_unrank_106 : decode cX10_unrank 106 = .ok (.if_icmp .ge 93, 3) := by decide +kernel
theorem dX10_unrank_109 : decode cX10_unrank 109 = .ok (.iload 5, 2) := by decide +kernel
theorem dX10_unrank_111 : decode cX10_unrank 111 = .ok (.iload 4, 2) := by decide +kernel
theorem dX10_unrank_113 : decode cX10_unrank 113 = .ok (.if_icmp .ge 8, 3) := by decide +kernel
theorem dX10_unrank_116 : decode cX10_unrank 116 = .ok (.iload 5, 2) := by decide +kernel
theorem dX10_unrank_118 : decode cX10_unrank 118 = .ok (.goto 5, 3) := by decide +kernel
theorem dX10_unrank_121 : decode cX10_unrank 121 = .ok (.iload 4, 2) := by decide +kernel
theorem dX10_unrank_123 : decode cX10_unrank 123 = .ok (.istore 8, 2) := by decide +kernel
theorem dX10_unrank_125 : decode cX10_unrank 125 = .ok (.iload 7, 2) := by decide +kernel
theorem dX10_unrank_127 : decode cX10_unrank 127 = .ok (.aload_n 0, 1) := by decide +kernel
theorem dX10_unrank_128 : decode cX10_unrank 128 = .ok (.getfield 32, 3) := by decide +kernel
theorem dX10_unrank_131 : decode cX10_unrank 131 = .ok (.bipush 25, 2) := by decide +kernel
theorem dX10_unrank_133 : decode cX10_unrank 133 = .ok (.iload 4, 2) := by decide +kernel
theorem dX10_unrank_135 : decode cX10_unrank 135 = .ok (.iload 8, 2) := by decide +kernel
theorem dX10_unrank_137 : decode cX10_unrank 137 = .ok (.isub, 1) := by decide +kernel
theorem dX10_unrank_138 : decode cX10_unrank 138 = .ok (.imul, 1) := by decide +kernel
theorem dX10_unrank_139 : decode cX10_unrank 139 = .ok (.iload 8, 2) := by decide +kernel
theorem dX10_unrank_141 : decode cX10_unrank 141 = .ok (.iadd, 1) := by decide +kernel
theorem dX10_unrank_142 : decode cX10_unrank 142 = .ok (.iaload, 1) := by decide +kernel
theorem dX10_unrank_143 : decode cX10_unrank 143 = .ok (.if_icmp .lt 30, 3) := by decide +kernel
theorem dX10_unrank_146 : decode cX10_unrank 146 = .ok (.iload 7, 2) := by decide +kernel
theorem dX10_unrank_148 : decode cX10_unrank 148 = .ok (.aload_n 0, 1) := by decide +kernel
theorem dX10_unrank_149 : decode cX10_unrank 149 = .ok (.getfield 32, 3) := by decide +kernel
theorem dX10_unrank_152 : decode cX10_unrank 152 = .ok (.bipush 25, 2) := by decide +kernel
theorem dX10_unrank_154 : decode cX10_unrank 154 = .ok (.iload 4, 2) := by decide +kernel
theorem dX10_unrank_156 : decode cX10_unrank 156 = .ok (.iload 8, 2) := by decide +kernel
theorem dX10_unrank_158 : decode cX10_unrank 158 = .ok (.isub, 1) := by decide +kernel
theorem dX10_unrank_159 : decode cX10_unrank 159 = .ok (.imul, 1) := by decide +kernel
theorem dX10_unrank_160 : decode cX10_unrank 160 = .ok (.iload 8, 2) := by decide +kernel
theorem dX10_unrank_162 : decode cX10_unrank 162 = .ok (.iadd, 1) := by decide +kernel
theorem dX10_unrank_163 : decode cX10_unrank 163 = .ok (.iaload, 1) := by decide +kernel
theorem dX10_unrank_164 : decode cX10_unrank 164 = .ok (.isub, 1) := by decide +kernel
theorem dX10_unrank_165 : decode cX10_unrank 165 = .ok (.istore 7, 2) := by decide +kernel
theorem dX10_unrank_167 : decode cX10_unrank 167 = .ok (.iinc 8 (-1), 3) := by decide +kernel
theorem dX10_unrank_170 : decode cX10_unrank 170 = .ok (.goto (-45), 3) := by decide +kernel
theorem dX10_unrank_173 : decode cX10_unrank 173 = .ok (.aload_n 0, 1) := by decide +kernel
theorem dX10_unrank_174 : decode cX10_unrank 174 = .ok (.getfield 35, 3) := by decide +kernel
theorem dX10_unrank_177 : decode cX10_unrank 177 = .ok (.iload 6, 2) := by decide +kernel
theorem dX10_unrank_179 : decode cX10_unrank 179 = .ok (.iload 8, 2) := by decide +kernel
theorem dX10_unrank_181 : decode cX10_unrank 181 = .ok (.iastore, 1) := by decide +kernel
theorem dX10_unrank_182 : decode cX10_unrank 182 = .ok (.iinc 6 1, 3) := by decide +kernel
theorem dX10_unrank_185 : decode cX10_unrank 185 = .ok (.iload 4, 2) := by decide +kernel
theorem dX10_unrank_187 : decode cX10_unrank 187 = .ok (.iload 8, 2) := by decide +kernel
theorem dX10_unrank_189 : decode cX10_unrank 189 = .ok (.isub, 1) := by decide +kernel
theorem dX10_unrank_190 : decode cX10_unrank 190 = .ok (.istore 4, 2) := by decide +kernel
theorem dX10_unrank_192 : decode cX10_unrank 192 = .ok (.iload 8, 2) := by decide +kernel
theorem dX10_unrank_194 : decode cX10_unrank 194 = .ok (.istore 5, 2) := by decide +kernel
theorem dX10_unrank_196 : decode cX10_unrank 196 = .ok (.goto (-99), 3) := by decide +kernel
theorem dX10_unrank_199 : decode cX10_unrank 199 = .ok (.aload_n 0, 1) := by decide +kernel
theorem dX10_unrank_200 : decode cX10_unrank 200 = .ok (.getfield 35, 3) := by decide +kernel
theorem dX10_unrank_203 : decode cX10_unrank 203 = .ok (.bipush 8, 2) := by decide +kernel
theorem dX10_unrank_205 : decode cX10_unrank 205 = .ok (.iaload, 1) := by decide +kernel
theorem dX10_unrank_206 : decode cX10_unrank 206 = .ok (.ifCond .le 9, 3) := by decide +kernel
theorem dX10_unrank_209 : decode cX10_unrank 209 = .ok (.aload_n 0, 1) := by decide +kernel
theorem dX10_unrank_210 : decode cX10_unrank 210 = .ok (.iconst 4, 1) := by decide +kernel
theorem dX10_unrank_211 : decode cX10_unrank 211 = .ok (.putfield 63, 3) := by decide +kernel
theorem dX10_unrank_214 : decode cX10_unrank 214 = .ok (.return_, 1) := by decide +kernel
theorem dX10_unrank_215 : decode cX10_unrank 215 = .ok (.iconst 0, 1) := by decide +kernel
theorem dX10_unrank_216 : decode cX10_unrank 216 = .ok (.istore 8, 2) := by decide +kernel
theorem dX10_unrank_218 : decode cX10_unrank 218 = .ok (.iload 8, 2) := by decide +kernel
theorem dX10_unrank_220 : decode cX10_unrank 220 = .ok (.bipush 8, 2) := by decide +kernel
theorem dX10_unrank_222 : decode cX10_unrank 222 = .ok (.if_icmp .ge 28, 3) := by decide +kernel
theorem dX10_unrank_225 : decode cX10_unrank 225 = .ok (.aload_n 0, 1) := by decide +kernel
theorem dX10_unrank_226 : decode cX10_unrank 226 = .ok (.getfield 7, 3) := by decide +kernel
theorem dX10_unrank_229 : decode cX10_unrank 229 = .ok (.bipush 8, 2) := by decide +kernel
theorem dX10_unrank_231 : decode cX10_unrank 231 = .ok (.iload_n 1, 1) := by decide +kernel
theorem dX10_unrank_232 : decode cX10_unrank 232 = .ok (.imul, 1) := by decide +kernel
theorem dX10_unrank_233 : decode cX10_unrank 233 = .ok (.iload 8, 2) := by decide +kernel
theorem dX10_unrank_235 : decode cX10_unrank 235 = .ok (.iadd, 1) := by decide +kernel
theorem dX10_unrank_236 : decode cX10_unrank 236 = .ok (.aload_n 0, 1) := by decide +kernel
theorem dX10_unrank_237 : decode cX10_unrank 237 = .ok (.getfield 35, 3) := by decide +kernel
theorem dX10_unrank_240 : decode cX10_unrank 240 = .ok (.iload 8, 2) := by decide +kernel
theorem dX10_unrank_242 : decode cX10_unrank 242 = .ok (.iaload, 1) := by decide +kernel
theorem dX10_unrank_243 : decode cX10_unrank 243 = .ok (.iastore, 1) := by decide +kernel
theorem dX10_unrank_244 : decode cX10_unrank 244 = .ok (.iinc 8 1, 3) := by decide +kernel
theorem dX10_unrank_247 : decode cX10_unrank 247 = .ok (.goto (-29), 3) := by decide +kernel
theorem dX10_unrank_250 : decode cX10_unrank 250 = .ok (.return_, 1) := by decide +kernel
theorem dX10_letter_0 : decode cX10_letter 0 = .ok (.aload_n 0, 1) := by decide +kernel
theorem dX10_letter_1 : decode cX10_letter 1 = .ok (.iload_n 1, 1) := by decide +kernel
theorem dX10_letter_2 : decode cX10_letter 2 = .ok (.invokestatic 81, 3) := by decide +kernel
theorem dX10_letter_5 : decode cX10_letter 5 = .ok (.ifCond .eq 7, 3) := by decide +kernel
theorem dX10_letter_8 : decode cX10_letter 8 = .ok (.iconst 0, 1) := by decide +kernel
theorem dX10_letter_9 : decode cX10_letter 9 = .ok (.goto 4, 3) := by decide +kernel
theorem dX10_letter_12 : decode cX10_letter 12 = .ok (.iconst 1, 1) := by decide +kernel
theorem dX10_letter_13 : decode cX10_letter 13 = .ok (.putfield 63, 3) := by decide +kernel
theorem dX10_letter_16 : decode cX10_letter 16 = .ok (.aload_n 0, 1) := by decide +kernel
theorem dX10_letter_17 : decode cX10_letter 17 = .ok (.getfield 63, 3) := by decide +kernel
theorem dX10_letter_20 : decode cX10_letter 20 = .ok (.ifCond .gt 25, 3) := by decide +kernel
theorem dX10_letter_23 : decode cX10_letter 23 = .ok (.iload_n 2, 1) := by decide +kernel
theorem dX10_letter_24 : decode cX10_letter 24 = .ok (.iconst 1, 1) := by decide +kernel
theorem dX10_letter_25 : decode cX10_letter 25 = .ok (.if_icmp .lt 20, 3) := by decide +kernel
theorem dX10_letter_28 : decode cX10_letter 28 = .ok (.iload_n 2, 1) := by decide +kernel
theorem dX10_letter_29 : decode cX10_letter 29 = .ok (.bipush 16, 2) := by decide +kernel
theorem dX10_letter_31 : decode cX10_letter 31 = .ok (.if_icmp .gt 14, 3) := by decide +kernel
theorem dX10_letter_34 : decode cX10_letter 34 = .ok (.aload_n 0, 1) := by decide +kernel
theorem dX10_letter_35 : decode cX10_letter 35 = .ok (.getfield 16, 3) := by decide +kernel
theorem dX10_letter_38 : decode cX10_letter 38 = .ok (.iload_n 1, 1) := by decide +kernel
theorem dX10_letter_39 : decode cX10_letter 39 = .ok (.iaload, 1) := by decide +kernel
theorem dX10_letter_40 : decode cX10_letter 40 = .ok (.bipush 16, 2) := by decide +kernel
theorem dX10_letter_42 : decode cX10_letter 42 = .ok (.if_icmp .ne 5, 3) := by decide +kernel
theorem dX10_letter_45 : decode cX10_letter 45 = .ok (.iconst 0, 1) := by decide +kernel
theorem dX10_letter_46 : decode cX10_letter 46 = .ok (.ireturn, 1) := by decide +kernel
theorem dX10_letter_47 : decode cX10_letter 47 = .ok (.aload_n 0, 1) := by decide +kernel
theorem dX10_letter_48 : decode cX10_letter 48 = .ok (.getfield 13, 3) := by decide +kernel
theorem dX10_letter_51 : decode cX10_letter 51 = .ok (.bipush 16, 2) := by decide +kernel
theorem dX10_letter_53 : decode cX10_letter 53 = .ok (.iload_n 1, 1) := by decide +kernel
theorem dX10_letter_54 : decode cX10_letter 54 = .ok (.imul, 1) := by decide +kernel
theorem dX10_letter_55 : decode cX10_letter 55 = .ok (.aload_n 0, 1) := by decide +kernel
theorem dX10_letter_56 : decode cX10_letter 56 = .ok (.getfield 16, 3) := by decide +kernel
theorem dX10_letter_59 : decode cX10_letter 59 = .ok (.iload_n 1, 1) := by decide +kernel
theorem dX10_letter_60 : decode cX10_letter 60 = .ok (.iaload, 1) := by decide +kernel
theorem dX10_letter_61 : decode cX10_letter 61 = .ok (.iadd, 1) := by decide +kernel
theorem dX10_letter_62 : decode cX10_letter 62 = .ok (.iload_n 2, 1) := by decide +kernel
theorem dX10_letter_63 : decode cX10_letter 63 = .ok (.iastore, 1) := by decide +kernel
theorem dX10_letter_64 : decode cX10_letter 64 = .ok (.aload_n 0, 1) := by decide +kernel
theorem dX10_letter_65 : decode cX10_letter 65 = .ok (.getfield 16, 3) := by decide +kernel
theorem dX10_letter_68 : decode cX10_letter 68 = .ok (.iload_n 1, 1) := by decide +kernel
theorem dX10_letter_69 : decode cX10_letter 69 = .ok (.dup2, 1) := by decide +kernel
theorem dX10_letter_70 : decode cX10_letter 70 = .ok (.iaload, 1) := by decide +kernel
theorem dX10_letter_71 : decode cX10_letter 71 = .ok (.iconst 1, 1) := by decide +kernel
theorem dX10_letter_72 : decode cX10_letter 72 = .ok (.iadd, 1) := by decide +kernel
theorem dX10_letter_73 : decode cX10_letter 73 = .ok (.iastore, 1) := by decide +kernel
theorem dX10_letter_74 : decode cX10_letter 74 = .ok (.iconst 1, 1) := by decide +kernel
theorem dX10_letter_75 : decode cX10_letter 75 = .ok (.ireturn, 1) := by decide +kernel
theorem dX10_cut_0 : decode cX10_cut 0 = .ok (.aload_n 0, 1) := by decide +kernel
theorem dX10_cut_1 : decode cX10_cut 1 = .ok (.iload_n 1, 1) := by decide +kernel
theorem dX10_cut_2 : decode cX10_cut 2 = .ok (.invokestatic 81, 3) := by decide +kernel
theorem dX10_cut_5 : decode cX10_cut 5 = .ok (.ifCond .eq 7, 3) := by decide +kernel
theorem dX10_cut_8 : decode cX10_cut 8 = .ok (.iconst 0, 1) := by decide +kernel
theorem dX10_cut_9 : decode cX10_cut 9 = .ok (.goto 4, 3) := by decide +kernel
theorem dX10_cut_12 : decode cX10_cut 12 = .ok (.iconst 1, 1) := by decide +kernel
theorem dX10_cut_13 : decode cX10_cut 13 = .ok (.putfield 63, 3) := by decide +kernel
theorem dX10_cut_16 : decode cX10_cut 16 = .ok (.aload_n 0, 1) := by decide +kernel
theorem dX10_cut_17 : decode cX10_cut 17 = .ok (.getfield 63, 3) := by decide +kernel
theorem dX10_cut_20 : decode cX10_cut 20 = .ok (.ifCond .gt 17, 3) := by decide +kernel
theorem dX10_cut_23 : decode cX10_cut 23 = .ok (.iload_n 2, 1) := by decide +kernel
theorem dX10_cut_24 : decode cX10_cut 24 = .ok (.ifCond .lt 13, 3) := by decide +kernel
theorem dX10_cut_27 : decode cX10_cut 27 = .ok (.iload_n 2, 1) := by decide +kernel
theorem dX10_cut_28 : decode cX10_cut 28 = .ok (.aload_n 0, 1) := by decide +kernel
theorem dX10_cut_29 : decode cX10_cut 29 = .ok (.getfield 16, 3) := by decide +kernel
theorem dX10_cut_32 : decode cX10_cut 32 = .ok (.iload_n 1, 1) := by decide +kernel
theorem dX10_cut_33 : decode cX10_cut 33 = .ok (.iaload, 1) := by decide +kernel
theorem dX10_cut_34 : decode cX10_cut 34 = .ok (.if_icmp .le 5, 3) := by decide +kernel
theorem dX10_cut_37 : decode cX10_cut 37 = .ok (.iconst 0, 1) := by decide +kernel
theorem dX10_cut_38 : decode cX10_cut 38 = .ok (.ireturn, 1) := by decide +kernel
theorem dX10_cut_39 : decode cX10_cut 39 = .ok (.aload_n 0, 1) := by decide +kernel
theorem dX10_cut_40 : decode cX10_cut 40 = .ok (.getfield 16, 3) := by decide +kernel
theorem dX10_cut_43 : decode cX10_cut 43 = .ok (.iload_n 1, 1) := by decide +kernel
theorem dX10_cut_44 : decode cX10_cut 44 = .ok (.iload_n 2, 1) := by decide +kernel
theorem dX10_cut_45 : decode cX10_cut 45 = .ok (.iastore, 1) := by decide +kernel
theorem dX10_cut_46 : decode cX10_cut 46 = .ok (.iconst 1, 1) := by decide +kernel
theorem dX10_cut_47 : decode cX10_cut 47 = .ok (.ireturn, 1) := by decide +kernel
theorem dX10_length_0 : decode cX10_length 0 = .ok (.aload_n 0, 1) := by decide +kernel
theorem dX10_length_1 : decode cX10_length 1 = .ok (.iload_n 1, 1) := by decide +kernel
theorem dX10_length_2 : decode cX10_length 2 = .ok (.invokestatic 81, 3) := by decide +kernel
theorem dX10_length_5 : decode cX10_length 5 = .ok (.ifCond .eq 7, 3) := by decide +kernel
theorem dX10_length_8 : decode cX10_length 8 = .ok (.iconst 0, 1) := by decide +kernel
theorem dX10_length_9 : decode cX10_length 9 = .ok (.goto 4, 3) := by decide +kernel
theorem dX10_length_12 : decode cX10_length 12 = .ok (.iconst 1, 1) := by decide +kernel
theorem dX10_length_13 : decode cX10_length 13 = .ok (.putfield 63, 3) := by decide +kernel
theorem dX10_length_16 : decode cX10_length 16 = .ok (.aload_n 0, 1) := by decide +kernel
theorem dX10_length_17 : decode cX10_length 17 = .ok (.getfield 63, 3) := by decide +kernel
theorem dX10_length_20 : decode cX10_length 20 = .ok (.ifCond .le 7, 3) := by decide +kernel
theorem dX10_length_23 : decode cX10_length 23 = .ok (.iconst 0, 1) := by decide +kernel
theorem dX10_length_24 : decode cX10_length 24 = .ok (.goto 9, 3) := by decide +kernel
theorem dX10_length_27 : decode cX10_length 27 = .ok (.aload_n 0, 1) := by decide +kernel
theorem dX10_length_28 : decode cX10_length 28 = .ok (.getfield 16, 3) := by decide +kernel
theorem dX10_length_31 : decode cX10_length 31 = .ok (.iload_n 1, 1) := by decide +kernel
theorem dX10_length_32 : decode cX10_length 32 = .ok (.iaload, 1) := by decide +kernel
theorem dX10_length_33 : decode cX10_length 33 = .ok (.ireturn, 1) := by decide +kernel
theorem dX10_at_0 : decode cX10_at 0 = .ok (.aload_n 0, 1) := by decide +kernel
theorem dX10_at_1 : decode cX10_at 1 = .ok (.iload_n 1, 1) := by decide +kernel
theorem dX10_at_2 : decode cX10_at 2 = .ok (.invokestatic 81, 3) := by decide +kernel
theorem dX10_at_5 : decode cX10_at 5 = .ok (.ifCond .eq 7, 3) := by decide +kernel
theorem dX10_at_8 : decode cX10_at 8 = .ok (.iconst 0, 1) := by decide +kernel
theorem dX10_at_9 : decode cX10_at 9 = .ok (.goto 4, 3) := by decide +kernel
theorem dX10_at_12 : decode cX10_at 12 = .ok (.iconst 1, 1) := by decide +kernel
theorem dX10_at_13 : decode cX10_at 13 = .ok (.putfield 63, 3) := by decide +kernel
theorem dX10_at_16 : decode cX10_at 16 = .ok (.aload_n 0, 1) := by decide +kernel
theorem dX10_at_17 : decode cX10_at 17 = .ok (.getfield 63, 3) := by decide +kernel
theorem dX10_at_20 : decode cX10_at 20 = .ok (.ifCond .gt 17, 3) := by decide +kernel
theorem dX10_at_23 : decode cX10_at 23 = .ok (.iload_n 2, 1) := by decide +kernel
theorem dX10_at_24 : decode cX10_at 24 = .ok (.ifCond .lt 13, 3) := by decide +kernel
theorem dX10_at_27 : decode cX10_at 27 = .ok (.iload_n 2, 1) := by decide +kernel
theorem dX10_at_28 : decode cX10_at 28 = .ok (.aload_n 0, 1) := by decide +kernel
theorem dX10_at_29 : decode cX10_at 29 = .ok (.getfield 16, 3) := by decide +kernel
theorem dX10_at_32 : decode cX10_at 32 = .ok (.iload_n 1, 1) := by decide +kernel
theorem dX10_at_33 : decode cX10_at 33 = .ok (.iaload, 1) := by decide +kernel
theorem dX10_at_34 : decode cX10_at 34 = .ok (.if_icmp .lt 7, 3) := by decide +kernel
theorem dX10_at_37 : decode cX10_at 37 = .ok (.iconst 0, 1) := by decide +kernel
theorem dX10_at_38 : decode cX10_at 38 = .ok (.goto 14, 3) := by decide +kernel
theorem dX10_at_41 : decode cX10_at 41 = .ok (.aload_n 0, 1) := by decide +kernel
theorem dX10_at_42 : decode cX10_at 42 = .ok (.getfield 13, 3) := by decide +kernel
theorem dX10_at_45 : decode cX10_at 45 = .ok (.bipush 16, 2) := by decide +kernel
theorem dX10_at_47 : decode cX10_at 47 = .ok (.iload_n 1, 1) := by decide +kernel
theorem dX10_at_48 : decode cX10_at 48 = .ok (.imul, 1) := by decide +kernel
theorem dX10_at_49 : decode cX10_at 49 = .ok (.iload_n 2, 1) := by decide +kernel
theorem dX10_at_50 : decode cX10_at 50 = .ok (.iadd, 1) := by decide +kernel
theorem dX10_at_51 : decode cX10_at 51 = .ok (.iaload, 1) := by decide +kernel
theorem dX10_at_52 : decode cX10_at 52 = .ok (.ireturn, 1) := by decide +kernel
theorem dX10_box_0 : decode cX10_box 0 = .ok (.sipush 576, 3) := by decide +kernel
theorem dX10_box_3 : decode cX10_box 3 = .ok (.iload_n 0, 1) := by decide +kernel
theorem dX10_box_4 : decode cX10_box 4 = .ok (.imul, 1) := by decide +kernel
theorem dX10_box_5 : decode cX10_box 5 = .ok (.bipush 24, 2) := by decide +kernel
theorem dX10_box_7 : decode cX10_box 7 = .ok (.iload_n 1, 1) := by decide +kernel
theorem dX10_box_8 : decode cX10_box 8 = .ok (.imul, 1) := by decide +kernel
theorem dX10_box_9 : decode cX10_box 9 = .ok (.iadd, 1) := by decide +kernel
theorem dX10_box_10 : decode cX10_box 10 = .ok (.iload_n 2, 1) := by decide +kernel
theorem dX10_box_11 : decode cX10_box 11 = .ok (.iadd, 1) := by decide +kernel
theorem dX10_box_12 : decode cX10_box 12 = .ok (.ireturn, 1) := by decide +kernel
theorem dX10_clear_0 : decode cX10_clear 0 = .ok (.iconst 0, 1) := by decide +kernel
theorem dX10_clear_1 : decode cX10_clear 1 = .ok (.istore_n 2, 1) := by decide +kernel
theorem dX10_clear_2 : decode cX10_clear 2 = .ok (.iload_n 2, 1) := by decide +kernel
theorem dX10_clear_3 : decode cX10_clear 3 = .ok (.bipush 24, 2) := by decide +kernel
theorem dX10_clear_5 : decode cX10_clear 5 = .ok (.if_icmp .ge 21, 3) := by decide +kernel
theorem dX10_clear_8 : decode cX10_clear 8 = .ok (.aload_n 0, 1) := by decide +kernel
theorem dX10_clear_9 : decode cX10_clear 9 = .ok (.getfield 22, 3) := by decide +kernel
theorem dX10_clear_12 : decode cX10_clear 12 = .ok (.bipush 24, 2) := by decide +kernel
theorem dX10_clear_14 : decode cX10_clear 14 = .ok (.iload_n 1, 1) := by decide +kernel
theorem dX10_clear_15 : decode cX10_clear 15 = .ok (.imul, 1) := by decide +kernel
theorem dX10_clear_16 : decode cX10_clear 16 = .ok (.iload_n 2, 1) := by decide +kernel
theorem dX10_clear_17 : decode cX10_clear 17 = .ok (.iadd, 1) := by decide +kernel
theorem dX10_clear_18 : decode cX10_clear 18 = .ok (.iconst 0, 1) := by decide +kernel
theorem dX10_clear_19 : decode cX10_clear 19 = .ok (.iastore, 1) := by decide +kernel
theorem dX10_clear_20 : decode cX10_clear 20 = .ok (.iinc 2 1, 3) := by decide +kernel
theorem dX10_clear_23 : decode cX10_clear 23 = .ok (.goto (-21), 3) := by decide +kernel
theorem dX10_clear_26 : decode cX10_clear 26 = .ok (.return_, 1) := by decide +kernel
theorem dX10_height_0 : decode cX10_height 0 = .ok (.iconst 0, 1) := by decide +kernel
theorem dX10_height_1 : decode cX10_height 1 = .ok (.istore_n 2, 1) := by decide +kernel
theorem dX10_height_2 : decode cX10_height 2 = .ok (.iload_n 2, 1) := by decide +kernel
theorem dX10_height_3 : decode cX10_height 3 = .ok (.bipush 24, 2) := by decide +kernel
theorem dX10_height_5 : decode cX10_height 5 = .ok (.if_icmp .ge 23, 3) := by decide +kernel
theorem dX10_height_8 : decode cX10_height 8 = .ok (.aload_n 0, 1) := by decide +kernel
theorem dX10_height_9 : decode cX10_height 9 = .ok (.getfield 22, 3) := by decide +kernel
theorem dX10_height_12 : decode cX10_height 12 = .ok (.bipush 24, 2) := by decide +kernel
theorem dX10_height_14 : decode cX10_height 14 = .ok (.iload_n 1, 1) := by decide +kernel
theorem dX10_height_15 : decode cX10_height 15 = .ok (.imul, 1) := by decide +kernel
theorem dX10_height_16 : decode cX10_height 16 = .ok (.iload_n 2, 1) := by decide +kernel
theorem dX10_height_17 : decode cX10_height 17 = .ok (.iadd, 1) := by decide +kernel
theorem dX10_height_18 : decode cX10_height 18 = .ok (.iaload, 1) := by decide +kernel
theorem dX10_height_19 : decode cX10_height 19 = .ok (.ifCond .le 9, 3) := by decide +kernel
theorem dX10_height_22 : decode cX10_height 22 = .ok (.iinc 2 1, 3) := by decide +kernel
theorem dX10_height_25 : decode cX10_height 25 = .ok (.goto (-23), 3) := by decide +kernel
theorem dX10_height_28 : decode cX10_height 28 = .ok (.iload_n 2, 1) := by decide +kernel
theorem dX10_height_29 : decode cX10_height 29 = .ok (.ireturn, 1) := by decide +kernel
theorem dX10_insertByRows_0 : decode cX10_insertByRows 0 = .ok (.iload_n 2, 1) := by decide +kernel
theorem dX10_insertByRows_1 : decode cX10_insertByRows 1 = .ok (.istore_n 3, 1) := by decide +kernel
theorem dX10_insertByRows_2 : decode cX10_insertByRows 2 = .ok (.iconst 0, 1) := by decide +kernel
theorem dX10_insertByRows_3 : decode cX10_insertByRows 3 = .ok (.istore 4, 2) := by decide +kernel
theorem dX10_insertByRows_5 : decode cX10_insertByRows 5 = .ok (.aload_n 0, 1) := by decide +kernel
theorem dX10_insertByRows_6 : decode cX10_insertByRows 6 = .ok (.getfield 22, 3) := by decide +kernel
theorem dX10_insertByRows_9 : decode cX10_insertByRows 9 = .ok (.bipush 24, 2) := by decide +kernel
theorem dX10_insertByRows_11 : decode cX10_insertByRows 11 = .ok (.iload_n 1, 1) := by decide +kernel
theorem dX10_insertByRows_12 : decode cX10_insertByRows 12 = .ok (.imul, 1) := by decide +kernel
theorem dX10_insertByRows_13 : decode cX10_insertByRows 13 = .ok (.iload 4, 2) := by decide +kernel
theorem dX10_insertByRows_15 : decode cX10_insertByRows 15 = .ok (.iadd, 1) := by decide +kernel
theorem dX10_insertByRows_16 : decode cX10_insertByRows 16 = .ok (.iaload, 1) := by decide +kernel
theorem dX10_insertByRows_17 : decode cX10_insertByRows 17 = .ok (.istore 5, 2) := by decide +kernel
theorem dX10_insertByRows_19 : decode cX10_insertByRows 19 = .ok (.iconst 0, 1) := by decide +kernel
theorem dX10_insertByRows_20 : decode cX10_insertByRows 20 = .ok (.istore 6, 2) := by decide +kernel
theorem dX10_insertByRows_22 : decode cX10_insertByRows 22 = .ok (.iload 6, 2) := by decide +kernel
theorem dX10_insertByRows_24 : decode cX10_insertByRows 24 = .ok (.iload 5, 2) := by decide +kernel
theorem dX10_insertByRows_26 : decode cX10_insertByRows 26 = .ok (.if_icmp .ge 26, 3) := by decide +kernel
theorem dX10_insertByRows_29 : decode cX10_insertByRows 29 = .ok (.aload_n 0, 1) := by decide +kernel
theorem dX10_insertByRows_30 : decode cX10_insertByRows 30 = .ok (.getfield 19, 3) := by decide +kernel
theorem dX10_insertByRows_33 : decode cX10_insertByRows 33 = .ok (.iload_n 1, 1) := by decide +kernel
theorem dX10_insertByRows_34 : decode cX10_insertByRows 34 = .ok (.iload 4, 2) := by decide +kernel
theorem dX10_insertByRows_36 : decode cX10_insertByRows 36 = .ok (.iload 6, 2) := by decide +kernel
theorem dX10_insertByRows_38 : decode cX10_insertByRows 38 = .ok (.invokestatic 84, 3) := by decide +kernel
theorem dX10_insertByRows_41 : decode cX10_insertByRows 41 = .ok (.iaload, 1) := by decide +kernel
theorem dX10_insertByRows_42 : decode cX10_insertByRows 42 = .ok (.iload_n 3, 1) := by decide +kernel
theorem dX10_insertByRows_43 : decode cX10_insertByRows 43 = .ok (.if_icmp .gt 9, 3) := by decide +kernel
theorem dX10_insertByRows_46 : decode cX10_insertByRows 46 = .ok (.iinc 6 1, 3) := by decide +kernel
theorem dX10_insertByRows_49 : decode cX10_insertByRows 49 = .ok (.goto (-27), 3) := by decide +kernel
theorem dX10_insertByRows_52 : decode cX10_insertByRows 52 = .ok (.aload_n 0, 1) := by decide +kernel
theorem dX10_insertByRows_53 : decode cX10_insertByRows 53 = .ok (.getfield 19, 3) := by decide +kernel
theorem dX10_insertByRows_56 : decode cX10_insertByRows 56 = .ok (.iload_n 1, 1) := by decide +kernel
theorem dX10_insertByRows_57 : decode cX10_insertByRows 57 = .ok (.iload 4, 2) := by decide +kernel
theorem dX10_insertByRows_59 : decode cX10_insertByRows 59 = .ok (.iload 6, 2) := by decide +kernel
theorem dX10_insertByRows_61 : decode cX10_insertByRows 61 = .ok (.invokestatic 84, 3) := by decide +kernel
theorem dX10_insertByRows_64 : decode cX10_insertByRows 64 = .ok (.iaload, 1) := by decide +kernel
theorem dX10_insertByRows_65 : decode cX10_insertByRows 65 = .ok (.istore 7, 2) := by decide +kernel
theorem dX10_insertByRows_67 : decode cX10_insertByRows 67 = .ok (.aload_n 0, 1) := by decide +kernel
theorem dX10_insertByRows_68 : decode cX10_insertByRows 68 = .ok (.getfield 19, 3) := by decide +kernel
theorem dX10_insertByRows_71 : decode cX10_insertByRows 71 = .ok (.iload_n 1, 1) := by decide +kernel
theorem dX10_insertByRows_72 : decode cX10_insertByRows 72 = .ok (.iload 4, 2) := by decide +kernel
theorem dX10_insertByRows_74 : decode cX10_insertByRows 74 = .ok (.iload 6, 2) := by decide +kernel
theorem dX10_insertByRows_76 : decode cX10_insertByRows 76 = .ok (.invokestatic 84, 3) := by decide +kernel
theorem dX10_insertByRows_79 : decode cX10_insertByRows 79 = .ok (.iload_n 3, 1) := by decide +kernel
theorem dX10_insertByRows_80 : decode cX10_insertByRows 80 = .ok (.iastore, 1) := by decide +kernel
theorem dX10_insertByRows_81 : decode cX10_insertByRows 81 = .ok (.iload 6, 2) := by decide +kernel
theorem dX10_insertByRows_83 : decode cX10_insertByRows 83 = .ok (.iload 5, 2) := by decide +kernel
theorem dX10_insertByRows_85 : decode cX10_insertByRows 85 = .ok (.if_icmp .ne 22, 3) := by decide +kernel
theorem dX10_insertByRows_88 : decode cX10_insertByRows 88 = .ok (.aload_n 0, 1) := by decide +kernel
theorem dX10_insertByRows_89 : decode cX10_insertByRows 89 = .ok (.getfield 22, 3) := by decide +kernel
theorem dX10_insertByRows_92 : decode cX10_insertByRows 92 = .ok (.bipush 24, 2) := by decide +kernel
theorem dX10_insertByRows_94 : decode cX10_insertByRows 94 = .ok (.iload_n 1, 1) := by decide +kernel
theorem dX10_insertByRows_95 : decode cX10_insertByRows 95 = .ok (.imul, 1) := by decide +kernel
theorem dX10_insertByRows_96 : decode cX10_insertByRows 96 = .ok (.iload 4, 2) := by decide +kernel
theorem dX10_insertByRows_98 : decode cX10_insertByRows 98 = .ok (.iadd, 1) := by decide +kernel
theorem dX10_insertByRows_99 : decode cX10_insertByRows 99 = .ok (.dup2, 1) := by decide +kernel
theorem dX10_insertByRows_100 : decode cX10_insertByRows 100 = .ok (.iaload, 1) := by decide +kernel
theorem dX10_insertByRows_101 : decode cX10_insertByRows 101 = .ok (.iconst 1, 1) := by decide +kernel
theorem dX10_insertByRows_102 : decode cX10_insertByRows 102 = .ok (.iadd, 1) := by decide +kernel
theorem dX10_insertByRows_103 : decode cX10_insertByRows 103 = .ok (.iastore, 1) := by decide +kernel
theorem dX10_insertByRows_104 : decode cX10_insertByRows 104 = .ok (.iload 4, 2) := by decide +kernel
theorem dX10_insertByRows_106 : decode cX10_insertByRows 106 = .ok (.ireturn, 1) := by decide +kernel
theorem dX10_insertByRows_107 : decode cX10_insertByRows 107 = .ok (.iload 7, 2) := by decide +kernel
theorem dX10_insertByRows_109 : decode cX10_insertByRows 109 = .ok (.istore_n 3, 1) := by decide +kernel
theorem dX10_insertByRows_110 : decode cX10_insertByRows 110 = .ok (.iinc 4 1, 3) := by decide +kernel
theorem dX10_insertByRows_113 : decode cX10_insertByRows 113 = .ok (.goto (-108), 3) := by decide +kernel
theorem dX10_insertByColumns_0 : decode cX10_insertByColumns 0 = .ok (.iload_n 2, 1) := by decide +kernel
theorem dX10_insertByColumns_1 : decode cX10_insertByColumns 1 = .ok (.istore_n 3, 1) := by decide +kernel
theorem dX10_insertByColumns_2 : decode cX10_insertByColumns 2 = .ok (.iconst 0, 1) := by decide +kernel
theorem dX10_insertByColumns_3 : decode cX10_insertByColumns 3 = .ok (.istore 4, 2) := by decide +kernel
theorem dX10_insertByColumns_5 : decode cX10_insertByColumns 5 = .ok (.iconst 0, 1) := by decide +kernel
theorem dX10_insertByColumns_6 : decode cX10_insertByColumns 6 = .ok (.istore 5, 2) := by decide +kernel
theorem dX10_insertByColumns_8 : decode cX10_insertByColumns 8 = .ok (.iload 5, 2) := by decide +kernel
theorem dX10_insertByColumns_10 : decode cX10_insertByColumns 10 = .ok (.bipush 24, 2) := by decide +kernel
theorem dX10_insertByColumns_12 : decode cX10_insertByColumns 12 = .ok (.if_icmp .ge 43, 3) := by decide +kernel
theorem dX10_insertByColumns_15 : decode cX10_insertByColumns 15 = .ok (.aload_n 0, 1) := by decide +kernel
theorem dX10_insertByColumns_16 : decode cX10_insertByColumns 16 = .ok (.getfield 22, 3) := by decide +kernel
theorem dX10_insertByColumns_19 : decode cX10_insertByColumns 19 = .ok (.bipush 24, 2) := by decide +kernel
theorem dX10_insertByColumns_21 : decode cX10_insertByColumns 21 = .ok (.iload_n 1, 1) := by decide +kernel
theorem dX10_insertByColumns_22 : decode cX10_insertByColumns 22 = .ok (.imul, 1) := by decide +kernel
theorem dX10_insertByColumns_23 : decode cX10_insertByColumns 23 = .ok (.iload 5, 2) := by decide +kernel
theorem dX10_insertByColumns_25 : decode cX10_insertByColumns 25 = .ok (.iadd, 1) := by decide +kernel
theorem dX10_insertByColumns_26 : decode cX10_insertByColumns 26 = .ok (.iaload, 1) := by decide +kernel
theorem dX10_insertByColumns_27 : decode cX10_insertByColumns 27 = .ok (.iload 4, 2) := by decide +kernel
theorem dX10_insertByColumns_29 : decode cX10_insertByColumns 29 = .ok (.if_icmp .le 26, 3) := by decide +kernel
theorem dX10_insertByColumns_32 : decode cX10_insertByColumns 32 = .ok (.aload_n 0, 1) := by decide +kernel
theorem dX10_insertByColumns_33 : decode cX10_insertByColumns 33 = .ok (.getfield 19, 3) := by decide +kernel
theorem dX10_insertByColumns_36 : decode cX10_insertByColumns 36 = .ok (.iload_n 1, 1) := by decide +kernel
theorem dX10_insertByColumns_37 : decode cX10_insertByColumns 37 = .ok (.iload 5, 2) := by decide +kernel
theorem dX10_insertByColumns_39 : decode cX10_insertByColumns 39 = .ok (.iload 4, 2) := by decide +kernel
theorem dX10_insertByColumns_41 : decode cX10_insertByColumns 41 = .ok (.invokestatic 84, 3) := by decide +kernel
theorem dX10_insertByColumns_44 : decode cX10_insertByColumns 44 = .ok (.iaload, 1) := by decide +kernel
theorem dX10_insertByColumns_45 : decode cX10_insertByColumns 45 = .ok (.iload_n 3, 1) := by decide +kernel
theorem dX10_insertByColumns_46 : decode cX10_insertByColumns 46 = .ok (.if_icmp .ge 9, 3) := by decide +kernel
theorem dX10_insertByColumns_49 : decode cX10_insertByColumns 49 = .ok (.iinc 5 1, 3) := by decide +kernel
theorem dX10_insertByColumns_52 : decode cX10_insertByColumns 52 = .ok (.goto (-44), 3) := by decide +kernel
theorem dX10_insertByColumns_55 : decode cX10_insertByColumns 55 = .ok (.aload_n 0, 1) := by decide +kernel
theorem dX10_insertByColumns_56 : decode cX10_insertByColumns 56 = .ok (.getfield 22, 3) := by decide +kernel
theorem dX10_insertByColumns_59 : decode cX10_insertByColumns 59 = .ok (.bipush 24, 2) := by decide +kernel
theorem dX10_insertByColumns_61 : decode cX10_insertByColumns 61 = .ok (.iload_n 1, 1) := by decide +kernel
theorem dX10_insertByColumns_62 : decode cX10_insertByColumns 62 = .ok (.imul, 1) := by decide +kernel
theorem dX10_insertByColumns_63 : decode cX10_insertByColumns 63 = .ok (.iload 5, 2) := by decide +kernel
theorem dX10_insertByColumns_65 : decode cX10_insertByColumns 65 = .ok (.iadd, 1) := by decide +kernel
theorem dX10_insertByColumns_66 : decode cX10_insertByColumns 66 = .ok (.iaload, 1) := by decide +kernel
theorem dX10_insertByColumns_67 : decode cX10_insertByColumns 67 = .ok (.iload 4, 2) := by decide +kernel
theorem dX10_insertByColumns_69 : decode cX10_insertByColumns 69 = .ok (.if_icmp .gt 7, 3) := by decide +kernel
theorem dX10_insertByColumns_72 : decode cX10_insertByColumns 72 = .ok (.iconst 1, 1) := by decide +kernel
theorem dX10_insertByColumns_73 : decode cX10_insertByColumns 73 = .ok (.goto 4, 3) := by decide +kernel
theorem dX10_insertByColumns_76 : decode cX10_insertByColumns 76 = .ok (.iconst 0, 1) := by decide +kernel
theorem dX10_insertByColumns_77 : decode cX10_insertByColumns 77 = .ok (.istore 6, 2) := by decide +kernel
theorem dX10_insertByColumns_79 : decode cX10_insertByColumns 79 = .ok (.aload_n 0, 1) := by decide +kernel
theorem dX10_insertByColumns_80 : decode cX10_insertByColumns 80 = .ok (.getfield 19, 3) := by decide +kernel
theorem dX10_insertByColumns_83 : decode cX10_insertByColumns 83 = .ok (.iload_n 1, 1) := by decide +kernel
theorem dX10_insertByColumns_84 : decode cX10_insertByColumns 84 = .ok (.iload 5, 2) := by decide +kernel
theorem dX10_insertByColumns_86 : decode cX10_insertByColumns 86 = .ok (.iload 4, 2) := by decide +kernel
theorem dX10_insertByColumns_88 : decode cX10_insertByColumns 88 = .ok (.invokestatic 84, 3) := by decide +kernel
theorem dX10_insertByColumns_91 : decode cX10_insertByColumns 91 = .ok (.iaload, 1) := by decide +kernel
theorem dX10_insertByColumns_92 : decode cX10_insertByColumns 92 = .ok (.istore 7, 2) := by decide +kernel
theorem dX10_insertByColumns_94 : decode cX10_insertByColumns 94 = .ok (.aload_n 0, 1) := by decide +kernel
theorem dX10_insertByColumns_95 : decode cX10_insertByColumns 95 = .ok (.getfield 19, 3) := by decide +kernel
theorem dX10_insertByColumns_98 : decode cX10_insertByColumns 98 = .ok (.iload_n 1, 1) := by decide +kernel
theorem dX10_insertByColumns_99 : decode cX10_insertByColumns 99 = .ok (.iload 5, 2) := by decide +kernel
theorem dX10_insertByColumns_101 : decode cX10_insertByColumns 101 = .ok (.iload 4, 2) := by decide +kernel
theorem dX10_insertByColumns_103 : decode cX10_insertByColumns 103 = .ok (.invokestatic 84, 3) := by decide +kernel
theorem dX10_insertByColumns_106 : decode cX10_insertByColumns 106 = .ok (.iload_n 3, 1) := by decide +kernel
theorem dX10_insertByColumns_107 : decode cX10_insertByColumns 107 = .ok (.iastore, 1) := by decide +kernel
theorem dX10_insertByColumns_108 : decode cX10_insertByColumns 108 = .ok (.iload 6, 2) := by decide +kernel
theorem dX10_insertByColumns_110 : decode cX10_insertByColumns 110 = .ok (.ifCond .eq 22, 3) := by decide +kernel
theorem dX10_insertByColumns_113 : decode cX10_insertByColumns 113 = .ok (.aload_n 0, 1) := by decide +kernel
theorem dX10_insertByColumns_114 : decode cX10_insertByColumns 114 = .ok (.getfield 22, 3) := by decide +kernel
theorem dX10_insertByColumns_117 : decode cX10_insertByColumns 117 = .ok (.bipush 24, 2) := by decide +kernel
theorem dX10_insertByColumns_119 : decode cX10_insertByColumns 119 = .ok (.iload_n 1, 1) := by decide +kernel
theorem dX10_insertByColumns_120 : decode cX10_insertByColumns 120 = .ok (.imul, 1) := by decide +kernel
theorem dX10_insertByColumns_121 : decode cX10_insertByColumns 121 = .ok (.iload 5, 2) := by decide +kernel
theorem dX10_insertByColumns_123 : decode cX10_insertByColumns 123 = .ok (.iadd, 1) := by decide +kernel
theorem dX10_insertByColumns_124 : decode cX10_insertByColumns 124 = .ok (.dup2, 1) := by decide +kernel
theorem dX10_insertByColumns_125 : decode cX10_insertByColumns 125 = .ok (.iaload, 1) := by decide +kernel
theorem dX10_insertByColumns_126 : decode cX10_insertByColumns 126 = .ok (.iconst 1, 1) := by decide +kernel
theorem dX10_insertByColumns_127 : decode cX10_insertByColumns 127 = .ok (.iadd, 1) := by decide +kernel
theorem dX10_insertByColumns_128 : decode cX10_insertByColumns 128 = .ok (.iastore, 1) := by decide +kernel
theorem dX10_insertByColumns_129 : decode cX10_insertByColumns 129 = .ok (.iload 5, 2) := by decide +kernel
theorem dX10_insertByColumns_131 : decode cX10_insertByColumns 131 = .ok (.ireturn, 1) := by decide +kernel
theorem dX10_insertByColumns_132 : decode cX10_insertByColumns 132 = .ok (.iload 7, 2) := by decide +kernel
theorem dX10_insertByColumns_134 : decode cX10_insertByColumns 134 = .ok (.istore_n 3, 1) := by decide +kernel
theorem dX10_insertByColumns_135 : decode cX10_insertByColumns 135 = .ok (.iinc 4 1, 3) := by decide +kernel
theorem dX10_insertByColumns_138 : decode cX10_insertByColumns 138 = .ok (.goto (-133), 3) := by decide +kernel
theorem dX10_insertRow_0 : decode cX10_insertRow 0 = .ok (.aload_n 0, 1) := by decide +kernel
theorem dX10_insertRow_1 : decode cX10_insertRow 1 = .ok (.iload_n 1, 1) := by decide +kernel
theorem dX10_insertRow_2 : decode cX10_insertRow 2 = .ok (.invokevirtual 88, 3) := by decide +kernel
theorem dX10_insertRow_5 : decode cX10_insertRow 5 = .ok (.iconst 0, 1) := by decide +kernel
theorem dX10_insertRow_6 : decode cX10_insertRow 6 = .ok (.istore_n 3, 1) := by decide +kernel
theorem dX10_insertRow_7 : decode cX10_insertRow 7 = .ok (.iload_n 3, 1) := by decide +kernel
theorem dX10_insertRow_8 : decode cX10_insertRow 8 = .ok (.iload_n 2, 1) := by decide +kernel
theorem dX10_insertRow_9 : decode cX10_insertRow 9 = .ok (.if_icmp .ge 21, 3) := by decide +kernel
theorem dX10_insertRow_12 : decode cX10_insertRow 12 = .ok (.aload_n 0, 1) := by decide +kernel
theorem dX10_insertRow_13 : decode cX10_insertRow 13 = .ok (.iload_n 1, 1) := by decide +kernel
theorem dX10_insertRow_14 : decode cX10_insertRow 14 = .ok (.aload_n 0, 1) := by decide +kernel
theorem dX10_insertRow_15 : decode cX10_insertRow 15 = .ok (.getfield 29, 3) := by decide +kernel
theorem dX10_insertRow_18 : decode cX10_insertRow 18 = .ok (.iload_n 3, 1) := by decide +kernel
theorem dX10_insertRow_19 : decode cX10_insertRow 19 = .ok (.iaload, 1) := by decide +kernel
theorem dX10_insertRow_20 : decode cX10_insertRow 20 = .ok (.invokevirtual 92, 3) := by decide +kernel
theorem dX10_insertRow_23 : decode cX10_insertRow 23 = .ok (.pop, 1) := by decide +kernel
theorem dX10_insertRow_24 : decode cX10_insertRow 24 = .ok (.iinc 3 1, 3) := by decide +kernel
theorem dX10_insertRow_27 : decode cX10_insertRow 27 = .ok (.goto (-20), 3) := by decide +kernel
theorem dX10_insertRow_30 : decode cX10_insertRow 30 = .ok (.return_, 1) := by decide +kernel
theorem dX10_take_0 : decode cX10_take 0 = .ok (.iconst 0, 1) := by decide +kernel
theorem dX10_take_1 : decode cX10_take 1 = .ok (.istore_n 2, 1) := by decide +kernel
theorem dX10_take_2 : decode cX10_take 2 = .ok (.iload_n 2, 1) := by decide +kernel
theorem dX10_take_3 : decode cX10_take 3 = .ok (.aload_n 0, 1) := by decide +kernel
theorem dX10_take_4 : decode cX10_take 4 = .ok (.getfield 16, 3) := by decide +kernel
theorem dX10_take_7 : decode cX10_take 7 = .ok (.iload_n 1, 1) := by decide +kernel
theorem dX10_take_8 : decode cX10_take 8 = .ok (.iaload, 1) := by decide +kernel
theorem dX10_take_9 : decode cX10_take 9 = .ok (.if_icmp .ge 26, 3) := by decide +kernel
theorem dX10_take_12 : decode cX10_take 12 = .ok (.aload_n 0, 1) := by decide +kernel
theorem dX10_take_13 : decode cX10_take 13 = .ok (.getfield 29, 3) := by decide +kernel
theorem dX10_take_16 : decode cX10_take 16 = .ok (.iload_n 2, 1) := by decide +kernel
theorem dX10_take_17 : decode cX10_take 17 = .ok (.aload_n 0, 1) := by decide +kernel
theorem dX10_take_18 : decode cX10_take 18 = .ok (.getfield 13, 3) := by decide +kernel
theorem dX10_take_21 : decode cX10_take 21 = .ok (.bipush 16, 2) := by decide +kernel
theorem dX10_take_23 : decode cX10_take 23 = .ok (.iload_n 1, 1) := by decide +kernel
theorem dX10_take_24 : decode cX10_take 24 = .ok (.imul, 1) := by decide +kernel
theorem dX10_take_25 : decode cX10_take 25 = .ok (.iload_n 2, 1) := by decide +kernel
theorem dX10_take_26 : decode cX10_take 26 = .ok (.iadd, 1) := by decide +kernel
theorem dX10_take_27 : decode cX10_take 27 = .ok (.iaload, 1) := by decide +kernel
theorem dX10_take_28 : decode cX10_take 28 = .ok (.iastore, 1) := by decide +kernel
theorem dX10_take_29 : decode cX10_take 29 = .ok (.iinc 2 1, 3) := by decide +kernel
theorem dX10_take_32 : decode cX10_take 32 = .ok (.goto (-30), 3) := by decide +kernel
theorem dX10_take_35 : decode cX10_take 35 = .ok (.return_, 1) := by decide +kernel
theorem dX10_insert_0 : decode cX10_insert 0 = .ok (.aload_n 0, 1) := by decide +kernel
theorem dX10_insert_1 : decode cX10_insert 1 = .ok (.iload_n 1, 1) := by decide +kernel
theorem dX10_insert_2 : decode cX10_insert 2 = .ok (.invokestatic 81, 3) := by decide +kernel
theorem dX10_insert_5 : decode cX10_insert 5 = .ok (.ifCond .eq 7, 3) := by decide +kernel
theorem dX10_insert_8 : decode cX10_insert 8 = .ok (.iconst 0, 1) := by decide +kernel
theorem dX10_insert_9 : decode cX10_insert 9 = .ok (.goto 4, 3) := by decide +kernel
theorem dX10_insert_12 : decode cX10_insert 12 = .ok (.iconst 1, 1) := by decide +kernel
theorem dX10_insert_13 : decode cX10_insert 13 = .ok (.putfield 63, 3) := by decide +kernel
theorem dX10_insert_16 : decode cX10_insert 16 = .ok (.aload_n 0, 1) := by decide +kernel
theorem dX10_insert_17 : decode cX10_insert 17 = .ok (.getfield 63, 3) := by decide +kernel
theorem dX10_insert_20 : decode cX10_insert 20 = .ok (.ifCond .le 5, 3) := by decide +kernel
theorem dX10_insert_23 : decode cX10_insert 23 = .ok (.iconst 0, 1) := by decide +kernel
theorem dX10_insert_24 : decode cX10_insert 24 = .ok (.ireturn, 1) := by decide +kernel
theorem dX10_insert_25 : decode cX10_insert 25 = .ok (.aload_n 0, 1) := by decide +kernel
theorem dX10_insert_26 : decode cX10_insert 26 = .ok (.iconst 0, 1) := by decide +kernel
theorem dX10_insert_27 : decode cX10_insert 27 = .ok (.invokevirtual 88, 3) := by decide +kernel
theorem dX10_insert_30 : decode cX10_insert 30 = .ok (.aload_n 0, 1) := by decide +kernel
theorem dX10_insert_31 : decode cX10_insert 31 = .ok (.iconst 2, 1) := by decide +kernel
theorem dX10_insert_32 : decode cX10_insert 32 = .ok (.invokevirtual 88, 3) := by decide +kernel
theorem dX10_insert_35 : decode cX10_insert 35 = .ok (.iconst 0, 1) := by decide +kernel
theorem dX10_insert_36 : decode cX10_insert 36 = .ok (.istore_n 3, 1) := by decide +kernel
theorem dX10_insert_37 : decode cX10_insert 37 = .ok (.iload_n 3, 1) := by decide +kernel
theorem dX10_insert_38 : decode cX10_insert 38 = .ok (.aload_n 0, 1) := by decide +kernel
theorem dX10_insert_39 : decode cX10_insert 39 = .ok (.getfield 16, 3) := by decide +kernel
theorem dX10_insert_42 : decode cX10_insert 42 = .ok (.iload_n 1, 1) := by decide +kernel
theorem dX10_insert_43 : decode cX10_insert 43 = .ok (.iaload, 1) := by decide +kernel
theorem dX10_insert_44 : decode cX10_insert 44 = .ok (.if_icmp .ge 83, 3) := by decide +kernel
theorem dX10_insert_47 : decode cX10_insert 47 = .ok (.aload_n 0, 1) := by decide +kernel
theorem dX10_insert_48 : decode cX10_insert 48 = .ok (.getfield 13, 3) := by decide +kernel
theorem dX10_insert_51 : decode cX10_insert 51 = .ok (.bipush 16, 2) := by decide +kernel
theorem dX10_insert_53 : decode cX10_insert 53 = .ok (.iload_n 1, 1) := by decide +kernel
theorem dX10_insert_54 : decode cX10_insert 54 = .ok (.imul, 1) := by decide +kernel
theorem dX10_insert_55 : decode cX10_insert 55 = .ok (.iload_n 3, 1) := by decide +kernel
theorem dX10_insert_56 : decode cX10_insert 56 = .ok (.iadd, 1) := by decide +kernel
theorem dX10_insert_57 : decode cX10_insert 57 = .ok (.iaload, 1) := by decide +kernel
theorem dX10_insert_58 : decode cX10_insert 58 = .ok (.istore 4, 2) := by decide +kernel
theorem dX10_insert_60 : decode cX10_insert 60 = .ok (.iload_n 2, 1) := by decide +kernel
theorem dX10_insert_61 : decode cX10_insert 61 = .ok (.ifCond .eq 13, 3) := by decide +kernel
theorem dX10_insert_64 : decode cX10_insert 64 = .ok (.aload_n 0, 1) := by decide +kernel
theorem dX10_insert_65 : decode cX10_insert 65 = .ok (.iconst 0, 1) := by decide +kernel
theorem dX10_insert_66 : decode cX10_insert 66 = .ok (.iload 4, 2) := by decide +kernel
theorem dX10_insert_68 : decode cX10_insert 68 = .ok (.invokevirtual 95, 3) := by decide +kernel
theorem dX10_insert_71 : decode cX10_insert 71 = .ok (.goto 10, 3) := by decide +kernel
theorem dX10_insert_74 : decode cX10_insert 74 = .ok (.aload_n 0, 1) := by decide +kernel
theorem dX10_insert_75 : decode cX10_insert 75 = .ok (.iconst 0, 1) := by decide +kernel
theorem dX10_insert_76 : decode cX10_insert 76 = .ok (.iload 4, 2) := by decide +kernel
theorem dX10_insert_78 : decode cX10_insert 78 = .ok (.invokevirtual 92, 3) := by decide +kernel
theorem dX10_insert_81 : decode cX10_insert 81 = .ok (.istore 5, 2) := by decide +kernel
theorem dX10_insert_83 : decode cX10_insert 83 = .ok (.aload_n 0, 1) := by decide +kernel
theorem dX10_insert_84 : decode cX10_insert 84 = .ok (.getfield 19, 3) := by decide +kernel
theorem dX10_insert_87 : decode cX10_insert 87 = .ok (.iconst 2, 1) := by decide +kernel
theorem dX10_insert_88 : decode cX10_insert 88 = .ok (.iload 5, 2) := by decide +kernel
theorem dX10_insert_90 : decode cX10_insert 90 = .ok (.aload_n 0, 1) := by decide +kernel
theorem dX10_insert_91 : decode cX10_insert 91 = .ok (.getfield 22, 3) := by decide +kernel
theorem dX10_insert_94 : decode cX10_insert 94 = .ok (.bipush 48, 2) := by decide +kernel
theorem dX10_insert_96 : decode cX10_insert 96 = .ok (.iload 5, 2) := by decide +kernel
theorem dX10_insert_98 : decode cX10_insert 98 = .ok (.iadd, 1) := by decide +kernel
theorem dX10_insert_99 : decode cX10_insert 99 = .ok (.iaload, 1) := by decide +kernel
theorem dX10_insert_100 : decode cX10_insert 100 = .ok (.invokestatic 84, 3) := by decide +kernel
theorem dX10_insert_103 : decode cX10_insert 103 = .ok (.iload_n 3, 1) := by decide +kernel
theorem dX10_insert_104 : decode cX10_insert 104 = .ok (.iconst 1, 1) := by decide +kernel
theorem dX10_insert_105 : decode cX10_insert 105 = .ok (.iadd, 1) := by decide +kernel
theorem dX10_insert_106 : decode cX10_insert 106 = .ok (.iastore, 1) := by decide +kernel
theorem dX10_insert_107 : decode cX10_insert 107 = .ok (.aload_n 0, 1) := by decide +kernel
theorem dX10_insert_108 : decode cX10_insert 108 = .ok (.getfield 22, 3) := by decide +kernel
theorem dX10_insert_111 : decode cX10_insert 111 = .ok (.bipush 48, 2) := by decide +kernel
theorem dX10_insert_113 : decode cX10_insert 113 = .ok (.iload 5, 2) := by decide +kernel
theorem dX10_insert_115 : decode cX10_insert 115 = .ok (.iadd, 1) := by decide +kernel
theorem dX10_insert_116 : decode cX10_insert 116 = .ok (.dup2, 1) := by decide +kernel
theorem dX10_insert_117 : decode cX10_insert 117 = .ok (.iaload, 1) := by decide +kernel
theorem dX10_insert_118 : decode cX10_insert 118 = .ok (.iconst 1, 1) := by decide +kernel
theorem dX10_insert_119 : decode cX10_insert 119 = .ok (.iadd, 1) := by decide +kernel
theorem dX10_insert_120 : decode cX10_insert 120 = .ok (.iastore, 1) := by decide +kernel
theorem dX10_insert_121 : decode cX10_insert 121 = .ok (.iinc 3 1, 3) := by decide +kernel
theorem dX10_insert_124 : decode cX10_insert 124 = .ok (.goto (-87), 3) := by decide +kernel
theorem dX10_insert_127 : decode cX10_insert 127 = .ok (.aload_n 0, 1) := by decide +kernel
theorem dX10_insert_128 : decode cX10_insert 128 = .ok (.iconst 0, 1) := by decide +kernel
theorem dX10_insert_129 : decode cX10_insert 129 = .ok (.putfield 25, 3) := by decide +kernel
theorem dX10_insert_132 : decode cX10_insert 132 = .ok (.aload_n 0, 1) := by decide +kernel
theorem dX10_insert_133 : decode cX10_insert 133 = .ok (.iconst 0, 1) := by decide +kernel
theorem dX10_insert_134 : decode cX10_insert 134 = .ok (.invokevirtual 98, 3) := by decide +kernel
theorem dX10_insert_137 : decode cX10_insert 137 = .ok (.ireturn, 1) := by decide +kernel
theorem dX10_entry_0 : decode cX10_entry 0 = .ok (.aload_n 0, 1) := by decide +kernel
theorem dX10_entry_1 : decode cX10_entry 1 = .ok (.iconst 0, 1) := by decide +kernel
theorem dX10_entry_2 : decode cX10_entry 2 = .ok (.putfield 63, 3) := by decide +kernel
theorem dX10_entry_5 : decode cX10_entry 5 = .ok (.iload_n 1, 1) := by decide +kernel
theorem dX10_entry_6 : decode cX10_entry 6 = .ok (.ifCond .eq 7, 3) := by decide +kernel
theorem dX10_entry_9 : decode cX10_entry 9 = .ok (.iconst 2, 1) := by decide +kernel
theorem dX10_entry_10 : decode cX10_entry 10 = .ok (.goto 4, 3) := by decide +kernel
theorem dX10_entry_13 : decode cX10_entry 13 = .ok (.iconst 0, 1) := by decide +kernel
theorem dX10_entry_14 : decode cX10_entry 14 = .ok (.istore 4, 2) := by decide +kernel
theorem dX10_entry_16 : decode cX10_entry 16 = .ok (.iload_n 1, 1) := by decide +kernel
theorem dX10_entry_17 : decode cX10_entry 17 = .ok (.ifCond .eq 10, 3) := by decide +kernel
theorem dX10_entry_20 : decode cX10_entry 20 = .ok (.aload_n 0, 1) := by decide +kernel
theorem dX10_entry_21 : decode cX10_entry 21 = .ok (.getfield 25, 3) := by decide +kernel
theorem dX10_entry_24 : decode cX10_entry 24 = .ok (.ifCond .ne 33, 3) := by decide +kernel
theorem dX10_entry_27 : decode cX10_entry 27 = .ok (.iload_n 2, 1) := by decide +kernel
theorem dX10_entry_28 : decode cX10_entry 28 = .ok (.ifCond .lt 29, 3) := by decide +kernel
theorem dX10_entry_31 : decode cX10_entry 31 = .ok (.iload_n 2, 1) := by decide +kernel
theorem dX10_entry_32 : decode cX10_entry 32 = .ok (.bipush 23, 2) := by decide +kernel
theorem dX10_entry_34 : decode cX10_entry 34 = .ok (.if_icmp .gt 23, 3) := by decide +kernel
theorem dX10_entry_37 : decode cX10_entry 37 = .ok (.iload_n 3, 1) := by decide +kernel
theorem dX10_entry_38 : decode cX10_entry 38 = .ok (.ifCond .lt 19, 3) := by decide +kernel
theorem dX10_entry_41 : decode cX10_entry 41 = .ok (.iload_n 3, 1) := by decide +kernel
theorem dX10_entry_42 : decode cX10_entry 42 = .ok (.aload_n 0, 1) := by decide +kernel
theorem dX10_entry_43 : decode cX10_entry 43 = .ok (.getfield 22, 3) := by decide +kernel
theorem dX10_entry_46 : decode cX10_entry 46 = .ok (.bipush 24, 2) := by decide +kernel
theorem dX10_entry_48 : decode cX10_entry 48 = .ok (.iload 4, 2) := by decide +kernel
theorem dX10_entry_50 : decode cX10_entry 50 = .ok (.imul, 1) := by decide +kernel
theorem dX10_entry_51 : decode cX10_entry 51 = .ok (.iload_n 2, 1) := by decide +kernel
theorem dX10_entry_52 : decode cX10_entry 52 = .ok (.iadd, 1) := by decide +kernel
theorem dX10_entry_53 : decode cX10_entry 53 = .ok (.iaload, 1) := by decide +kernel
theorem dX10_entry_54 : decode cX10_entry 54 = .ok (.if_icmp .lt 7, 3) := by decide +kernel
theorem dX10_entry_57 : decode cX10_entry 57 = .ok (.iconst 0, 1) := by decide +kernel
theorem dX10_entry_58 : decode cX10_entry 58 = .ok (.goto 15, 3) := by decide +kernel
theorem dX10_entry_61 : decode cX10_entry 61 = .ok (.aload_n 0, 1) := by decide +kernel
theorem dX10_entry_62 : decode cX10_entry 62 = .ok (.getfield 19, 3) := by decide +kernel
theorem dX10_entry_65 : decode cX10_entry 65 = .ok (.iload 4, 2) := by decide +kernel
theorem dX10_entry_67 : decode cX10_entry 67 = .ok (.iload_n 2, 1) := by decide +kernel
theorem dX10_entry_68 : decode cX10_entry 68 = .ok (.iload_n 3, 1) := by decide +kernel
theorem dX10_entry_69 : decode cX10_entry 69 = .ok (.invokestatic 84, 3) := by decide +kernel
theorem dX10_entry_72 : decode cX10_entry 72 = .ok (.iaload, 1) := by decide +kernel
theorem dX10_entry_73 : decode cX10_entry 73 = .ok (.ireturn, 1) := by decide +kernel
theorem dX10_copyP_0 : decode cX10_copyP 0 = .ok (.iconst 0, 1) := by decide +kernel
theorem dX10_copyP_1 : decode cX10_copyP 1 = .ok (.istore_n 2, 1) := by decide +kernel
theorem dX10_copyP_2 : decode cX10_copyP 2 = .ok (.iload_n 2, 1) := by decide +kernel
theorem dX10_copyP_3 : decode cX10_copyP 3 = .ok (.bipush 24, 2) := by decide +kernel
theorem dX10_copyP_5 : decode cX10_copyP 5 = .ok (.if_icmp .ge 66, 3) := by decide +kernel
theorem dX10_copyP_8 : decode cX10_copyP 8 = .ok (.aload_n 0, 1) := by decide +kernel
theorem dX10_copyP_9 : decode cX10_copyP 9 = .ok (.getfield 22, 3) := by decide +kernel
theorem dX10_copyP_12 : decode cX10_copyP 12 = .ok (.bipush 24, 2) := by decide +kernel
theorem dX10_copyP_14 : decode cX10_copyP 14 = .ok (.iload_n 1, 1) := by decide +kernel
theorem dX10_copyP_15 : decode cX10_copyP 15 = .ok (.imul, 1) := by decide +kernel
theorem dX10_copyP_16 : decode cX10_copyP 16 = .ok (.iload_n 2, 1) := by decide +kernel
theorem dX10_copyP_17 : decode cX10_copyP 17 = .ok (.iadd, 1) := by decide +kernel
theorem dX10_copyP_18 : decode cX10_copyP 18 = .ok (.aload_n 0, 1) := by decide +kernel
theorem dX10_copyP_19 : decode cX10_copyP 19 = .ok (.getfield 22, 3) := by decide +kernel
theorem dX10_copyP_22 : decode cX10_copyP 22 = .ok (.iload_n 2, 1) := by decide +kernel
theorem dX10_copyP_23 : decode cX10_copyP 23 = .ok (.iaload, 1) := by decide +kernel
theorem dX10_copyP_24 : decode cX10_copyP 24 = .ok (.iastore, 1) := by decide +kernel
theorem dX10_copyP_25 : decode cX10_copyP 25 = .ok (.iconst 0, 1) := by decide +kernel
theorem dX10_copyP_26 : decode cX10_copyP 26 = .ok (.istore_n 3, 1) := by decide +kernel
theorem dX10_copyP_27 : decode cX10_copyP 27 = .ok (.iload_n 3, 1) := by decide +kernel
theorem dX10_copyP_28 : decode cX10_copyP 28 = .ok (.aload_n 0, 1) := by decide +kernel
theorem dX10_copyP_29 : decode cX10_copyP 29 = .ok (.getfield 22, 3) := by decide +kernel
theorem dX10_copyP_32 : decode cX10_copyP 32 = .ok (.iload_n 2, 1) := by decide +kernel
theorem dX10_copyP_33 : decode cX10_copyP 33 = .ok (.iaload, 1) := by decide +kernel
theorem dX10_copyP_34 : decode cX10_copyP 34 = .ok (.if_icmp .ge 31, 3) := by decide +kernel
theorem dX10_copyP_37 : decode cX10_copyP 37 = .ok (.aload_n 0, 1) := by decide +kernel
theorem dX10_copyP_38 : decode cX10_copyP 38 = .ok (.getfield 19, 3) := by decide +kernel
theorem dX10_copyP_41 : decode cX10_copyP 41 = .ok (.iload_n 1, 1) := by decide +kernel
theorem dX10_copyP_42 : decode cX10_copyP 42 = .ok (.iload_n 2, 1) := by decide +kernel
theorem dX10_copyP_43 : decode cX10_copyP 43 = .ok (.iload_n 3, 1) := by decide +kernel
theorem dX10_copyP_44 : decode cX10_copyP 44 = .ok (.invokestatic 84, 3) := by decide +kernel
theorem dX10_copyP_47 : decode cX10_copyP 47 = .ok (.aload_n 0, 1) := by decide +kernel
theorem dX10_copyP_48 : decode cX10_copyP 48 = .ok (.getfield 19, 3) := by decide +kernel
theorem dX10_copyP_51 : decode cX10_copyP 51 = .ok (.iconst 0, 1) := by decide +kernel
theorem dX10_copyP_52 : decode cX10_copyP 52 = .ok (.iload_n 2, 1) := by decide +kernel
theorem dX10_copyP_53 : decode cX10_copyP 53 = .ok (.iload_n 3, 1) := by decide +kernel
theorem dX10_copyP_54 : decode cX10_copyP 54 = .ok (.invokestatic 84, 3) := by decide +kernel
theorem dX10_copyP_57 : decode cX10_copyP 57 = .ok (.iaload, 1) := by decide +kernel
theorem dX10_copyP_58 : decode cX10_copyP 58 = .ok (.iastore, 1) := by decide +kernel
theorem dX10_copyP_59 : decode cX10_copyP 59 = .ok (.iinc 3 1, 3) := by decide +kernel
theorem dX10_copyP_62 : decode cX10_copyP 62 = .ok (.goto (-35), 3) := by decide +kernel
theorem dX10_copyP_65 : decode cX10_copyP 65 = .ok (.iinc 2 1, 3) := by decide +kernel
theorem dX10_copyP_68 : decode cX10_copyP 68 = .ok (.goto (-66), 3) := by decide +kernel
theorem dX10_copyP_71 : decode cX10_copyP 71 = .ok (.return_, 1) := by decide +kernel
theorem dX10_count_0 : decode cX10_count 0 = .ok (.iconst 0, 1) := by decide +kernel
theorem dX10_count_1 : decode cX10_count 1 = .ok (.istore_n 2, 1) := by decide +kernel
theorem dX10_count_2 : decode cX10_count 2 = .ok (.iconst 0, 1) := by decide +kernel
theorem dX10_count_3 : decode cX10_count 3 = .ok (.istore_n 3, 1) := by decide +kernel
theorem dX10_count_4 : decode cX10_count 4 = .ok (.iload_n 3, 1) := by decide +kernel
theorem dX10_count_5 : decode cX10_count 5 = .ok (.bipush 24, 2) := by decide +kernel
theorem dX10_count_7 : decode cX10_count 7 = .ok (.if_icmp .ge 23, 3) := by decide +kernel
theorem dX10_count_10 : decode cX10_count 10 = .ok (.iload_n 2, 1) := by decide +kernel
theorem dX10_count_11 : decode cX10_count 11 = .ok (.aload_n 0, 1) := by decide +kernel
theorem dX10_count_12 : decode cX10_count 12 = .ok (.getfield 22, 3) := by decide +kernel
theorem dX10_count_15 : decode cX10_count 15 = .ok (.bipush 24, 2) := by decide +kernel
theorem dX10_count_17 : decode cX10_count 17 = .ok (.iload_n 1, 1) := by decide +kernel
theorem dX10_count_18 : decode cX10_count 18 = .ok (.imul, 1) := by decide +kernel
theorem dX10_count_19 : decode cX10_count 19 = .ok (.iload_n 3, 1) := by decide +kernel
theorem dX10_count_20 : decode cX10_count 20 = .ok (.iadd, 1) := by decide +kernel
theorem dX10_count_21 : decode cX10_count 21 = .ok (.iaload, 1) := by decide +kernel
theorem dX10_count_22 : decode cX10_count 22 = .ok (.iadd, 1) := by decide +kernel
theorem dX10_count_23 : decode cX10_count 23 = .ok (.istore_n 2, 1) := by decide +kernel
theorem dX10_count_24 : decode cX10_count 24 = .ok (.iinc 3 1, 3) := by decide +kernel
theorem dX10_count_27 : decode cX10_count 27 = .ok (.goto (-23), 3) := by decide +kernel
theorem dX10_count_30 : decode cX10_count 30 = .ok (.iload_n 2, 1) := by decide +kernel
theorem dX10_count_31 : decode cX10_count 31 = .ok (.ireturn, 1) := by decide +kernel
theorem dX10_takeOut_0 : decode cX10_takeOut 0 = .ok (.aload_n 0, 1) := by decide +kernel
theorem dX10_takeOut_1 : decode cX10_takeOut 1 = .ok (.getfield 22, 3) := by decide +kernel
theorem dX10_takeOut_4 : decode cX10_takeOut 4 = .ok (.bipush 24, 2) := by decide +kernel
theorem dX10_takeOut_6 : decode cX10_takeOut 6 = .ok (.iload_n 1, 1) := by decide +kernel
theorem dX10_takeOut_7 : decode cX10_takeOut 7 = .ok (.imul, 1) := by decide +kernel
theorem dX10_takeOut_8 : decode cX10_takeOut 8 = .ok (.iload_n 2, 1) := by decide +kernel
theorem dX10_takeOut_9 : decode cX10_takeOut 9 = .ok (.iadd, 1) := by decide +kernel
theorem dX10_takeOut_10 : decode cX10_takeOut 10 = .ok (.dup2, 1) := by decide +kernel
theorem dX10_takeOut_11 : decode cX10_takeOut 11 = .ok (.iaload, 1) := by decide +kernel
theorem dX10_takeOut_12 : decode cX10_takeOut 12 = .ok (.iconst 1, 1) := by decide +kernel
theorem dX10_takeOut_13 : decode cX10_takeOut 13 = .ok (.isub, 1) := by decide +kernel
theorem dX10_takeOut_14 : decode cX10_takeOut 14 = .ok (.iastore, 1) := by decide +kernel
theorem dX10_takeOut_15 : decode cX10_takeOut 15 = .ok (.aload_n 0, 1) := by decide +kernel
theorem dX10_takeOut_16 : decode cX10_takeOut 16 = .ok (.getfield 19, 3) := by decide +kernel
theorem dX10_takeOut_19 : decode cX10_takeOut 19 = .ok (.iload_n 1, 1) := by decide +kernel
theorem dX10_takeOut_20 : decode cX10_takeOut 20 = .ok (.iload_n 2, 1) := by decide +kernel
theorem dX10_takeOut_21 : decode cX10_takeOut 21 = .ok (.aload_n 0, 1) := by decide +kernel
theorem dX10_takeOut_22 : decode cX10_takeOut 22 = .ok (.getfield 22, 3) := by decide +kernel
theorem dX10_takeOut_25 : decode cX10_takeOut 25 = .ok (.bipush 24, 2) := by decide +kernel
theorem dX10_takeOut_27 : decode cX10_takeOut 27 = .ok (.iload_n 1, 1) := by decide +kernel
theorem dX10_takeOut_28 : decode cX10_takeOut 28 = .ok (.imul, 1) := by decide +kernel
theorem dX10_takeOut_29 : decode cX10_takeOut 29 = .ok (.iload_n 2, 1) := by decide +kernel
theorem dX10_takeOut_30 : decode cX10_takeOut 30 = .ok (.iadd, 1) := by decide +kernel
theorem dX10_takeOut_31 : decode cX10_takeOut 31 = .ok (.iaload, 1) := by decide +kernel
theorem dX10_takeOut_32 : decode cX10_takeOut 32 = .ok (.invokestatic 84, 3) := by decide +kernel
theorem dX10_takeOut_35 : decode cX10_takeOut 35 = .ok (.iaload, 1) := by decide +kernel
theorem dX10_takeOut_36 : decode cX10_takeOut 36 = .ok (.istore_n 3, 1) := by decide +kernel
theorem dX10_takeOut_37 : decode cX10_takeOut 37 = .ok (.iload_n 2, 1) := by decide +kernel
theorem dX10_takeOut_38 : decode cX10_takeOut 38 = .ok (.iconst 1, 1) := by decide +kernel
theorem dX10_takeOut_39 : decode cX10_takeOut 39 = .ok (.isub, 1) := by decide +kernel
theorem dX10_takeOut_40 : decode cX10_takeOut 40 = .ok (.istore 4, 2) := by decide +kernel
theorem dX10_takeOut_42 : decode cX10_takeOut 42 = .ok (.iload 4, 2) := by decide +kernel
theorem dX10_takeOut_44 : decode cX10_takeOut 44 = .ok (.ifCond .lt 80, 3) := by decide +kernel
theorem dX10_takeOut_47 : decode cX10_takeOut 47 = .ok (.aload_n 0, 1) := by decide +kernel
theorem dX10_takeOut_48 : decode cX10_takeOut 48 = .ok (.getfield 22, 3) := by decide +kernel
theorem dX10_takeOut_51 : decode cX10_takeOut 51 = .ok (.bipush 24, 2) := by decide +kernel
theorem dX10_takeOut_53 : decode cX10_takeOut 53 = .ok (.iload_n 1, 1) := by decide +kernel
theorem dX10_takeOut_54 : decode cX10_takeOut 54 = .ok (.imul, 1) := by decide +kernel
theorem dX10_takeOut_55 : decode cX10_takeOut 55 = .ok (.iload 4, 2) := by decide +kernel
theorem dX10_takeOut_57 : decode cX10_takeOut 57 = .ok (.iadd, 1) := by decide +kernel
theorem dX10_takeOut_58 : decode cX10_takeOut 58 = .ok (.iaload, 1) := by decide +kernel
theorem dX10_takeOut_59 : decode cX10_takeOut 59 = .ok (.iconst 1, 1) := by decide +kernel
theorem dX10_takeOut_60 : decode cX10_takeOut 60 = .ok (.isub, 1) := by decide +kernel
theorem dX10_takeOut_61 : decode cX10_takeOut 61 = .ok (.istore 5, 2) := by decide +kernel
theorem dX10_takeOut_63 : decode cX10_takeOut 63 = .ok (.aload_n 0, 1) := by decide +kernel
theorem dX10_takeOut_64 : decode cX10_takeOut 64 = .ok (.getfield 19, 3) := by decide +kernel
theorem dX10_takeOut_67 : decode cX10_takeOut 67 = .ok (.iload_n 1, 1) := by decide +kernel
theorem dX10_takeOut_68 : decode cX10_takeOut 68 = .ok (.iload 4, 2) := by decide +kernel
theorem dX10_takeOut_70 : decode cX10_takeOut 70 = .ok (.iload 5, 2) := by decide +kernel
theorem dX10_takeOut_72 : decode cX10_takeOut 72 = .ok (.invokestatic 84, 3) := by decide +kernel
theorem dX10_takeOut_75 : decode cX10_takeOut 75 = .ok (.iaload, 1) := by decide +kernel
theorem dX10_takeOut_76 : decode cX10_takeOut 76 = .ok (.iload_n 3, 1) := by decide +kernel
theorem dX10_takeOut_77 : decode cX10_takeOut 77 = .ok (.if_icmp .lt 9, 3) := by decide +kernel
theorem dX10_takeOut_80 : decode cX10_takeOut 80 = .ok (.iinc 5 (-1), 3) := by decide +kernel
theorem dX10_takeOut_83 : decode cX10_takeOut 83 = .ok (.goto (-20), 3) := by decide +kernel
theorem dX10_takeOut_86 : decode cX10_takeOut 86 = .ok (.aload_n 0, 1) := by decide +kernel
theorem dX10_takeOut_87 : decode cX10_takeOut 87 = .ok (.getfield 19, 3) := by decide +kernel
theorem dX10_takeOut_90 : decode cX10_takeOut 90 = .ok (.iload_n 1, 1) := by decide +kernel
theorem dX10_takeOut_91 : decode cX10_takeOut 91 = .ok (.iload 4, 2) := by decide +kernel
theorem dX10_takeOut_93 : decode cX10_takeOut 93 = .ok (.iload 5, 2) := by decide +kernel
theorem dX10_takeOut_95 : decode cX10_takeOut 95 = .ok (.invokestatic 84, 3) := by decide +kernel
theorem dX10_takeOut_98 : decode cX10_takeOut 98 = .ok (.iaload, 1) := by decide +kernel
theorem dX10_takeOut_99 : decode cX10_takeOut 99 = .ok (.istore 6, 2) := by decide +kernel
theorem dX10_takeOut_101 : decode cX10_takeOut 101 = .ok (.aload_n 0, 1) := by decide +kernel
theorem dX10_takeOut_102 : decode cX10_takeOut 102 = .ok (.getfield 19, 3) := by decide +kernel
theorem dX10_takeOut_105 : decode cX10_takeOut 105 = .ok (.iload_n 1, 1) := by decide +kernel
theorem dX10_takeOut_106 : decode cX10_takeOut 106 = .ok (.iload 4, 2) := by decide +kernel
theorem dX10_takeOut_108 : decode cX10_takeOut 108 = .ok (.iload 5, 2) := by decide +kernel
theorem dX10_takeOut_110 : decode cX10_takeOut 110 = .ok (.invokestatic 84, 3) := by decide +kernel
theorem dX10_takeOut_113 : decode cX10_takeOut 113 = .ok (.iload_n 3, 1) := by decide +kernel
theorem dX10_takeOut_114 : decode cX10_takeOut 114 = .ok (.iastore, 1) := by decide +kernel
theorem dX10_takeOut_115 : decode cX10_takeOut 115 = .ok (.iload 6, 2) := by decide +kernel
theorem dX10_takeOut_117 : decode cX10_takeOut 117 = .ok (.istore_n 3, 1) := by decide +kernel
theorem dX10_takeOut_118 : decode cX10_takeOut 118 = .ok (.iinc 4 (-1), 3) := by decide +kernel
theorem dX10_takeOut_121 : decode cX10_takeOut 121 = .ok (.goto (-79), 3) := by decide +kernel
theorem dX10_takeOut_124 : decode cX10_takeOut 124 = .ok (.iload_n 3, 1) := by decide +kernel
theorem dX10_takeOut_125 : decode cX10_takeOut 125 = .ok (.ireturn, 1) := by decide +kernel
theorem dX10_rowOfNumber_0 : decode cX10_rowOfNumber 0 = .ok (.iconst 0, 1) := by decide +kernel
theorem dX10_rowOfNumber_1 : decode cX10_rowOfNumber 1 = .ok (.istore_n 2, 1) := by decide +kernel
theorem dX10_rowOfNumber_2 : decode cX10_rowOfNumber 2 = .ok (.aload_n 0, 1) := by decide +kernel
theorem dX10_rowOfNumber_3 : decode cX10_rowOfNumber 3 = .ok (.getfield 22, 3) := by decide +kernel
theorem dX10_rowOfNumber_6 : decode cX10_rowOfNumber 6 = .ok (.bipush 24, 2) := by decide +kernel
theorem dX10_rowOfNumber_8 : decode cX10_rowOfNumber 8 = .ok (.iload_n 2, 1) := by decide +kernel
theorem dX10_rowOfNumber_9 : decode cX10_rowOfNumber 9 = .ok (.iadd, 1) := by decide +kernel
theorem dX10_rowOfNumber_10 : decode cX10_rowOfNumber 10 = .ok (.iaload, 1) := by decide +kernel
theorem dX10_rowOfNumber_11 : decode cX10_rowOfNumber 11 = .ok (.ifCond .eq 28, 3) := by decide +kernel
theorem dX10_rowOfNumber_14 : decode cX10_rowOfNumber 14 = .ok (.aload_n 0, 1) := by decide +kernel
theorem dX10_rowOfNumber_15 : decode cX10_rowOfNumber 15 = .ok (.getfield 19, 3) := by decide +kernel
theorem dX10_rowOfNumber_18 : decode cX10_rowOfNumber 18 = .ok (.iconst 2, 1) := by decide +kernel
theorem dX10_rowOfNumber_19 : decode cX10_rowOfNumber 19 = .ok (.iload_n 2, 1) := by decide +kernel
theorem dX10_rowOfNumber_20 : decode cX10_rowOfNumber 20 = .ok (.aload_n 0, 1) := by decide +kernel
theorem dX10_rowOfNumber_21 : decode cX10_rowOfNumber 21 = .ok (.getfield 22, 3) := by decide +kernel
theorem dX10_rowOfNumber_24 : decode cX10_rowOfNumber 24 = .ok (.bipush 24, 2) := by decide +kernel
theorem dX10_rowOfNumber_26 : decode cX10_rowOfNumber 26 = .ok (.iload_n 2, 1) := by decide +kernel
theorem dX10_rowOfNumber_27 : decode cX10_rowOfNumber 27 = .ok (.iadd, 1) := by decide +kernel
theorem dX10_rowOfNumber_28 : decode cX10_rowOfNumber 28 = .ok (.iaload, 1) := by decide +kernel
theorem dX10_rowOfNumber_29 : decode cX10_rowOfNumber 29 = .ok (.iconst 1, 1) := by decide +kernel
theorem dX10_rowOfNumber_30 : decode cX10_rowOfNumber 30 = .ok (.isub, 1) := by decide +kernel
theorem dX10_rowOfNumber_31 : decode cX10_rowOfNumber 31 = .ok (.invokestatic 84, 3) := by decide +kernel
theorem dX10_rowOfNumber_34 : decode cX10_rowOfNumber 34 = .ok (.iaload, 1) := by decide +kernel
theorem dX10_rowOfNumber_35 : decode cX10_rowOfNumber 35 = .ok (.iload_n 1, 1) := by decide +kernel
theorem dX10_rowOfNumber_36 : decode cX10_rowOfNumber 36 = .ok (.if_icmp .eq 9, 3) := by decide +kernel
theorem dX10_rowOfNumber_39 : decode cX10_rowOfNumber 39 = .ok (.iinc 2 1, 3) := by decide +kernel
theorem dX10_rowOfNumber_42 : decode cX10_rowOfNumber 42 = .ok (.goto (-40), 3) := by decide +kernel
theorem dX10_rowOfNumber_45 : decode cX10_rowOfNumber 45 = .ok (.iload_n 2, 1) := by decide +kernel
theorem dX10_rowOfNumber_46 : decode cX10_rowOfNumber 46 = .ok (.ireturn, 1) := by decide +kernel
theorem dX10_recover_0 : decode cX10_recover 0 = .ok (.aload_n 0, 1) := by decide +kernel
theorem dX10_recover_1 : decode cX10_recover 1 = .ok (.iload_n 1, 1) := by decide +kernel
theorem dX10_recover_2 : decode cX10_recover 2 = .ok (.invokestatic 81, 3) := by decide +kernel
theorem dX10_recover_5 : decode cX10_recover 5 = .ok (.ifCond .ne 7, 3) := by decide +kernel
theorem dX10_recover_8 : decode cX10_recover 8 = .ok (.iconst 1, 1) := by decide +kernel
theorem dX10_recover_9 : decode cX10_recover 9 = .ok (.goto 15, 3) := by decide +kernel
theorem dX10_recover_12 : decode cX10_recover 12 = .ok (.aload_n 0, 1) := by decide +kernel
theorem dX10_recover_13 : decode cX10_recover 13 = .ok (.getfield 25, 3) := by decide +kernel
theorem dX10_recover_16 : decode cX10_recover 16 = .ok (.ifCond .eq 7, 3) := by decide +kernel
theorem dX10_recover_19 : decode cX10_recover 19 = .ok (.iconst 2, 1) := by decide +kernel
theorem dX10_recover_20 : decode cX10_recover 20 = .ok (.goto 4, 3) := by decide +kernel
theorem dX10_recover_23 : decode cX10_recover 23 = .ok (.iconst 0, 1) := by decide +kernel
theorem dX10_recover_24 : decode cX10_recover 24 = .ok (.putfield 63, 3) := by decide +kernel
theorem dX10_recover_27 : decode cX10_recover 27 = .ok (.aload_n 0, 1) := by decide +kernel
theorem dX10_recover_28 : decode cX10_recover 28 = .ok (.getfield 63, 3) := by decide +kernel
theorem dX10_recover_31 : decode cX10_recover 31 = .ok (.ifCond .le 4, 3) := by decide +kernel
theorem dX10_recover_34 : decode cX10_recover 34 = .ok (.return_, 1) := by decide +kernel
theorem dX10_recover_35 : decode cX10_recover 35 = .ok (.aload_n 0, 1) := by decide +kernel
theorem dX10_recover_36 : decode cX10_recover 36 = .ok (.iconst 1, 1) := by decide +kernel
theorem dX10_recover_37 : decode cX10_recover 37 = .ok (.invokevirtual 101, 3) := by decide +kernel
theorem dX10_recover_40 : decode cX10_recover 40 = .ok (.aload_n 0, 1) := by decide +kernel
theorem dX10_recover_41 : decode cX10_recover 41 = .ok (.iconst 0, 1) := by decide +kernel
theorem dX10_recover_42 : decode cX10_recover 42 = .ok (.invokevirtual 104, 3) := by decide +kernel
theorem dX10_recover_45 : decode cX10_recover 45 = .ok (.istore_n 2, 1) := by decide +kernel
theorem dX10_recover_46 : decode cX10_recover 46 = .ok (.iload_n 2, 1) := by decide +kernel
theorem dX10_recover_47 : decode cX10_recover 47 = .ok (.istore_n 3, 1) := by decide +kernel
theorem dX10_recover_48 : decode cX10_recover 48 = .ok (.iload_n 3, 1) := by decide +kernel
theorem dX10_recover_49 : decode cX10_recover 49 = .ok (.ifCond .le 32, 3) := by decide +kernel
theorem dX10_recover_52 : decode cX10_recover 52 = .ok (.aload_n 0, 1) := by decide +kernel
theorem dX10_recover_53 : decode cX10_recover 53 = .ok (.getfield 13, 3) := by decide +kernel
theorem dX10_recover_56 : decode cX10_recover 56 = .ok (.bipush 16, 2) := by decide +kernel
theorem dX10_recover_58 : decode cX10_recover 58 = .ok (.iload_n 1, 1) := by decide +kernel
theorem dX10_recover_59 : decode cX10_recover 59 = .ok (.imul, 1) := by decide +kernel
theorem dX10_recover_60 : decode cX10_recover 60 = .ok (.iload_n 3, 1) := by decide +kernel
theorem dX10_recover_61 : decode cX10_recover 61 = .ok (.iadd, 1) := by decide +kernel
theorem dX10_recover_62 : decode cX10_recover 62 = .ok (.iconst 1, 1) := by decide +kernel
theorem dX10_recover_63 : decode cX10_recover 63 = .ok (.isub, 1) := by decide +kernel
theorem dX10_recover_64 : decode cX10_recover 64 = .ok (.aload_n 0, 1) := by decide +kernel
theorem dX10_recover_65 : decode cX10_recover 65 = .ok (.iconst 1, 1) := by decide +kernel
theorem dX10_recover_66 : decode cX10_recover 66 = .ok (.aload_n 0, 1) := by decide +kernel
theorem dX10_recover_67 : decode cX10_recover 67 = .ok (.iload_n 3, 1) := by decide +kernel
theorem dX10_recover_68 : decode cX10_recover 68 = .ok (.invokevirtual 107, 3) := by decide +kernel
theorem dX10_recover_71 : decode cX10_recover 71 = .ok (.invokevirtual 110, 3) := by decide +kernel
theorem dX10_recover_74 : decode cX10_recover 74 = .ok (.iastore, 1) := by decide +kernel
theorem dX10_recover_75 : decode cX10_recover 75 = .ok (.iinc 3 (-1), 3) := by decide +kernel
theorem dX10_recover_78 : decode cX10_recover 78 = .ok (.goto (-30), 3) := by decide +kernel
theorem dX10_recover_81 : decode cX10_recover 81 = .ok (.aload_n 0, 1) := by decide +kernel
theorem dX10_recover_82 : decode cX10_recover 82 = .ok (.getfield 16, 3) := by decide +kernel
theorem dX10_recover_85 : decode cX10_recover 85 = .ok (.iload_n 1, 1) := by decide +kernel
theorem dX10_recover_86 : decode cX10_recover 86 = .ok (.iload_n 2, 1) := by decide +kernel
theorem dX10_recover_87 : decode cX10_recover 87 = .ok (.iastore, 1) := by decide +kernel
theorem dX10_recover_88 : decode cX10_recover 88 = .ok (.return_, 1) := by decide +kernel
theorem dX10_reading_0 : decode cX10_reading 0 = .ok (.iconst 0, 1) := by decide +kernel
theorem dX10_reading_1 : decode cX10_reading 1 = .ok (.istore_n 1, 1) := by decide +kernel
theorem dX10_reading_2 : decode cX10_reading 2 = .ok (.bipush 23, 2) := by decide +kernel
theorem dX10_reading_4 : decode cX10_reading 4 = .ok (.istore_n 2, 1) := by decide +kernel
theorem dX10_reading_5 : decode cX10_reading 5 = .ok (.iload_n 2, 1) := by decide +kernel
theorem dX10_reading_6 : decode cX10_reading 6 = .ok (.ifCond .lt 47, 3) := by decide +kernel
theorem dX10_reading_9 : decode cX10_reading 9 = .ok (.iconst 0, 1) := by decide +kernel
theorem dX10_reading_10 : decode cX10_reading 10 = .ok (.istore_n 3, 1) := by decide +kernel
theorem dX10_reading_11 : decode cX10_reading 11 = .ok (.iload_n 3, 1) := by decide +kernel
theorem dX10_reading_12 : decode cX10_reading 12 = .ok (.aload_n 0, 1) := by decide +kernel
theorem dX10_reading_13 : decode cX10_reading 13 = .ok (.getfield 22, 3) := by decide +kernel
theorem dX10_reading_16 : decode cX10_reading 16 = .ok (.iload_n 2, 1) := by decide +kernel
theorem dX10_reading_17 : decode cX10_reading 17 = .ok (.iaload, 1) := by decide +kernel
theorem dX10_reading_18 : decode cX10_reading 18 = .ok (.if_icmp .ge 29, 3) := by decide +kernel
theorem dX10_reading_21 : decode cX10_reading 21 = .ok (.aload_n 0, 1) := by decide +kernel
theorem dX10_reading_22 : decode cX10_reading 22 = .ok (.getfield 29, 3) := by decide +kernel
theorem dX10_reading_25 : decode cX10_reading 25 = .ok (.iload_n 1, 1) := by decide +kernel
theorem dX10_reading_26 : decode cX10_reading 26 = .ok (.aload_n 0, 1) := by decide +kernel
theorem dX10_reading_27 : decode cX10_reading 27 = .ok (.getfield 19, 3) := by decide +kernel
theorem dX10_reading_30 : decode cX10_reading 30 = .ok (.iconst 0, 1) := by decide +kernel
theorem dX10_reading_31 : decode cX10_reading 31 = .ok (.iload_n 2, 1) := by decide +kernel
theorem dX10_reading_32 : decode cX10_reading 32 = .ok (.iload_n 3, 1) := by decide +kernel
theorem dX10_reading_33 : decode cX10_reading 33 = .ok (.invokestatic 84, 3) := by decide +kernel
theorem dX10_reading_36 : decode cX10_reading 36 = .ok (.iaload, 1) := by decide +kernel
theorem dX10_reading_37 : decode cX10_reading 37 = .ok (.iastore, 1) := by decide +kernel
theorem dX10_reading_38 : decode cX10_reading 38 = .ok (.iinc 1 1, 3) := by decide +kernel
theorem dX10_reading_41 : decode cX10_reading 41 = .ok (.iinc 3 1, 3) := by decide +kernel
theorem dX10_reading_44 : decode cX10_reading 44 = .ok (.goto (-33), 3) := by decide +kernel
theorem dX10_reading_47 : decode cX10_reading 47 = .ok (.iinc 2 (-1), 3) := by decide +kernel
theorem dX10_reading_50 : decode cX10_reading 50 = .ok (.goto (-45), 3) := by decide +kernel
theorem dX10_reading_53 : decode cX10_reading 53 = .ok (.iload_n 1, 1) := by decide +kernel
theorem dX10_reading_54 : decode cX10_reading 54 = .ok (.ireturn, 1) := by decide +kernel
theorem dX10_read_0 : decode cX10_read 0 = .ok (.aload_n 0, 1) := by decide +kernel
theorem dX10_read_1 : decode cX10_read 1 = .ok (.iload_n 1, 1) := by decide +kernel
theorem dX10_read_2 : decode cX10_read 2 = .ok (.invokestatic 81, 3) := by decide +kernel
theorem dX10_read_5 : decode cX10_read 5 = .ok (.ifCond .eq 7, 3) := by decide +kernel
theorem dX10_read_8 : decode cX10_read 8 = .ok (.iconst 0, 1) := by decide +kernel
theorem dX10_read_9 : decode cX10_read 9 = .ok (.goto 4, 3) := by decide +kernel
theorem dX10_read_12 : decode cX10_read 12 = .ok (.iconst 1, 1) := by decide +kernel
theorem dX10_read_13 : decode cX10_read 13 = .ok (.putfield 63, 3) := by decide +kernel
theorem dX10_read_16 : decode cX10_read 16 = .ok (.aload_n 0, 1) := by decide +kernel
theorem dX10_read_17 : decode cX10_read 17 = .ok (.getfield 63, 3) := by decide +kernel
theorem dX10_read_20 : decode cX10_read 20 = .ok (.ifCond .le 4, 3) := by decide +kernel
theorem dX10_read_23 : decode cX10_read 23 = .ok (.return_, 1) := by decide +kernel
theorem dX10_read_24 : decode cX10_read 24 = .ok (.aload_n 0, 1) := by decide +kernel
theorem dX10_read_25 : decode cX10_read 25 = .ok (.invokevirtual 113, 3) := by decide +kernel
theorem dX10_read_28 : decode cX10_read 28 = .ok (.istore_n 2, 1) := by decide +kernel
theorem dX10_read_29 : decode cX10_read 29 = .ok (.iload_n 2, 1) := by decide +kernel
theorem dX10_read_30 : decode cX10_read 30 = .ok (.bipush 16, 2) := by decide +kernel
theorem dX10_read_32 : decode cX10_read 32 = .ok (.if_icmp .gt 7, 3) := by decide +kernel
theorem dX10_read_35 : decode cX10_read 35 = .ok (.iconst 1, 1) := by decide +kernel
theorem dX10_read_36 : decode cX10_read 36 = .ok (.goto 4, 3) := by decide +kernel
theorem dX10_read_39 : decode cX10_read 39 = .ok (.iconst 0, 1) := by decide +kernel
theorem dX10_read_40 : decode cX10_read 40 = .ok (.istore_n 3, 1) := by decide +kernel
theorem dX10_read_41 : decode cX10_read 41 = .ok (.iconst 0, 1) := by decide +kernel
theorem dX10_read_42 : decode cX10_read 42 = .ok (.istore 4, 2) := by decide +kernel
theorem dX10_read_44 : decode cX10_read 44 = .ok (.iload 4, 2) := by decide +kernel
theorem dX10_read_46 : decode cX10_read 46 = .ok (.iload_n 2, 1) := by decide +kernel
theorem dX10_read_47 : decode cX10_read 47 = .ok (.if_icmp .ge 31, 3) := by decide +kernel
theorem dX10_read_50 : decode cX10_read 50 = .ok (.iload_n 3, 1) := by decide +kernel
theorem dX10_read_51 : decode cX10_read 51 = .ok (.ifCond .eq 19, 3) := by decide +kernel
theorem dX10_read_54 : decode cX10_read 54 = .ok (.aload_n 0, 1) := by decide +kernel
theorem dX10_read_55 : decode cX10_read 55 = .ok (.getfield 29, 3) := by decide +kernel
theorem dX10_read_58 : decode cX10_read 58 = .ok (.iload 4, 2) := by decide +kernel
theorem dX10_read_60 : decode cX10_read 60 = .ok (.iaload, 1) := by decide +kernel
theorem dX10_read_61 : decode cX10_read 61 = .ok (.bipush 16, 2) := by decide +kernel
theorem dX10_read_63 : decode cX10_read 63 = .ok (.if_icmp .gt 7, 3) := by decide +kernel
theorem dX10_read_66 : decode cX10_read 66 = .ok (.iconst 1, 1) := by decide +kernel
theorem dX10_read_67 : decode cX10_read 67 = .ok (.goto 4, 3) := by decide +kernel
theorem dX10_read_70 : decode cX10_read 70 = .ok (.iconst 0, 1) := by decide +kernel
theorem dX10_read_71 : decode cX10_read 71 = .ok (.istore_n 3, 1) := by decide +kernel
theorem dX10_read_72 : decode cX10_read 72 = .ok (.iinc 4 1, 3) := by decide +kernel
theorem dX10_read_75 : decode cX10_read 75 = .ok (.goto (-31), 3) := by decide +kernel
theorem dX10_read_78 : decode cX10_read 78 = .ok (.aload_n 0, 1) := by decide +kernel
theorem dX10_read_79 : decode cX10_read 79 = .ok (.iload_n 3, 1) := by decide +kernel
theorem dX10_read_80 : decode cX10_read 80 = .ok (.ifCond .eq 7, 3) := by decide +kernel
theorem dX10_read_83 : decode cX10_read 83 = .ok (.iconst 0, 1) := by decide +kernel
theorem dX10_read_84 : decode cX10_read 84 = .ok (.goto 4, 3) := by decide +kernel
theorem dX10_read_87 : decode cX10_read 87 = .ok (.iconst 2, 1) := by decide +kernel
theorem dX10_read_88 : decode cX10_read 88 = .ok (.putfield 63, 3) := by decide +kernel
theorem dX10_read_91 : decode cX10_read 91 = .ok (.aload_n 0, 1) := by decide +kernel
theorem dX10_read_92 : decode cX10_read 92 = .ok (.getfield 63, 3) := by decide +kernel
theorem dX10_read_95 : decode cX10_read 95 = .ok (.ifCond .le 4, 3) := by decide +kernel
theorem dX10_read_98 : decode cX10_read 98 = .ok (.return_, 1) := by decide +kernel
theorem dX10_read_99 : decode cX10_read 99 = .ok (.iconst 0, 1) := by decide +kernel
theorem dX10_read_100 : decode cX10_read 100 = .ok (.istore 4, 2) := by decide +kernel
theorem dX10_read_102 : decode cX10_read 102 = .ok (.iload 4, 2) := by decide +kernel
theorem dX10_read_104 : decode cX10_read 104 = .ok (.iload_n 2, 1) := by decide +kernel
theorem dX10_read_105 : decode cX10_read 105 = .ok (.if_icmp .ge 28, 3) := by decide +kernel
theorem dX10_read_108 : decode cX10_read 108 = .ok (.aload_n 0, 1) := by decide +kernel
theorem dX10_read_109 : decode cX10_read 109 = .ok (.getfield 13, 3) := by decide +kernel
theorem dX10_read_112 : decode cX10_read 112 = .ok (.bipush 16, 2) := by decide +kernel
theorem dX10_read_114 : decode cX10_read 114 = .ok (.iload_n 1, 1) := by decide +kernel
theorem dX10_read_115 : decode cX10_read 115 = .ok (.imul, 1) := by decide +kernel
theorem dX10_read_116 : decode cX10_read 116 = .ok (.iload 4, 2) := by decide +kernel
theorem dX10_read_118 : decode cX10_read 118 = .ok (.iadd, 1) := by decide +kernel
theorem dX10_read_119 : decode cX10_read 119 = .ok (.aload_n 0, 1) := by decide +kernel
theorem dX10_read_120 : decode cX10_read 120 = .ok (.getfield 29, 3) := by decide +kernel
theorem dX10_read_123 : decode cX10_read 123 = .ok (.iload 4, 2) := by decide +kernel
theorem dX10_read_125 : decode cX10_read 125 = .ok (.iaload, 1) := by decide +kernel
theorem dX10_read_126 : decode cX10_read 126 = .ok (.iastore, 1) := by decide +kernel
theorem dX10_read_127 : decode cX10_read 127 = .ok (.iinc 4 1, 3) := by decide +kernel
theorem dX10_read_130 : decode cX10_read 130 = .ok (.goto (-28), 3) := by decide +kernel
theorem dX10_read_133 : decode cX10_read 133 = .ok (.aload_n 0, 1) := by decide +kernel
theorem dX10_read_134 : decode cX10_read 134 = .ok (.getfield 16, 3) := by decide +kernel
theorem dX10_read_137 : decode cX10_read 137 = .ok (.iload_n 1, 1) := by decide +kernel
theorem dX10_read_138 : decode cX10_read 138 = .ok (.iload_n 2, 1) := by decide +kernel
theorem dX10_read_139 : decode cX10_read 139 = .ok (.iastore, 1) := by decide +kernel
theorem dX10_read_140 : decode cX10_read 140 = .ok (.return_, 1) := by decide +kernel
theorem dX10_equivalent_0 : decode cX10_equivalent 0 = .ok (.aload_n 0, 1) := by decide +kernel
theorem dX10_equivalent_1 : decode cX10_equivalent 1 = .ok (.iconst 0, 1) := by decide +kernel
theorem dX10_equivalent_2 : decode cX10_equivalent 2 = .ok (.putfield 63, 3) := by decide +kernel
theorem dX10_equivalent_5 : decode cX10_equivalent 5 = .ok (.aload_n 0, 1) := by decide +kernel
theorem dX10_equivalent_6 : decode cX10_equivalent 6 = .ok (.iconst 0, 1) := by decide +kernel
theorem dX10_equivalent_7 : decode cX10_equivalent 7 = .ok (.invokevirtual 117, 3) := by decide +kernel
theorem dX10_equivalent_10 : decode cX10_equivalent 10 = .ok (.aload_n 0, 1) := by decide +kernel
theorem dX10_equivalent_11 : decode cX10_equivalent 11 = .ok (.iconst 1, 1) := by decide +kernel
theorem dX10_equivalent_12 : decode cX10_equivalent 12 = .ok (.aload_n 0, 1) := by decide +kernel
theorem dX10_equivalent_13 : decode cX10_equivalent 13 = .ok (.getfield 16, 3) := by decide +kernel
theorem dX10_equivalent_16 : decode cX10_equivalent 16 = .ok (.iconst 0, 1) := by decide +kernel
theorem dX10_equivalent_17 : decode cX10_equivalent 17 = .ok (.iaload, 1) := by decide +kernel
theorem dX10_equivalent_18 : decode cX10_equivalent 18 = .ok (.invokevirtual 120, 3) := by decide +kernel
theorem dX10_equivalent_21 : decode cX10_equivalent 21 = .ok (.aload_n 0, 1) := by decide +kernel
theorem dX10_equivalent_22 : decode cX10_equivalent 22 = .ok (.getfield 16, 3) := by decide +kernel
theorem dX10_equivalent_25 : decode cX10_equivalent 25 = .ok (.iconst 0, 1) := by decide +kernel
theorem dX10_equivalent_26 : decode cX10_equivalent 26 = .ok (.iaload, 1) := by decide +kernel
theorem dX10_equivalent_27 : decode cX10_equivalent 27 = .ok (.aload_n 0, 1) := by decide +kernel
theorem dX10_equivalent_28 : decode cX10_equivalent 28 = .ok (.getfield 16, 3) := by decide +kernel
theorem dX10_equivalent_31 : decode cX10_equivalent 31 = .ok (.iconst 1, 1) := by decide +kernel
theorem dX10_equivalent_32 : decode cX10_equivalent 32 = .ok (.iaload, 1) := by decide +kernel
theorem dX10_equivalent_33 : decode cX10_equivalent 33 = .ok (.if_icmp .ne 7, 3) := by decide +kernel
theorem dX10_equivalent_36 : decode cX10_equivalent 36 = .ok (.iconst 1, 1) := by decide +kernel
theorem dX10_equivalent_37 : decode cX10_equivalent 37 = .ok (.goto 4, 3) := by decide +kernel
theorem dX10_equivalent_40 : decode cX10_equivalent 40 = .ok (.iconst 0, 1) := by decide +kernel
theorem dX10_equivalent_41 : decode cX10_equivalent 41 = .ok (.istore_n 1, 1) := by decide +kernel
theorem dX10_equivalent_42 : decode cX10_equivalent 42 = .ok (.aload_n 0, 1) := by decide +kernel
theorem dX10_equivalent_43 : decode cX10_equivalent 43 = .ok (.iconst 0, 1) := by decide +kernel
theorem dX10_equivalent_44 : decode cX10_equivalent 44 = .ok (.putfield 124, 3) := by decide +kernel
theorem dX10_equivalent_47 : decode cX10_equivalent 47 = .ok (.iconst 0, 1) := by decide +kernel
theorem dX10_equivalent_48 : decode cX10_equivalent 48 = .ok (.istore_n 2, 1) := by decide +kernel
theorem dX10_equivalent_49 : decode cX10_equivalent 49 = .ok (.iload_n 2, 1) := by decide +kernel
theorem dX10_equivalent_50 : decode cX10_equivalent 50 = .ok (.bipush 24, 2) := by decide +kernel
theorem dX10_equivalent_52 : decode cX10_equivalent 52 = .ok (.if_icmp .ge 66, 3) := by decide +kernel
theorem dX10_equivalent_55 : decode cX10_equivalent 55 = .ok (.iconst 0, 1) := by decide +kernel
theorem dX10_equivalent_56 : decode cX10_equivalent 56 = .ok (.istore_n 3, 1) := by decide +kernel
theorem dX10_equivalent_57 : decode cX10_equivalent 57 = .ok (.iload_n 3, 1) := by decide +kernel
theorem dX10_equivalent_58 : decode cX10_equivalent 58 = .ok (.aload_n 0, 1) := by decide +kernel
theorem dX10_equivalent_59 : decode cX10_equivalent 59 = .ok (.getfield 22, 3) := by decide +kernel
theorem dX10_equivalent_62 : decode cX10_equivalent 62 = .ok (.bipush 24, 2) := by decide +kernel
theorem dX10_equivalent_64 : decode cX10_equivalent 64 = .ok (.iload_n 2, 1) := by decide +kernel
theorem dX10_equivalent_65 : decode cX10_equivalent 65 = .ok (.iadd, 1) := by decide +kernel
theorem dX10_equivalent_66 : decode cX10_equivalent 66 = .ok (.iaload, 1) := by decide +kernel
theorem dX10_equivalent_67 : decode cX10_equivalent 67 = .ok (.if_icmp .ge 45, 3) := by decide +kernel
theorem dX10_equivalent_70 : decode cX10_equivalent 70 = .ok (.aload_n 0, 1) := by decide +kernel
theorem dX10_equivalent_71 : decode cX10_equivalent 71 = .ok (.getfield 47, 3) := by decide +kernel
theorem dX10_equivalent_74 : decode cX10_equivalent 74 = .ok (.aload_n 0, 1) := by decide +kernel
theorem dX10_equivalent_75 : decode cX10_equivalent 75 = .ok (.getfield 124, 3) := by decide +kernel
theorem dX10_equivalent_78 : decode cX10_equivalent 78 = .ok (.bipush 100, 2) := by decide +kernel
theorem dX10_equivalent_80 : decode cX10_equivalent 80 = .ok (.iload_n 2, 1) := by decide +kernel
theorem dX10_equivalent_81 : decode cX10_equivalent 81 = .ok (.imul, 1) := by decide +kernel
theorem dX10_equivalent_82 : decode cX10_equivalent 82 = .ok (.aload_n 0, 1) := by decide +kernel
theorem dX10_equivalent_83 : decode cX10_equivalent 83 = .ok (.getfield 19, 3) := by decide +kernel
theorem dX10_equivalent_86 : decode cX10_equivalent 86 = .ok (.iconst 1, 1) := by decide +kernel
theorem dX10_equivalent_87 : decode cX10_equivalent 87 = .ok (.iload_n 2, 1) := by decide +kernel
theorem dX10_equivalent_88 : decode cX10_equivalent 88 = .ok (.iload_n 3, 1) := by decide +kernel
theorem dX10_equivalent_89 : decode cX10_equivalent 89 = .ok (.invokestatic 84, 3) := by decide +kernel
theorem dX10_equivalent_92 : decode cX10_equivalent 92 = .ok (.iaload, 1) := by decide +kernel
theorem dX10_equivalent_93 : decode cX10_equivalent 93 = .ok (.iadd, 1) := by decide +kernel
theorem dX10_equivalent_94 : decode cX10_equivalent 94 = .ok (.i2l, 1) := by decide +kernel
theorem dX10_equivalent_95 : decode cX10_equivalent 95 = .ok (.lastore, 1) := by decide +kernel
theorem dX10_equivalent_96 : decode cX10_equivalent 96 = .ok (.aload_n 0, 1) := by decide +kernel
theorem dX10_equivalent_97 : decode cX10_equivalent 97 = .ok (.dup, 1) := by decide +kernel
theorem dX10_equivalent_98 : decode cX10_equivalent 98 = .ok (.getfield 124, 3) := by decide +kernel
theorem dX10_equivalent_101 : decode cX10_equivalent 101 = .ok (.iconst 1, 1) := by decide +kernel
theorem dX10_equivalent_102 : decode cX10_equivalent 102 = .ok (.iadd, 1) := by decide +kernel
theorem dX10_equivalent_103 : decode cX10_equivalent 103 = .ok (.putfield 124, 3) := by decide +kernel
theorem dX10_equivalent_106 : decode cX10_equivalent 106 = .ok (.iinc 3 1, 3) := by decide +kernel
theorem dX10_equivalent_109 : decode cX10_equivalent 109 = .ok (.goto (-52), 3) := by decide +kernel
theorem dX10_equivalent_112 : decode cX10_equivalent 112 = .ok (.iinc 2 1, 3) := by decide +kernel
theorem dX10_equivalent_115 : decode cX10_equivalent 115 = .ok (.goto (-66), 3) := by decide +kernel
theorem dX10_equivalent_118 : decode cX10_equivalent 118 = .ok (.aload_n 0, 1) := by decide +kernel
theorem dX10_equivalent_119 : decode cX10_equivalent 119 = .ok (.iconst 1, 1) := by decide +kernel
theorem dX10_equivalent_120 : decode cX10_equivalent 120 = .ok (.invokevirtual 117, 3) := by decide +kernel
theorem dX10_equivalent_123 : decode cX10_equivalent 123 = .ok (.aload_n 0, 1) := by decide +kernel
theorem dX10_equivalent_124 : decode cX10_equivalent 124 = .ok (.iconst 1, 1) := by decide +kernel
theorem dX10_equivalent_125 : decode cX10_equivalent 125 = .ok (.aload_n 0, 1) := by decide +kernel
theorem dX10_equivalent_126 : decode cX10_equivalent 126 = .ok (.getfield 16, 3) := by decide +kernel
theorem dX10_equivalent_129 : decode cX10_equivalent 129 = .ok (.iconst 1, 1) := by decide +kernel
theorem dX10_equivalent_130 : decode cX10_equivalent 130 = .ok (.iaload, 1) := by decide +kernel
theorem dX10_equivalent_131 : decode cX10_equivalent 131 = .ok (.invokevirtual 120, 3) := by decide +kernel
theorem dX10_equivalent_134 : decode cX10_equivalent 134 = .ok (.iconst 0, 1) := by decide +kernel
theorem dX10_equivalent_135 : decode cX10_equivalent 135 = .ok (.istore_n 2, 1) := by decide +kernel
theorem dX10_equivalent_136 : decode cX10_equivalent 136 = .ok (.iconst 0, 1) := by decide +kernel
theorem dX10_equivalent_137 : decode cX10_equivalent 137 = .ok (.istore_n 3, 1) := by decide +kernel
theorem dX10_equivalent_138 : decode cX10_equivalent 138 = .ok (.iload_n 3, 1) := by decide +kernel
theorem dX10_equivalent_139 : decode cX10_equivalent 139 = .ok (.bipush 24, 2) := by decide +kernel
theorem dX10_equivalent_141 : decode cX10_equivalent 141 = .ok (.if_icmp .ge 77, 3) := by decide +kernel
theorem dX10_equivalent_144 : decode cX10_equivalent 144 = .ok (.iload_n 1, 1) := by decide +kernel
theorem dX10_equivalent_145 : decode cX10_equivalent 145 = .ok (.ifCond .eq 73, 3) := by decide +kernel
theorem dX10_equivalent_148 : decode cX10_equivalent 148 = .ok (.iconst 0, 1) := by decide +kernel
theorem dX10_equivalent_149 : decode cX10_equivalent 149 = .ok (.istore 4, 2) := by decide +kernel
theorem dX10_equivalent_151 : decode cX10_equivalent 151 = .ok (.iload 4, 2) := by decide +kernel
theorem dX10_equivalent_153 : decode cX10_equivalent 153 = .ok (.aload_n 0, 1) := by decide +kernel
theorem dX10_equivalent_154 : decode cX10_equivalent 154 = .ok (.getfield 22, 3) := by decide +kernel
theorem dX10_equivalent_157 : decode cX10_equivalent 157 = .ok (.bipush 24, 2) := by decide +kernel
theorem dX10_equivalent_159 : decode cX10_equivalent 159 = .ok (.iload_n 3, 1) := by decide +kernel
theorem dX10_equivalent_160 : decode cX10_equivalent 160 = .ok (.iadd, 1) := by decide +kernel
theorem dX10_equivalent_161 : decode cX10_equivalent 161 = .ok (.iaload, 1) := by decide +kernel
theorem dX10_equivalent_162 : decode cX10_equivalent 162 = .ok (.if_icmp .ge 50, 3) := by decide +kernel
theorem dX10_equivalent_165 : decode cX10_equivalent 165 = .ok (.iload_n 1, 1) := by decide +kernel
theorem dX10_equivalent_166 : decode cX10_equivalent 166 = .ok (.ifCond .eq 46, 3) := by decide +kernel
theorem dX10_equivalent_169 : decode cX10_equivalent 169 = .ok (.aload_n 0, 1) := by decide +kernel
theorem dX10_equivalent_170 : decode cX10_equivalent 170 = .ok (.getfield 47, 3) := by decide +kernel
theorem dX10_equivalent_173 : decode cX10_equivalent 173 = .ok (.iload_n 2, 1) := by decide +kernel
theorem dX10_equivalent_174 : decode cX10_equivalent 174 = .ok (.laload, 1) := by decide +kernel
theorem dX10_equivalent_175 : decode cX10_equivalent 175 = .ok (.bipush 100, 2) := by decide +kernel
theorem dX10_equivalent_177 : decode cX10_equivalent 177 = .ok (.iload_n 3, 1) := by decide +kernel
theorem dX10_equivalent_178 : decode cX10_equivalent 178 = .ok (.imul, 1) := by decide +kernel
theorem dX10_equivalent_179 : decode cX10_equivalent 179 = .ok (.aload_n 0, 1) := by decide +kernel
theorem dX10_equivalent_180 : decode cX10_equivalent 180 = .ok (.getfield 19, 3) := by decide +kernel
theorem dX10_equivalent_183 : decode cX10_equivalent 183 = .ok (.iconst 1, 1) := by decide +kernel
theorem dX10_equivalent_184 : decode cX10_equivalent 184 = .ok (.iload_n 3, 1) := by decide +kernel
theorem dX10_equivalent_185 : decode cX10_equivalent 185 = .ok (.iload 4, 2) := by decide +kernel
theorem dX10_equivalent_187 : decode cX10_equivalent 187 = .ok (.invokestatic 84, 3) := by decide +kernel
theorem dX10_equivalent_190 : decode cX10_equivalent 190 = .ok (.iaload, 1) := by decide +kernel
theorem dX10_equivalent_191 : decode cX10_equivalent 191 = .ok (.iadd, 1) := by decide +kernel
theorem dX10_equivalent_192 : decode cX10_equivalent 192 = .ok (.i2l, 1) := by decide +kernel
theorem dX10_equivalent_193 : decode cX10_equivalent 193 = .ok (.lcmp, 1) := by decide +kernel
theorem dX10_equivalent_194 : decode cX10_equivalent 194 = .ok (.ifCond .ne 7, 3) := by decide +kernel
theorem dX10_equivalent_197 : decode cX10_equivalent 197 = .ok (.iconst 1, 1) := by decide +kernel
theorem dX10_equivalent_198 : decode cX10_equivalent 198 = .ok (.goto 4, 3) := by decide +kernel
theorem dX10_equivalent_201 : decode cX10_equivalent 201 = .ok (.iconst 0, 1) := by decide +kernel
theorem dX10_equivalent_202 : decode cX10_equivalent 202 = .ok (.istore_n 1, 1) := by decide +kernel
theorem dX10_equivalent_203 : decode cX10_equivalent 203 = .ok (.iinc 2 1, 3) := by decide +kernel
theorem dX10_equivalent_206 : decode cX10_equivalent 206 = .ok (.iinc 4 1, 3) := by decide +kernel
theorem dX10_equivalent_209 : decode cX10_equivalent 209 = .ok (.goto (-58), 3) := by decide +kernel
theorem dX10_equivalent_212 : decode cX10_equivalent 212 = .ok (.iinc 3 1, 3) := by decide +kernel
end
section
theorem dX10_equivalent_215 : decode cX10_equivalent 215 = .ok (.goto (-77), 3) := by decide +kernel
theorem dX10_equivalent_218 : decode cX10_equivalent 218 = .ok (.iload_n 1, 1) := by decide +kernel
theorem dX10_equivalent_219 : decode cX10_equivalent 219 = .ok (.ireturn, 1) := by decide +kernel
theorem dX10_isStrict_0 : decode cX10_isStrict 0 = .ok (.iconst 0, 1) := by decide +kernel
theorem dX10_isStrict_1 : decode cX10_isStrict 1 = .ok (.istore_n 3, 1) := by decide +kernel
theorem dX10_isStrict_2 : decode cX10_isStrict 2 = .ok (.iconst 1, 1) := by decide +kernel
theorem dX10_isStrict_3 : decode cX10_isStrict 3 = .ok (.istore 4, 2) := by decide +kernel
theorem dX10_isStrict_5 : decode cX10_isStrict 5 = .ok (.aload_n 0, 1) := by decide +kernel
theorem dX10_isStrict_6 : decode cX10_isStrict 6 = .ok (.iconst 1, 1) := by decide +kernel
theorem dX10_isStrict_7 : decode cX10_isStrict 7 = .ok (.invokevirtual 88, 3) := by decide +kernel
theorem dX10_isStrict_10 : decode cX10_isStrict 10 = .ok (.bipush 7, 2) := by decide +kernel
theorem dX10_isStrict_12 : decode cX10_isStrict 12 = .ok (.istore 5, 2) := by decide +kernel
theorem dX10_isStrict_14 : decode cX10_isStrict 14 = .ok (.iload 5, 2) := by decide +kernel
theorem dX10_isStrict_16 : decode cX10_isStrict 16 = .ok (.ifCond .lt 177, 3) := by decide +kernel
theorem dX10_isStrict_19 : decode cX10_isStrict 19 = .ok (.aload_n 0, 1) := by decide +kernel
theorem dX10_isStrict_20 : decode cX10_isStrict 20 = .ok (.iload_n 1, 1) := by decide +kernel
theorem dX10_isStrict_21 : decode cX10_isStrict 21 = .ok (.iload 5, 2) := by decide +kernel
theorem dX10_isStrict_23 : decode cX10_isStrict 23 = .ok (.invokevirtual 73, 3) := by decide +kernel
theorem dX10_isStrict_26 : decode cX10_isStrict 26 = .ok (.istore 6, 2) := by decide +kernel
theorem dX10_isStrict_28 : decode cX10_isStrict 28 = .ok (.iload 6, 2) := by decide +kernel
theorem dX10_isStrict_30 : decode cX10_isStrict 30 = .ok (.aload_n 0, 1) := by decide +kernel
theorem dX10_isStrict_31 : decode cX10_isStrict 31 = .ok (.iload_n 2, 1) := by decide +kernel
theorem dX10_isStrict_32 : decode cX10_isStrict 32 = .ok (.iload 5, 2) := by decide +kernel
theorem dX10_isStrict_34 : decode cX10_isStrict 34 = .ok (.invokevirtual 73, 3) := by decide +kernel
theorem dX10_isStrict_37 : decode cX10_isStrict 37 = .ok (.if_icmp .ge 150, 3) := by decide +kernel
theorem dX10_isStrict_40 : decode cX10_isStrict 40 = .ok (.aload_n 0, 1) := by decide +kernel
theorem dX10_isStrict_41 : decode cX10_isStrict 41 = .ok (.getfield 19, 3) := by decide +kernel
theorem dX10_isStrict_44 : decode cX10_isStrict 44 = .ok (.iconst 1, 1) := by decide +kernel
theorem dX10_isStrict_45 : decode cX10_isStrict 45 = .ok (.iload 5, 2) := by decide +kernel
theorem dX10_isStrict_47 : decode cX10_isStrict 47 = .ok (.iload 6, 2) := by decide +kernel
theorem dX10_isStrict_49 : decode cX10_isStrict 49 = .ok (.invokestatic 84, 3) := by decide +kernel
theorem dX10_isStrict_52 : decode cX10_isStrict 52 = .ok (.aload_n 0, 1) := by decide +kernel
theorem dX10_isStrict_53 : decode cX10_isStrict 53 = .ok (.getfield 29, 3) := by decide +kernel
theorem dX10_isStrict_56 : decode cX10_isStrict 56 = .ok (.iload_n 3, 1) := by decide +kernel
theorem dX10_isStrict_57 : decode cX10_isStrict 57 = .ok (.iaload, 1) := by decide +kernel
theorem dX10_isStrict_58 : decode cX10_isStrict 58 = .ok (.iastore, 1) := by decide +kernel
theorem dX10_isStrict_59 : decode cX10_isStrict 59 = .ok (.iload 4, 2) := by decide +kernel
theorem dX10_isStrict_61 : decode cX10_isStrict 61 = .ok (.ifCond .eq 43, 3) := by decide +kernel
theorem dX10_isStrict_64 : decode cX10_isStrict 64 = .ok (.iload 6, 2) := by decide +kernel
theorem dX10_isStrict_66 : decode cX10_isStrict 66 = .ok (.aload_n 0, 1) := by decide +kernel
theorem dX10_isStrict_67 : decode cX10_isStrict 67 = .ok (.iload_n 1, 1) := by decide +kernel
theorem dX10_isStrict_68 : decode cX10_isStrict 68 = .ok (.iload 5, 2) := by decide +kernel
theorem dX10_isStrict_70 : decode cX10_isStrict 70 = .ok (.invokevirtual 73, 3) := by decide +kernel
theorem dX10_isStrict_73 : decode cX10_isStrict 73 = .ok (.if_icmp .eq 27, 3) := by decide +kernel
theorem dX10_isStrict_76 : decode cX10_isStrict 76 = .ok (.aload_n 0, 1) := by decide +kernel
theorem dX10_isStrict_77 : decode cX10_isStrict 77 = .ok (.getfield 19, 3) := by decide +kernel
theorem dX10_isStrict_80 : decode cX10_isStrict 80 = .ok (.iconst 1, 1) := by decide +kernel
theorem dX10_isStrict_81 : decode cX10_isStrict 81 = .ok (.iload 5, 2) := by decide +kernel
theorem dX10_isStrict_83 : decode cX10_isStrict 83 = .ok (.iload 6, 2) := by decide +kernel
theorem dX10_isStrict_85 : decode cX10_isStrict 85 = .ok (.iconst 1, 1) := by decide +kernel
theorem dX10_isStrict_86 : decode cX10_isStrict 86 = .ok (.isub, 1) := by decide +kernel
theorem dX10_isStrict_87 : decode cX10_isStrict 87 = .ok (.invokestatic 84, 3) := by decide +kernel
theorem dX10_isStrict_90 : decode cX10_isStrict 90 = .ok (.iaload, 1) := by decide +kernel
theorem dX10_isStrict_91 : decode cX10_isStrict 91 = .ok (.aload_n 0, 1) := by decide +kernel
theorem dX10_isStrict_92 : decode cX10_isStrict 92 = .ok (.getfield 29, 3) := by decide +kernel
theorem dX10_isStrict_95 : decode cX10_isStrict 95 = .ok (.iload_n 3, 1) := by decide +kernel
theorem dX10_isStrict_96 : decode cX10_isStrict 96 = .ok (.iaload, 1) := by decide +kernel
theorem dX10_isStrict_97 : decode cX10_isStrict 97 = .ok (.if_icmp .gt 7, 3) := by decide +kernel
theorem dX10_isStrict_100 : decode cX10_isStrict 100 = .ok (.iconst 1, 1) := by decide +kernel
theorem dX10_isStrict_101 : decode cX10_isStrict 101 = .ok (.goto 4, 3) := by decide +kernel
theorem dX10_isStrict_104 : decode cX10_isStrict 104 = .ok (.iconst 0, 1) := by decide +kernel
theorem dX10_isStrict_105 : decode cX10_isStrict 105 = .ok (.istore 4, 2) := by decide +kernel
theorem dX10_isStrict_107 : decode cX10_isStrict 107 = .ok (.iload 4, 2) := by decide +kernel
theorem dX10_isStrict_109 : decode cX10_isStrict 109 = .ok (.ifCond .eq 66, 3) := by decide +kernel
theorem dX10_isStrict_112 : decode cX10_isStrict 112 = .ok (.iload 5, 2) := by decide +kernel
theorem dX10_isStrict_114 : decode cX10_isStrict 114 = .ok (.bipush 7, 2) := by decide +kernel
theorem dX10_isStrict_116 : decode cX10_isStrict 116 = .ok (.if_icmp .eq 55, 3) := by decide +kernel
theorem dX10_isStrict_119 : decode cX10_isStrict 119 = .ok (.iload 6, 2) := by decide +kernel
theorem dX10_isStrict_121 : decode cX10_isStrict 121 = .ok (.aload_n 0, 1) := by decide +kernel
theorem dX10_isStrict_122 : decode cX10_isStrict 122 = .ok (.iload_n 1, 1) := by decide +kernel
theorem dX10_isStrict_123 : decode cX10_isStrict 123 = .ok (.iload 5, 2) := by decide +kernel
theorem dX10_isStrict_125 : decode cX10_isStrict 125 = .ok (.iconst 1, 1) := by decide +kernel
theorem dX10_isStrict_126 : decode cX10_isStrict 126 = .ok (.iadd, 1) := by decide +kernel
theorem dX10_isStrict_127 : decode cX10_isStrict 127 = .ok (.invokevirtual 73, 3) := by decide +kernel
theorem dX10_isStrict_130 : decode cX10_isStrict 130 = .ok (.if_icmp .lt 41, 3) := by decide +kernel
theorem dX10_isStrict_133 : decode cX10_isStrict 133 = .ok (.iload 6, 2) := by decide +kernel
theorem dX10_isStrict_135 : decode cX10_isStrict 135 = .ok (.aload_n 0, 1) := by decide +kernel
theorem dX10_isStrict_136 : decode cX10_isStrict 136 = .ok (.iload_n 2, 1) := by decide +kernel
theorem dX10_isStrict_137 : decode cX10_isStrict 137 = .ok (.iload 5, 2) := by decide +kernel
theorem dX10_isStrict_139 : decode cX10_isStrict 139 = .ok (.iconst 1, 1) := by decide +kernel
theorem dX10_isStrict_140 : decode cX10_isStrict 140 = .ok (.iadd, 1) := by decide +kernel
theorem dX10_isStrict_141 : decode cX10_isStrict 141 = .ok (.invokevirtual 73, 3) := by decide +kernel
theorem dX10_isStrict_144 : decode cX10_isStrict 144 = .ok (.if_icmp .ge 27, 3) := by decide +kernel
theorem dX10_isStrict_147 : decode cX10_isStrict 147 = .ok (.aload_n 0, 1) := by decide +kernel
theorem dX10_isStrict_148 : decode cX10_isStrict 148 = .ok (.getfield 19, 3) := by decide +kernel
theorem dX10_isStrict_151 : decode cX10_isStrict 151 = .ok (.iconst 1, 1) := by decide +kernel
theorem dX10_isStrict_152 : decode cX10_isStrict 152 = .ok (.iload 5, 2) := by decide +kernel
theorem dX10_isStrict_154 : decode cX10_isStrict 154 = .ok (.iconst 1, 1) := by decide +kernel
theorem dX10_isStrict_155 : decode cX10_isStrict 155 = .ok (.iadd, 1) := by decide +kernel
theorem dX10_isStrict_156 : decode cX10_isStrict 156 = .ok (.iload 6, 2) := by decide +kernel
theorem dX10_isStrict_158 : decode cX10_isStrict 158 = .ok (.invokestatic 84, 3) := by decide +kernel
theorem dX10_isStrict_161 : decode cX10_isStrict 161 = .ok (.iaload, 1) := by decide +kernel
theorem dX10_isStrict_162 : decode cX10_isStrict 162 = .ok (.aload_n 0, 1) := by decide +kernel
theorem dX10_isStrict_163 : decode cX10_isStrict 163 = .ok (.getfield 29, 3) := by decide +kernel
theorem dX10_isStrict_166 : decode cX10_isStrict 166 = .ok (.iload_n 3, 1) := by decide +kernel
theorem dX10_isStrict_167 : decode cX10_isStrict 167 = .ok (.iaload, 1) := by decide +kernel
theorem dX10_isStrict_168 : decode cX10_isStrict 168 = .ok (.if_icmp .le 7, 3) := by decide +kernel
theorem dX10_isStrict_171 : decode cX10_isStrict 171 = .ok (.iconst 1, 1) := by decide +kernel
theorem dX10_isStrict_172 : decode cX10_isStrict 172 = .ok (.goto 4, 3) := by decide +kernel
theorem dX10_isStrict_175 : decode cX10_isStrict 175 = .ok (.iconst 0, 1) := by decide +kernel
theorem dX10_isStrict_176 : decode cX10_isStrict 176 = .ok (.istore 4, 2) := by decide +kernel
theorem dX10_isStrict_178 : decode cX10_isStrict 178 = .ok (.iinc 3 1, 3) := by decide +kernel
theorem dX10_isStrict_181 : decode cX10_isStrict 181 = .ok (.iinc 6 1, 3) := by decide +kernel
theorem dX10_isStrict_184 : decode cX10_isStrict 184 = .ok (.goto (-156), 3) := by decide +kernel
theorem dX10_isStrict_187 : decode cX10_isStrict 187 = .ok (.iinc 5 (-1), 3) := by decide +kernel
theorem dX10_isStrict_190 : decode cX10_isStrict 190 = .ok (.goto (-176), 3) := by decide +kernel
theorem dX10_isStrict_193 : decode cX10_isStrict 193 = .ok (.iload 4, 2) := by decide +kernel
theorem dX10_isStrict_195 : decode cX10_isStrict 195 = .ok (.ireturn, 1) := by decide +kernel
theorem dX10_isWithin_0 : decode cX10_isWithin 0 = .ok (.iconst 1, 1) := by decide +kernel
theorem dX10_isWithin_1 : decode cX10_isWithin 1 = .ok (.istore_n 3, 1) := by decide +kernel
theorem dX10_isWithin_2 : decode cX10_isWithin 2 = .ok (.iconst 0, 1) := by decide +kernel
theorem dX10_isWithin_3 : decode cX10_isWithin 3 = .ok (.istore 4, 2) := by decide +kernel
theorem dX10_isWithin_5 : decode cX10_isWithin 5 = .ok (.iload 4, 2) := by decide +kernel
theorem dX10_isWithin_7 : decode cX10_isWithin 7 = .ok (.bipush 8, 2) := by decide +kernel
theorem dX10_isWithin_9 : decode cX10_isWithin 9 = .ok (.if_icmp .ge 36, 3) := by decide +kernel
theorem dX10_isWithin_12 : decode cX10_isWithin 12 = .ok (.iload_n 3, 1) := by decide +kernel
theorem dX10_isWithin_13 : decode cX10_isWithin 13 = .ok (.ifCond .eq 24, 3) := by decide +kernel
theorem dX10_isWithin_16 : decode cX10_isWithin 16 = .ok (.aload_n 0, 1) := by decide +kernel
theorem dX10_isWithin_17 : decode cX10_isWithin 17 = .ok (.iload_n 1, 1) := by decide +kernel
theorem dX10_isWithin_18 : decode cX10_isWithin 18 = .ok (.iload 4, 2) := by decide +kernel
theorem dX10_isWithin_20 : decode cX10_isWithin 20 = .ok (.invokevirtual 73, 3) := by decide +kernel
theorem dX10_isWithin_23 : decode cX10_isWithin 23 = .ok (.aload_n 0, 1) := by decide +kernel
theorem dX10_isWithin_24 : decode cX10_isWithin 24 = .ok (.iload_n 2, 1) := by decide +kernel
theorem dX10_isWithin_25 : decode cX10_isWithin 25 = .ok (.iload 4, 2) := by decide +kernel
theorem dX10_isWithin_27 : decode cX10_isWithin 27 = .ok (.invokevirtual 73, 3) := by decide +kernel
theorem dX10_isWithin_30 : decode cX10_isWithin 30 = .ok (.if_icmp .gt 7, 3) := by decide +kernel
theorem dX10_isWithin_33 : decode cX10_isWithin 33 = .ok (.iconst 1, 1) := by decide +kernel
theorem dX10_isWithin_34 : decode cX10_isWithin 34 = .ok (.goto 4, 3) := by decide +kernel
theorem dX10_isWithin_37 : decode cX10_isWithin 37 = .ok (.iconst 0, 1) := by decide +kernel
theorem dX10_isWithin_38 : decode cX10_isWithin 38 = .ok (.istore_n 3, 1) := by decide +kernel
theorem dX10_isWithin_39 : decode cX10_isWithin 39 = .ok (.iinc 4 1, 3) := by decide +kernel
theorem dX10_isWithin_42 : decode cX10_isWithin 42 = .ok (.goto (-37), 3) := by decide +kernel
theorem dX10_isWithin_45 : decode cX10_isWithin 45 = .ok (.iload_n 3, 1) := by decide +kernel
theorem dX10_isWithin_46 : decode cX10_isWithin 46 = .ok (.ireturn, 1) := by decide +kernel
theorem dX10_rectify_0 : decode cX10_rectify 0 = .ok (.aload_n 0, 1) := by decide +kernel
theorem dX10_rectify_1 : decode cX10_rectify 1 = .ok (.iload_n 1, 1) := by decide +kernel
theorem dX10_rectify_2 : decode cX10_rectify 2 = .ok (.invokestatic 67, 3) := by decide +kernel
theorem dX10_rectify_5 : decode cX10_rectify 5 = .ok (.ifCond .eq 17, 3) := by decide +kernel
theorem dX10_rectify_8 : decode cX10_rectify 8 = .ok (.iload_n 2, 1) := by decide +kernel
theorem dX10_rectify_9 : decode cX10_rectify 9 = .ok (.invokestatic 67, 3) := by decide +kernel
theorem dX10_rectify_12 : decode cX10_rectify 12 = .ok (.ifCond .eq 10, 3) := by decide +kernel
theorem dX10_rectify_15 : decode cX10_rectify 15 = .ok (.iload_n 3, 1) := by decide +kernel
theorem dX10_rectify_16 : decode cX10_rectify 16 = .ok (.invokestatic 81, 3) := by decide +kernel
theorem dX10_rectify_19 : decode cX10_rectify 19 = .ok (.ifCond .ne 7, 3) := by decide +kernel
theorem dX10_rectify_22 : decode cX10_rectify 22 = .ok (.iconst 1, 1) := by decide +kernel
theorem dX10_rectify_23 : decode cX10_rectify 23 = .ok (.goto 52, 3) := by decide +kernel
theorem dX10_rectify_26 : decode cX10_rectify 26 = .ok (.iload 4, 2) := by decide +kernel
theorem dX10_rectify_28 : decode cX10_rectify 28 = .ok (.ifCond .lt 18, 3) := by decide +kernel
theorem dX10_rectify_31 : decode cX10_rectify 31 = .ok (.iload 4, 2) := by decide +kernel
theorem dX10_rectify_33 : decode cX10_rectify 33 = .ok (.iconst 2, 1) := by decide +kernel
theorem dX10_rectify_34 : decode cX10_rectify 34 = .ok (.if_icmp .gt 12, 3) := by decide +kernel
theorem dX10_rectify_37 : decode cX10_rectify 37 = .ok (.aload_n 0, 1) := by decide +kernel
theorem dX10_rectify_38 : decode cX10_rectify 38 = .ok (.iload_n 1, 1) := by decide +kernel
theorem dX10_rectify_39 : decode cX10_rectify 39 = .ok (.iload_n 2, 1) := by decide +kernel
theorem dX10_rectify_40 : decode cX10_rectify 40 = .ok (.invokevirtual 127, 3) := by decide +kernel
theorem dX10_rectify_43 : decode cX10_rectify 43 = .ok (.ifCond .ne 7, 3) := by decide +kernel
theorem dX10_rectify_46 : decode cX10_rectify 46 = .ok (.iconst 2, 1) := by decide +kernel
theorem dX10_rectify_47 : decode cX10_rectify 47 = .ok (.goto 28, 3) := by decide +kernel
theorem dX10_rectify_50 : decode cX10_rectify 50 = .ok (.aload_n 0, 1) := by decide +kernel
theorem dX10_rectify_51 : decode cX10_rectify 51 = .ok (.getfield 16, 3) := by decide +kernel
theorem dX10_rectify_54 : decode cX10_rectify 54 = .ok (.iload_n 3, 1) := by decide +kernel
theorem dX10_rectify_55 : decode cX10_rectify 55 = .ok (.iaload, 1) := by decide +kernel
theorem dX10_rectify_56 : decode cX10_rectify 56 = .ok (.aload_n 0, 1) := by decide +kernel
theorem dX10_rectify_57 : decode cX10_rectify 57 = .ok (.iload_n 2, 1) := by decide +kernel
theorem dX10_rectify_58 : decode cX10_rectify 58 = .ok (.invokevirtual 77, 3) := by decide +kernel
theorem dX10_rectify_61 : decode cX10_rectify 61 = .ok (.aload_n 0, 1) := by decide +kernel
theorem dX10_rectify_62 : decode cX10_rectify 62 = .ok (.iload_n 1, 1) := by decide +kernel
theorem dX10_rectify_63 : decode cX10_rectify 63 = .ok (.invokevirtual 77, 3) := by decide +kernel
theorem dX10_rectify_66 : decode cX10_rectify 66 = .ok (.isub, 1) := by decide +kernel
theorem dX10_rectify_67 : decode cX10_rectify 67 = .ok (.if_icmp .eq 7, 3) := by decide +kernel
theorem dX10_rectify_70 : decode cX10_rectify 70 = .ok (.iconst 3, 1) := by decide +kernel
theorem dX10_rectify_71 : decode cX10_rectify 71 = .ok (.goto 4, 3) := by decide +kernel
theorem dX10_rectify_74 : decode cX10_rectify 74 = .ok (.iconst 0, 1) := by decide +kernel
theorem dX10_rectify_75 : decode cX10_rectify 75 = .ok (.putfield 63, 3) := by decide +kernel
theorem dX10_rectify_78 : decode cX10_rectify 78 = .ok (.aload_n 0, 1) := by decide +kernel
theorem dX10_rectify_79 : decode cX10_rectify 79 = .ok (.getfield 63, 3) := by decide +kernel
theorem dX10_rectify_82 : decode cX10_rectify 82 = .ok (.ifCond .le 5, 3) := by decide +kernel
theorem dX10_rectify_85 : decode cX10_rectify 85 = .ok (.iconst 0, 1) := by decide +kernel
theorem dX10_rectify_86 : decode cX10_rectify 86 = .ok (.ireturn, 1) := by decide +kernel
theorem dX10_rectify_87 : decode cX10_rectify 87 = .ok (.aload_n 0, 1) := by decide +kernel
theorem dX10_rectify_88 : decode cX10_rectify 88 = .ok (.iload_n 3, 1) := by decide +kernel
theorem dX10_rectify_89 : decode cX10_rectify 89 = .ok (.invokevirtual 117, 3) := by decide +kernel
theorem dX10_rectify_92 : decode cX10_rectify 92 = .ok (.aload_n 0, 1) := by decide +kernel
theorem dX10_rectify_93 : decode cX10_rectify 93 = .ok (.iload_n 1, 1) := by decide +kernel
theorem dX10_rectify_94 : decode cX10_rectify 94 = .ok (.iload_n 2, 1) := by decide +kernel
theorem dX10_rectify_95 : decode cX10_rectify 95 = .ok (.invokevirtual 131, 3) := by decide +kernel
theorem dX10_rectify_98 : decode cX10_rectify 98 = .ok (.ifCond .ne 9, 3) := by decide +kernel
theorem dX10_rectify_101 : decode cX10_rectify 101 = .ok (.aload_n 0, 1) := by decide +kernel
theorem dX10_rectify_102 : decode cX10_rectify 102 = .ok (.iconst 4, 1) := by decide +kernel
theorem dX10_rectify_103 : decode cX10_rectify 103 = .ok (.invokevirtual 134, 3) := by decide +kernel
theorem dX10_rectify_106 : decode cX10_rectify 106 = .ok (.ireturn, 1) := by decide +kernel
theorem dX10_rectify_107 : decode cX10_rectify 107 = .ok (.aload_n 0, 1) := by decide +kernel
theorem dX10_rectify_108 : decode cX10_rectify 108 = .ok (.iconst 0, 1) := by decide +kernel
theorem dX10_rectify_109 : decode cX10_rectify 109 = .ok (.aload_n 0, 1) := by decide +kernel
theorem dX10_rectify_110 : decode cX10_rectify 110 = .ok (.getfield 16, 3) := by decide +kernel
theorem dX10_rectify_113 : decode cX10_rectify 113 = .ok (.iload_n 3, 1) := by decide +kernel
theorem dX10_rectify_114 : decode cX10_rectify 114 = .ok (.iaload, 1) := by decide +kernel
theorem dX10_rectify_115 : decode cX10_rectify 115 = .ok (.invokevirtual 120, 3) := by decide +kernel
theorem dX10_rectify_118 : decode cX10_rectify 118 = .ok (.aload_n 0, 1) := by decide +kernel
theorem dX10_rectify_119 : decode cX10_rectify 119 = .ok (.iconst 1, 1) := by decide +kernel
theorem dX10_rectify_120 : decode cX10_rectify 120 = .ok (.putfield 25, 3) := by decide +kernel
theorem dX10_rectify_123 : decode cX10_rectify 123 = .ok (.aload_n 0, 1) := by decide +kernel
theorem dX10_rectify_124 : decode cX10_rectify 124 = .ok (.iload_n 1, 1) := by decide +kernel
theorem dX10_rectify_125 : decode cX10_rectify 125 = .ok (.invokevirtual 77, 3) := by decide +kernel
theorem dX10_rectify_128 : decode cX10_rectify 128 = .ok (.ireturn, 1) := by decide +kernel
theorem dX10_isStandard_0 : decode cX10_isStandard 0 = .ok (.aload_n 0, 1) := by decide +kernel
theorem dX10_isStandard_1 : decode cX10_isStandard 1 = .ok (.iconst 0, 1) := by decide +kernel
theorem dX10_isStandard_2 : decode cX10_isStandard 2 = .ok (.invokevirtual 104, 3) := by decide +kernel
theorem dX10_isStandard_5 : decode cX10_isStandard 5 = .ok (.istore_n 1, 1) := by decide +kernel
theorem dX10_isStandard_6 : decode cX10_isStandard 6 = .ok (.iconst 0, 1) := by decide +kernel
theorem dX10_isStandard_7 : decode cX10_isStandard 7 = .ok (.istore_n 2, 1) := by decide +kernel
theorem dX10_isStandard_8 : decode cX10_isStandard 8 = .ok (.iconst 1, 1) := by decide +kernel
theorem dX10_isStandard_9 : decode cX10_isStandard 9 = .ok (.istore_n 3, 1) := by decide +kernel
theorem dX10_isStandard_10 : decode cX10_isStandard 10 = .ok (.iconst 0, 1) := by decide +kernel
theorem dX10_isStandard_11 : decode cX10_isStandard 11 = .ok (.istore 4, 2) := by decide +kernel
theorem dX10_isStandard_13 : decode cX10_isStandard 13 = .ok (.iload 4, 2) := by decide +kernel
theorem dX10_isStandard_15 : decode cX10_isStandard 15 = .ok (.bipush 24, 2) := by decide +kernel
theorem dX10_isStandard_17 : decode cX10_isStandard 17 = .ok (.if_icmp .ge 77, 3) := by decide +kernel
theorem dX10_isStandard_20 : decode cX10_isStandard 20 = .ok (.iconst 0, 1) := by decide +kernel
theorem dX10_isStandard_21 : decode cX10_isStandard 21 = .ok (.istore 5, 2) := by decide +kernel
theorem dX10_isStandard_23 : decode cX10_isStandard 23 = .ok (.iload 5, 2) := by decide +kernel
theorem dX10_isStandard_25 : decode cX10_isStandard 25 = .ok (.aload_n 0, 1) := by decide +kernel
theorem dX10_isStandard_26 : decode cX10_isStandard 26 = .ok (.getfield 22, 3) := by decide +kernel
theorem dX10_isStandard_29 : decode cX10_isStandard 29 = .ok (.iload 4, 2) := by decide +kernel
theorem dX10_isStandard_31 : decode cX10_isStandard 31 = .ok (.iaload, 1) := by decide +kernel
theorem dX10_isStandard_32 : decode cX10_isStandard 32 = .ok (.if_icmp .ge 56, 3) := by decide +kernel
theorem dX10_isStandard_35 : decode cX10_isStandard 35 = .ok (.aload_n 0, 1) := by decide +kernel
theorem dX10_isStandard_36 : decode cX10_isStandard 36 = .ok (.getfield 19, 3) := by decide +kernel
theorem dX10_isStandard_39 : decode cX10_isStandard 39 = .ok (.iconst 0, 1) := by decide +kernel
theorem dX10_isStandard_40 : decode cX10_isStandard 40 = .ok (.iload 4, 2) := by decide +kernel
theorem dX10_isStandard_42 : decode cX10_isStandard 42 = .ok (.iload 5, 2) := by decide +kernel
theorem dX10_isStandard_44 : decode cX10_isStandard 44 = .ok (.invokestatic 84, 3) := by decide +kernel
theorem dX10_isStandard_47 : decode cX10_isStandard 47 = .ok (.iaload, 1) := by decide +kernel
theorem dX10_isStandard_48 : decode cX10_isStandard 48 = .ok (.istore 6, 2) := by decide +kernel
theorem dX10_isStandard_50 : decode cX10_isStandard 50 = .ok (.iload_n 3, 1) := by decide +kernel
theorem dX10_isStandard_51 : decode cX10_isStandard 51 = .ok (.ifCond .eq 22, 3) := by decide +kernel
theorem dX10_isStandard_54 : decode cX10_isStandard 54 = .ok (.iload 6, 2) := by decide +kernel
theorem dX10_isStandard_56 : decode cX10_isStandard 56 = .ok (.iload_n 1, 1) := by decide +kernel
theorem dX10_isStandard_57 : decode cX10_isStandard 57 = .ok (.if_icmp .gt 16, 3) := by decide +kernel
theorem dX10_isStandard_60 : decode cX10_isStandard 60 = .ok (.iload_n 2, 1) := by decide +kernel
theorem dX10_isStandard_61 : decode cX10_isStandard 61 = .ok (.iload 6, 2) := by decide +kernel
theorem dX10_isStandard_63 : decode cX10_isStandard 63 = .ok (.ishr, 1) := by decide +kernel
theorem dX10_isStandard_64 : decode cX10_isStandard 64 = .ok (.iconst 1, 1) := by decide +kernel
theorem dX10_isStandard_65 : decode cX10_isStandard 65 = .ok (.iand, 1) := by decide +kernel
theorem dX10_isStandard_66 : decode cX10_isStandard 66 = .ok (.ifCond .ne 7, 3) := by decide +kernel
theorem dX10_isStandard_69 : decode cX10_isStandard 69 = .ok (.iconst 1, 1) := by decide +kernel
theorem dX10_isStandard_70 : decode cX10_isStandard 70 = .ok (.goto 4, 3) := by decide +kernel
theorem dX10_isStandard_73 : decode cX10_isStandard 73 = .ok (.iconst 0, 1) := by decide +kernel
theorem dX10_isStandard_74 : decode cX10_isStandard 74 = .ok (.istore_n 3, 1) := by decide +kernel
theorem dX10_isStandard_75 : decode cX10_isStandard 75 = .ok (.iload_n 2, 1) := by decide +kernel
theorem dX10_isStandard_76 : decode cX10_isStandard 76 = .ok (.iconst 1, 1) := by decide +kernel
theorem dX10_isStandard_77 : decode cX10_isStandard 77 = .ok (.iload 6, 2) := by decide +kernel
theorem dX10_isStandard_79 : decode cX10_isStandard 79 = .ok (.ishl, 1) := by decide +kernel
theorem dX10_isStandard_80 : decode cX10_isStandard 80 = .ok (.ior, 1) := by decide +kernel
theorem dX10_isStandard_81 : decode cX10_isStandard 81 = .ok (.istore_n 2, 1) := by decide +kernel
theorem dX10_isStandard_82 : decode cX10_isStandard 82 = .ok (.iinc 5 1, 3) := by decide +kernel
theorem dX10_isStandard_85 : decode cX10_isStandard 85 = .ok (.goto (-62), 3) := by decide +kernel
theorem dX10_isStandard_88 : decode cX10_isStandard 88 = .ok (.iinc 4 1, 3) := by decide +kernel
theorem dX10_isStandard_91 : decode cX10_isStandard 91 = .ok (.goto (-78), 3) := by decide +kernel
theorem dX10_isStandard_94 : decode cX10_isStandard 94 = .ok (.iload_n 3, 1) := by decide +kernel
theorem dX10_isStandard_95 : decode cX10_isStandard 95 = .ok (.ireturn, 1) := by decide +kernel
theorem dX10_turn_0 : decode cX10_turn 0 = .ok (.aload_n 0, 1) := by decide +kernel
theorem dX10_turn_1 : decode cX10_turn 1 = .ok (.aload_n 0, 1) := by decide +kernel
theorem dX10_turn_2 : decode cX10_turn 2 = .ok (.invokevirtual 137, 3) := by decide +kernel
theorem dX10_turn_5 : decode cX10_turn 5 = .ok (.ifCond .eq 7, 3) := by decide +kernel
theorem dX10_turn_8 : decode cX10_turn 8 = .ok (.iconst 0, 1) := by decide +kernel
theorem dX10_turn_9 : decode cX10_turn 9 = .ok (.goto 4, 3) := by decide +kernel
theorem dX10_turn_12 : decode cX10_turn 12 = .ok (.iconst 1, 1) := by decide +kernel
theorem dX10_turn_13 : decode cX10_turn 13 = .ok (.putfield 63, 3) := by decide +kernel
theorem dX10_turn_16 : decode cX10_turn 16 = .ok (.aload_n 0, 1) := by decide +kernel
theorem dX10_turn_17 : decode cX10_turn 17 = .ok (.getfield 63, 3) := by decide +kernel
theorem dX10_turn_20 : decode cX10_turn 20 = .ok (.ifCond .le 4, 3) := by decide +kernel
theorem dX10_turn_23 : decode cX10_turn 23 = .ok (.return_, 1) := by decide +kernel
theorem dX10_turn_24 : decode cX10_turn 24 = .ok (.aload_n 0, 1) := by decide +kernel
theorem dX10_turn_25 : decode cX10_turn 25 = .ok (.invokevirtual 113, 3) := by decide +kernel
theorem dX10_turn_28 : decode cX10_turn 28 = .ok (.istore_n 1, 1) := by decide +kernel
theorem dX10_turn_29 : decode cX10_turn 29 = .ok (.iconst 0, 1) := by decide +kernel
theorem dX10_turn_30 : decode cX10_turn 30 = .ok (.istore_n 2, 1) := by decide +kernel
theorem dX10_turn_31 : decode cX10_turn 31 = .ok (.iload_n 2, 1) := by decide +kernel
theorem dX10_turn_32 : decode cX10_turn 32 = .ok (.iload_n 1, 1) := by decide +kernel
theorem dX10_turn_33 : decode cX10_turn 33 = .ok (.iconst 1, 1) := by decide +kernel
theorem dX10_turn_34 : decode cX10_turn 34 = .ok (.isub, 1) := by decide +kernel
theorem dX10_turn_35 : decode cX10_turn 35 = .ok (.iload_n 2, 1) := by decide +kernel
theorem dX10_turn_36 : decode cX10_turn 36 = .ok (.isub, 1) := by decide +kernel
theorem dX10_turn_37 : decode cX10_turn 37 = .ok (.if_icmp .ge 43, 3) := by decide +kernel
theorem dX10_turn_40 : decode cX10_turn 40 = .ok (.aload_n 0, 1) := by decide +kernel
theorem dX10_turn_41 : decode cX10_turn 41 = .ok (.getfield 29, 3) := by decide +kernel
theorem dX10_turn_44 : decode cX10_turn 44 = .ok (.iload_n 2, 1) := by decide +kernel
theorem dX10_turn_45 : decode cX10_turn 45 = .ok (.iaload, 1) := by decide +kernel
theorem dX10_turn_46 : decode cX10_turn 46 = .ok (.istore_n 3, 1) := by decide +kernel
theorem dX10_turn_47 : decode cX10_turn 47 = .ok (.aload_n 0, 1) := by decide +kernel
theorem dX10_turn_48 : decode cX10_turn 48 = .ok (.getfield 29, 3) := by decide +kernel
theorem dX10_turn_51 : decode cX10_turn 51 = .ok (.iload_n 2, 1) := by decide +kernel
theorem dX10_turn_52 : decode cX10_turn 52 = .ok (.aload_n 0, 1) := by decide +kernel
theorem dX10_turn_53 : decode cX10_turn 53 = .ok (.getfield 29, 3) := by decide +kernel
theorem dX10_turn_56 : decode cX10_turn 56 = .ok (.iload_n 1, 1) := by decide +kernel
theorem dX10_turn_57 : decode cX10_turn 57 = .ok (.iconst 1, 1) := by decide +kernel
theorem dX10_turn_58 : decode cX10_turn 58 = .ok (.isub, 1) := by decide +kernel
theorem dX10_turn_59 : decode cX10_turn 59 = .ok (.iload_n 2, 1) := by decide +kernel
theorem dX10_turn_60 : decode cX10_turn 60 = .ok (.isub, 1) := by decide +kernel
theorem dX10_turn_61 : decode cX10_turn 61 = .ok (.iaload, 1) := by decide +kernel
theorem dX10_turn_62 : decode cX10_turn 62 = .ok (.iastore, 1) := by decide +kernel
theorem dX10_turn_63 : decode cX10_turn 63 = .ok (.aload_n 0, 1) := by decide +kernel
theorem dX10_turn_64 : decode cX10_turn 64 = .ok (.getfield 29, 3) := by decide +kernel
theorem dX10_turn_67 : decode cX10_turn 67 = .ok (.iload_n 1, 1) := by decide +kernel
theorem dX10_turn_68 : decode cX10_turn 68 = .ok (.iconst 1, 1) := by decide +kernel
theorem dX10_turn_69 : decode cX10_turn 69 = .ok (.isub, 1) := by decide +kernel
theorem dX10_turn_70 : decode cX10_turn 70 = .ok (.iload_n 2, 1) := by decide +kernel
theorem dX10_turn_71 : decode cX10_turn 71 = .ok (.isub, 1) := by decide +kernel
theorem dX10_turn_72 : decode cX10_turn 72 = .ok (.iload_n 3, 1) := by decide +kernel
theorem dX10_turn_73 : decode cX10_turn 73 = .ok (.iastore, 1) := by decide +kernel
theorem dX10_turn_74 : decode cX10_turn 74 = .ok (.iinc 2 1, 3) := by decide +kernel
theorem dX10_turn_77 : decode cX10_turn 77 = .ok (.goto (-46), 3) := by decide +kernel
theorem dX10_turn_80 : decode cX10_turn 80 = .ok (.iconst 0, 1) := by decide +kernel
theorem dX10_turn_81 : decode cX10_turn 81 = .ok (.istore_n 2, 1) := by decide +kernel
theorem dX10_turn_82 : decode cX10_turn 82 = .ok (.iload_n 2, 1) := by decide +kernel
theorem dX10_turn_83 : decode cX10_turn 83 = .ok (.iload_n 1, 1) := by decide +kernel
theorem dX10_turn_84 : decode cX10_turn 84 = .ok (.if_icmp .ge 25, 3) := by decide +kernel
theorem dX10_turn_87 : decode cX10_turn 87 = .ok (.aload_n 0, 1) := by decide +kernel
theorem dX10_turn_88 : decode cX10_turn 88 = .ok (.getfield 29, 3) := by decide +kernel
theorem dX10_turn_91 : decode cX10_turn 91 = .ok (.iload_n 2, 1) := by decide +kernel
theorem dX10_turn_92 : decode cX10_turn 92 = .ok (.iload_n 1, 1) := by decide +kernel
theorem dX10_turn_93 : decode cX10_turn 93 = .ok (.iconst 1, 1) := by decide +kernel
theorem dX10_turn_94 : decode cX10_turn 94 = .ok (.iadd, 1) := by decide +kernel
theorem dX10_turn_95 : decode cX10_turn 95 = .ok (.aload_n 0, 1) := by decide +kernel
theorem dX10_turn_96 : decode cX10_turn 96 = .ok (.getfield 29, 3) := by decide +kernel
theorem dX10_turn_99 : decode cX10_turn 99 = .ok (.iload_n 2, 1) := by decide +kernel
theorem dX10_turn_100 : decode cX10_turn 100 = .ok (.iaload, 1) := by decide +kernel
theorem dX10_turn_101 : decode cX10_turn 101 = .ok (.isub, 1) := by decide +kernel
theorem dX10_turn_102 : decode cX10_turn 102 = .ok (.iastore, 1) := by decide +kernel
theorem dX10_turn_103 : decode cX10_turn 103 = .ok (.iinc 2 1, 3) := by decide +kernel
theorem dX10_turn_106 : decode cX10_turn 106 = .ok (.goto (-24), 3) := by decide +kernel
theorem dX10_turn_109 : decode cX10_turn 109 = .ok (.aload_n 0, 1) := by decide +kernel
theorem dX10_turn_110 : decode cX10_turn 110 = .ok (.iconst 0, 1) := by decide +kernel
theorem dX10_turn_111 : decode cX10_turn 111 = .ok (.iload_n 1, 1) := by decide +kernel
theorem dX10_turn_112 : decode cX10_turn 112 = .ok (.invokevirtual 120, 3) := by decide +kernel
theorem dX10_turn_115 : decode cX10_turn 115 = .ok (.aload_n 0, 1) := by decide +kernel
theorem dX10_turn_116 : decode cX10_turn 116 = .ok (.iconst 1, 1) := by decide +kernel
theorem dX10_turn_117 : decode cX10_turn 117 = .ok (.putfield 25, 3) := by decide +kernel
theorem dX10_turn_120 : decode cX10_turn 120 = .ok (.return_, 1) := by decide +kernel
theorem dX10_takeShape_0 : decode cX10_takeShape 0 = .ok (.iconst 0, 1) := by decide +kernel
theorem dX10_takeShape_1 : decode cX10_takeShape 1 = .ok (.istore_n 2, 1) := by decide +kernel
theorem dX10_takeShape_2 : decode cX10_takeShape 2 = .ok (.iload_n 2, 1) := by decide +kernel
theorem dX10_takeShape_3 : decode cX10_takeShape 3 = .ok (.bipush 9, 2) := by decide +kernel
theorem dX10_takeShape_5 : decode cX10_takeShape 5 = .ok (.if_icmp .ge 21, 3) := by decide +kernel
theorem dX10_takeShape_8 : decode cX10_takeShape 8 = .ok (.aload_n 0, 1) := by decide +kernel
theorem dX10_takeShape_9 : decode cX10_takeShape 9 = .ok (.getfield 35, 3) := by decide +kernel
theorem dX10_takeShape_12 : decode cX10_takeShape 12 = .ok (.iload_n 2, 1) := by decide +kernel
theorem dX10_takeShape_13 : decode cX10_takeShape 13 = .ok (.aload_n 0, 1) := by decide +kernel
theorem dX10_takeShape_14 : decode cX10_takeShape 14 = .ok (.iload_n 1, 1) := by decide +kernel
theorem dX10_takeShape_15 : decode cX10_takeShape 15 = .ok (.iload_n 2, 1) := by decide +kernel
theorem dX10_takeShape_16 : decode cX10_takeShape 16 = .ok (.invokevirtual 73, 3) := by decide +kernel
theorem dX10_takeShape_19 : decode cX10_takeShape 19 = .ok (.iastore, 1) := by decide +kernel
theorem dX10_takeShape_20 : decode cX10_takeShape 20 = .ok (.iinc 2 1, 3) := by decide +kernel
theorem dX10_takeShape_23 : decode cX10_takeShape 23 = .ok (.goto (-21), 3) := by decide +kernel
theorem dX10_takeShape_26 : decode cX10_takeShape 26 = .ok (.return_, 1) := by decide +kernel
theorem dX10_below_0 : decode cX10_below 0 = .ok (.iconst 0, 1) := by decide +kernel
theorem dX10_below_1 : decode cX10_below 1 = .ok (.istore_n 3, 1) := by decide +kernel
theorem dX10_below_2 : decode cX10_below 2 = .ok (.iload_n 1, 1) := by decide +kernel
theorem dX10_below_3 : decode cX10_below 3 = .ok (.iconst 1, 1) := by decide +kernel
theorem dX10_below_4 : decode cX10_below 4 = .ok (.iadd, 1) := by decide +kernel
theorem dX10_below_5 : decode cX10_below 5 = .ok (.iload_n 3, 1) := by decide +kernel
theorem dX10_below_6 : decode cX10_below 6 = .ok (.iadd, 1) := by decide +kernel
theorem dX10_below_7 : decode cX10_below 7 = .ok (.bipush 8, 2) := by decide +kernel
theorem dX10_below_9 : decode cX10_below 9 = .ok (.if_icmp .ge 23, 3) := by decide +kernel
theorem dX10_below_12 : decode cX10_below 12 = .ok (.aload_n 0, 1) := by decide +kernel
theorem dX10_below_13 : decode cX10_below 13 = .ok (.getfield 35, 3) := by decide +kernel
theorem dX10_below_16 : decode cX10_below 16 = .ok (.iload_n 1, 1) := by decide +kernel
theorem dX10_below_17 : decode cX10_below 17 = .ok (.iconst 1, 1) := by decide +kernel
theorem dX10_below_18 : decode cX10_below 18 = .ok (.iadd, 1) := by decide +kernel
theorem dX10_below_19 : decode cX10_below 19 = .ok (.iload_n 3, 1) := by decide +kernel
theorem dX10_below_20 : decode cX10_below 20 = .ok (.iadd, 1) := by decide +kernel
theorem dX10_below_21 : decode cX10_below 21 = .ok (.iaload, 1) := by decide +kernel
theorem dX10_below_22 : decode cX10_below 22 = .ok (.iload_n 2, 1) := by decide +kernel
theorem dX10_below_23 : decode cX10_below 23 = .ok (.if_icmp .le 9, 3) := by decide +kernel
theorem dX10_below_26 : decode cX10_below 26 = .ok (.iinc 3 1, 3) := by decide +kernel
theorem dX10_below_29 : decode cX10_below 29 = .ok (.goto (-27), 3) := by decide +kernel
theorem dX10_below_32 : decode cX10_below 32 = .ok (.iload_n 3, 1) := by decide +kernel
theorem dX10_below_33 : decode cX10_below 33 = .ok (.ireturn, 1) := by decide +kernel
theorem dX10_draw_0 : decode cX10_draw 0 = .ok (.aload_n 0, 1) := by decide +kernel
theorem dX10_draw_1 : decode cX10_draw 1 = .ok (.iload_n 1, 1) := by decide +kernel
theorem dX10_draw_2 : decode cX10_draw 2 = .ok (.invokestatic 67, 3) := by decide +kernel
theorem dX10_draw_5 : decode cX10_draw 5 = .ok (.ifCond .eq 7, 3) := by decide +kernel
theorem dX10_draw_8 : decode cX10_draw 8 = .ok (.iconst 0, 1) := by decide +kernel
theorem dX10_draw_9 : decode cX10_draw 9 = .ok (.goto 4, 3) := by decide +kernel
theorem dX10_draw_12 : decode cX10_draw 12 = .ok (.iconst 1, 1) := by decide +kernel
theorem dX10_draw_13 : decode cX10_draw 13 = .ok (.putfield 63, 3) := by decide +kernel
theorem dX10_draw_16 : decode cX10_draw 16 = .ok (.aload_n 0, 1) := by decide +kernel
theorem dX10_draw_17 : decode cX10_draw 17 = .ok (.getfield 63, 3) := by decide +kernel
theorem dX10_draw_20 : decode cX10_draw 20 = .ok (.ifCond .le 5, 3) := by decide +kernel
theorem dX10_draw_23 : decode cX10_draw 23 = .ok (.lconst 0, 1) := by decide +kernel
theorem dX10_draw_24 : decode cX10_draw 24 = .ok (.lreturn, 1) := by decide +kernel
theorem dX10_draw_25 : decode cX10_draw 25 = .ok (.aload_n 0, 1) := by decide +kernel
theorem dX10_draw_26 : decode cX10_draw 26 = .ok (.iload_n 1, 1) := by decide +kernel
theorem dX10_draw_27 : decode cX10_draw 27 = .ok (.invokevirtual 141, 3) := by decide +kernel
theorem dX10_draw_30 : decode cX10_draw 30 = .ok (.aload_n 0, 1) := by decide +kernel
theorem dX10_draw_31 : decode cX10_draw 31 = .ok (.iconst 0, 1) := by decide +kernel
theorem dX10_draw_32 : decode cX10_draw 32 = .ok (.invokevirtual 88, 3) := by decide +kernel
theorem dX10_draw_35 : decode cX10_draw 35 = .ok (.iconst 0, 1) := by decide +kernel
theorem dX10_draw_36 : decode cX10_draw 36 = .ok (.istore 4, 2) := by decide +kernel
theorem dX10_draw_38 : decode cX10_draw 38 = .ok (.iload 4, 2) := by decide +kernel
theorem dX10_draw_40 : decode cX10_draw 40 = .ok (.bipush 8, 2) := by decide +kernel
theorem dX10_draw_42 : decode cX10_draw 42 = .ok (.if_icmp .ge 23, 3) := by decide +kernel
theorem dX10_draw_45 : decode cX10_draw 45 = .ok (.aload_n 0, 1) := by decide +kernel
theorem dX10_draw_46 : decode cX10_draw 46 = .ok (.getfield 22, 3) := by decide +kernel
theorem dX10_draw_49 : decode cX10_draw 49 = .ok (.iload 4, 2) := by decide +kernel
theorem dX10_draw_51 : decode cX10_draw 51 = .ok (.aload_n 0, 1) := by decide +kernel
theorem dX10_draw_52 : decode cX10_draw 52 = .ok (.getfield 35, 3) := by decide +kernel
theorem dX10_draw_55 : decode cX10_draw 55 = .ok (.iload 4, 2) := by decide +kernel
theorem dX10_draw_57 : decode cX10_draw 57 = .ok (.iaload, 1) := by decide +kernel
theorem dX10_draw_58 : decode cX10_draw 58 = .ok (.iastore, 1) := by decide +kernel
theorem dX10_draw_59 : decode cX10_draw 59 = .ok (.iinc 4 1, 3) := by decide +kernel
theorem dX10_draw_62 : decode cX10_draw 62 = .ok (.goto (-24), 3) := by decide +kernel
theorem dX10_draw_65 : decode cX10_draw 65 = .ok (.lload_n 2, 1) := by decide +kernel
theorem dX10_draw_66 : decode cX10_draw 66 = .ok (.lstore 4, 2) := by decide +kernel
theorem dX10_draw_68 : decode cX10_draw 68 = .ok (.aload_n 0, 1) := by decide +kernel
theorem dX10_draw_69 : decode cX10_draw 69 = .ok (.iload_n 1, 1) := by decide +kernel
theorem dX10_draw_70 : decode cX10_draw 70 = .ok (.invokevirtual 77, 3) := by decide +kernel
theorem dX10_draw_73 : decode cX10_draw 73 = .ok (.istore 6, 2) := by decide +kernel
theorem dX10_draw_75 : decode cX10_draw 75 = .ok (.iload 6, 2) := by decide +kernel
theorem dX10_draw_77 : decode cX10_draw 77 = .ok (.ifCond .le 230, 3) := by decide +kernel
theorem dX10_draw_80 : decode cX10_draw 80 = .ok (.lload 4, 2) := by decide +kernel
theorem dX10_draw_82 : decode cX10_draw 82 = .ok (.ldc2_w 144, 3) := by decide +kernel
theorem dX10_draw_85 : decode cX10_draw 85 = .ok (.lmul, 1) := by decide +kernel
theorem dX10_draw_86 : decode cX10_draw 86 = .ok (.ldc2_w 146, 3) := by decide +kernel
theorem dX10_draw_89 : decode cX10_draw 89 = .ok (.ladd, 1) := by decide +kernel
theorem dX10_draw_90 : decode cX10_draw 90 = .ok (.lstore 4, 2) := by decide +kernel
theorem dX10_draw_92 : decode cX10_draw 92 = .ok (.lload 4, 2) := by decide +kernel
theorem dX10_draw_94 : decode cX10_draw 94 = .ok (.bipush 33, 2) := by decide +kernel
theorem dX10_draw_96 : decode cX10_draw 96 = .ok (.lushr, 1) := by decide +kernel
theorem dX10_draw_97 : decode cX10_draw 97 = .ok (.iload 6, 2) := by decide +kernel
theorem dX10_draw_99 : decode cX10_draw 99 = .ok (.i2l, 1) := by decide +kernel
theorem dX10_draw_100 : decode cX10_draw 100 = .ok (.lrem, 1) := by decide +kernel
theorem dX10_draw_101 : decode cX10_draw 101 = .ok (.l2i, 1) := by decide +kernel
theorem dX10_draw_102 : decode cX10_draw 102 = .ok (.istore 7, 2) := by decide +kernel
theorem dX10_draw_104 : decode cX10_draw 104 = .ok (.iconst 0, 1) := by decide +kernel
theorem dX10_draw_105 : decode cX10_draw 105 = .ok (.istore 8, 2) := by decide +kernel
theorem dX10_draw_107 : decode cX10_draw 107 = .ok (.iload 7, 2) := by decide +kernel
theorem dX10_draw_109 : decode cX10_draw 109 = .ok (.aload_n 0, 1) := by decide +kernel
theorem dX10_draw_110 : decode cX10_draw 110 = .ok (.getfield 35, 3) := by decide +kernel
theorem dX10_draw_113 : decode cX10_draw 113 = .ok (.iload 8, 2) := by decide +kernel
theorem dX10_draw_115 : decode cX10_draw 115 = .ok (.iaload, 1) := by decide +kernel
theorem dX10_draw_116 : decode cX10_draw 116 = .ok (.if_icmp .lt 21, 3) := by decide +kernel
theorem dX10_draw_119 : decode cX10_draw 119 = .ok (.iload 7, 2) := by decide +kernel
theorem dX10_draw_121 : decode cX10_draw 121 = .ok (.aload_n 0, 1) := by decide +kernel
theorem dX10_draw_122 : decode cX10_draw 122 = .ok (.getfield 35, 3) := by decide +kernel
theorem dX10_draw_125 : decode cX10_draw 125 = .ok (.iload 8, 2) := by decide +kernel
theorem dX10_draw_127 : decode cX10_draw 127 = .ok (.iaload, 1) := by decide +kernel
theorem dX10_draw_128 : decode cX10_draw 128 = .ok (.isub, 1) := by decide +kernel
theorem dX10_draw_129 : decode cX10_draw 129 = .ok (.istore 7, 2) := by decide +kernel
theorem dX10_draw_131 : decode cX10_draw 131 = .ok (.iinc 8 1, 3) := by decide +kernel
theorem dX10_draw_134 : decode cX10_draw 134 = .ok (.goto (-27), 3) := by decide +kernel
theorem dX10_draw_137 : decode cX10_draw 137 = .ok (.iload 7, 2) := by decide +kernel
theorem dX10_draw_139 : decode cX10_draw 139 = .ok (.istore 9, 2) := by decide +kernel
theorem dX10_draw_141 : decode cX10_draw 141 = .ok (.aload_n 0, 1) := by decide +kernel
theorem dX10_draw_142 : decode cX10_draw 142 = .ok (.getfield 35, 3) := by decide +kernel
theorem dX10_draw_145 : decode cX10_draw 145 = .ok (.iload 8, 2) := by decide +kernel
theorem dX10_draw_147 : decode cX10_draw 147 = .ok (.iaload, 1) := by decide +kernel
theorem dX10_draw_148 : decode cX10_draw 148 = .ok (.iload 9, 2) := by decide +kernel
theorem dX10_draw_150 : decode cX10_draw 150 = .ok (.isub, 1) := by decide +kernel
theorem dX10_draw_151 : decode cX10_draw 151 = .ok (.iconst 1, 1) := by decide +kernel
theorem dX10_draw_152 : decode cX10_draw 152 = .ok (.isub, 1) := by decide +kernel
theorem dX10_draw_153 : decode cX10_draw 153 = .ok (.istore 10, 2) := by decide +kernel
theorem dX10_draw_155 : decode cX10_draw 155 = .ok (.iload 10, 2) := by decide +kernel
theorem dX10_draw_157 : decode cX10_draw 157 = .ok (.aload_n 0, 1) := by decide +kernel
theorem dX10_draw_158 : decode cX10_draw 158 = .ok (.iload 8, 2) := by decide +kernel
theorem dX10_draw_160 : decode cX10_draw 160 = .ok (.iload 9, 2) := by decide +kernel
theorem dX10_draw_162 : decode cX10_draw 162 = .ok (.invokevirtual 148, 3) := by decide +kernel
theorem dX10_draw_165 : decode cX10_draw 165 = .ok (.iadd, 1) := by decide +kernel
theorem dX10_draw_166 : decode cX10_draw 166 = .ok (.istore 11, 2) := by decide +kernel
theorem dX10_draw_168 : decode cX10_draw 168 = .ok (.iload 11, 2) := by decide +kernel
theorem dX10_draw_170 : decode cX10_draw 170 = .ok (.ifCond .le 105, 3) := by decide +kernel
theorem dX10_draw_173 : decode cX10_draw 173 = .ok (.lload 4, 2) := by decide +kernel
theorem dX10_draw_175 : decode cX10_draw 175 = .ok (.ldc2_w 144, 3) := by decide +kernel
theorem dX10_draw_178 : decode cX10_draw 178 = .ok (.lmul, 1) := by decide +kernel
theorem dX10_draw_179 : decode cX10_draw 179 = .ok (.ldc2_w 146, 3) := by decide +kernel
theorem dX10_draw_182 : decode cX10_draw 182 = .ok (.ladd, 1) := by decide +kernel
theorem dX10_draw_183 : decode cX10_draw 183 = .ok (.lstore 4, 2) := by decide +kernel
theorem dX10_draw_185 : decode cX10_draw 185 = .ok (.lload 4, 2) := by decide +kernel
theorem dX10_draw_187 : decode cX10_draw 187 = .ok (.bipush 33, 2) := by decide +kernel
theorem dX10_draw_189 : decode cX10_draw 189 = .ok (.lushr, 1) := by decide +kernel
theorem dX10_draw_190 : decode cX10_draw 190 = .ok (.iload 11, 2) := by decide +kernel
theorem dX10_draw_192 : decode cX10_draw 192 = .ok (.i2l, 1) := by decide +kernel
theorem dX10_draw_193 : decode cX10_draw 193 = .ok (.lrem, 1) := by decide +kernel
theorem dX10_draw_194 : decode cX10_draw 194 = .ok (.l2i, 1) := by decide +kernel
theorem dX10_draw_195 : decode cX10_draw 195 = .ok (.istore 12, 2) := by decide +kernel
theorem dX10_draw_197 : decode cX10_draw 197 = .ok (.iload 12, 2) := by decide +kernel
theorem dX10_draw_199 : decode cX10_draw 199 = .ok (.iload 10, 2) := by decide +kernel
theorem dX10_draw_201 : decode cX10_draw 201 = .ok (.if_icmp .ge 7, 3) := by decide +kernel
theorem dX10_draw_204 : decode cX10_draw 204 = .ok (.iconst 0, 1) := by decide +kernel
theorem dX10_draw_205 : decode cX10_draw 205 = .ok (.goto 10, 3) := by decide +kernel
theorem dX10_draw_208 : decode cX10_draw 208 = .ok (.iload 12, 2) := by decide +kernel
theorem dX10_draw_210 : decode cX10_draw 210 = .ok (.iload 10, 2) := by decide +kernel
theorem dX10_draw_212 : decode cX10_draw 212 = .ok (.isub, 1) := by decide +kernel
theorem dX10_draw_213 : decode cX10_draw 213 = .ok (.iconst 1, 1) := by decide +kernel
theorem dX10_draw_214 : decode cX10_draw 214 = .ok (.iadd, 1) := by decide +kernel
theorem dX10_draw_215 : decode cX10_draw 215 = .ok (.istore 13, 2) := by decide +kernel
theorem dX10_draw_217 : decode cX10_draw 217 = .ok (.iload 12, 2) := by decide +kernel
theorem dX10_draw_219 : decode cX10_draw 219 = .ok (.iload 10, 2) := by decide +kernel
theorem dX10_draw_221 : decode cX10_draw 221 = .ok (.if_icmp .ge 13, 3) := by decide +kernel
theorem dX10_draw_224 : decode cX10_draw 224 = .ok (.iload 9, 2) := by decide +kernel
theorem dX10_draw_226 : decode cX10_draw 226 = .ok (.iload 12, 2) := by decide +kernel
theorem dX10_draw_228 : decode cX10_draw 228 = .ok (.iadd, 1) := by decide +kernel
theorem dX10_draw_229 : decode cX10_draw 229 = .ok (.iconst 1, 1) := by decide +kernel
theorem dX10_draw_230 : decode cX10_draw 230 = .ok (.iadd, 1) := by decide +kernel
theorem dX10_draw_231 : decode cX10_draw 231 = .ok (.goto 5, 3) := by decide +kernel
theorem dX10_draw_234 : decode cX10_draw 234 = .ok (.iload 9, 2) := by decide +kernel
theorem dX10_draw_236 : decode cX10_draw 236 = .ok (.istore 9, 2) := by decide +kernel
theorem dX10_draw_238 : decode cX10_draw 238 = .ok (.iload 8, 2) := by decide +kernel
theorem dX10_draw_240 : decode cX10_draw 240 = .ok (.iload 13, 2) := by decide +kernel
theorem dX10_draw_242 : decode cX10_draw 242 = .ok (.iadd, 1) := by decide +kernel
theorem dX10_draw_243 : decode cX10_draw 243 = .ok (.istore 8, 2) := by decide +kernel
theorem dX10_draw_245 : decode cX10_draw 245 = .ok (.aload_n 0, 1) := by decide +kernel
theorem dX10_draw_246 : decode cX10_draw 246 = .ok (.getfield 35, 3) := by decide +kernel
theorem dX10_draw_249 : decode cX10_draw 249 = .ok (.iload 8, 2) := by decide +kernel
theorem dX10_draw_251 : decode cX10_draw 251 = .ok (.iaload, 1) := by decide +kernel
theorem dX10_draw_252 : decode cX10_draw 252 = .ok (.iload 9, 2) := by decide +kernel
theorem dX10_draw_254 : decode cX10_draw 254 = .ok (.isub, 1) := by decide +kernel
theorem dX10_draw_255 : decode cX10_draw 255 = .ok (.iconst 1, 1) := by decide +kernel
theorem dX10_draw_256 : decode cX10_draw 256 = .ok (.isub, 1) := by decide +kernel
theorem dX10_draw_257 : decode cX10_draw 257 = .ok (.istore 10, 2) := by decide +kernel
theorem dX10_draw_259 : decode cX10_draw 259 = .ok (.iload 10, 2) := by decide +kernel
theorem dX10_draw_261 : decode cX10_draw 261 = .ok (.aload_n 0, 1) := by decide +kernel
theorem dX10_draw_262 : decode cX10_draw 262 = .ok (.iload 8, 2) := by decide +kernel
theorem dX10_draw_264 : decode cX10_draw 264 = .ok (.iload 9, 2) := by decide +kernel
theorem dX10_draw_266 : decode cX10_draw 266 = .ok (.invokevirtual 148, 3) := by decide +kernel
theorem dX10_draw_269 : decode cX10_draw 269 = .ok (.iadd, 1) := by decide +kernel
theorem dX10_draw_270 : decode cX10_draw 270 = .ok (.istore 11, 2) := by decide +kernel
theorem dX10_draw_272 : decode cX10_draw 272 = .ok (.goto (-104), 3) := by decide +kernel
theorem dX10_draw_275 : decode cX10_draw 275 = .ok (.aload_n 0, 1) := by decide +kernel
theorem dX10_draw_276 : decode cX10_draw 276 = .ok (.getfield 19, 3) := by decide +kernel
theorem dX10_draw_279 : decode cX10_draw 279 = .ok (.iconst 0, 1) := by decide +kernel
theorem dX10_draw_280 : decode cX10_draw 280 = .ok (.iload 8, 2) := by decide +kernel
theorem dX10_draw_282 : decode cX10_draw 282 = .ok (.iload 9, 2) := by decide +kernel
theorem dX10_draw_284 : decode cX10_draw 284 = .ok (.invokestatic 84, 3) := by decide +kernel
theorem dX10_draw_287 : decode cX10_draw 287 = .ok (.iload 6, 2) := by decide +kernel
theorem dX10_draw_289 : decode cX10_draw 289 = .ok (.iastore, 1) := by decide +kernel
theorem dX10_draw_290 : decode cX10_draw 290 = .ok (.aload_n 0, 1) := by decide +kernel
theorem dX10_draw_291 : decode cX10_draw 291 = .ok (.getfield 35, 3) := by decide +kernel
theorem dX10_draw_294 : decode cX10_draw 294 = .ok (.iload 8, 2) := by decide +kernel
theorem dX10_draw_296 : decode cX10_draw 296 = .ok (.dup2, 1) := by decide +kernel
theorem dX10_draw_297 : decode cX10_draw 297 = .ok (.iaload, 1) := by decide +kernel
theorem dX10_draw_298 : decode cX10_draw 298 = .ok (.iconst 1, 1) := by decide +kernel
theorem dX10_draw_299 : decode cX10_draw 299 = .ok (.isub, 1) := by decide +kernel
theorem dX10_draw_300 : decode cX10_draw 300 = .ok (.iastore, 1) := by decide +kernel
theorem dX10_draw_301 : decode cX10_draw 301 = .ok (.iinc 6 (-1), 3) := by decide +kernel
theorem dX10_draw_304 : decode cX10_draw 304 = .ok (.goto (-229), 3) := by decide +kernel
theorem dX10_draw_307 : decode cX10_draw 307 = .ok (.aload_n 0, 1) := by decide +kernel
theorem dX10_draw_308 : decode cX10_draw 308 = .ok (.iconst 1, 1) := by decide +kernel
theorem dX10_draw_309 : decode cX10_draw 309 = .ok (.putfield 25, 3) := by decide +kernel
theorem dX10_draw_312 : decode cX10_draw 312 = .ok (.lload 4, 2) := by decide +kernel
theorem dX10_draw_314 : decode cX10_draw 314 = .ok (.lreturn, 1) := by decide +kernel
theorem dX10_multiply_0 : decode cX10_multiply 0 = .ok (.iload_n 1, 1) := by decide +kernel
theorem dX10_multiply_1 : decode cX10_multiply 1 = .ok (.istore_n 3, 1) := by decide +kernel
theorem dX10_multiply_2 : decode cX10_multiply 2 = .ok (.iconst 2, 1) := by decide +kernel
theorem dX10_multiply_3 : decode cX10_multiply 3 = .ok (.istore 4, 2) := by decide +kernel
theorem dX10_multiply_5 : decode cX10_multiply 5 = .ok (.iload 4, 2) := by decide +kernel
theorem dX10_multiply_7 : decode cX10_multiply 7 = .ok (.iload_n 3, 1) := by decide +kernel
theorem dX10_multiply_8 : decode cX10_multiply 8 = .ok (.if_icmp .gt 40, 3) := by decide +kernel
theorem dX10_multiply_11 : decode cX10_multiply 11 = .ok (.iload_n 3, 1) := by decide +kernel
theorem dX10_multiply_12 : decode cX10_multiply 12 = .ok (.iload 4, 2) := by decide +kernel
theorem dX10_multiply_14 : decode cX10_multiply 14 = .ok (.irem, 1) := by decide +kernel
theorem dX10_multiply_15 : decode cX10_multiply 15 = .ok (.ifCond .ne 27, 3) := by decide +kernel
theorem dX10_multiply_18 : decode cX10_multiply 18 = .ok (.aload_n 0, 1) := by decide +kernel
theorem dX10_multiply_19 : decode cX10_multiply 19 = .ok (.getfield 60, 3) := by decide +kernel
theorem dX10_multiply_22 : decode cX10_multiply 22 = .ok (.iload 4, 2) := by decide +kernel
theorem dX10_multiply_24 : decode cX10_multiply 24 = .ok (.aload_n 0, 1) := by decide +kernel
theorem dX10_multiply_25 : decode cX10_multiply 25 = .ok (.getfield 60, 3) := by decide +kernel
theorem dX10_multiply_28 : decode cX10_multiply 28 = .ok (.iload 4, 2) := by decide +kernel
theorem dX10_multiply_30 : decode cX10_multiply 30 = .ok (.iaload, 1) := by decide +kernel
theorem dX10_multiply_31 : decode cX10_multiply 31 = .ok (.iload_n 2, 1) := by decide +kernel
theorem dX10_multiply_32 : decode cX10_multiply 32 = .ok (.iadd, 1) := by decide +kernel
theorem dX10_multiply_33 : decode cX10_multiply 33 = .ok (.iastore, 1) := by decide +kernel
theorem dX10_multiply_34 : decode cX10_multiply 34 = .ok (.iload_n 3, 1) := by decide +kernel
theorem dX10_multiply_35 : decode cX10_multiply 35 = .ok (.iload 4, 2) := by decide +kernel
theorem dX10_multiply_37 : decode cX10_multiply 37 = .ok (.idiv, 1) := by decide +kernel
theorem dX10_multiply_38 : decode cX10_multiply 38 = .ok (.istore_n 3, 1) := by decide +kernel
theorem dX10_multiply_39 : decode cX10_multiply 39 = .ok (.goto (-28), 3) := by decide +kernel
theorem dX10_multiply_42 : decode cX10_multiply 42 = .ok (.iinc 4 1, 3) := by decide +kernel
theorem dX10_multiply_45 : decode cX10_multiply 45 = .ok (.goto (-40), 3) := by decide +kernel
theorem dX10_multiply_48 : decode cX10_multiply 48 = .ok (.return_, 1) := by decide +kernel
theorem dX10_factorial_0 : decode cX10_factorial 0 = .ok (.iconst 2, 1) := by decide +kernel
theorem dX10_factorial_1 : decode cX10_factorial 1 = .ok (.istore_n 3, 1) := by decide +kernel
theorem dX10_factorial_2 : decode cX10_factorial 2 = .ok (.iload_n 3, 1) := by decide +kernel
theorem dX10_factorial_3 : decode cX10_factorial 3 = .ok (.iload_n 1, 1) := by decide +kernel
theorem dX10_factorial_4 : decode cX10_factorial 4 = .ok (.if_icmp .gt 15, 3) := by decide +kernel
theorem dX10_factorial_7 : decode cX10_factorial 7 = .ok (.aload_n 0, 1) := by decide +kernel
theorem dX10_factorial_8 : decode cX10_factorial 8 = .ok (.iload_n 3, 1) := by decide +kernel
theorem dX10_factorial_9 : decode cX10_factorial 9 = .ok (.iload_n 2, 1) := by decide +kernel
theorem dX10_factorial_10 : decode cX10_factorial 10 = .ok (.invokevirtual 151, 3) := by decide +kernel
theorem dX10_factorial_13 : decode cX10_factorial 13 = .ok (.iinc 3 1, 3) := by decide +kernel
theorem dX10_factorial_16 : decode cX10_factorial 16 = .ok (.goto (-14), 3) := by decide +kernel
theorem dX10_factorial_19 : decode cX10_factorial 19 = .ok (.return_, 1) := by decide +kernel
theorem dX10_standard_0 : decode cX10_standard 0 = .ok (.aload_n 0, 1) := by decide +kernel
theorem dX10_standard_1 : decode cX10_standard 1 = .ok (.iload_n 1, 1) := by decide +kernel
theorem dX10_standard_2 : decode cX10_standard 2 = .ok (.invokestatic 67, 3) := by decide +kernel
theorem dX10_standard_5 : decode cX10_standard 5 = .ok (.ifCond .eq 7, 3) := by decide +kernel
theorem dX10_standard_8 : decode cX10_standard 8 = .ok (.iconst 0, 1) := by decide +kernel
theorem dX10_standard_9 : decode cX10_standard 9 = .ok (.goto 4, 3) := by decide +kernel
theorem dX10_standard_12 : decode cX10_standard 12 = .ok (.iconst 1, 1) := by decide +kernel
theorem dX10_standard_13 : decode cX10_standard 13 = .ok (.putfield 63, 3) := by decide +kernel
theorem dX10_standard_16 : decode cX10_standard 16 = .ok (.aload_n 0, 1) := by decide +kernel
theorem dX10_standard_17 : decode cX10_standard 17 = .ok (.getfield 63, 3) := by decide +kernel
theorem dX10_standard_20 : decode cX10_standard 20 = .ok (.ifCond .le 5, 3) := by decide +kernel
theorem dX10_standard_23 : decode cX10_standard 23 = .ok (.lconst 0, 1) := by decide +kernel
theorem dX10_standard_24 : decode cX10_standard 24 = .ok (.lreturn, 1) := by decide +kernel
theorem dX10_standard_25 : decode cX10_standard 25 = .ok (.iconst 0, 1) := by decide +kernel
theorem dX10_standard_26 : decode cX10_standard 26 = .ok (.istore_n 2, 1) := by decide +kernel
theorem dX10_standard_27 : decode cX10_standard 27 = .ok (.iload_n 2, 1) := by decide +kernel
theorem dX10_standard_28 : decode cX10_standard 28 = .ok (.bipush 40, 2) := by decide +kernel
theorem dX10_standard_30 : decode cX10_standard 30 = .ok (.if_icmp .ge 16, 3) := by decide +kernel
theorem dX10_standard_33 : decode cX10_standard 33 = .ok (.aload_n 0, 1) := by decide +kernel
theorem dX10_standard_34 : decode cX10_standard 34 = .ok (.getfield 60, 3) := by decide +kernel
theorem dX10_standard_37 : decode cX10_standard 37 = .ok (.iload_n 2, 1) := by decide +kernel
theorem dX10_standard_38 : decode cX10_standard 38 = .ok (.iconst 0, 1) := by decide +kernel
theorem dX10_standard_39 : decode cX10_standard 39 = .ok (.iastore, 1) := by decide +kernel
theorem dX10_standard_40 : decode cX10_standard 40 = .ok (.iinc 2 1, 3) := by decide +kernel
theorem dX10_standard_43 : decode cX10_standard 43 = .ok (.goto (-16), 3) := by decide +kernel
theorem dX10_standard_46 : decode cX10_standard 46 = .ok (.aload_n 0, 1) := by decide +kernel
theorem dX10_standard_47 : decode cX10_standard 47 = .ok (.aload_n 0, 1) := by decide +kernel
theorem dX10_standard_48 : decode cX10_standard 48 = .ok (.iload_n 1, 1) := by decide +kernel
theorem dX10_standard_49 : decode cX10_standard 49 = .ok (.invokevirtual 77, 3) := by decide +kernel
theorem dX10_standard_52 : decode cX10_standard 52 = .ok (.iconst 1, 1) := by decide +kernel
theorem dX10_standard_53 : decode cX10_standard 53 = .ok (.invokevirtual 154, 3) := by decide +kernel
theorem dX10_standard_56 : decode cX10_standard 56 = .ok (.iconst 0, 1) := by decide +kernel
theorem dX10_standard_57 : decode cX10_standard 57 = .ok (.istore_n 2, 1) := by decide +kernel
theorem dX10_standard_58 : decode cX10_standard 58 = .ok (.iload_n 2, 1) := by decide +kernel
theorem dX10_standard_59 : decode cX10_standard 59 = .ok (.bipush 8, 2) := by decide +kernel
theorem dX10_standard_61 : decode cX10_standard 61 = .ok (.if_icmp .ge 65, 3) := by decide +kernel
theorem dX10_standard_64 : decode cX10_standard 64 = .ok (.aload_n 0, 1) := by decide +kernel
theorem dX10_standard_65 : decode cX10_standard 65 = .ok (.iload_n 1, 1) := by decide +kernel
theorem dX10_standard_66 : decode cX10_standard 66 = .ok (.iload_n 2, 1) := by decide +kernel
theorem dX10_standard_67 : decode cX10_standard 67 = .ok (.invokevirtual 73, 3) := by decide +kernel
theorem dX10_standard_70 : decode cX10_standard 70 = .ok (.bipush 7, 2) := by decide +kernel
theorem dX10_standard_72 : decode cX10_standard 72 = .ok (.iadd, 1) := by decide +kernel
theorem dX10_standard_73 : decode cX10_standard 73 = .ok (.iload_n 2, 1) := by decide +kernel
theorem dX10_standard_74 : decode cX10_standard 74 = .ok (.isub, 1) := by decide +kernel
theorem dX10_standard_75 : decode cX10_standard 75 = .ok (.istore_n 3, 1) := by decide +kernel
theorem dX10_standard_76 : decode cX10_standard 76 = .ok (.aload_n 0, 1) := by decide +kernel
theorem dX10_standard_77 : decode cX10_standard 77 = .ok (.iload_n 3, 1) := by decide +kernel
theorem dX10_standard_78 : decode cX10_standard 78 = .ok (.iconst (-1), 1) := by decide +kernel
theorem dX10_standard_79 : decode cX10_standard 79 = .ok (.invokevirtual 154, 3) := by decide +kernel
theorem dX10_standard_82 : decode cX10_standard 82 = .ok (.iload_n 2, 1) := by decide +kernel
theorem dX10_standard_83 : decode cX10_standard 83 = .ok (.iconst 1, 1) := by decide +kernel
theorem dX10_standard_84 : decode cX10_standard 84 = .ok (.iadd, 1) := by decide +kernel
theorem dX10_standard_85 : decode cX10_standard 85 = .ok (.istore 4, 2) := by decide +kernel
theorem dX10_standard_87 : decode cX10_standard 87 = .ok (.iload 4, 2) := by decide +kernel
theorem dX10_standard_89 : decode cX10_standard 89 = .ok (.bipush 8, 2) := by decide +kernel
theorem dX10_standard_91 : decode cX10_standard 91 = .ok (.if_icmp .ge 29, 3) := by decide +kernel
theorem dX10_standard_94 : decode cX10_standard 94 = .ok (.aload_n 0, 1) := by decide +kernel
theorem dX10_standard_95 : decode cX10_standard 95 = .ok (.iload_n 3, 1) := by decide +kernel
theorem dX10_standard_96 : decode cX10_standard 96 = .ok (.aload_n 0, 1) := by decide +kernel
theorem dX10_standard_97 : decode cX10_standard 97 = .ok (.iload_n 1, 1) := by decide +kernel
theorem dX10_standard_98 : decode cX10_standard 98 = .ok (.iload 4, 2) := by decide +kernel
theorem dX10_standard_100 : decode cX10_standard 100 = .ok (.invokevirtual 73, 3) := by decide +kernel
theorem dX10_standard_103 : decode cX10_standard 103 = .ok (.isub, 1) := by decide +kernel
theorem dX10_standard_104 : decode cX10_standard 104 = .ok (.bipush 7, 2) := by decide +kernel
theorem dX10_standard_106 : decode cX10_standard 106 = .ok (.isub, 1) := by decide +kernel
theorem dX10_standard_107 : decode cX10_standard 107 = .ok (.iload 4, 2) := by decide +kernel
theorem dX10_standard_109 : decode cX10_standard 109 = .ok (.iadd, 1) := by decide +kernel
theorem dX10_standard_110 : decode cX10_standard 110 = .ok (.iconst 1, 1) := by decide +kernel
theorem dX10_standard_111 : decode cX10_standard 111 = .ok (.invokevirtual 151, 3) := by decide +kernel
theorem dX10_standard_114 : decode cX10_standard 114 = .ok (.iinc 4 1, 3) := by decide +kernel
theorem dX10_standard_117 : decode cX10_standard 117 = .ok (.goto (-30), 3) := by decide +kernel
theorem dX10_standard_120 : decode cX10_standard 120 = .ok (.iinc 2 1, 3) := by decide +kernel
theorem dX10_standard_123 : decode cX10_standard 123 = .ok (.goto (-65), 3) := by decide +kernel
theorem dX10_standard_126 : decode cX10_standard 126 = .ok (.lconst 1, 1) := by decide +kernel
theorem dX10_standard_127 : decode cX10_standard 127 = .ok (.lstore_n 2, 1) := by decide +kernel
theorem dX10_standard_128 : decode cX10_standard 128 = .ok (.iconst 2, 1) := by decide +kernel
theorem dX10_standard_129 : decode cX10_standard 129 = .ok (.istore 4, 2) := by decide +kernel
theorem dX10_standard_131 : decode cX10_standard 131 = .ok (.iload 4, 2) := by decide +kernel
theorem dX10_standard_133 : decode cX10_standard 133 = .ok (.bipush 40, 2) := by decide +kernel
theorem dX10_standard_135 : decode cX10_standard 135 = .ok (.if_icmp .ge 36, 3) := by decide +kernel
theorem dX10_standard_138 : decode cX10_standard 138 = .ok (.iconst 0, 1) := by decide +kernel
theorem dX10_standard_139 : decode cX10_standard 139 = .ok (.istore 5, 2) := by decide +kernel
theorem dX10_standard_141 : decode cX10_standard 141 = .ok (.iload 5, 2) := by decide +kernel
theorem dX10_standard_143 : decode cX10_standard 143 = .ok (.aload_n 0, 1) := by decide +kernel
theorem dX10_standard_144 : decode cX10_standard 144 = .ok (.getfield 60, 3) := by decide +kernel
theorem dX10_standard_147 : decode cX10_standard 147 = .ok (.iload 4, 2) := by decide +kernel
theorem dX10_standard_149 : decode cX10_standard 149 = .ok (.iaload, 1) := by decide +kernel
theorem dX10_standard_150 : decode cX10_standard 150 = .ok (.if_icmp .ge 15, 3) := by decide +kernel
theorem dX10_standard_153 : decode cX10_standard 153 = .ok (.lload_n 2, 1) := by decide +kernel
theorem dX10_standard_154 : decode cX10_standard 154 = .ok (.iload 4, 2) := by decide +kernel
theorem dX10_standard_156 : decode cX10_standard 156 = .ok (.i2l, 1) := by decide +kernel
theorem dX10_standard_157 : decode cX10_standard 157 = .ok (.lmul, 1) := by decide +kernel
theorem dX10_standard_158 : decode cX10_standard 158 = .ok (.lstore_n 2, 1) := by decide +kernel
theorem dX10_standard_159 : decode cX10_standard 159 = .ok (.iinc 5 1, 3) := by decide +kernel
theorem dX10_standard_162 : decode cX10_standard 162 = .ok (.goto (-21), 3) := by decide +kernel
theorem dX10_standard_165 : decode cX10_standard 165 = .ok (.iinc 4 1, 3) := by decide +kernel
theorem dX10_standard_168 : decode cX10_standard 168 = .ok (.goto (-37), 3) := by decide +kernel
theorem dX10_standard_171 : decode cX10_standard 171 = .ok (.lload_n 2, 1) := by decide +kernel
theorem dX10_standard_172 : decode cX10_standard 172 = .ok (.lreturn, 1) := by decide +kernel
theorem dX10_note_0 : decode cX10_note 0 = .ok (.iconst 0, 1) := by decide +kernel
theorem dX10_note_1 : decode cX10_note 1 = .ok (.istore 5, 2) := by decide +kernel
theorem dX10_note_3 : decode cX10_note 3 = .ok (.iload 5, 2) := by decide +kernel
theorem dX10_note_5 : decode cX10_note 5 = .ok (.aload_n 0, 1) := by decide +kernel
theorem dX10_note_6 : decode cX10_note 6 = .ok (.getfield 124, 3) := by decide +kernel
theorem dX10_note_9 : decode cX10_note 9 = .ok (.if_icmp .ge 21, 3) := by decide +kernel
theorem dX10_note_12 : decode cX10_note 12 = .ok (.aload_n 0, 1) := by decide +kernel
theorem dX10_note_13 : decode cX10_note 13 = .ok (.getfield 47, 3) := by decide +kernel
theorem dX10_note_16 : decode cX10_note 16 = .ok (.iload 5, 2) := by decide +kernel
theorem dX10_note_18 : decode cX10_note 18 = .ok (.laload, 1) := by decide +kernel
theorem dX10_note_19 : decode cX10_note 19 = .ok (.lload_n 1, 1) := by decide +kernel
theorem dX10_note_20 : decode cX10_note 20 = .ok (.lcmp, 1) := by decide +kernel
theorem dX10_note_21 : decode cX10_note 21 = .ok (.ifCond .eq 9, 3) := by decide +kernel
theorem dX10_note_24 : decode cX10_note 24 = .ok (.iinc 5 1, 3) := by decide +kernel
theorem dX10_note_27 : decode cX10_note 27 = .ok (.goto (-24), 3) := by decide +kernel
theorem dX10_note_30 : decode cX10_note 30 = .ok (.iload 5, 2) := by decide +kernel
theorem dX10_note_32 : decode cX10_note 32 = .ok (.aload_n 0, 1) := by decide +kernel
theorem dX10_note_33 : decode cX10_note 33 = .ok (.getfield 124, 3) := by decide +kernel
theorem dX10_note_36 : decode cX10_note 36 = .ok (.if_icmp .ne 29, 3) := by decide +kernel
theorem dX10_note_39 : decode cX10_note 39 = .ok (.aload_n 0, 1) := by decide +kernel
theorem dX10_note_40 : decode cX10_note 40 = .ok (.getfield 47, 3) := by decide +kernel
theorem dX10_note_43 : decode cX10_note 43 = .ok (.iload 5, 2) := by decide +kernel
theorem dX10_note_45 : decode cX10_note 45 = .ok (.lload_n 1, 1) := by decide +kernel
theorem dX10_note_46 : decode cX10_note 46 = .ok (.lastore, 1) := by decide +kernel
theorem dX10_note_47 : decode cX10_note 47 = .ok (.aload_n 0, 1) := by decide +kernel
theorem dX10_note_48 : decode cX10_note 48 = .ok (.getfield 51, 3) := by decide +kernel
theorem dX10_note_51 : decode cX10_note 51 = .ok (.iload 5, 2) := by decide +kernel
theorem dX10_note_53 : decode cX10_note 53 = .ok (.lconst 0, 1) := by decide +kernel
theorem dX10_note_54 : decode cX10_note 54 = .ok (.lastore, 1) := by decide +kernel
theorem dX10_note_55 : decode cX10_note 55 = .ok (.aload_n 0, 1) := by decide +kernel
theorem dX10_note_56 : decode cX10_note 56 = .ok (.dup, 1) := by decide +kernel
theorem dX10_note_57 : decode cX10_note 57 = .ok (.getfield 124, 3) := by decide +kernel
theorem dX10_note_60 : decode cX10_note 60 = .ok (.iconst 1, 1) := by decide +kernel
theorem dX10_note_61 : decode cX10_note 61 = .ok (.iadd, 1) := by decide +kernel
theorem dX10_note_62 : decode cX10_note 62 = .ok (.putfield 124, 3) := by decide +kernel
theorem dX10_note_65 : decode cX10_note 65 = .ok (.aload_n 0, 1) := by decide +kernel
theorem dX10_note_66 : decode cX10_note 66 = .ok (.getfield 51, 3) := by decide +kernel
theorem dX10_note_69 : decode cX10_note 69 = .ok (.iload 5, 2) := by decide +kernel
theorem dX10_note_71 : decode cX10_note 71 = .ok (.aload_n 0, 1) := by decide +kernel
theorem dX10_note_72 : decode cX10_note 72 = .ok (.getfield 51, 3) := by decide +kernel
theorem dX10_note_75 : decode cX10_note 75 = .ok (.iload 5, 2) := by decide +kernel
theorem dX10_note_77 : decode cX10_note 77 = .ok (.laload, 1) := by decide +kernel
theorem dX10_note_78 : decode cX10_note 78 = .ok (.lload_n 3, 1) := by decide +kernel
theorem dX10_note_79 : decode cX10_note 79 = .ok (.ladd, 1) := by decide +kernel
theorem dX10_note_80 : decode cX10_note 80 = .ok (.lastore, 1) := by decide +kernel
theorem dX10_note_81 : decode cX10_note 81 = .ok (.return_, 1) := by decide +kernel
theorem dX10_turnOver_0 : decode cX10_turnOver 0 = .ok (.aload_n 0, 1) := by decide +kernel
theorem dX10_turnOver_1 : decode cX10_turnOver 1 = .ok (.aload_n 0, 1) := by decide +kernel
theorem dX10_turnOver_2 : decode cX10_turnOver 2 = .ok (.getfield 124, 3) := by decide +kernel
theorem dX10_turnOver_5 : decode cX10_turnOver 5 = .ok (.putfield 157, 3) := by decide +kernel
theorem dX10_turnOver_8 : decode cX10_turnOver 8 = .ok (.iconst 0, 1) := by decide +kernel
theorem dX10_turnOver_9 : decode cX10_turnOver 9 = .ok (.istore_n 1, 1) := by decide +kernel
theorem dX10_turnOver_10 : decode cX10_turnOver 10 = .ok (.iload_n 1, 1) := by decide +kernel
theorem dX10_turnOver_11 : decode cX10_turnOver 11 = .ok (.aload_n 0, 1) := by decide +kernel
theorem dX10_turnOver_12 : decode cX10_turnOver 12 = .ok (.getfield 124, 3) := by decide +kernel
theorem dX10_turnOver_15 : decode cX10_turnOver 15 = .ok (.if_icmp .ge 33, 3) := by decide +kernel
theorem dX10_turnOver_18 : decode cX10_turnOver 18 = .ok (.aload_n 0, 1) := by decide +kernel
theorem dX10_turnOver_19 : decode cX10_turnOver 19 = .ok (.getfield 54, 3) := by decide +kernel
theorem dX10_turnOver_22 : decode cX10_turnOver 22 = .ok (.iload_n 1, 1) := by decide +kernel
theorem dX10_turnOver_23 : decode cX10_turnOver 23 = .ok (.aload_n 0, 1) := by decide +kernel
theorem dX10_turnOver_24 : decode cX10_turnOver 24 = .ok (.getfield 47, 3) := by decide +kernel
theorem dX10_turnOver_27 : decode cX10_turnOver 27 = .ok (.iload_n 1, 1) := by decide +kernel
theorem dX10_turnOver_28 : decode cX10_turnOver 28 = .ok (.laload, 1) := by decide +kernel
theorem dX10_turnOver_29 : decode cX10_turnOver 29 = .ok (.lastore, 1) := by decide +kernel
theorem dX10_turnOver_30 : decode cX10_turnOver 30 = .ok (.aload_n 0, 1) := by decide +kernel
theorem dX10_turnOver_31 : decode cX10_turnOver 31 = .ok (.getfield 57, 3) := by decide +kernel
theorem dX10_turnOver_34 : decode cX10_turnOver 34 = .ok (.iload_n 1, 1) := by decide +kernel
theorem dX10_turnOver_35 : decode cX10_turnOver 35 = .ok (.aload_n 0, 1) := by decide +kernel
theorem dX10_turnOver_36 : decode cX10_turnOver 36 = .ok (.getfield 51, 3) := by decide +kernel
theorem dX10_turnOver_39 : decode cX10_turnOver 39 = .ok (.iload_n 1, 1) := by decide +kernel
theorem dX10_turnOver_40 : decode cX10_turnOver 40 = .ok (.laload, 1) := by decide +kernel
theorem dX10_turnOver_41 : decode cX10_turnOver 41 = .ok (.lastore, 1) := by decide +kernel
theorem dX10_turnOver_42 : decode cX10_turnOver 42 = .ok (.iinc 1 1, 3) := by decide +kernel
theorem dX10_turnOver_45 : decode cX10_turnOver 45 = .ok (.goto (-35), 3) := by decide +kernel
theorem dX10_turnOver_48 : decode cX10_turnOver 48 = .ok (.aload_n 0, 1) := by decide +kernel
theorem dX10_turnOver_49 : decode cX10_turnOver 49 = .ok (.iconst 0, 1) := by decide +kernel
theorem dX10_turnOver_50 : decode cX10_turnOver 50 = .ok (.putfield 124, 3) := by decide +kernel
theorem dX10_turnOver_53 : decode cX10_turnOver 53 = .ok (.return_, 1) := by decide +kernel
theorem dX10_part_0 : decode cX10_part 0 = .ok (.lload_n 0, 1) := by decide +kernel
theorem dX10_part_1 : decode cX10_part 1 = .ok (.iconst 5, 1) := by decide +kernel
theorem dX10_part_2 : decode cX10_part 2 = .ok (.iload_n 2, 1) := by decide +kernel
theorem dX10_part_3 : decode cX10_part 3 = .ok (.imul, 1) := by decide +kernel
theorem dX10_part_4 : decode cX10_part 4 = .ok (.lshr, 1) := by decide +kernel
theorem dX10_part_5 : decode cX10_part 5 = .ok (.ldc2_w 160, 3) := by decide +kernel
theorem dX10_part_8 : decode cX10_part 8 = .ok (.land, 1) := by decide +kernel
theorem dX10_part_9 : decode cX10_part 9 = .ok (.l2i, 1) := by decide +kernel
theorem dX10_part_10 : decode cX10_part 10 = .ok (.ireturn, 1) := by decide +kernel
theorem dX10_strip_0 : decode cX10_strip 0 = .ok (.iconst 0, 1) := by decide +kernel
theorem dX10_strip_1 : decode cX10_strip 1 = .ok (.istore 6, 2) := by decide +kernel
theorem dX10_strip_3 : decode cX10_strip 3 = .ok (.iload 6, 2) := by decide +kernel
theorem dX10_strip_5 : decode cX10_strip 5 = .ok (.bipush 9, 2) := by decide +kernel
theorem dX10_strip_7 : decode cX10_strip 7 = .ok (.if_icmp .ge 17, 3) := by decide +kernel
theorem dX10_strip_10 : decode cX10_strip 10 = .ok (.aload_n 0, 1) := by decide +kernel
theorem dX10_strip_11 : decode cX10_strip 11 = .ok (.getfield 35, 3) := by decide +kernel
theorem dX10_strip_14 : decode cX10_strip 14 = .ok (.iload 6, 2) := by decide +kernel
theorem dX10_strip_16 : decode cX10_strip 16 = .ok (.iconst 0, 1) := by decide +kernel
theorem dX10_strip_17 : decode cX10_strip 17 = .ok (.iastore, 1) := by decide +kernel
theorem dX10_strip_18 : decode cX10_strip 18 = .ok (.iinc 6 1, 3) := by decide +kernel
theorem dX10_strip_21 : decode cX10_strip 21 = .ok (.goto (-18), 3) := by decide +kernel
theorem dX10_strip_24 : decode cX10_strip 24 = .ok (.iconst 1, 1) := by decide +kernel
theorem dX10_strip_25 : decode cX10_strip 25 = .ok (.istore 6, 2) := by decide +kernel
theorem dX10_strip_27 : decode cX10_strip 27 = .ok (.iload 6, 2) := by decide +kernel
theorem dX10_strip_29 : decode cX10_strip 29 = .ok (.ifCond .eq 160, 3) := by decide +kernel
theorem dX10_strip_32 : decode cX10_strip 32 = .ok (.iconst 0, 1) := by decide +kernel
theorem dX10_strip_33 : decode cX10_strip 33 = .ok (.istore 7, 2) := by decide +kernel
theorem dX10_strip_35 : decode cX10_strip 35 = .ok (.lconst 0, 1) := by decide +kernel
theorem dX10_strip_36 : decode cX10_strip 36 = .ok (.lstore 8, 2) := by decide +kernel
theorem dX10_strip_38 : decode cX10_strip 38 = .ok (.bipush 7, 2) := by decide +kernel
theorem dX10_strip_40 : decode cX10_strip 40 = .ok (.istore 10, 2) := by decide +kernel
theorem dX10_strip_42 : decode cX10_strip 42 = .ok (.iload 10, 2) := by decide +kernel
theorem dX10_strip_44 : decode cX10_strip 44 = .ok (.ifCond .lt 43, 3) := by decide +kernel
theorem dX10_strip_47 : decode cX10_strip 47 = .ok (.iload 7, 2) := by decide +kernel
theorem dX10_strip_49 : decode cX10_strip 49 = .ok (.aload_n 0, 1) := by decide +kernel
theorem dX10_strip_50 : decode cX10_strip 50 = .ok (.getfield 35, 3) := by decide +kernel
theorem dX10_strip_53 : decode cX10_strip 53 = .ok (.iload 10, 2) := by decide +kernel
theorem dX10_strip_55 : decode cX10_strip 55 = .ok (.iaload, 1) := by decide +kernel
theorem dX10_strip_56 : decode cX10_strip 56 = .ok (.iadd, 1) := by decide +kernel
theorem dX10_strip_57 : decode cX10_strip 57 = .ok (.istore 7, 2) := by decide +kernel
theorem dX10_strip_59 : decode cX10_strip 59 = .ok (.lload 8, 2) := by decide +kernel
theorem dX10_strip_61 : decode cX10_strip 61 = .ok (.iconst 5, 1) := by decide +kernel
theorem dX10_strip_62 : decode cX10_strip 62 = .ok (.lshl, 1) := by decide +kernel
theorem dX10_strip_63 : decode cX10_strip 63 = .ok (.lload_n 1, 1) := by decide +kernel
theorem dX10_strip_64 : decode cX10_strip 64 = .ok (.iload 10, 2) := by decide +kernel
theorem dX10_strip_66 : decode cX10_strip 66 = .ok (.invokestatic 162, 3) := by decide +kernel
theorem dX10_strip_69 : decode cX10_strip 69 = .ok (.aload_n 0, 1) := by decide +kernel
theorem dX10_strip_70 : decode cX10_strip 70 = .ok (.getfield 35, 3) := by decide +kernel
theorem dX10_strip_73 : decode cX10_strip 73 = .ok (.iload 10, 2) := by decide +kernel
theorem dX10_strip_75 : decode cX10_strip 75 = .ok (.iaload, 1) := by decide +kernel
theorem dX10_strip_76 : decode cX10_strip 76 = .ok (.isub, 1) := by decide +kernel
theorem dX10_strip_77 : decode cX10_strip 77 = .ok (.i2l, 1) := by decide +kernel
theorem dX10_strip_78 : decode cX10_strip 78 = .ok (.lor, 1) := by decide +kernel
theorem dX10_strip_79 : decode cX10_strip 79 = .ok (.lstore 8, 2) := by decide +kernel
theorem dX10_strip_81 : decode cX10_strip 81 = .ok (.iinc 10 (-1), 3) := by decide +kernel
theorem dX10_strip_84 : decode cX10_strip 84 = .ok (.goto (-42), 3) := by decide +kernel
theorem dX10_strip_87 : decode cX10_strip 87 = .ok (.iload 7, 2) := by decide +kernel
theorem dX10_strip_89 : decode cX10_strip 89 = .ok (.iload_n 3, 1) := by decide +kernel
theorem dX10_strip_90 : decode cX10_strip 90 = .ok (.if_icmp .ne 11, 3) := by decide +kernel
theorem dX10_strip_93 : decode cX10_strip 93 = .ok (.aload_n 0, 1) := by decide +kernel
theorem dX10_strip_94 : decode cX10_strip 94 = .ok (.lload 8, 2) := by decide +kernel
theorem dX10_strip_96 : decode cX10_strip 96 = .ok (.lload 4, 2) := by decide +kernel
theorem dX10_strip_98 : decode cX10_strip 98 = .ok (.invokevirtual 166, 3) := by decide +kernel
theorem dX10_strip_101 : decode cX10_strip 101 = .ok (.iconst 0, 1) := by decide +kernel
theorem dX10_strip_102 : decode cX10_strip 102 = .ok (.istore 10, 2) := by decide +kernel
theorem dX10_strip_104 : decode cX10_strip 104 = .ok (.iload 10, 2) := by decide +kernel
theorem dX10_strip_106 : decode cX10_strip 106 = .ok (.bipush 8, 2) := by decide +kernel
theorem dX10_strip_108 : decode cX10_strip 108 = .ok (.if_icmp .ge 53, 3) := by decide +kernel
theorem dX10_strip_111 : decode cX10_strip 111 = .ok (.aload_n 0, 1) := by decide +kernel
theorem dX10_strip_112 : decode cX10_strip 112 = .ok (.getfield 35, 3) := by decide +kernel
theorem dX10_strip_115 : decode cX10_strip 115 = .ok (.iload 10, 2) := by decide +kernel
theorem dX10_strip_117 : decode cX10_strip 117 = .ok (.iaload, 1) := by decide +kernel
theorem dX10_strip_118 : decode cX10_strip 118 = .ok (.lload_n 1, 1) := by decide +kernel
theorem dX10_strip_119 : decode cX10_strip 119 = .ok (.iload 10, 2) := by decide +kernel
theorem dX10_strip_121 : decode cX10_strip 121 = .ok (.invokestatic 162, 3) := by decide +kernel
theorem dX10_strip_124 : decode cX10_strip 124 = .ok (.iload 10, 2) := by decide +kernel
theorem dX10_strip_126 : decode cX10_strip 126 = .ok (.bipush 7, 2) := by decide +kernel
theorem dX10_strip_128 : decode cX10_strip 128 = .ok (.if_icmp .ne 7, 3) := by decide +kernel
theorem dX10_strip_131 : decode cX10_strip 131 = .ok (.iconst 0, 1) := by decide +kernel
theorem dX10_strip_132 : decode cX10_strip 132 = .ok (.goto 11, 3) := by decide +kernel
theorem dX10_strip_135 : decode cX10_strip 135 = .ok (.lload_n 1, 1) := by decide +kernel
theorem dX10_strip_136 : decode cX10_strip 136 = .ok (.iload 10, 2) := by decide +kernel
theorem dX10_strip_138 : decode cX10_strip 138 = .ok (.iconst 1, 1) := by decide +kernel
theorem dX10_strip_139 : decode cX10_strip 139 = .ok (.iadd, 1) := by decide +kernel
theorem dX10_strip_140 : decode cX10_strip 140 = .ok (.invokestatic 162, 3) := by decide +kernel
theorem dX10_strip_143 : decode cX10_strip 143 = .ok (.isub, 1) := by decide +kernel
theorem dX10_strip_144 : decode cX10_strip 144 = .ok (.if_icmp .ne 17, 3) := by decide +kernel
theorem dX10_strip_147 : decode cX10_strip 147 = .ok (.aload_n 0, 1) := by decide +kernel
theorem dX10_strip_148 : decode cX10_strip 148 = .ok (.getfield 35, 3) := by decide +kernel
theorem dX10_strip_151 : decode cX10_strip 151 = .ok (.iload 10, 2) := by decide +kernel
theorem dX10_strip_153 : decode cX10_strip 153 = .ok (.iconst 0, 1) := by decide +kernel
theorem dX10_strip_154 : decode cX10_strip 154 = .ok (.iastore, 1) := by decide +kernel
theorem dX10_strip_155 : decode cX10_strip 155 = .ok (.iinc 10 1, 3) := by decide +kernel
theorem dX10_strip_158 : decode cX10_strip 158 = .ok (.goto (-54), 3) := by decide +kernel
theorem dX10_strip_161 : decode cX10_strip 161 = .ok (.iload 10, 2) := by decide +kernel
theorem dX10_strip_163 : decode cX10_strip 163 = .ok (.bipush 8, 2) := by decide +kernel
theorem dX10_strip_165 : decode cX10_strip 165 = .ok (.if_icmp .ge 7, 3) := by decide +kernel
theorem dX10_strip_168 : decode cX10_strip 168 = .ok (.iconst 1, 1) := by decide +kernel
theorem dX10_strip_169 : decode cX10_strip 169 = .ok (.goto 4, 3) := by decide +kernel
theorem dX10_strip_172 : decode cX10_strip 172 = .ok (.iconst 0, 1) := by decide +kernel
theorem dX10_strip_173 : decode cX10_strip 173 = .ok (.istore 6, 2) := by decide +kernel
theorem dX10_strip_175 : decode cX10_strip 175 = .ok (.aload_n 0, 1) := by decide +kernel
theorem dX10_strip_176 : decode cX10_strip 176 = .ok (.getfield 35, 3) := by decide +kernel
theorem dX10_strip_179 : decode cX10_strip 179 = .ok (.iload 10, 2) := by decide +kernel
theorem dX10_strip_181 : decode cX10_strip 181 = .ok (.dup2, 1) := by decide +kernel
theorem dX10_strip_182 : decode cX10_strip 182 = .ok (.iaload, 1) := by decide +kernel
theorem dX10_strip_183 : decode cX10_strip 183 = .ok (.iconst 1, 1) := by decide +kernel
theorem dX10_strip_184 : decode cX10_strip 184 = .ok (.iadd, 1) := by decide +kernel
theorem dX10_strip_185 : decode cX10_strip 185 = .ok (.iastore, 1) := by decide +kernel
theorem dX10_strip_186 : decode cX10_strip 186 = .ok (.goto (-159), 3) := by decide +kernel
theorem dX10_strip_189 : decode cX10_strip 189 = .ok (.return_, 1) := by decide +kernel
theorem dX10_fillings_0 : decode cX10_fillings 0 = .ok (.aload_n 0, 1) := by decide +kernel
theorem dX10_fillings_1 : decode cX10_fillings 1 = .ok (.iload_n 1, 1) := by decide +kernel
theorem dX10_fillings_2 : decode cX10_fillings 2 = .ok (.invokestatic 67, 3) := by decide +kernel
theorem dX10_fillings_5 : decode cX10_fillings 5 = .ok (.ifCond .eq 10, 3) := by decide +kernel
theorem dX10_fillings_8 : decode cX10_fillings 8 = .ok (.iload_n 2, 1) := by decide +kernel
theorem dX10_fillings_9 : decode cX10_fillings 9 = .ok (.invokestatic 81, 3) := by decide +kernel
theorem dX10_fillings_12 : decode cX10_fillings 12 = .ok (.ifCond .ne 7, 3) := by decide +kernel
theorem dX10_fillings_15 : decode cX10_fillings 15 = .ok (.iconst 1, 1) := by decide +kernel
theorem dX10_fillings_16 : decode cX10_fillings 16 = .ok (.goto 4, 3) := by decide +kernel
theorem dX10_fillings_19 : decode cX10_fillings 19 = .ok (.iconst 0, 1) := by decide +kernel
theorem dX10_fillings_20 : decode cX10_fillings 20 = .ok (.putfield 63, 3) := by decide +kernel
theorem dX10_fillings_23 : decode cX10_fillings 23 = .ok (.aload_n 0, 1) := by decide +kernel
theorem dX10_fillings_24 : decode cX10_fillings 24 = .ok (.getfield 63, 3) := by decide +kernel
theorem dX10_fillings_27 : decode cX10_fillings 27 = .ok (.ifCond .gt 17, 3) := by decide +kernel
theorem dX10_fillings_30 : decode cX10_fillings 30 = .ok (.aload_n 0, 1) := by decide +kernel
theorem dX10_fillings_31 : decode cX10_fillings 31 = .ok (.getfield 16, 3) := by decide +kernel
theorem dX10_fillings_34 : decode cX10_fillings 34 = .ok (.iload_n 2, 1) := by decide +kernel
theorem dX10_fillings_35 : decode cX10_fillings 35 = .ok (.iaload, 1) := by decide +kernel
theorem dX10_fillings_36 : decode cX10_fillings 36 = .ok (.aload_n 0, 1) := by decide +kernel
theorem dX10_fillings_37 : decode cX10_fillings 37 = .ok (.iload_n 1, 1) := by decide +kernel
theorem dX10_fillings_38 : decode cX10_fillings 38 = .ok (.invokevirtual 77, 3) := by decide +kernel
theorem dX10_fillings_41 : decode cX10_fillings 41 = .ok (.if_icmp .eq 5, 3) := by decide +kernel
theorem dX10_fillings_44 : decode cX10_fillings 44 = .ok (.lconst 0, 1) := by decide +kernel
theorem dX10_fillings_45 : decode cX10_fillings 45 = .ok (.lreturn, 1) := by decide +kernel
theorem dX10_fillings_46 : decode cX10_fillings 46 = .ok (.iconst 0, 1) := by decide +kernel
theorem dX10_fillings_47 : decode cX10_fillings 47 = .ok (.istore_n 3, 1) := by decide +kernel
theorem dX10_fillings_48 : decode cX10_fillings 48 = .ok (.iload_n 3, 1) := by decide +kernel
theorem dX10_fillings_49 : decode cX10_fillings 49 = .ok (.bipush 17, 2) := by decide +kernel
theorem dX10_fillings_51 : decode cX10_fillings 51 = .ok (.if_icmp .ge 16, 3) := by decide +kernel
theorem dX10_fillings_54 : decode cX10_fillings 54 = .ok (.aload_n 0, 1) := by decide +kernel
theorem dX10_fillings_55 : decode cX10_fillings 55 = .ok (.getfield 44, 3) := by decide +kernel
theorem dX10_fillings_58 : decode cX10_fillings 58 = .ok (.iload_n 3, 1) := by decide +kernel
theorem dX10_fillings_59 : decode cX10_fillings 59 = .ok (.iconst 0, 1) := by decide +kernel
theorem dX10_fillings_60 : decode cX10_fillings 60 = .ok (.iastore, 1) := by decide +kernel
theorem dX10_fillings_61 : decode cX10_fillings 61 = .ok (.iinc 3 1, 3) := by decide +kernel
theorem dX10_fillings_64 : decode cX10_fillings 64 = .ok (.goto (-16), 3) := by decide +kernel
theorem dX10_fillings_67 : decode cX10_fillings 67 = .ok (.iconst 0, 1) := by decide +kernel
theorem dX10_fillings_68 : decode cX10_fillings 68 = .ok (.istore_n 3, 1) := by decide +kernel
theorem dX10_fillings_69 : decode cX10_fillings 69 = .ok (.iload_n 3, 1) := by decide +kernel
theorem dX10_fillings_70 : decode cX10_fillings 70 = .ok (.aload_n 0, 1) := by decide +kernel
theorem dX10_fillings_71 : decode cX10_fillings 71 = .ok (.getfield 16, 3) := by decide +kernel
theorem dX10_fillings_74 : decode cX10_fillings 74 = .ok (.iload_n 2, 1) := by decide +kernel
theorem dX10_fillings_75 : decode cX10_fillings 75 = .ok (.iaload, 1) := by decide +kernel
theorem dX10_fillings_76 : decode cX10_fillings 76 = .ok (.if_icmp .ge 29, 3) := by decide +kernel
theorem dX10_fillings_79 : decode cX10_fillings 79 = .ok (.aload_n 0, 1) := by decide +kernel
theorem dX10_fillings_80 : decode cX10_fillings 80 = .ok (.getfield 44, 3) := by decide +kernel
theorem dX10_fillings_83 : decode cX10_fillings 83 = .ok (.aload_n 0, 1) := by decide +kernel
theorem dX10_fillings_84 : decode cX10_fillings 84 = .ok (.getfield 13, 3) := by decide +kernel
theorem dX10_fillings_87 : decode cX10_fillings 87 = .ok (.bipush 16, 2) := by decide +kernel
theorem dX10_fillings_89 : decode cX10_fillings 89 = .ok (.iload_n 2, 1) := by decide +kernel
theorem dX10_fillings_90 : decode cX10_fillings 90 = .ok (.imul, 1) := by decide +kernel
theorem dX10_fillings_91 : decode cX10_fillings 91 = .ok (.iload_n 3, 1) := by decide +kernel
theorem dX10_fillings_92 : decode cX10_fillings 92 = .ok (.iadd, 1) := by decide +kernel
theorem dX10_fillings_93 : decode cX10_fillings 93 = .ok (.iaload, 1) := by decide +kernel
theorem dX10_fillings_94 : decode cX10_fillings 94 = .ok (.dup2, 1) := by decide +kernel
theorem dX10_fillings_95 : decode cX10_fillings 95 = .ok (.iaload, 1) := by decide +kernel
theorem dX10_fillings_96 : decode cX10_fillings 96 = .ok (.iconst 1, 1) := by decide +kernel
theorem dX10_fillings_97 : decode cX10_fillings 97 = .ok (.iadd, 1) := by decide +kernel
theorem dX10_fillings_98 : decode cX10_fillings 98 = .ok (.iastore, 1) := by decide +kernel
theorem dX10_fillings_99 : decode cX10_fillings 99 = .ok (.iinc 3 1, 3) := by decide +kernel
theorem dX10_fillings_102 : decode cX10_fillings 102 = .ok (.goto (-33), 3) := by decide +kernel
theorem dX10_fillings_105 : decode cX10_fillings 105 = .ok (.lconst 0, 1) := by decide +kernel
theorem dX10_fillings_106 : decode cX10_fillings 106 = .ok (.lstore_n 3, 1) := by decide +kernel
theorem dX10_fillings_107 : decode cX10_fillings 107 = .ok (.bipush 7, 2) := by decide +kernel
theorem dX10_fillings_109 : decode cX10_fillings 109 = .ok (.istore 5, 2) := by decide +kernel
theorem dX10_fillings_111 : decode cX10_fillings 111 = .ok (.iload 5, 2) := by decide +kernel
theorem dX10_fillings_113 : decode cX10_fillings 113 = .ok (.ifCond .lt 22, 3) := by decide +kernel
theorem dX10_fillings_116 : decode cX10_fillings 116 = .ok (.lload_n 3, 1) := by decide +kernel
theorem dX10_fillings_117 : decode cX10_fillings 117 = .ok (.iconst 5, 1) := by decide +kernel
theorem dX10_fillings_118 : decode cX10_fillings 118 = .ok (.lshl, 1) := by decide +kernel
theorem dX10_fillings_119 : decode cX10_fillings 119 = .ok (.aload_n 0, 1) := by decide +kernel
theorem dX10_fillings_120 : decode cX10_fillings 120 = .ok (.iload_n 1, 1) := by decide +kernel
theorem dX10_fillings_121 : decode cX10_fillings 121 = .ok (.iload 5, 2) := by decide +kernel
theorem dX10_fillings_123 : decode cX10_fillings 123 = .ok (.invokevirtual 73, 3) := by decide +kernel
theorem dX10_fillings_126 : decode cX10_fillings 126 = .ok (.i2l, 1) := by decide +kernel
theorem dX10_fillings_127 : decode cX10_fillings 127 = .ok (.lor, 1) := by decide +kernel
theorem dX10_fillings_128 : decode cX10_fillings 128 = .ok (.lstore_n 3, 1) := by decide +kernel
theorem dX10_fillings_129 : decode cX10_fillings 129 = .ok (.iinc 5 (-1), 3) := by decide +kernel
theorem dX10_fillings_132 : decode cX10_fillings 132 = .ok (.goto (-21), 3) := by decide +kernel
theorem dX10_fillings_135 : decode cX10_fillings 135 = .ok (.aload_n 0, 1) := by decide +kernel
theorem dX10_fillings_136 : decode cX10_fillings 136 = .ok (.iconst 0, 1) := by decide +kernel
theorem dX10_fillings_137 : decode cX10_fillings 137 = .ok (.putfield 124, 3) := by decide +kernel
theorem dX10_fillings_140 : decode cX10_fillings 140 = .ok (.aload_n 0, 1) := by decide +kernel
theorem dX10_fillings_141 : decode cX10_fillings 141 = .ok (.lload_n 3, 1) := by decide +kernel
theorem dX10_fillings_142 : decode cX10_fillings 142 = .ok (.lconst 1, 1) := by decide +kernel
theorem dX10_fillings_143 : decode cX10_fillings 143 = .ok (.invokevirtual 166, 3) := by decide +kernel
theorem dX10_fillings_146 : decode cX10_fillings 146 = .ok (.iconst 1, 1) := by decide +kernel
theorem dX10_fillings_147 : decode cX10_fillings 147 = .ok (.istore 5, 2) := by decide +kernel
theorem dX10_fillings_149 : decode cX10_fillings 149 = .ok (.iload 5, 2) := by decide +kernel
theorem dX10_fillings_151 : decode cX10_fillings 151 = .ok (.bipush 17, 2) := by decide +kernel
theorem dX10_fillings_153 : decode cX10_fillings 153 = .ok (.if_icmp .ge 66, 3) := by decide +kernel
theorem dX10_fillings_156 : decode cX10_fillings 156 = .ok (.aload_n 0, 1) := by decide +kernel
theorem dX10_fillings_157 : decode cX10_fillings 157 = .ok (.getfield 44, 3) := by decide +kernel
theorem dX10_fillings_160 : decode cX10_fillings 160 = .ok (.iload 5, 2) := by decide +kernel
theorem dX10_fillings_162 : decode cX10_fillings 162 = .ok (.iaload, 1) := by decide +kernel
theorem dX10_fillings_163 : decode cX10_fillings 163 = .ok (.ifCond .le 50, 3) := by decide +kernel
theorem dX10_fillings_166 : decode cX10_fillings 166 = .ok (.aload_n 0, 1) := by decide +kernel
theorem dX10_fillings_167 : decode cX10_fillings 167 = .ok (.invokevirtual 170, 3) := by decide +kernel
theorem dX10_fillings_170 : decode cX10_fillings 170 = .ok (.iconst 0, 1) := by decide +kernel
theorem dX10_fillings_171 : decode cX10_fillings 171 = .ok (.istore 6, 2) := by decide +kernel
theorem dX10_fillings_173 : decode cX10_fillings 173 = .ok (.iload 6, 2) := by decide +kernel
theorem dX10_fillings_175 : decode cX10_fillings 175 = .ok (.aload_n 0, 1) := by decide +kernel
theorem dX10_fillings_176 : decode cX10_fillings 176 = .ok (.getfield 157, 3) := by decide +kernel
theorem dX10_fillings_179 : decode cX10_fillings 179 = .ok (.if_icmp .ge 34, 3) := by decide +kernel
theorem dX10_fillings_182 : decode cX10_fillings 182 = .ok (.aload_n 0, 1) := by decide +kernel
theorem dX10_fillings_183 : decode cX10_fillings 183 = .ok (.aload_n 0, 1) := by decide +kernel
theorem dX10_fillings_184 : decode cX10_fillings 184 = .ok (.getfield 54, 3) := by decide +kernel
theorem dX10_fillings_187 : decode cX10_fillings 187 = .ok (.iload 6, 2) := by decide +kernel
theorem dX10_fillings_189 : decode cX10_fillings 189 = .ok (.laload, 1) := by decide +kernel
theorem dX10_fillings_190 : decode cX10_fillings 190 = .ok (.aload_n 0, 1) := by decide +kernel
theorem dX10_fillings_191 : decode cX10_fillings 191 = .ok (.getfield 44, 3) := by decide +kernel
theorem dX10_fillings_194 : decode cX10_fillings 194 = .ok (.iload 5, 2) := by decide +kernel
theorem dX10_fillings_196 : decode cX10_fillings 196 = .ok (.iaload, 1) := by decide +kernel
theorem dX10_fillings_197 : decode cX10_fillings 197 = .ok (.aload_n 0, 1) := by decide +kernel
theorem dX10_fillings_198 : decode cX10_fillings 198 = .ok (.getfield 57, 3) := by decide +kernel
theorem dX10_fillings_201 : decode cX10_fillings 201 = .ok (.iload 6, 2) := by decide +kernel
theorem dX10_fillings_203 : decode cX10_fillings 203 = .ok (.laload, 1) := by decide +kernel
theorem dX10_fillings_204 : decode cX10_fillings 204 = .ok (.invokevirtual 173, 3) := by decide +kernel
theorem dX10_fillings_207 : decode cX10_fillings 207 = .ok (.iinc 6 1, 3) := by decide +kernel
theorem dX10_fillings_210 : decode cX10_fillings 210 = .ok (.goto (-37), 3) := by decide +kernel
theorem dX10_fillings_213 : decode cX10_fillings 213 = .ok (.iinc 5 1, 3) := by decide +kernel
theorem dX10_fillings_216 : decode cX10_fillings 216 = .ok (.goto (-67), 3) := by decide +kernel
theorem dX10_fillings_219 : decode cX10_fillings 219 = .ok (.aload_n 0, 1) := by decide +kernel
theorem dX10_fillings_220 : decode cX10_fillings 220 = .ok (.getfield 124, 3) := by decide +kernel
theorem dX10_fillings_223 : decode cX10_fillings 223 = .ok (.ifCond .ne 7, 3) := by decide +kernel
theorem dX10_fillings_226 : decode cX10_fillings 226 = .ok (.lconst 0, 1) := by decide +kernel
theorem dX10_fillings_227 : decode cX10_fillings 227 = .ok (.goto 9, 3) := by decide +kernel
theorem dX10_fillings_230 : decode cX10_fillings 230 = .ok (.aload_n 0, 1) := by decide +kernel
theorem dX10_fillings_231 : decode cX10_fillings 231 = .ok (.getfield 51, 3) := by decide +kernel
theorem dX10_fillings_234 : decode cX10_fillings 234 = .ok (.iconst 0, 1) := by decide +kernel
theorem dX10_fillings_235 : decode cX10_fillings 235 = .ok (.laload, 1) := by decide +kernel
theorem dX10_fillings_236 : decode cX10_fillings 236 = .ok (.lreturn, 1) := by decide +kernel
theorem dX10_grows_0 : decode cX10_grows 0 = .ok (.aload_n 0, 1) := by decide +kernel
theorem dX10_grows_1 : decode cX10_grows 1 = .ok (.getfield 38, 3) := by decide +kernel
theorem dX10_grows_4 : decode cX10_grows 4 = .ok (.iload_n 1, 1) := by decide +kernel
theorem dX10_grows_5 : decode cX10_grows 5 = .ok (.iaload, 1) := by decide +kernel
theorem dX10_grows_6 : decode cX10_grows 6 = .ok (.aload_n 0, 1) := by decide +kernel
theorem dX10_grows_7 : decode cX10_grows 7 = .ok (.getfield 41, 3) := by decide +kernel
theorem dX10_grows_10 : decode cX10_grows 10 = .ok (.iload_n 1, 1) := by decide +kernel
theorem dX10_grows_11 : decode cX10_grows 11 = .ok (.iaload, 1) := by decide +kernel
theorem dX10_grows_12 : decode cX10_grows 12 = .ok (.if_icmp .ge 28, 3) := by decide +kernel
theorem dX10_grows_15 : decode cX10_grows 15 = .ok (.iload_n 1, 1) := by decide +kernel
theorem dX10_grows_16 : decode cX10_grows 16 = .ok (.ifCond .eq 20, 3) := by decide +kernel
theorem dX10_grows_19 : decode cX10_grows 19 = .ok (.aload_n 0, 1) := by decide +kernel
theorem dX10_grows_20 : decode cX10_grows 20 = .ok (.getfield 38, 3) := by decide +kernel
theorem dX10_grows_23 : decode cX10_grows 23 = .ok (.iload_n 1, 1) := by decide +kernel
theorem dX10_grows_24 : decode cX10_grows 24 = .ok (.iconst 1, 1) := by decide +kernel
theorem dX10_grows_25 : decode cX10_grows 25 = .ok (.isub, 1) := by decide +kernel
theorem dX10_grows_26 : decode cX10_grows 26 = .ok (.iaload, 1) := by decide +kernel
theorem dX10_grows_27 : decode cX10_grows 27 = .ok (.aload_n 0, 1) := by decide +kernel
theorem dX10_grows_28 : decode cX10_grows 28 = .ok (.getfield 38, 3) := by decide +kernel
theorem dX10_grows_31 : decode cX10_grows 31 = .ok (.iload_n 1, 1) := by decide +kernel
theorem dX10_grows_32 : decode cX10_grows 32 = .ok (.iaload, 1) := by decide +kernel
theorem dX10_grows_33 : decode cX10_grows 33 = .ok (.if_icmp .le 7, 3) := by decide +kernel
theorem dX10_grows_36 : decode cX10_grows 36 = .ok (.iconst 1, 1) := by decide +kernel
theorem dX10_grows_37 : decode cX10_grows 37 = .ok (.goto 4, 3) := by decide +kernel
theorem dX10_grows_40 : decode cX10_grows 40 = .ok (.iconst 0, 1) := by decide +kernel
theorem dX10_grows_41 : decode cX10_grows 41 = .ok (.ireturn, 1) := by decide +kernel
theorem dX10_coefficient_0 : decode cX10_coefficient 0 = .ok (.aload_n 0, 1) := by decide +kernel
theorem dX10_coefficient_1 : decode cX10_coefficient 1 = .ok (.iload_n 1, 1) := by decide +kernel
theorem dX10_coefficient_2 : decode cX10_coefficient 2 = .ok (.invokestatic 67, 3) := by decide +kernel
theorem dX10_coefficient_5 : decode cX10_coefficient 5 = .ok (.ifCond .eq 17, 3) := by decide +kernel
theorem dX10_coefficient_8 : decode cX10_coefficient 8 = .ok (.iload_n 2, 1) := by decide +kernel
theorem dX10_coefficient_9 : decode cX10_coefficient 9 = .ok (.invokestatic 67, 3) := by decide +kernel
theorem dX10_coefficient_12 : decode cX10_coefficient 12 = .ok (.ifCond .eq 10, 3) := by decide +kernel
theorem dX10_coefficient_15 : decode cX10_coefficient 15 = .ok (.iload_n 3, 1) := by decide +kernel
theorem dX10_coefficient_16 : decode cX10_coefficient 16 = .ok (.invokestatic 67, 3) := by decide +kernel
theorem dX10_coefficient_19 : decode cX10_coefficient 19 = .ok (.ifCond .ne 7, 3) := by decide +kernel
theorem dX10_coefficient_22 : decode cX10_coefficient 22 = .ok (.iconst 1, 1) := by decide +kernel
theorem dX10_coefficient_23 : decode cX10_coefficient 23 = .ok (.goto 4, 3) := by decide +kernel
theorem dX10_coefficient_26 : decode cX10_coefficient 26 = .ok (.iconst 0, 1) := by decide +kernel
theorem dX10_coefficient_27 : decode cX10_coefficient 27 = .ok (.putfield 63, 3) := by decide +kernel
theorem dX10_coefficient_30 : decode cX10_coefficient 30 = .ok (.aload_n 0, 1) := by decide +kernel
theorem dX10_coefficient_31 : decode cX10_coefficient 31 = .ok (.getfield 63, 3) := by decide +kernel
theorem dX10_coefficient_34 : decode cX10_coefficient 34 = .ok (.ifCond .gt 31, 3) := by decide +kernel
theorem dX10_coefficient_37 : decode cX10_coefficient 37 = .ok (.aload_n 0, 1) := by decide +kernel
theorem dX10_coefficient_38 : decode cX10_coefficient 38 = .ok (.iload_n 1, 1) := by decide +kernel
theorem dX10_coefficient_39 : decode cX10_coefficient 39 = .ok (.iload_n 3, 1) := by decide +kernel
theorem dX10_coefficient_40 : decode cX10_coefficient 40 = .ok (.invokevirtual 127, 3) := by decide +kernel
theorem dX10_coefficient_43 : decode cX10_coefficient 43 = .ok (.ifCond .eq 22, 3) := by decide +kernel
theorem dX10_coefficient_46 : decode cX10_coefficient 46 = .ok (.aload_n 0, 1) := by decide +kernel
theorem dX10_coefficient_47 : decode cX10_coefficient 47 = .ok (.iload_n 1, 1) := by decide +kernel
theorem dX10_coefficient_48 : decode cX10_coefficient 48 = .ok (.invokevirtual 77, 3) := by decide +kernel
theorem dX10_coefficient_51 : decode cX10_coefficient 51 = .ok (.aload_n 0, 1) := by decide +kernel
theorem dX10_coefficient_52 : decode cX10_coefficient 52 = .ok (.iload_n 2, 1) := by decide +kernel
theorem dX10_coefficient_53 : decode cX10_coefficient 53 = .ok (.invokevirtual 77, 3) := by decide +kernel
theorem dX10_coefficient_56 : decode cX10_coefficient 56 = .ok (.iadd, 1) := by decide +kernel
theorem dX10_coefficient_57 : decode cX10_coefficient 57 = .ok (.aload_n 0, 1) := by decide +kernel
theorem dX10_coefficient_58 : decode cX10_coefficient 58 = .ok (.iload_n 3, 1) := by decide +kernel
theorem dX10_coefficient_59 : decode cX10_coefficient 59 = .ok (.invokevirtual 77, 3) := by decide +kernel
theorem dX10_coefficient_62 : decode cX10_coefficient 62 = .ok (.if_icmp .eq 5, 3) := by decide +kernel
theorem dX10_coefficient_65 : decode cX10_coefficient 65 = .ok (.lconst 0, 1) := by decide +kernel
theorem dX10_coefficient_66 : decode cX10_coefficient 66 = .ok (.lreturn, 1) := by decide +kernel
theorem dX10_coefficient_67 : decode cX10_coefficient 67 = .ok (.iconst 0, 1) := by decide +kernel
theorem dX10_coefficient_68 : decode cX10_coefficient 68 = .ok (.istore 4, 2) := by decide +kernel
theorem dX10_coefficient_70 : decode cX10_coefficient 70 = .ok (.iload 4, 2) := by decide +kernel
theorem dX10_coefficient_72 : decode cX10_coefficient 72 = .ok (.bipush 8, 2) := by decide +kernel
theorem dX10_coefficient_74 : decode cX10_coefficient 74 = .ok (.if_icmp .ge 37, 3) := by decide +kernel
theorem dX10_coefficient_77 : decode cX10_coefficient 77 = .ok (.aload_n 0, 1) := by decide +kernel
theorem dX10_coefficient_78 : decode cX10_coefficient 78 = .ok (.getfield 38, 3) := by decide +kernel
theorem dX10_coefficient_81 : decode cX10_coefficient 81 = .ok (.iload 4, 2) := by decide +kernel
theorem dX10_coefficient_83 : decode cX10_coefficient 83 = .ok (.aload_n 0, 1) := by decide +kernel
theorem dX10_coefficient_84 : decode cX10_coefficient 84 = .ok (.iload_n 1, 1) := by decide +kernel
theorem dX10_coefficient_85 : decode cX10_coefficient 85 = .ok (.iload 4, 2) := by decide +kernel
theorem dX10_coefficient_87 : decode cX10_coefficient 87 = .ok (.invokevirtual 73, 3) := by decide +kernel
theorem dX10_coefficient_90 : decode cX10_coefficient 90 = .ok (.iastore, 1) := by decide +kernel
theorem dX10_coefficient_91 : decode cX10_coefficient 91 = .ok (.aload_n 0, 1) := by decide +kernel
theorem dX10_coefficient_92 : decode cX10_coefficient 92 = .ok (.getfield 41, 3) := by decide +kernel
theorem dX10_coefficient_95 : decode cX10_coefficient 95 = .ok (.iload 4, 2) := by decide +kernel
theorem dX10_coefficient_97 : decode cX10_coefficient 97 = .ok (.aload_n 0, 1) := by decide +kernel
theorem dX10_coefficient_98 : decode cX10_coefficient 98 = .ok (.iload_n 3, 1) := by decide +kernel
theorem dX10_coefficient_99 : decode cX10_coefficient 99 = .ok (.iload 4, 2) := by decide +kernel
theorem dX10_coefficient_101 : decode cX10_coefficient 101 = .ok (.invokevirtual 73, 3) := by decide +kernel
theorem dX10_coefficient_104 : decode cX10_coefficient 104 = .ok (.iastore, 1) := by decide +kernel
theorem dX10_coefficient_105 : decode cX10_coefficient 105 = .ok (.iinc 4 1, 3) := by decide +kernel
theorem dX10_coefficient_108 : decode cX10_coefficient 108 = .ok (.goto (-38), 3) := by decide +kernel
theorem dX10_coefficient_111 : decode cX10_coefficient 111 = .ok (.aload_n 0, 1) := by decide +kernel
theorem dX10_coefficient_112 : decode cX10_coefficient 112 = .ok (.iload_n 2, 1) := by decide +kernel
theorem dX10_coefficient_113 : decode cX10_coefficient 113 = .ok (.invokevirtual 77, 3) := by decide +kernel
theorem dX10_coefficient_116 : decode cX10_coefficient 116 = .ok (.istore 4, 2) := by decide +kernel
theorem dX10_coefficient_118 : decode cX10_coefficient 118 = .ok (.aload_n 0, 1) := by decide +kernel
theorem dX10_coefficient_119 : decode cX10_coefficient 119 = .ok (.iconst 1, 1) := by decide +kernel
theorem dX10_coefficient_120 : decode cX10_coefficient 120 = .ok (.invokevirtual 88, 3) := by decide +kernel
theorem dX10_coefficient_123 : decode cX10_coefficient 123 = .ok (.iconst 0, 1) := by decide +kernel
theorem dX10_coefficient_124 : decode cX10_coefficient 124 = .ok (.istore 5, 2) := by decide +kernel
theorem dX10_coefficient_126 : decode cX10_coefficient 126 = .ok (.lconst 0, 1) := by decide +kernel
theorem dX10_coefficient_127 : decode cX10_coefficient 127 = .ok (.lstore 6, 2) := by decide +kernel
theorem dX10_coefficient_129 : decode cX10_coefficient 129 = .ok (.iconst 0, 1) := by decide +kernel
theorem dX10_coefficient_130 : decode cX10_coefficient 130 = .ok (.istore 8, 2) := by decide +kernel
theorem dX10_coefficient_132 : decode cX10_coefficient 132 = .ok (.aload_n 0, 1) := by decide +kernel
theorem dX10_coefficient_133 : decode cX10_coefficient 133 = .ok (.iload_n 2, 1) := by decide +kernel
theorem dX10_coefficient_134 : decode cX10_coefficient 134 = .ok (.iconst 0, 1) := by decide +kernel
theorem dX10_coefficient_135 : decode cX10_coefficient 135 = .ok (.invokevirtual 73, 3) := by decide +kernel
theorem dX10_coefficient_138 : decode cX10_coefficient 138 = .ok (.iconst 1, 1) := by decide +kernel
theorem dX10_coefficient_139 : decode cX10_coefficient 139 = .ok (.isub, 1) := by decide +kernel
theorem dX10_coefficient_140 : decode cX10_coefficient 140 = .ok (.istore 9, 2) := by decide +kernel
theorem dX10_coefficient_142 : decode cX10_coefficient 142 = .ok (.iconst 0, 1) := by decide +kernel
theorem dX10_coefficient_143 : decode cX10_coefficient 143 = .ok (.istore 10, 2) := by decide +kernel
theorem dX10_coefficient_145 : decode cX10_coefficient 145 = .ok (.iconst 0, 1) := by decide +kernel
theorem dX10_coefficient_146 : decode cX10_coefficient 146 = .ok (.istore 11, 2) := by decide +kernel
theorem dX10_coefficient_148 : decode cX10_coefficient 148 = .ok (.iload 4, 2) := by decide +kernel
theorem dX10_coefficient_150 : decode cX10_coefficient 150 = .ok (.ifCond .ne 5, 3) := by decide +kernel
theorem dX10_coefficient_153 : decode cX10_coefficient 153 = .ok (.lconst 1, 1) := by decide +kernel
theorem dX10_coefficient_154 : decode cX10_coefficient 154 = .ok (.lreturn, 1) := by decide +kernel
theorem dX10_coefficient_155 : decode cX10_coefficient 155 = .ok (.iload 5, 2) := by decide +kernel
theorem dX10_coefficient_157 : decode cX10_coefficient 157 = .ok (.ifCond .lt 257, 3) := by decide +kernel
theorem dX10_coefficient_160 : decode cX10_coefficient 160 = .ok (.iconst 0, 1) := by decide +kernel
theorem dX10_coefficient_161 : decode cX10_coefficient 161 = .ok (.istore 8, 2) := by decide +kernel
theorem dX10_coefficient_163 : decode cX10_coefficient 163 = .ok (.iload 5, 2) := by decide +kernel
theorem dX10_coefficient_165 : decode cX10_coefficient 165 = .ok (.istore 9, 2) := by decide +kernel
theorem dX10_coefficient_167 : decode cX10_coefficient 167 = .ok (.iload 9, 2) := by decide +kernel
theorem dX10_coefficient_169 : decode cX10_coefficient 169 = .ok (.aload_n 0, 1) := by decide +kernel
theorem dX10_coefficient_170 : decode cX10_coefficient 170 = .ok (.iload_n 2, 1) := by decide +kernel
theorem dX10_coefficient_171 : decode cX10_coefficient 171 = .ok (.iload 8, 2) := by decide +kernel
theorem dX10_coefficient_173 : decode cX10_coefficient 173 = .ok (.invokevirtual 73, 3) := by decide +kernel
theorem dX10_coefficient_176 : decode cX10_coefficient 176 = .ok (.if_icmp .lt 21, 3) := by decide +kernel
theorem dX10_coefficient_179 : decode cX10_coefficient 179 = .ok (.iload 9, 2) := by decide +kernel
theorem dX10_coefficient_181 : decode cX10_coefficient 181 = .ok (.aload_n 0, 1) := by decide +kernel
theorem dX10_coefficient_182 : decode cX10_coefficient 182 = .ok (.iload_n 2, 1) := by decide +kernel
theorem dX10_coefficient_183 : decode cX10_coefficient 183 = .ok (.iload 8, 2) := by decide +kernel
theorem dX10_coefficient_185 : decode cX10_coefficient 185 = .ok (.invokevirtual 73, 3) := by decide +kernel
theorem dX10_coefficient_188 : decode cX10_coefficient 188 = .ok (.isub, 1) := by decide +kernel
theorem dX10_coefficient_189 : decode cX10_coefficient 189 = .ok (.istore 9, 2) := by decide +kernel
theorem dX10_coefficient_191 : decode cX10_coefficient 191 = .ok (.iinc 8 1, 3) := by decide +kernel
theorem dX10_coefficient_194 : decode cX10_coefficient 194 = .ok (.goto (-27), 3) := by decide +kernel
theorem dX10_coefficient_197 : decode cX10_coefficient 197 = .ok (.aload_n 0, 1) := by decide +kernel
theorem dX10_coefficient_198 : decode cX10_coefficient 198 = .ok (.iload_n 2, 1) := by decide +kernel
theorem dX10_coefficient_199 : decode cX10_coefficient 199 = .ok (.iload 8, 2) := by decide +kernel
theorem dX10_coefficient_201 : decode cX10_coefficient 201 = .ok (.invokevirtual 73, 3) := by decide +kernel
theorem dX10_coefficient_204 : decode cX10_coefficient 204 = .ok (.iconst 1, 1) := by decide +kernel
theorem dX10_coefficient_205 : decode cX10_coefficient 205 = .ok (.isub, 1) := by decide +kernel
theorem dX10_coefficient_206 : decode cX10_coefficient 206 = .ok (.iload 9, 2) := by decide +kernel
theorem dX10_coefficient_208 : decode cX10_coefficient 208 = .ok (.isub, 1) := by decide +kernel
theorem dX10_coefficient_209 : decode cX10_coefficient 209 = .ok (.istore 9, 2) := by decide +kernel
theorem dX10_coefficient_211 : decode cX10_coefficient 211 = .ok (.iconst 1, 1) := by decide +kernel
theorem dX10_coefficient_212 : decode cX10_coefficient 212 = .ok (.iload 8, 2) := by decide +kernel
theorem dX10_coefficient_214 : decode cX10_coefficient 214 = .ok (.iload 9, 2) := by decide +kernel
theorem dX10_coefficient_216 : decode cX10_coefficient 216 = .ok (.invokestatic 84, 3) := by decide +kernel
theorem dX10_coefficient_219 : decode cX10_coefficient 219 = .ok (.istore 12, 2) := by decide +kernel
theorem dX10_coefficient_221 : decode cX10_coefficient 221 = .ok (.iload 11, 2) := by decide +kernel
theorem dX10_coefficient_223 : decode cX10_coefficient 223 = .ok (.ifCond .eq 33, 3) := by decide +kernel
theorem dX10_coefficient_226 : decode cX10_coefficient 226 = .ok (.aload_n 0, 1) := by decide +kernel
theorem dX10_coefficient_227 : decode cX10_coefficient 227 = .ok (.getfield 19, 3) := by decide +kernel
theorem dX10_coefficient_230 : decode cX10_coefficient 230 = .ok (.iload 12, 2) := by decide +kernel
theorem dX10_coefficient_232 : decode cX10_coefficient 232 = .ok (.iaload, 1) := by decide +kernel
theorem dX10_coefficient_233 : decode cX10_coefficient 233 = .ok (.iconst 1, 1) := by decide +kernel
theorem dX10_coefficient_234 : decode cX10_coefficient 234 = .ok (.iadd, 1) := by decide +kernel
theorem dX10_coefficient_235 : decode cX10_coefficient 235 = .ok (.istore 10, 2) := by decide +kernel
theorem dX10_coefficient_237 : decode cX10_coefficient 237 = .ok (.aload_n 0, 1) := by decide +kernel
theorem dX10_coefficient_238 : decode cX10_coefficient 238 = .ok (.getfield 38, 3) := by decide +kernel
theorem dX10_coefficient_241 : decode cX10_coefficient 241 = .ok (.aload_n 0, 1) := by decide +kernel
theorem dX10_coefficient_242 : decode cX10_coefficient 242 = .ok (.getfield 19, 3) := by decide +kernel
theorem dX10_coefficient_245 : decode cX10_coefficient 245 = .ok (.iload 12, 2) := by decide +kernel
theorem dX10_coefficient_247 : decode cX10_coefficient 247 = .ok (.iaload, 1) := by decide +kernel
theorem dX10_coefficient_248 : decode cX10_coefficient 248 = .ok (.dup2, 1) := by decide +kernel
theorem dX10_coefficient_249 : decode cX10_coefficient 249 = .ok (.iaload, 1) := by decide +kernel
theorem dX10_coefficient_250 : decode cX10_coefficient 250 = .ok (.iconst 1, 1) := by decide +kernel
theorem dX10_coefficient_251 : decode cX10_coefficient 251 = .ok (.isub, 1) := by decide +kernel
theorem dX10_coefficient_252 : decode cX10_coefficient 252 = .ok (.iastore, 1) := by decide +kernel
theorem dX10_coefficient_253 : decode cX10_coefficient 253 = .ok (.goto 31, 3) := by decide +kernel
theorem dX10_coefficient_256 : decode cX10_coefficient 256 = .ok (.iload 8, 2) := by decide +kernel
theorem dX10_coefficient_258 : decode cX10_coefficient 258 = .ok (.ifCond .ne 7, 3) := by decide +kernel
theorem dX10_coefficient_261 : decode cX10_coefficient 261 = .ok (.iconst 0, 1) := by decide +kernel
theorem dX10_coefficient_262 : decode cX10_coefficient 262 = .ok (.goto 20, 3) := by decide +kernel
theorem dX10_coefficient_265 : decode cX10_coefficient 265 = .ok (.aload_n 0, 1) := by decide +kernel
theorem dX10_coefficient_266 : decode cX10_coefficient 266 = .ok (.getfield 19, 3) := by decide +kernel
theorem dX10_coefficient_269 : decode cX10_coefficient 269 = .ok (.iconst 1, 1) := by decide +kernel
theorem dX10_coefficient_270 : decode cX10_coefficient 270 = .ok (.iload 8, 2) := by decide +kernel
theorem dX10_coefficient_272 : decode cX10_coefficient 272 = .ok (.iconst 1, 1) := by decide +kernel
theorem dX10_coefficient_273 : decode cX10_coefficient 273 = .ok (.isub, 1) := by decide +kernel
theorem dX10_coefficient_274 : decode cX10_coefficient 274 = .ok (.iload 9, 2) := by decide +kernel
theorem dX10_coefficient_276 : decode cX10_coefficient 276 = .ok (.invokestatic 84, 3) := by decide +kernel
theorem dX10_coefficient_279 : decode cX10_coefficient 279 = .ok (.iaload, 1) := by decide +kernel
theorem dX10_coefficient_280 : decode cX10_coefficient 280 = .ok (.iconst 1, 1) := by decide +kernel
theorem dX10_coefficient_281 : decode cX10_coefficient 281 = .ok (.iadd, 1) := by decide +kernel
theorem dX10_coefficient_282 : decode cX10_coefficient 282 = .ok (.istore 10, 2) := by decide +kernel
theorem dX10_coefficient_284 : decode cX10_coefficient 284 = .ok (.iload 9, 2) := by decide +kernel
theorem dX10_coefficient_286 : decode cX10_coefficient 286 = .ok (.aload_n 0, 1) := by decide +kernel
theorem dX10_coefficient_287 : decode cX10_coefficient 287 = .ok (.iload_n 2, 1) := by decide +kernel
theorem dX10_coefficient_288 : decode cX10_coefficient 288 = .ok (.iload 8, 2) := by decide +kernel
theorem dX10_coefficient_290 : decode cX10_coefficient 290 = .ok (.invokevirtual 73, 3) := by decide +kernel
theorem dX10_coefficient_293 : decode cX10_coefficient 293 = .ok (.iconst 1, 1) := by decide +kernel
theorem dX10_coefficient_294 : decode cX10_coefficient 294 = .ok (.isub, 1) := by decide +kernel
theorem dX10_coefficient_295 : decode cX10_coefficient 295 = .ok (.if_icmp .ne 8, 3) := by decide +kernel
theorem dX10_coefficient_298 : decode cX10_coefficient 298 = .ok (.bipush 7, 2) := by decide +kernel
theorem dX10_coefficient_300 : decode cX10_coefficient 300 = .ok (.goto 18, 3) := by decide +kernel
theorem dX10_coefficient_303 : decode cX10_coefficient 303 = .ok (.aload_n 0, 1) := by decide +kernel
theorem dX10_coefficient_304 : decode cX10_coefficient 304 = .ok (.getfield 19, 3) := by decide +kernel
theorem dX10_coefficient_307 : decode cX10_coefficient 307 = .ok (.iconst 1, 1) := by decide +kernel
theorem dX10_coefficient_308 : decode cX10_coefficient 308 = .ok (.iload 8, 2) := by decide +kernel
theorem dX10_coefficient_310 : decode cX10_coefficient 310 = .ok (.iload 9, 2) := by decide +kernel
theorem dX10_coefficient_312 : decode cX10_coefficient 312 = .ok (.iconst 1, 1) := by decide +kernel
theorem dX10_coefficient_313 : decode cX10_coefficient 313 = .ok (.iadd, 1) := by decide +kernel
theorem dX10_coefficient_314 : decode cX10_coefficient 314 = .ok (.invokestatic 84, 3) := by decide +kernel
theorem dX10_coefficient_317 : decode cX10_coefficient 317 = .ok (.iaload, 1) := by decide +kernel
theorem dX10_coefficient_318 : decode cX10_coefficient 318 = .ok (.istore 13, 2) := by decide +kernel
theorem dX10_coefficient_320 : decode cX10_coefficient 320 = .ok (.iload 10, 2) := by decide +kernel
theorem dX10_coefficient_322 : decode cX10_coefficient 322 = .ok (.iload 13, 2) := by decide +kernel
theorem dX10_coefficient_324 : decode cX10_coefficient 324 = .ok (.if_icmp .gt 18, 3) := by decide +kernel
theorem dX10_coefficient_327 : decode cX10_coefficient 327 = .ok (.aload_n 0, 1) := by decide +kernel
theorem dX10_coefficient_328 : decode cX10_coefficient 328 = .ok (.iload 10, 2) := by decide +kernel
theorem dX10_coefficient_330 : decode cX10_coefficient 330 = .ok (.invokevirtual 177, 3) := by decide +kernel
theorem dX10_coefficient_333 : decode cX10_coefficient 333 = .ok (.ifCond .ne 9, 3) := by decide +kernel
theorem dX10_coefficient_336 : decode cX10_coefficient 336 = .ok (.iinc 10 1, 3) := by decide +kernel
theorem dX10_coefficient_339 : decode cX10_coefficient 339 = .ok (.goto (-19), 3) := by decide +kernel
theorem dX10_coefficient_342 : decode cX10_coefficient 342 = .ok (.iload 10, 2) := by decide +kernel
theorem dX10_coefficient_344 : decode cX10_coefficient 344 = .ok (.iload 13, 2) := by decide +kernel
theorem dX10_coefficient_346 : decode cX10_coefficient 346 = .ok (.if_icmp .le 7, 3) := by decide +kernel
theorem dX10_coefficient_349 : decode cX10_coefficient 349 = .ok (.iconst 1, 1) := by decide +kernel
theorem dX10_coefficient_350 : decode cX10_coefficient 350 = .ok (.goto 4, 3) := by decide +kernel
theorem dX10_coefficient_353 : decode cX10_coefficient 353 = .ok (.iconst 0, 1) := by decide +kernel
theorem dX10_coefficient_354 : decode cX10_coefficient 354 = .ok (.istore 11, 2) := by decide +kernel
theorem dX10_coefficient_356 : decode cX10_coefficient 356 = .ok (.iload 11, 2) := by decide +kernel
theorem dX10_coefficient_358 : decode cX10_coefficient 358 = .ok (.ifCond .eq 9, 3) := by decide +kernel
theorem dX10_coefficient_361 : decode cX10_coefficient 361 = .ok (.iinc 5 (-1), 3) := by decide +kernel
theorem dX10_coefficient_364 : decode cX10_coefficient 364 = .ok (.goto 47, 3) := by decide +kernel
theorem dX10_coefficient_367 : decode cX10_coefficient 367 = .ok (.aload_n 0, 1) := by decide +kernel
theorem dX10_coefficient_368 : decode cX10_coefficient 368 = .ok (.getfield 19, 3) := by decide +kernel
theorem dX10_coefficient_371 : decode cX10_coefficient 371 = .ok (.iload 12, 2) := by decide +kernel
theorem dX10_coefficient_373 : decode cX10_coefficient 373 = .ok (.iload 10, 2) := by decide +kernel
theorem dX10_coefficient_375 : decode cX10_coefficient 375 = .ok (.iastore, 1) := by decide +kernel
theorem dX10_coefficient_376 : decode cX10_coefficient 376 = .ok (.aload_n 0, 1) := by decide +kernel
theorem dX10_coefficient_377 : decode cX10_coefficient 377 = .ok (.getfield 38, 3) := by decide +kernel
theorem dX10_coefficient_380 : decode cX10_coefficient 380 = .ok (.iload 10, 2) := by decide +kernel
theorem dX10_coefficient_382 : decode cX10_coefficient 382 = .ok (.dup2, 1) := by decide +kernel
theorem dX10_coefficient_383 : decode cX10_coefficient 383 = .ok (.iaload, 1) := by decide +kernel
theorem dX10_coefficient_384 : decode cX10_coefficient 384 = .ok (.iconst 1, 1) := by decide +kernel
theorem dX10_coefficient_385 : decode cX10_coefficient 385 = .ok (.iadd, 1) := by decide +kernel
theorem dX10_coefficient_386 : decode cX10_coefficient 386 = .ok (.iastore, 1) := by decide +kernel
theorem dX10_coefficient_387 : decode cX10_coefficient 387 = .ok (.iload 5, 2) := by decide +kernel
theorem dX10_coefficient_389 : decode cX10_coefficient 389 = .ok (.iload 4, 2) := by decide +kernel
theorem dX10_coefficient_391 : decode cX10_coefficient 391 = .ok (.iconst 1, 1) := by decide +kernel
theorem dX10_coefficient_392 : decode cX10_coefficient 392 = .ok (.isub, 1) := by decide +kernel
theorem dX10_coefficient_393 : decode cX10_coefficient 393 = .ok (.if_icmp .ne 15, 3) := by decide +kernel
theorem dX10_coefficient_396 : decode cX10_coefficient 396 = .ok (.lload 6, 2) := by decide +kernel
theorem dX10_coefficient_398 : decode cX10_coefficient 398 = .ok (.lconst 1, 1) := by decide +kernel
theorem dX10_coefficient_399 : decode cX10_coefficient 399 = .ok (.ladd, 1) := by decide +kernel
theorem dX10_coefficient_400 : decode cX10_coefficient 400 = .ok (.lstore 6, 2) := by decide +kernel
theorem dX10_coefficient_402 : decode cX10_coefficient 402 = .ok (.iconst 1, 1) := by decide +kernel
theorem dX10_coefficient_403 : decode cX10_coefficient 403 = .ok (.istore 11, 2) := by decide +kernel
theorem dX10_coefficient_405 : decode cX10_coefficient 405 = .ok (.goto 6, 3) := by decide +kernel
theorem dX10_coefficient_408 : decode cX10_coefficient 408 = .ok (.iinc 5 1, 3) := by decide +kernel
theorem dX10_coefficient_411 : decode cX10_coefficient 411 = .ok (.goto (-256), 3) := by decide +kernel
theorem dX10_coefficient_414 : decode cX10_coefficient 414 = .ok (.lload 6, 2) := by decide +kernel
theorem dX10_coefficient_416 : decode cX10_coefficient 416 = .ok (.lreturn, 1) := by decide +kernel
theorem dX10_character_0 : decode cX10_character 0 = .ok (.aload_n 0, 1) := by decide +kernel
theorem dX10_character_1 : decode cX10_character 1 = .ok (.iload_n 1, 1) := by decide +kernel
theorem dX10_character_2 : decode cX10_character 2 = .ok (.invokestatic 67, 3) := by decide +kernel
theorem dX10_character_5 : decode cX10_character 5 = .ok (.ifCond .eq 10, 3) := by decide +kernel
theorem dX10_character_8 : decode cX10_character 8 = .ok (.iload_n 2, 1) := by decide +kernel
theorem dX10_character_9 : decode cX10_character 9 = .ok (.invokestatic 67, 3) := by decide +kernel
theorem dX10_character_12 : decode cX10_character 12 = .ok (.ifCond .ne 7, 3) := by decide +kernel
theorem dX10_character_15 : decode cX10_character 15 = .ok (.iconst 1, 1) := by decide +kernel
theorem dX10_character_16 : decode cX10_character 16 = .ok (.goto 35, 3) := by decide +kernel
theorem dX10_character_19 : decode cX10_character 19 = .ok (.aload_n 0, 1) := by decide +kernel
theorem dX10_character_20 : decode cX10_character 20 = .ok (.iload_n 1, 1) := by decide +kernel
theorem dX10_character_21 : decode cX10_character 21 = .ok (.invokevirtual 77, 3) := by decide +kernel
theorem dX10_character_24 : decode cX10_character 24 = .ok (.aload_n 0, 1) := by decide +kernel
theorem dX10_character_25 : decode cX10_character 25 = .ok (.iload_n 2, 1) := by decide +kernel
theorem dX10_character_26 : decode cX10_character 26 = .ok (.invokevirtual 77, 3) := by decide +kernel
theorem dX10_character_29 : decode cX10_character 29 = .ok (.if_icmp .eq 7, 3) := by decide +kernel
theorem dX10_character_32 : decode cX10_character 32 = .ok (.iconst 2, 1) := by decide +kernel
theorem dX10_character_33 : decode cX10_character 33 = .ok (.goto 18, 3) := by decide +kernel
theorem dX10_character_36 : decode cX10_character 36 = .ok (.aload_n 0, 1) := by decide +kernel
theorem dX10_character_37 : decode cX10_character 37 = .ok (.iload_n 1, 1) := by decide +kernel
theorem dX10_character_38 : decode cX10_character 38 = .ok (.invokevirtual 77, 3) := by decide +kernel
theorem dX10_character_41 : decode cX10_character 41 = .ok (.bipush 14, 2) := by decide +kernel
theorem dX10_character_43 : decode cX10_character 43 = .ok (.if_icmp .le 7, 3) := by decide +kernel
theorem dX10_character_46 : decode cX10_character 46 = .ok (.iconst 3, 1) := by decide +kernel
theorem dX10_character_47 : decode cX10_character 47 = .ok (.goto 4, 3) := by decide +kernel
theorem dX10_character_50 : decode cX10_character 50 = .ok (.iconst 0, 1) := by decide +kernel
theorem dX10_character_51 : decode cX10_character 51 = .ok (.putfield 63, 3) := by decide +kernel
theorem dX10_character_54 : decode cX10_character 54 = .ok (.aload_n 0, 1) := by decide +kernel
theorem dX10_character_55 : decode cX10_character 55 = .ok (.getfield 63, 3) := by decide +kernel
theorem dX10_character_58 : decode cX10_character 58 = .ok (.ifCond .le 5, 3) := by decide +kernel
theorem dX10_character_61 : decode cX10_character 61 = .ok (.lconst 0, 1) := by decide +kernel
theorem dX10_character_62 : decode cX10_character 62 = .ok (.lreturn, 1) := by decide +kernel
theorem dX10_character_63 : decode cX10_character 63 = .ok (.lconst 0, 1) := by decide +kernel
theorem dX10_character_64 : decode cX10_character 64 = .ok (.lstore_n 3, 1) := by decide +kernel
theorem dX10_character_65 : decode cX10_character 65 = .ok (.iconst 0, 1) := by decide +kernel
theorem dX10_character_66 : decode cX10_character 66 = .ok (.istore 5, 2) := by decide +kernel
theorem dX10_character_68 : decode cX10_character 68 = .ok (.iload 5, 2) := by decide +kernel
theorem dX10_character_70 : decode cX10_character 70 = .ok (.bipush 8, 2) := by decide +kernel
theorem dX10_character_72 : decode cX10_character 72 = .ok (.if_icmp .ge 27, 3) := by decide +kernel
theorem dX10_character_75 : decode cX10_character 75 = .ok (.lload_n 3, 1) := by decide +kernel
theorem dX10_character_76 : decode cX10_character 76 = .ok (.lconst 1, 1) := by decide +kernel
theorem dX10_character_77 : decode cX10_character 77 = .ok (.aload_n 0, 1) := by decide +kernel
theorem dX10_character_78 : decode cX10_character 78 = .ok (.iload_n 1, 1) := by decide +kernel
theorem dX10_character_79 : decode cX10_character 79 = .ok (.iload 5, 2) := by decide +kernel
theorem dX10_character_81 : decode cX10_character 81 = .ok (.invokevirtual 73, 3) := by decide +kernel
theorem dX10_character_84 : decode cX10_character 84 = .ok (.bipush 7, 2) := by decide +kernel
theorem dX10_character_86 : decode cX10_character 86 = .ok (.iadd, 1) := by decide +kernel
theorem dX10_character_87 : decode cX10_character 87 = .ok (.iload 5, 2) := by decide +kernel
theorem dX10_character_89 : decode cX10_character 89 = .ok (.isub, 1) := by decide +kernel
theorem dX10_character_90 : decode cX10_character 90 = .ok (.lshl, 1) := by decide +kernel
theorem dX10_character_91 : decode cX10_character 91 = .ok (.lor, 1) := by decide +kernel
theorem dX10_character_92 : decode cX10_character 92 = .ok (.lstore_n 3, 1) := by decide +kernel
theorem dX10_character_93 : decode cX10_character 93 = .ok (.iinc 5 1, 3) := by decide +kernel
theorem dX10_character_96 : decode cX10_character 96 = .ok (.goto (-28), 3) := by decide +kernel
theorem dX10_character_99 : decode cX10_character 99 = .ok (.aload_n 0, 1) := by decide +kernel
theorem dX10_character_100 : decode cX10_character 100 = .ok (.iconst 0, 1) := by decide +kernel
theorem dX10_character_101 : decode cX10_character 101 = .ok (.putfield 124, 3) := by decide +kernel
theorem dX10_character_104 : decode cX10_character 104 = .ok (.aload_n 0, 1) := by decide +kernel
theorem dX10_character_105 : decode cX10_character 105 = .ok (.ldc2_w 71, 3) := by decide +kernel
theorem dX10_character_108 : decode cX10_character 108 = .ok (.lconst 1, 1) := by decide +kernel
theorem dX10_character_109 : decode cX10_character 109 = .ok (.invokevirtual 166, 3) := by decide +kernel
theorem dX10_character_112 : decode cX10_character 112 = .ok (.iconst 0, 1) := by decide +kernel
theorem dX10_character_113 : decode cX10_character 113 = .ok (.istore 5, 2) := by decide +kernel
theorem dX10_character_115 : decode cX10_character 115 = .ok (.iload 5, 2) := by decide +kernel
theorem dX10_character_117 : decode cX10_character 117 = .ok (.bipush 8, 2) := by decide +kernel
theorem dX10_character_119 : decode cX10_character 119 = .ok (.if_icmp .ge 207, 3) := by decide +kernel
theorem dX10_character_122 : decode cX10_character 122 = .ok (.aload_n 0, 1) := by decide +kernel
theorem dX10_character_123 : decode cX10_character 123 = .ok (.iload_n 2, 1) := by decide +kernel
theorem dX10_character_124 : decode cX10_character 124 = .ok (.iload 5, 2) := by decide +kernel
theorem dX10_character_126 : decode cX10_character 126 = .ok (.invokevirtual 73, 3) := by decide +kernel
theorem dX10_character_129 : decode cX10_character 129 = .ok (.ifCond .le 197, 3) := by decide +kernel
theorem dX10_character_132 : decode cX10_character 132 = .ok (.aload_n 0, 1) := by decide +kernel
theorem dX10_character_133 : decode cX10_character 133 = .ok (.iload_n 2, 1) := by decide +kernel
theorem dX10_character_134 : decode cX10_character 134 = .ok (.iload 5, 2) := by decide +kernel
theorem dX10_character_136 : decode cX10_character 136 = .ok (.invokevirtual 73, 3) := by decide +kernel
theorem dX10_character_139 : decode cX10_character 139 = .ok (.istore 6, 2) := by decide +kernel
theorem dX10_character_141 : decode cX10_character 141 = .ok (.aload_n 0, 1) := by decide +kernel
theorem dX10_character_142 : decode cX10_character 142 = .ok (.invokevirtual 170, 3) := by decide +kernel
theorem dX10_character_145 : decode cX10_character 145 = .ok (.iconst 0, 1) := by decide +kernel
theorem dX10_character_146 : decode cX10_character 146 = .ok (.istore 7, 2) := by decide +kernel
theorem dX10_character_148 : decode cX10_character 148 = .ok (.iload 7, 2) := by decide +kernel
theorem dX10_character_150 : decode cX10_character 150 = .ok (.aload_n 0, 1) := by decide +kernel
theorem dX10_character_151 : decode cX10_character 151 = .ok (.getfield 157, 3) := by decide +kernel
theorem dX10_character_154 : decode cX10_character 154 = .ok (.if_icmp .ge 166, 3) := by decide +kernel
theorem dX10_character_157 : decode cX10_character 157 = .ok (.iconst 0, 1) := by decide +kernel
theorem dX10_character_158 : decode cX10_character 158 = .ok (.istore 8, 2) := by decide +kernel
theorem dX10_character_160 : decode cX10_character 160 = .ok (.iload 8, 2) := by decide +kernel
theorem dX10_character_162 : decode cX10_character 162 = .ok (.bipush 22, 2) := by decide +kernel
theorem dX10_character_164 : decode cX10_character 164 = .ok (.if_icmp .ge 150, 3) := by decide +kernel
theorem dX10_character_167 : decode cX10_character 167 = .ok (.aload_n 0, 1) := by decide +kernel
theorem dX10_character_168 : decode cX10_character 168 = .ok (.getfield 54, 3) := by decide +kernel
theorem dX10_character_171 : decode cX10_character 171 = .ok (.iload 7, 2) := by decide +kernel
theorem dX10_character_173 : decode cX10_character 173 = .ok (.laload, 1) := by decide +kernel
theorem dX10_character_174 : decode cX10_character 174 = .ok (.iload 8, 2) := by decide +kernel
theorem dX10_character_176 : decode cX10_character 176 = .ok (.lshr, 1) := by decide +kernel
theorem dX10_character_177 : decode cX10_character 177 = .ok (.lconst 1, 1) := by decide +kernel
theorem dX10_character_178 : decode cX10_character 178 = .ok (.land, 1) := by decide +kernel
theorem dX10_character_179 : decode cX10_character 179 = .ok (.lconst 1, 1) := by decide +kernel
theorem dX10_character_180 : decode cX10_character 180 = .ok (.lcmp, 1) := by decide +kernel
theorem dX10_character_181 : decode cX10_character 181 = .ok (.ifCond .ne 27, 3) := by decide +kernel
theorem dX10_character_184 : decode cX10_character 184 = .ok (.aload_n 0, 1) := by decide +kernel
theorem dX10_character_185 : decode cX10_character 185 = .ok (.getfield 54, 3) := by decide +kernel
theorem dX10_character_188 : decode cX10_character 188 = .ok (.iload 7, 2) := by decide +kernel
theorem dX10_character_190 : decode cX10_character 190 = .ok (.laload, 1) := by decide +kernel
theorem dX10_character_191 : decode cX10_character 191 = .ok (.iload 8, 2) := by decide +kernel
theorem dX10_character_193 : decode cX10_character 193 = .ok (.iload 6, 2) := by decide +kernel
theorem dX10_character_195 : decode cX10_character 195 = .ok (.iadd, 1) := by decide +kernel
theorem dX10_character_196 : decode cX10_character 196 = .ok (.lshr, 1) := by decide +kernel
theorem dX10_character_197 : decode cX10_character 197 = .ok (.lconst 1, 1) := by decide +kernel
theorem dX10_character_198 : decode cX10_character 198 = .ok (.land, 1) := by decide +kernel
theorem dX10_character_199 : decode cX10_character 199 = .ok (.lconst 0, 1) := by decide +kernel
theorem dX10_character_200 : decode cX10_character 200 = .ok (.lcmp, 1) := by decide +kernel
theorem dX10_character_201 : decode cX10_character 201 = .ok (.ifCond .ne 7, 3) := by decide +kernel
theorem dX10_character_204 : decode cX10_character 204 = .ok (.iconst 1, 1) := by decide +kernel
theorem dX10_character_205 : decode cX10_character 205 = .ok (.goto 4, 3) := by decide +kernel
theorem dX10_character_208 : decode cX10_character 208 = .ok (.iconst 0, 1) := by decide +kernel
theorem dX10_character_209 : decode cX10_character 209 = .ok (.istore 9, 2) := by decide +kernel
theorem dX10_character_211 : decode cX10_character 211 = .ok (.iload 9, 2) := by decide +kernel
theorem dX10_character_213 : decode cX10_character 213 = .ok (.ifCond .eq 95, 3) := by decide +kernel
theorem dX10_character_216 : decode cX10_character 216 = .ok (.iconst 0, 1) := by decide +kernel
theorem dX10_character_217 : decode cX10_character 217 = .ok (.istore 10, 2) := by decide +kernel
theorem dX10_character_219 : decode cX10_character 219 = .ok (.iload 8, 2) := by decide +kernel
theorem dX10_character_221 : decode cX10_character 221 = .ok (.iconst 1, 1) := by decide +kernel
theorem dX10_character_222 : decode cX10_character 222 = .ok (.iadd, 1) := by decide +kernel
theorem dX10_character_223 : decode cX10_character 223 = .ok (.istore 11, 2) := by decide +kernel
theorem dX10_character_225 : decode cX10_character 225 = .ok (.iload 11, 2) := by decide +kernel
theorem dX10_character_227 : decode cX10_character 227 = .ok (.iload 8, 2) := by decide +kernel
theorem dX10_character_229 : decode cX10_character 229 = .ok (.iload 6, 2) := by decide +kernel
theorem dX10_character_231 : decode cX10_character 231 = .ok (.iadd, 1) := by decide +kernel
theorem dX10_character_232 : decode cX10_character 232 = .ok (.if_icmp .ge 27, 3) := by decide +kernel
theorem dX10_character_235 : decode cX10_character 235 = .ok (.iload 10, 2) := by decide +kernel
theorem dX10_character_237 : decode cX10_character 237 = .ok (.aload_n 0, 1) := by decide +kernel
theorem dX10_character_238 : decode cX10_character 238 = .ok (.getfield 54, 3) := by decide +kernel
theorem dX10_character_241 : decode cX10_character 241 = .ok (.iload 7, 2) := by decide +kernel
theorem dX10_character_243 : decode cX10_character 243 = .ok (.laload, 1) := by decide +kernel
theorem dX10_character_244 : decode cX10_character 244 = .ok (.iload 11, 2) := by decide +kernel
theorem dX10_character_246 : decode cX10_character 246 = .ok (.lshr, 1) := by decide +kernel
theorem dX10_character_247 : decode cX10_character 247 = .ok (.lconst 1, 1) := by decide +kernel
theorem dX10_character_248 : decode cX10_character 248 = .ok (.land, 1) := by decide +kernel
theorem dX10_character_249 : decode cX10_character 249 = .ok (.l2i, 1) := by decide +kernel
theorem dX10_character_250 : decode cX10_character 250 = .ok (.iadd, 1) := by decide +kernel
theorem dX10_character_251 : decode cX10_character 251 = .ok (.istore 10, 2) := by decide +kernel
theorem dX10_character_253 : decode cX10_character 253 = .ok (.iinc 11 1, 3) := by decide +kernel
theorem dX10_character_256 : decode cX10_character 256 = .ok (.goto (-31), 3) := by decide +kernel
theorem dX10_character_259 : decode cX10_character 259 = .ok (.aload_n 0, 1) := by decide +kernel
theorem dX10_character_260 : decode cX10_character 260 = .ok (.aload_n 0, 1) := by decide +kernel
theorem dX10_character_261 : decode cX10_character 261 = .ok (.getfield 54, 3) := by decide +kernel
theorem dX10_character_264 : decode cX10_character 264 = .ok (.iload 7, 2) := by decide +kernel
theorem dX10_character_266 : decode cX10_character 266 = .ok (.laload, 1) := by decide +kernel
theorem dX10_character_267 : decode cX10_character 267 = .ok (.lconst 1, 1) := by decide +kernel
theorem dX10_character_268 : decode cX10_character 268 = .ok (.iload 8, 2) := by decide +kernel
theorem dX10_character_270 : decode cX10_character 270 = .ok (.lshl, 1) := by decide +kernel
theorem dX10_character_271 : decode cX10_character 271 = .ok (.lxor, 1) := by decide +kernel
theorem dX10_character_272 : decode cX10_character 272 = .ok (.lconst 1, 1) := by decide +kernel
theorem dX10_character_273 : decode cX10_character 273 = .ok (.iload 8, 2) := by decide +kernel
theorem dX10_character_275 : decode cX10_character 275 = .ok (.iload 6, 2) := by decide +kernel
theorem dX10_character_277 : decode cX10_character 277 = .ok (.iadd, 1) := by decide +kernel
theorem dX10_character_278 : decode cX10_character 278 = .ok (.lshl, 1) := by decide +kernel
theorem dX10_character_279 : decode cX10_character 279 = .ok (.lxor, 1) := by decide +kernel
theorem dX10_character_280 : decode cX10_character 280 = .ok (.iload 10, 2) := by decide +kernel
theorem dX10_character_282 : decode cX10_character 282 = .ok (.iconst 2, 1) := by decide +kernel
theorem dX10_character_283 : decode cX10_character 283 = .ok (.irem, 1) := by decide +kernel
theorem dX10_character_284 : decode cX10_character 284 = .ok (.ifCond .ne 13, 3) := by decide +kernel
theorem dX10_character_287 : decode cX10_character 287 = .ok (.aload_n 0, 1) := by decide +kernel
theorem dX10_character_288 : decode cX10_character 288 = .ok (.getfield 57, 3) := by decide +kernel
theorem dX10_character_291 : decode cX10_character 291 = .ok (.iload 7, 2) := by decide +kernel
theorem dX10_character_293 : decode cX10_character 293 = .ok (.laload, 1) := by decide +kernel
theorem dX10_character_294 : decode cX10_character 294 = .ok (.goto 11, 3) := by decide +kernel
theorem dX10_character_297 : decode cX10_character 297 = .ok (.aload_n 0, 1) := by decide +kernel
theorem dX10_character_298 : decode cX10_character 298 = .ok (.getfield 57, 3) := by decide +kernel
theorem dX10_character_301 : decode cX10_character 301 = .ok (.iload 7, 2) := by decide +kernel
theorem dX10_character_303 : decode cX10_character 303 = .ok (.laload, 1) := by decide +kernel
theorem dX10_character_304 : decode cX10_character 304 = .ok (.lneg, 1) := by decide +kernel
theorem dX10_character_305 : decode cX10_character 305 = .ok (.invokevirtual 166, 3) := by decide +kernel
theorem dX10_character_308 : decode cX10_character 308 = .ok (.iinc 8 1, 3) := by decide +kernel
theorem dX10_character_311 : decode cX10_character 311 = .ok (.goto (-151), 3) := by decide +kernel
theorem dX10_character_314 : decode cX10_character 314 = .ok (.iinc 7 1, 3) := by decide +kernel
theorem dX10_character_317 : decode cX10_character 317 = .ok (.goto (-169), 3) := by decide +kernel
theorem dX10_character_320 : decode cX10_character 320 = .ok (.iinc 5 1, 3) := by decide +kernel
theorem dX10_character_323 : decode cX10_character 323 = .ok (.goto (-208), 3) := by decide +kernel
theorem dX10_character_326 : decode cX10_character 326 = .ok (.iconst 0, 1) := by decide +kernel
theorem dX10_character_327 : decode cX10_character 327 = .ok (.istore 5, 2) := by decide +kernel
theorem dX10_character_329 : decode cX10_character 329 = .ok (.iload 5, 2) := by decide +kernel
theorem dX10_character_331 : decode cX10_character 331 = .ok (.aload_n 0, 1) := by decide +kernel
theorem dX10_character_332 : decode cX10_character 332 = .ok (.getfield 124, 3) := by decide +kernel
theorem dX10_character_335 : decode cX10_character 335 = .ok (.if_icmp .ge 29, 3) := by decide +kernel
theorem dX10_character_338 : decode cX10_character 338 = .ok (.aload_n 0, 1) := by decide +kernel
theorem dX10_character_339 : decode cX10_character 339 = .ok (.getfield 47, 3) := by decide +kernel
theorem dX10_character_342 : decode cX10_character 342 = .ok (.iload 5, 2) := by decide +kernel
theorem dX10_character_344 : decode cX10_character 344 = .ok (.laload, 1) := by decide +kernel
theorem dX10_character_345 : decode cX10_character 345 = .ok (.lload_n 3, 1) := by decide +kernel
theorem dX10_character_346 : decode cX10_character 346 = .ok (.lcmp, 1) := by decide +kernel
theorem dX10_character_347 : decode cX10_character 347 = .ok (.ifCond .ne 11, 3) := by decide +kernel
theorem dX10_character_350 : decode cX10_character 350 = .ok (.aload_n 0, 1) := by decide +kernel
theorem dX10_character_351 : decode cX10_character 351 = .ok (.getfield 51, 3) := by decide +kernel
theorem dX10_character_354 : decode cX10_character 354 = .ok (.iload 5, 2) := by decide +kernel
theorem dX10_character_356 : decode cX10_character 356 = .ok (.laload, 1) := by decide +kernel
theorem dX10_character_357 : decode cX10_character 357 = .ok (.lreturn, 1) := by decide +kernel
theorem dX10_character_358 : decode cX10_character 358 = .ok (.iinc 5 1, 3) := by decide +kernel
theorem dX10_character_361 : decode cX10_character 361 = .ok (.goto (-32), 3) := by decide +kernel
theorem dX10_character_364 : decode cX10_character 364 = .ok (.lconst 0, 1) := by decide +kernel
theorem dX10_character_365 : decode cX10_character 365 = .ok (.lreturn, 1) := by decide +kernel
end
section
theorem dL_shape_0 : decode cL_shape 0 = .ok (.aload 4, 2) := by decide +kernel
theorem dL_shape_2 : decode cL_shape 2 = .ok (.iconst 0, 1) := by decide +kernel
theorem dL_shape_3 : decode cL_shape 3 = .ok (.aload_n 0, 1) := by decide +kernel
theorem dL_shape_4 : decode cL_shape 4 = .ok (.iload_n 1, 1) := by decide +kernel
theorem dL_shape_5 : decode cL_shape 5 = .ok (.lload_n 2, 1) := by decide +kernel
theorem dL_shape_6 : decode cL_shape 6 = .ok (.invokevirtual 7, 3) := by decide +kernel
theorem dL_shape_9 : decode cL_shape 9 = .ok (.ifCond .eq 7, 3) := by decide +kernel
theorem dL_shape_12 : decode cL_shape 12 = .ok (.lconst 1, 1) := by decide +kernel
theorem dL_shape_13 : decode cL_shape 13 = .ok (.goto 4, 3) := by decide +kernel
theorem dL_shape_16 : decode cL_shape 16 = .ok (.lconst 0, 1) := by decide +kernel
theorem dL_shape_17 : decode cL_shape 17 = .ok (.lastore, 1) := by decide +kernel
theorem dL_shape_18 : decode cL_shape 18 = .ok (.goto 7, 3) := by decide +kernel
theorem dL_shape_21 : decode cL_shape 21 = .ok (.astore 5, 2) := by decide +kernel
theorem dL_shape_23 : decode cL_shape 23 = .ok (.iconst 1, 1) := by decide +kernel
theorem dL_shape_24 : decode cL_shape 24 = .ok (.ireturn, 1) := by decide +kernel
theorem dL_shape_25 : decode cL_shape 25 = .ok (.iconst 0, 1) := by decide +kernel
theorem dL_shape_26 : decode cL_shape 26 = .ok (.ireturn, 1) := by decide +kernel
theorem dL_row_0 : decode cL_row 0 = .ok (.aload_n 3, 1) := by decide +kernel
theorem dL_row_1 : decode cL_row 1 = .ok (.iconst 0, 1) := by decide +kernel
theorem dL_row_2 : decode cL_row 2 = .ok (.aload_n 0, 1) := by decide +kernel
theorem dL_row_3 : decode cL_row 3 = .ok (.iload_n 1, 1) := by decide +kernel
theorem dL_row_4 : decode cL_row 4 = .ok (.iload_n 2, 1) := by decide +kernel
theorem dL_row_5 : decode cL_row 5 = .ok (.invokevirtual 15, 3) := by decide +kernel
theorem dL_row_8 : decode cL_row 8 = .ok (.i2l, 1) := by decide +kernel
theorem dL_row_9 : decode cL_row 9 = .ok (.lastore, 1) := by decide +kernel
theorem dL_row_10 : decode cL_row 10 = .ok (.goto 7, 3) := by decide +kernel
theorem dL_row_13 : decode cL_row 13 = .ok (.astore 4, 2) := by decide +kernel
theorem dL_row_15 : decode cL_row 15 = .ok (.iconst 1, 1) := by decide +kernel
theorem dL_row_16 : decode cL_row 16 = .ok (.ireturn, 1) := by decide +kernel
theorem dL_row_17 : decode cL_row 17 = .ok (.iconst 0, 1) := by decide +kernel
theorem dL_row_18 : decode cL_row 18 = .ok (.ireturn, 1) := by decide +kernel
theorem dL_conjugate_0 : decode cL_conjugate 0 = .ok (.aload_n 2, 1) := by decide +kernel
theorem dL_conjugate_1 : decode cL_conjugate 1 = .ok (.iconst 0, 1) := by decide +kernel
theorem dL_conjugate_2 : decode cL_conjugate 2 = .ok (.aload_n 0, 1) := by decide +kernel
theorem dL_conjugate_3 : decode cL_conjugate 3 = .ok (.iload_n 1, 1) := by decide +kernel
theorem dL_conjugate_4 : decode cL_conjugate 4 = .ok (.invokevirtual 19, 3) := by decide +kernel
theorem dL_conjugate_7 : decode cL_conjugate 7 = .ok (.ifCond .eq 7, 3) := by decide +kernel
theorem dL_conjugate_10 : decode cL_conjugate 10 = .ok (.lconst 1, 1) := by decide +kernel
theorem dL_conjugate_11 : decode cL_conjugate 11 = .ok (.goto 4, 3) := by decide +kernel
theorem dL_conjugate_14 : decode cL_conjugate 14 = .ok (.lconst 0, 1) := by decide +kernel
theorem dL_conjugate_15 : decode cL_conjugate 15 = .ok (.lastore, 1) := by decide +kernel
theorem dL_conjugate_16 : decode cL_conjugate 16 = .ok (.goto 6, 3) := by decide +kernel
theorem dL_conjugate_19 : decode cL_conjugate 19 = .ok (.astore_n 3, 1) := by decide +kernel
theorem dL_conjugate_20 : decode cL_conjugate 20 = .ok (.iconst 1, 1) := by decide +kernel
theorem dL_conjugate_21 : decode cL_conjugate 21 = .ok (.ireturn, 1) := by decide +kernel
theorem dL_conjugate_22 : decode cL_conjugate 22 = .ok (.iconst 0, 1) := by decide +kernel
theorem dL_conjugate_23 : decode cL_conjugate 23 = .ok (.ireturn, 1) := by decide +kernel
theorem dL_rank_0 : decode cL_rank 0 = .ok (.aload_n 2, 1) := by decide +kernel
theorem dL_rank_1 : decode cL_rank 1 = .ok (.iconst 0, 1) := by decide +kernel
theorem dL_rank_2 : decode cL_rank 2 = .ok (.aload_n 0, 1) := by decide +kernel
theorem dL_rank_3 : decode cL_rank 3 = .ok (.iload_n 1, 1) := by decide +kernel
theorem dL_rank_4 : decode cL_rank 4 = .ok (.invokevirtual 23, 3) := by decide +kernel
theorem dL_rank_7 : decode cL_rank 7 = .ok (.i2l, 1) := by decide +kernel
theorem dL_rank_8 : decode cL_rank 8 = .ok (.lastore, 1) := by decide +kernel
theorem dL_rank_9 : decode cL_rank 9 = .ok (.goto 6, 3) := by decide +kernel
theorem dL_rank_12 : decode cL_rank 12 = .ok (.astore_n 3, 1) := by decide +kernel
theorem dL_rank_13 : decode cL_rank 13 = .ok (.iconst 1, 1) := by decide +kernel
theorem dL_rank_14 : decode cL_rank 14 = .ok (.ireturn, 1) := by decide +kernel
theorem dL_rank_15 : decode cL_rank 15 = .ok (.iconst 0, 1) := by decide +kernel
theorem dL_rank_16 : decode cL_rank 16 = .ok (.ireturn, 1) := by decide +kernel
theorem dL_unrank_0 : decode cL_unrank 0 = .ok (.aload_n 0, 1) := by decide +kernel
theorem dL_unrank_1 : decode cL_unrank 1 = .ok (.iload_n 1, 1) := by decide +kernel
theorem dL_unrank_2 : decode cL_unrank 2 = .ok (.iload_n 2, 1) := by decide +kernel
theorem dL_unrank_3 : decode cL_unrank 3 = .ok (.iload_n 3, 1) := by decide +kernel
theorem dL_unrank_4 : decode cL_unrank 4 = .ok (.invokevirtual 27, 3) := by decide +kernel
theorem dL_unrank_7 : decode cL_unrank 7 = .ok (.goto 19, 3) := by decide +kernel
theorem dL_unrank_10 : decode cL_unrank 10 = .ok (.astore 4, 2) := by decide +kernel
theorem dL_unrank_12 : decode cL_unrank 12 = .ok (.iconst 1, 1) := by decide +kernel
theorem dL_unrank_13 : decode cL_unrank 13 = .ok (.ireturn, 1) := by decide +kernel
theorem dL_unrank_14 : decode cL_unrank 14 = .ok (.astore 4, 2) := by decide +kernel
theorem dL_unrank_16 : decode cL_unrank 16 = .ok (.iconst 2, 1) := by decide +kernel
theorem dL_unrank_17 : decode cL_unrank 17 = .ok (.ireturn, 1) := by decide +kernel
theorem dL_unrank_18 : decode cL_unrank 18 = .ok (.astore 4, 2) := by decide +kernel
theorem dL_unrank_20 : decode cL_unrank 20 = .ok (.iconst 3, 1) := by decide +kernel
theorem dL_unrank_21 : decode cL_unrank 21 = .ok (.ireturn, 1) := by decide +kernel
theorem dL_unrank_22 : decode cL_unrank 22 = .ok (.astore 4, 2) := by decide +kernel
theorem dL_unrank_24 : decode cL_unrank 24 = .ok (.iconst 4, 1) := by decide +kernel
theorem dL_unrank_25 : decode cL_unrank 25 = .ok (.ireturn, 1) := by decide +kernel
theorem dL_unrank_26 : decode cL_unrank 26 = .ok (.iconst 0, 1) := by decide +kernel
theorem dL_unrank_27 : decode cL_unrank 27 = .ok (.ireturn, 1) := by decide +kernel
theorem dL_letter_0 : decode cL_letter 0 = .ok (.aload_n 3, 1) := by decide +kernel
theorem dL_letter_1 : decode cL_letter 1 = .ok (.iconst 0, 1) := by decide +kernel
theorem dL_letter_2 : decode cL_letter 2 = .ok (.aload_n 0, 1) := by decide +kernel
theorem dL_letter_3 : decode cL_letter 3 = .ok (.iload_n 1, 1) := by decide +kernel
theorem dL_letter_4 : decode cL_letter 4 = .ok (.iload_n 2, 1) := by decide +kernel
theorem dL_letter_5 : decode cL_letter 5 = .ok (.invokevirtual 37, 3) := by decide +kernel
theorem dL_letter_8 : decode cL_letter 8 = .ok (.ifCond .eq 7, 3) := by decide +kernel
theorem dL_letter_11 : decode cL_letter 11 = .ok (.lconst 1, 1) := by decide +kernel
theorem dL_letter_12 : decode cL_letter 12 = .ok (.goto 4, 3) := by decide +kernel
theorem dL_letter_15 : decode cL_letter 15 = .ok (.lconst 0, 1) := by decide +kernel
theorem dL_letter_16 : decode cL_letter 16 = .ok (.lastore, 1) := by decide +kernel
theorem dL_letter_17 : decode cL_letter 17 = .ok (.goto 7, 3) := by decide +kernel
theorem dL_letter_20 : decode cL_letter 20 = .ok (.astore 4, 2) := by decide +kernel
theorem dL_letter_22 : decode cL_letter 22 = .ok (.iconst 1, 1) := by decide +kernel
theorem dL_letter_23 : decode cL_letter 23 = .ok (.ireturn, 1) := by decide +kernel
theorem dL_letter_24 : decode cL_letter 24 = .ok (.iconst 0, 1) := by decide +kernel
theorem dL_letter_25 : decode cL_letter 25 = .ok (.ireturn, 1) := by decide +kernel
theorem dL_cut_0 : decode cL_cut 0 = .ok (.aload_n 3, 1) := by decide +kernel
theorem dL_cut_1 : decode cL_cut 1 = .ok (.iconst 0, 1) := by decide +kernel
theorem dL_cut_2 : decode cL_cut 2 = .ok (.aload_n 0, 1) := by decide +kernel
theorem dL_cut_3 : decode cL_cut 3 = .ok (.iload_n 1, 1) := by decide +kernel
theorem dL_cut_4 : decode cL_cut 4 = .ok (.iload_n 2, 1) := by decide +kernel
theorem dL_cut_5 : decode cL_cut 5 = .ok (.invokevirtual 41, 3) := by decide +kernel
theorem dL_cut_8 : decode cL_cut 8 = .ok (.ifCond .eq 7, 3) := by decide +kernel
theorem dL_cut_11 : decode cL_cut 11 = .ok (.lconst 1, 1) := by decide +kernel
theorem dL_cut_12 : decode cL_cut 12 = .ok (.goto 4, 3) := by decide +kernel
theorem dL_cut_15 : decode cL_cut 15 = .ok (.lconst 0, 1) := by decide +kernel
theorem dL_cut_16 : decode cL_cut 16 = .ok (.lastore, 1) := by decide +kernel
theorem dL_cut_17 : decode cL_cut 17 = .ok (.goto 7, 3) := by decide +kernel
theorem dL_cut_20 : decode cL_cut 20 = .ok (.astore 4, 2) := by decide +kernel
theorem dL_cut_22 : decode cL_cut 22 = .ok (.iconst 1, 1) := by decide +kernel
theorem dL_cut_23 : decode cL_cut 23 = .ok (.ireturn, 1) := by decide +kernel
theorem dL_cut_24 : decode cL_cut 24 = .ok (.iconst 0, 1) := by decide +kernel
theorem dL_cut_25 : decode cL_cut 25 = .ok (.ireturn, 1) := by decide +kernel
theorem dL_length_0 : decode cL_length 0 = .ok (.aload_n 2, 1) := by decide +kernel
theorem dL_length_1 : decode cL_length 1 = .ok (.iconst 0, 1) := by decide +kernel
theorem dL_length_2 : decode cL_length 2 = .ok (.aload_n 0, 1) := by decide +kernel
theorem dL_length_3 : decode cL_length 3 = .ok (.iload_n 1, 1) := by decide +kernel
theorem dL_length_4 : decode cL_length 4 = .ok (.invokevirtual 44, 3) := by decide +kernel
theorem dL_length_7 : decode cL_length 7 = .ok (.i2l, 1) := by decide +kernel
theorem dL_length_8 : decode cL_length 8 = .ok (.lastore, 1) := by decide +kernel
theorem dL_length_9 : decode cL_length 9 = .ok (.goto 6, 3) := by decide +kernel
theorem dL_length_12 : decode cL_length 12 = .ok (.astore_n 3, 1) := by decide +kernel
theorem dL_length_13 : decode cL_length 13 = .ok (.iconst 1, 1) := by decide +kernel
theorem dL_length_14 : decode cL_length 14 = .ok (.ireturn, 1) := by decide +kernel
theorem dL_length_15 : decode cL_length 15 = .ok (.iconst 0, 1) := by decide +kernel
theorem dL_length_16 : decode cL_length 16 = .ok (.ireturn, 1) := by decide +kernel
theorem dL_at_0 : decode cL_at 0 = .ok (.aload_n 3, 1) := by decide +kernel
theorem dL_at_1 : decode cL_at 1 = .ok (.iconst 0, 1) := by decide +kernel
theorem dL_at_2 : decode cL_at 2 = .ok (.aload_n 0, 1) := by decide +kernel
theorem dL_at_3 : decode cL_at 3 = .ok (.iload_n 1, 1) := by decide +kernel
theorem dL_at_4 : decode cL_at 4 = .ok (.iload_n 2, 1) := by decide +kernel
theorem dL_at_5 : decode cL_at 5 = .ok (.invokevirtual 47, 3) := by decide +kernel
theorem dL_at_8 : decode cL_at 8 = .ok (.i2l, 1) := by decide +kernel
theorem dL_at_9 : decode cL_at 9 = .ok (.lastore, 1) := by decide +kernel
theorem dL_at_10 : decode cL_at 10 = .ok (.goto 7, 3) := by decide +kernel
theorem dL_at_13 : decode cL_at 13 = .ok (.astore 4, 2) := by decide +kernel
theorem dL_at_15 : decode cL_at 15 = .ok (.iconst 1, 1) := by decide +kernel
theorem dL_at_16 : decode cL_at 16 = .ok (.ireturn, 1) := by decide +kernel
theorem dL_at_17 : decode cL_at 17 = .ok (.iconst 0, 1) := by decide +kernel
theorem dL_at_18 : decode cL_at 18 = .ok (.ireturn, 1) := by decide +kernel
theorem dL_insert_0 : decode cL_insert 0 = .ok (.aload_n 3, 1) := by decide +kernel
theorem dL_insert_1 : decode cL_insert 1 = .ok (.iconst 0, 1) := by decide +kernel
theorem dL_insert_2 : decode cL_insert 2 = .ok (.aload_n 0, 1) := by decide +kernel
theorem dL_insert_3 : decode cL_insert 3 = .ok (.iload_n 1, 1) := by decide +kernel
theorem dL_insert_4 : decode cL_insert 4 = .ok (.iload_n 2, 1) := by decide +kernel
theorem dL_insert_5 : decode cL_insert 5 = .ok (.invokevirtual 50, 3) := by decide +kernel
theorem dL_insert_8 : decode cL_insert 8 = .ok (.i2l, 1) := by decide +kernel
theorem dL_insert_9 : decode cL_insert 9 = .ok (.lastore, 1) := by decide +kernel
theorem dL_insert_10 : decode cL_insert 10 = .ok (.goto 7, 3) := by decide +kernel
theorem dL_insert_13 : decode cL_insert 13 = .ok (.astore 4, 2) := by decide +kernel
theorem dL_insert_15 : decode cL_insert 15 = .ok (.iconst 1, 1) := by decide +kernel
theorem dL_insert_16 : decode cL_insert 16 = .ok (.ireturn, 1) := by decide +kernel
theorem dL_insert_17 : decode cL_insert 17 = .ok (.iconst 0, 1) := by decide +kernel
theorem dL_insert_18 : decode cL_insert 18 = .ok (.ireturn, 1) := by decide +kernel
theorem dL_recover_0 : decode cL_recover 0 = .ok (.aload_n 0, 1) := by decide +kernel
theorem dL_recover_1 : decode cL_recover 1 = .ok (.iload_n 1, 1) := by decide +kernel
theorem dL_recover_2 : decode cL_recover 2 = .ok (.invokevirtual 54, 3) := by decide +kernel
theorem dL_recover_5 : decode cL_recover 5 = .ok (.goto 9, 3) := by decide +kernel
theorem dL_recover_8 : decode cL_recover 8 = .ok (.astore_n 2, 1) := by decide +kernel
theorem dL_recover_9 : decode cL_recover 9 = .ok (.iconst 1, 1) := by decide +kernel
theorem dL_recover_10 : decode cL_recover 10 = .ok (.ireturn, 1) := by decide +kernel
theorem dL_recover_11 : decode cL_recover 11 = .ok (.astore_n 2, 1) := by decide +kernel
theorem dL_recover_12 : decode cL_recover 12 = .ok (.iconst 2, 1) := by decide +kernel
theorem dL_recover_13 : decode cL_recover 13 = .ok (.ireturn, 1) := by decide +kernel
theorem dL_recover_14 : decode cL_recover 14 = .ok (.iconst 0, 1) := by decide +kernel
theorem dL_recover_15 : decode cL_recover 15 = .ok (.ireturn, 1) := by decide +kernel
theorem dL_read_0 : decode cL_read 0 = .ok (.aload_n 0, 1) := by decide +kernel
theorem dL_read_1 : decode cL_read 1 = .ok (.iload_n 1, 1) := by decide +kernel
theorem dL_read_2 : decode cL_read 2 = .ok (.invokevirtual 60, 3) := by decide +kernel
theorem dL_read_5 : decode cL_read 5 = .ok (.goto 9, 3) := by decide +kernel
theorem dL_read_8 : decode cL_read 8 = .ok (.astore_n 2, 1) := by decide +kernel
theorem dL_read_9 : decode cL_read 9 = .ok (.iconst 1, 1) := by decide +kernel
theorem dL_read_10 : decode cL_read 10 = .ok (.ireturn, 1) := by decide +kernel
theorem dL_read_11 : decode cL_read 11 = .ok (.astore_n 2, 1) := by decide +kernel
theorem dL_read_12 : decode cL_read 12 = .ok (.iconst 2, 1) := by decide +kernel
theorem dL_read_13 : decode cL_read 13 = .ok (.ireturn, 1) := by decide +kernel
theorem dL_read_14 : decode cL_read 14 = .ok (.iconst 0, 1) := by decide +kernel
theorem dL_read_15 : decode cL_read 15 = .ok (.ireturn, 1) := by decide +kernel
theorem dL_rectify_0 : decode cL_rectify 0 = .ok (.aload 5, 2) := by decide +kernel
theorem dL_rectify_2 : decode cL_rectify 2 = .ok (.iconst 0, 1) := by decide +kernel
theorem dL_rectify_3 : decode cL_rectify 3 = .ok (.aload_n 0, 1) := by decide +kernel
theorem dL_rectify_4 : decode cL_rectify 4 = .ok (.iload_n 1, 1) := by decide +kernel
theorem dL_rectify_5 : decode cL_rectify 5 = .ok (.iload_n 2, 1) := by decide +kernel
theorem dL_rectify_6 : decode cL_rectify 6 = .ok (.iload_n 3, 1) := by decide +kernel
theorem dL_rectify_7 : decode cL_rectify 7 = .ok (.iload 4, 2) := by decide +kernel
theorem dL_rectify_9 : decode cL_rectify 9 = .ok (.invokevirtual 63, 3) := by decide +kernel
theorem dL_rectify_12 : decode cL_rectify 12 = .ok (.i2l, 1) := by decide +kernel
theorem dL_rectify_13 : decode cL_rectify 13 = .ok (.lastore, 1) := by decide +kernel
theorem dL_rectify_14 : decode cL_rectify 14 = .ok (.goto 19, 3) := by decide +kernel
theorem dL_rectify_17 : decode cL_rectify 17 = .ok (.astore 6, 2) := by decide +kernel
theorem dL_rectify_19 : decode cL_rectify 19 = .ok (.iconst 1, 1) := by decide +kernel
theorem dL_rectify_20 : decode cL_rectify 20 = .ok (.ireturn, 1) := by decide +kernel
theorem dL_rectify_21 : decode cL_rectify 21 = .ok (.astore 6, 2) := by decide +kernel
theorem dL_rectify_23 : decode cL_rectify 23 = .ok (.iconst 2, 1) := by decide +kernel
theorem dL_rectify_24 : decode cL_rectify 24 = .ok (.ireturn, 1) := by decide +kernel
theorem dL_rectify_25 : decode cL_rectify 25 = .ok (.astore 6, 2) := by decide +kernel
theorem dL_rectify_27 : decode cL_rectify 27 = .ok (.iconst 3, 1) := by decide +kernel
theorem dL_rectify_28 : decode cL_rectify 28 = .ok (.ireturn, 1) := by decide +kernel
theorem dL_rectify_29 : decode cL_rectify 29 = .ok (.astore 6, 2) := by decide +kernel
theorem dL_rectify_31 : decode cL_rectify 31 = .ok (.iconst 4, 1) := by decide +kernel
theorem dL_rectify_32 : decode cL_rectify 32 = .ok (.ireturn, 1) := by decide +kernel
theorem dL_rectify_33 : decode cL_rectify 33 = .ok (.iconst 0, 1) := by decide +kernel
theorem dL_rectify_34 : decode cL_rectify 34 = .ok (.ireturn, 1) := by decide +kernel
theorem dL_turn_0 : decode cL_turn 0 = .ok (.aload_n 0, 1) := by decide +kernel
theorem dL_turn_1 : decode cL_turn 1 = .ok (.invokevirtual 67, 3) := by decide +kernel
theorem dL_turn_4 : decode cL_turn 4 = .ok (.goto 6, 3) := by decide +kernel
theorem dL_turn_7 : decode cL_turn 7 = .ok (.astore_n 1, 1) := by decide +kernel
theorem dL_turn_8 : decode cL_turn 8 = .ok (.iconst 1, 1) := by decide +kernel
theorem dL_turn_9 : decode cL_turn 9 = .ok (.ireturn, 1) := by decide +kernel
theorem dL_turn_10 : decode cL_turn 10 = .ok (.iconst 0, 1) := by decide +kernel
theorem dL_turn_11 : decode cL_turn 11 = .ok (.ireturn, 1) := by decide +kernel
theorem dL_draw_0 : decode cL_draw 0 = .ok (.aload 4, 2) := by decide +kernel
theorem dL_draw_2 : decode cL_draw 2 = .ok (.iconst 0, 1) := by decide +kernel
theorem dL_draw_3 : decode cL_draw 3 = .ok (.aload_n 0, 1) := by decide +kernel
theorem dL_draw_4 : decode cL_draw 4 = .ok (.iload_n 1, 1) := by decide +kernel
theorem dL_draw_5 : decode cL_draw 5 = .ok (.lload_n 2, 1) := by decide +kernel
theorem dL_draw_6 : decode cL_draw 6 = .ok (.invokevirtual 70, 3) := by decide +kernel
theorem dL_draw_9 : decode cL_draw 9 = .ok (.lastore, 1) := by decide +kernel
theorem dL_draw_10 : decode cL_draw 10 = .ok (.goto 7, 3) := by decide +kernel
theorem dL_draw_13 : decode cL_draw 13 = .ok (.astore 5, 2) := by decide +kernel
theorem dL_draw_15 : decode cL_draw 15 = .ok (.iconst 1, 1) := by decide +kernel
theorem dL_draw_16 : decode cL_draw 16 = .ok (.ireturn, 1) := by decide +kernel
theorem dL_draw_17 : decode cL_draw 17 = .ok (.iconst 0, 1) := by decide +kernel
theorem dL_draw_18 : decode cL_draw 18 = .ok (.ireturn, 1) := by decide +kernel
theorem dL_standard_0 : decode cL_standard 0 = .ok (.aload_n 2, 1) := by decide +kernel
theorem dL_standard_1 : decode cL_standard 1 = .ok (.iconst 0, 1) := by decide +kernel
theorem dL_standard_2 : decode cL_standard 2 = .ok (.aload_n 0, 1) := by decide +kernel
theorem dL_standard_3 : decode cL_standard 3 = .ok (.iload_n 1, 1) := by decide +kernel
theorem dL_standard_4 : decode cL_standard 4 = .ok (.invokevirtual 74, 3) := by decide +kernel
theorem dL_standard_7 : decode cL_standard 7 = .ok (.lastore, 1) := by decide +kernel
theorem dL_standard_8 : decode cL_standard 8 = .ok (.goto 6, 3) := by decide +kernel
theorem dL_standard_11 : decode cL_standard 11 = .ok (.astore_n 3, 1) := by decide +kernel
theorem dL_standard_12 : decode cL_standard 12 = .ok (.iconst 1, 1) := by decide +kernel
theorem dL_standard_13 : decode cL_standard 13 = .ok (.ireturn, 1) := by decide +kernel
theorem dL_standard_14 : decode cL_standard 14 = .ok (.iconst 0, 1) := by decide +kernel
theorem dL_standard_15 : decode cL_standard 15 = .ok (.ireturn, 1) := by decide +kernel
theorem dL_fillings_0 : decode cL_fillings 0 = .ok (.aload_n 3, 1) := by decide +kernel
theorem dL_fillings_1 : decode cL_fillings 1 = .ok (.iconst 0, 1) := by decide +kernel
theorem dL_fillings_2 : decode cL_fillings 2 = .ok (.aload_n 0, 1) := by decide +kernel
theorem dL_fillings_3 : decode cL_fillings 3 = .ok (.iload_n 1, 1) := by decide +kernel
theorem dL_fillings_4 : decode cL_fillings 4 = .ok (.iload_n 2, 1) := by decide +kernel
theorem dL_fillings_5 : decode cL_fillings 5 = .ok (.invokevirtual 78, 3) := by decide +kernel
theorem dL_fillings_8 : decode cL_fillings 8 = .ok (.lastore, 1) := by decide +kernel
theorem dL_fillings_9 : decode cL_fillings 9 = .ok (.goto 7, 3) := by decide +kernel
theorem dL_fillings_12 : decode cL_fillings 12 = .ok (.astore 4, 2) := by decide +kernel
theorem dL_fillings_14 : decode cL_fillings 14 = .ok (.iconst 1, 1) := by decide +kernel
theorem dL_fillings_15 : decode cL_fillings 15 = .ok (.ireturn, 1) := by decide +kernel
theorem dL_fillings_16 : decode cL_fillings 16 = .ok (.iconst 0, 1) := by decide +kernel
theorem dL_fillings_17 : decode cL_fillings 17 = .ok (.ireturn, 1) := by decide +kernel
theorem dL_coefficient_0 : decode cL_coefficient 0 = .ok (.aload 4, 2) := by decide +kernel
theorem dL_coefficient_2 : decode cL_coefficient 2 = .ok (.iconst 0, 1) := by decide +kernel
theorem dL_coefficient_3 : decode cL_coefficient 3 = .ok (.aload_n 0, 1) := by decide +kernel
theorem dL_coefficient_4 : decode cL_coefficient 4 = .ok (.iload_n 1, 1) := by decide +kernel
theorem dL_coefficient_5 : decode cL_coefficient 5 = .ok (.iload_n 2, 1) := by decide +kernel
theorem dL_coefficient_6 : decode cL_coefficient 6 = .ok (.iload_n 3, 1) := by decide +kernel
theorem dL_coefficient_7 : decode cL_coefficient 7 = .ok (.invokevirtual 82, 3) := by decide +kernel
theorem dL_coefficient_10 : decode cL_coefficient 10 = .ok (.lastore, 1) := by decide +kernel
theorem dL_coefficient_11 : decode cL_coefficient 11 = .ok (.goto 7, 3) := by decide +kernel
theorem dL_coefficient_14 : decode cL_coefficient 14 = .ok (.astore 5, 2) := by decide +kernel
theorem dL_coefficient_16 : decode cL_coefficient 16 = .ok (.iconst 1, 1) := by decide +kernel
theorem dL_coefficient_17 : decode cL_coefficient 17 = .ok (.ireturn, 1) := by decide +kernel
theorem dL_coefficient_18 : decode cL_coefficient 18 = .ok (.iconst 0, 1) := by decide +kernel
theorem dL_coefficient_19 : decode cL_coefficient 19 = .ok (.ireturn, 1) := by decide +kernel
theorem dL_character_0 : decode cL_character 0 = .ok (.aload_n 3, 1) := by decide +kernel
theorem dL_character_1 : decode cL_character 1 = .ok (.iconst 0, 1) := by decide +kernel
theorem dL_character_2 : decode cL_character 2 = .ok (.aload_n 0, 1) := by decide +kernel
theorem dL_character_3 : decode cL_character 3 = .ok (.iload_n 1, 1) := by decide +kernel
theorem dL_character_4 : decode cL_character 4 = .ok (.iload_n 2, 1) := by decide +kernel
theorem dL_character_5 : decode cL_character 5 = .ok (.invokevirtual 86, 3) := by decide +kernel
theorem dL_character_8 : decode cL_character 8 = .ok (.lastore, 1) := by decide +kernel
theorem dL_character_9 : decode cL_character 9 = .ok (.goto 15, 3) := by decide +kernel
theorem dL_character_12 : decode cL_character 12 = .ok (.astore 4, 2) := by decide +kernel
theorem dL_character_14 : decode cL_character 14 = .ok (.iconst 1, 1) := by decide +kernel
theorem dL_character_15 : decode cL_character 15 = .ok (.ireturn, 1) := by decide +kernel
theorem dL_character_16 : decode cL_character 16 = .ok (.astore 4, 2) := by decide +kernel
theorem dL_character_18 : decode cL_character 18 = .ok (.iconst 2, 1) := by decide +kernel
theorem dL_character_19 : decode cL_character 19 = .ok (.ireturn, 1) := by decide +kernel
theorem dL_character_20 : decode cL_character 20 = .ok (.astore 4, 2) := by decide +kernel
theorem dL_character_22 : decode cL_character 22 = .ok (.iconst 3, 1) := by decide +kernel
theorem dL_character_23 : decode cL_character 23 = .ok (.ireturn, 1) := by decide +kernel
theorem dL_character_24 : decode cL_character 24 = .ok (.iconst 0, 1) := by decide +kernel
theorem dL_character_25 : decode cL_character 25 = .ok (.ireturn, 1) := by decide +kernel
theorem dL_law_0 : decode cL_law 0 = .ok (.new 8, 3) := by decide +kernel
theorem dL_law_3 : decode cL_law 3 = .ok (.dup, 1) := by decide +kernel
theorem dL_law_4 : decode cL_law 4 = .ok (.invokespecial 89, 3) := by decide +kernel
theorem dL_law_7 : decode cL_law 7 = .ok (.astore_n 1, 1) := by decide +kernel
theorem dL_law_8 : decode cL_law 8 = .ok (.new 90, 3) := by decide +kernel
theorem dL_law_11 : decode cL_law 11 = .ok (.dup, 1) := by decide +kernel
theorem dL_law_12 : decode cL_law 12 = .ok (.invokespecial 92, 3) := by decide +kernel
theorem dL_law_15 : decode cL_law 15 = .ok (.astore_n 2, 1) := by decide +kernel
theorem dL_law_16 : decode cL_law 16 = .ok (.iconst 1, 1) := by decide +kernel
theorem dL_law_17 : decode cL_law 17 = .ok (.newarray .long, 2) := by decide +kernel
theorem dL_law_19 : decode cL_law 19 = .ok (.astore_n 3, 1) := by decide +kernel
theorem dL_law_20 : decode cL_law 20 = .ok (.iconst 0, 1) := by decide +kernel
theorem dL_law_21 : decode cL_law 21 = .ok (.istore 4, 2) := by decide +kernel
theorem dL_law_23 : decode cL_law 23 = .ok (.iload 4, 2) := by decide +kernel
theorem dL_law_25 : decode cL_law 25 = .ok (.aload_n 0, 1) := by decide +kernel
theorem dL_law_26 : decode cL_law 26 = .ok (.arraylength, 1) := by decide +kernel
theorem dL_law_27 : decode cL_law 27 = .ok (.iconst 5, 1) := by decide +kernel
theorem dL_law_28 : decode cL_law 28 = .ok (.isub, 1) := by decide +kernel
theorem dL_law_29 : decode cL_law 29 = .ok (.if_icmp .gt 1458, 3) := by decide +kernel
theorem dL_law_32 : decode cL_law 32 = .ok (.aload_n 0, 1) := by decide +kernel
theorem dL_law_33 : decode cL_law 33 = .ok (.iload 4, 2) := by decide +kernel
theorem dL_law_35 : decode cL_law 35 = .ok (.iaload, 1) := by decide +kernel
theorem dL_law_36 : decode cL_law 36 = .ok (.bipush 31, 2) := by decide +kernel
theorem dL_law_38 : decode cL_law 38 = .ok (.iand, 1) := by decide +kernel
theorem dL_law_39 : decode cL_law 39 = .ok (.tableswitch 1442 0 20 #[97, 204, 272, 335, 391, 451, 526, 601, 657, 725, 809, 874, 910, 946, 959, 1051, 1075, 1174, 1229, 1296, 1375], 97) := by decide +kernel
theorem dL_law_136 : decode cL_law 136 = .ok (.aload_n 1, 1) := by decide +kernel
theorem dL_law_137 : decode cL_law 137 = .ok (.aload_n 0, 1) := by decide +kernel
theorem dL_law_138 : decode cL_law 138 = .ok (.iload 4, 2) := by decide +kernel
theorem dL_law_140 : decode cL_law 140 = .ok (.iconst 1, 1) := by decide +kernel
theorem dL_law_141 : decode cL_law 141 = .ok (.iadd, 1) := by decide +kernel
theorem dL_law_142 : decode cL_law 142 = .ok (.iaload, 1) := by decide +kernel
theorem dL_law_143 : decode cL_law 143 = .ok (.aload_n 0, 1) := by decide +kernel
theorem dL_law_144 : decode cL_law 144 = .ok (.iload 4, 2) := by decide +kernel
theorem dL_law_146 : decode cL_law 146 = .ok (.iconst 2, 1) := by decide +kernel
theorem dL_law_147 : decode cL_law 147 = .ok (.iadd, 1) := by decide +kernel
theorem dL_law_148 : decode cL_law 148 = .ok (.iaload, 1) := by decide +kernel
theorem dL_law_149 : decode cL_law 149 = .ok (.i2l, 1) := by decide +kernel
theorem dL_law_150 : decode cL_law 150 = .ok (.bipush 32, 2) := by decide +kernel
theorem dL_law_152 : decode cL_law 152 = .ok (.lshl, 1) := by decide +kernel
theorem dL_law_153 : decode cL_law 153 = .ok (.aload_n 0, 1) := by decide +kernel
theorem dL_law_154 : decode cL_law 154 = .ok (.iload 4, 2) := by decide +kernel
theorem dL_law_156 : decode cL_law 156 = .ok (.iconst 3, 1) := by decide +kernel
theorem dL_law_157 : decode cL_law 157 = .ok (.iadd, 1) := by decide +kernel
theorem dL_law_158 : decode cL_law 158 = .ok (.iaload, 1) := by decide +kernel
theorem dL_law_159 : decode cL_law 159 = .ok (.i2l, 1) := by decide +kernel
theorem dL_law_160 : decode cL_law 160 = .ok (.ldc2_w 93, 3) := by decide +kernel
theorem dL_law_163 : decode cL_law 163 = .ok (.land, 1) := by decide +kernel
theorem dL_law_164 : decode cL_law 164 = .ok (.lor, 1) := by decide +kernel
theorem dL_law_165 : decode cL_law 165 = .ok (.aload_n 3, 1) := by decide +kernel
theorem dL_law_166 : decode cL_law 166 = .ok (.invokestatic 95, 3) := by decide +kernel
theorem dL_law_169 : decode cL_law 169 = .ok (.istore 5, 2) := by decide +kernel
theorem dL_law_171 : decode cL_law 171 = .ok (.aload_n 2, 1) := by decide +kernel
theorem dL_law_172 : decode cL_law 172 = .ok (.aload_n 0, 1) := by decide +kernel
theorem dL_law_173 : decode cL_law 173 = .ok (.iload 4, 2) := by decide +kernel
theorem dL_law_175 : decode cL_law 175 = .ok (.iconst 1, 1) := by decide +kernel
theorem dL_law_176 : decode cL_law 176 = .ok (.iadd, 1) := by decide +kernel
theorem dL_law_177 : decode cL_law 177 = .ok (.iaload, 1) := by decide +kernel
theorem dL_law_178 : decode cL_law 178 = .ok (.aload_n 0, 1) := by decide +kernel
theorem dL_law_179 : decode cL_law 179 = .ok (.iload 4, 2) := by decide +kernel
theorem dL_law_181 : decode cL_law 181 = .ok (.iconst 2, 1) := by decide +kernel
theorem dL_law_182 : decode cL_law 182 = .ok (.iadd, 1) := by decide +kernel
theorem dL_law_183 : decode cL_law 183 = .ok (.iaload, 1) := by decide +kernel
theorem dL_law_184 : decode cL_law 184 = .ok (.i2l, 1) := by decide +kernel
theorem dL_law_185 : decode cL_law 185 = .ok (.bipush 32, 2) := by decide +kernel
theorem dL_law_187 : decode cL_law 187 = .ok (.lshl, 1) := by decide +kernel
theorem dL_law_188 : decode cL_law 188 = .ok (.aload_n 0, 1) := by decide +kernel
theorem dL_law_189 : decode cL_law 189 = .ok (.iload 4, 2) := by decide +kernel
theorem dL_law_191 : decode cL_law 191 = .ok (.iconst 3, 1) := by decide +kernel
theorem dL_law_192 : decode cL_law 192 = .ok (.iadd, 1) := by decide +kernel
theorem dL_law_193 : decode cL_law 193 = .ok (.iaload, 1) := by decide +kernel
theorem dL_law_194 : decode cL_law 194 = .ok (.i2l, 1) := by decide +kernel
theorem dL_law_195 : decode cL_law 195 = .ok (.ldc2_w 93, 3) := by decide +kernel
theorem dL_law_198 : decode cL_law 198 = .ok (.land, 1) := by decide +kernel
theorem dL_law_199 : decode cL_law 199 = .ok (.lor, 1) := by decide +kernel
theorem dL_law_200 : decode cL_law 200 = .ok (.invokevirtual 100, 3) := by decide +kernel
theorem dL_law_203 : decode cL_law 203 = .ok (.istore 6, 2) := by decide +kernel
theorem dL_law_205 : decode cL_law 205 = .ok (.aload_n 2, 1) := by decide +kernel
theorem dL_law_206 : decode cL_law 206 = .ok (.invokevirtual 101, 3) := by decide +kernel
theorem dL_law_209 : decode cL_law 209 = .ok (.iload 5, 2) := by decide +kernel
theorem dL_law_211 : decode cL_law 211 = .ok (.if_icmp .eq 5, 3) := by decide +kernel
theorem dL_law_214 : decode cL_law 214 = .ok (.iconst 0, 1) := by decide +kernel
theorem dL_law_215 : decode cL_law 215 = .ok (.ireturn, 1) := by decide +kernel
theorem dL_law_216 : decode cL_law 216 = .ok (.iload 5, 2) := by decide +kernel
theorem dL_law_218 : decode cL_law 218 = .ok (.ifCond .ne 22, 3) := by decide +kernel
theorem dL_law_221 : decode cL_law 221 = .ok (.aload_n 3, 1) := by decide +kernel
theorem dL_law_222 : decode cL_law 222 = .ok (.iconst 0, 1) := by decide +kernel
theorem dL_law_223 : decode cL_law 223 = .ok (.laload, 1) := by decide +kernel
theorem dL_law_224 : decode cL_law 224 = .ok (.iload 6, 2) := by decide +kernel
theorem dL_law_226 : decode cL_law 226 = .ok (.ifCond .eq 7, 3) := by decide +kernel
theorem dL_law_229 : decode cL_law 229 = .ok (.lconst 1, 1) := by decide +kernel
theorem dL_law_230 : decode cL_law 230 = .ok (.goto 4, 3) := by decide +kernel
theorem dL_law_233 : decode cL_law 233 = .ok (.lconst 0, 1) := by decide +kernel
theorem dL_law_234 : decode cL_law 234 = .ok (.lcmp, 1) := by decide +kernel
theorem dL_law_235 : decode cL_law 235 = .ok (.ifCond .eq 5, 3) := by decide +kernel
theorem dL_law_238 : decode cL_law 238 = .ok (.iconst 0, 1) := by decide +kernel
theorem dL_law_239 : decode cL_law 239 = .ok (.ireturn, 1) := by decide +kernel
theorem dL_law_240 : decode cL_law 240 = .ok (.goto 1241, 3) := by decide +kernel
theorem dL_law_243 : decode cL_law 243 = .ok (.aload_n 1, 1) := by decide +kernel
theorem dL_law_244 : decode cL_law 244 = .ok (.aload_n 0, 1) := by decide +kernel
theorem dL_law_245 : decode cL_law 245 = .ok (.iload 4, 2) := by decide +kernel
theorem dL_law_247 : decode cL_law 247 = .ok (.iconst 1, 1) := by decide +kernel
theorem dL_law_248 : decode cL_law 248 = .ok (.iadd, 1) := by decide +kernel
theorem dL_law_249 : decode cL_law 249 = .ok (.iaload, 1) := by decide +kernel
theorem dL_law_250 : decode cL_law 250 = .ok (.aload_n 0, 1) := by decide +kernel
theorem dL_law_251 : decode cL_law 251 = .ok (.iload 4, 2) := by decide +kernel
theorem dL_law_253 : decode cL_law 253 = .ok (.iconst 2, 1) := by decide +kernel
theorem dL_law_254 : decode cL_law 254 = .ok (.iadd, 1) := by decide +kernel
theorem dL_law_255 : decode cL_law 255 = .ok (.iaload, 1) := by decide +kernel
theorem dL_law_256 : decode cL_law 256 = .ok (.aload_n 3, 1) := by decide +kernel
theorem dL_law_257 : decode cL_law 257 = .ok (.invokestatic 105, 3) := by decide +kernel
theorem dL_law_260 : decode cL_law 260 = .ok (.istore 5, 2) := by decide +kernel
theorem dL_law_262 : decode cL_law 262 = .ok (.aload_n 2, 1) := by decide +kernel
theorem dL_law_263 : decode cL_law 263 = .ok (.aload_n 0, 1) := by decide +kernel
theorem dL_law_264 : decode cL_law 264 = .ok (.iload 4, 2) := by decide +kernel
theorem dL_law_266 : decode cL_law 266 = .ok (.iconst 1, 1) := by decide +kernel
theorem dL_law_267 : decode cL_law 267 = .ok (.iadd, 1) := by decide +kernel
theorem dL_law_268 : decode cL_law 268 = .ok (.iaload, 1) := by decide +kernel
theorem dL_law_269 : decode cL_law 269 = .ok (.aload_n 0, 1) := by decide +kernel
theorem dL_law_270 : decode cL_law 270 = .ok (.iload 4, 2) := by decide +kernel
theorem dL_law_272 : decode cL_law 272 = .ok (.iconst 2, 1) := by decide +kernel
theorem dL_law_273 : decode cL_law 273 = .ok (.iadd, 1) := by decide +kernel
theorem dL_law_274 : decode cL_law 274 = .ok (.iaload, 1) := by decide +kernel
theorem dL_law_275 : decode cL_law 275 = .ok (.invokevirtual 108, 3) := by decide +kernel
theorem dL_law_278 : decode cL_law 278 = .ok (.istore 6, 2) := by decide +kernel
theorem dL_law_280 : decode cL_law 280 = .ok (.aload_n 2, 1) := by decide +kernel
theorem dL_law_281 : decode cL_law 281 = .ok (.invokevirtual 101, 3) := by decide +kernel
theorem dL_law_284 : decode cL_law 284 = .ok (.iload 5, 2) := by decide +kernel
theorem dL_law_286 : decode cL_law 286 = .ok (.if_icmp .eq 5, 3) := by decide +kernel
theorem dL_law_289 : decode cL_law 289 = .ok (.iconst 0, 1) := by decide +kernel
theorem dL_law_290 : decode cL_law 290 = .ok (.ireturn, 1) := by decide +kernel
theorem dL_law_291 : decode cL_law 291 = .ok (.iload 5, 2) := by decide +kernel
theorem dL_law_293 : decode cL_law 293 = .ok (.ifCond .ne 15, 3) := by decide +kernel
theorem dL_law_296 : decode cL_law 296 = .ok (.aload_n 3, 1) := by decide +kernel
theorem dL_law_297 : decode cL_law 297 = .ok (.iconst 0, 1) := by decide +kernel
theorem dL_law_298 : decode cL_law 298 = .ok (.laload, 1) := by decide +kernel
theorem dL_law_299 : decode cL_law 299 = .ok (.iload 6, 2) := by decide +kernel
theorem dL_law_301 : decode cL_law 301 = .ok (.i2l, 1) := by decide +kernel
theorem dL_law_302 : decode cL_law 302 = .ok (.lcmp, 1) := by decide +kernel
theorem dL_law_303 : decode cL_law 303 = .ok (.ifCond .eq 5, 3) := by decide +kernel
theorem dL_law_306 : decode cL_law 306 = .ok (.iconst 0, 1) := by decide +kernel
theorem dL_law_307 : decode cL_law 307 = .ok (.ireturn, 1) := by decide +kernel
theorem dL_law_308 : decode cL_law 308 = .ok (.goto 1173, 3) := by decide +kernel
theorem dL_law_311 : decode cL_law 311 = .ok (.aload_n 1, 1) := by decide +kernel
theorem dL_law_312 : decode cL_law 312 = .ok (.aload_n 0, 1) := by decide +kernel
theorem dL_law_313 : decode cL_law 313 = .ok (.iload 4, 2) := by decide +kernel
theorem dL_law_315 : decode cL_law 315 = .ok (.iconst 1, 1) := by decide +kernel
theorem dL_law_316 : decode cL_law 316 = .ok (.iadd, 1) := by decide +kernel
theorem dL_law_317 : decode cL_law 317 = .ok (.iaload, 1) := by decide +kernel
theorem dL_law_318 : decode cL_law 318 = .ok (.aload_n 3, 1) := by decide +kernel
theorem dL_law_319 : decode cL_law 319 = .ok (.invokestatic 109, 3) := by decide +kernel
theorem dL_law_322 : decode cL_law 322 = .ok (.istore 5, 2) := by decide +kernel
theorem dL_law_324 : decode cL_law 324 = .ok (.aload_n 2, 1) := by decide +kernel
theorem dL_law_325 : decode cL_law 325 = .ok (.aload_n 0, 1) := by decide +kernel
theorem dL_law_326 : decode cL_law 326 = .ok (.iload 4, 2) := by decide +kernel
theorem dL_law_328 : decode cL_law 328 = .ok (.iconst 1, 1) := by decide +kernel
theorem dL_law_329 : decode cL_law 329 = .ok (.iadd, 1) := by decide +kernel
theorem dL_law_330 : decode cL_law 330 = .ok (.iaload, 1) := by decide +kernel
theorem dL_law_331 : decode cL_law 331 = .ok (.invokevirtual 112, 3) := by decide +kernel
theorem dL_law_334 : decode cL_law 334 = .ok (.istore 6, 2) := by decide +kernel
theorem dL_law_336 : decode cL_law 336 = .ok (.aload_n 2, 1) := by decide +kernel
theorem dL_law_337 : decode cL_law 337 = .ok (.invokevirtual 101, 3) := by decide +kernel
theorem dL_law_340 : decode cL_law 340 = .ok (.iload 5, 2) := by decide +kernel
theorem dL_law_342 : decode cL_law 342 = .ok (.if_icmp .eq 5, 3) := by decide +kernel
theorem dL_law_345 : decode cL_law 345 = .ok (.iconst 0, 1) := by decide +kernel
theorem dL_law_346 : decode cL_law 346 = .ok (.ireturn, 1) := by decide +kernel
theorem dL_law_347 : decode cL_law 347 = .ok (.iload 5, 2) := by decide +kernel
theorem dL_law_349 : decode cL_law 349 = .ok (.ifCond .ne 22, 3) := by decide +kernel
theorem dL_law_352 : decode cL_law 352 = .ok (.aload_n 3, 1) := by decide +kernel
theorem dL_law_353 : decode cL_law 353 = .ok (.iconst 0, 1) := by decide +kernel
theorem dL_law_354 : decode cL_law 354 = .ok (.laload, 1) := by decide +kernel
theorem dL_law_355 : decode cL_law 355 = .ok (.iload 6, 2) := by decide +kernel
theorem dL_law_357 : decode cL_law 357 = .ok (.ifCond .eq 7, 3) := by decide +kernel
theorem dL_law_360 : decode cL_law 360 = .ok (.lconst 1, 1) := by decide +kernel
theorem dL_law_361 : decode cL_law 361 = .ok (.goto 4, 3) := by decide +kernel
theorem dL_law_364 : decode cL_law 364 = .ok (.lconst 0, 1) := by decide +kernel
theorem dL_law_365 : decode cL_law 365 = .ok (.lcmp, 1) := by decide +kernel
theorem dL_law_366 : decode cL_law 366 = .ok (.ifCond .eq 5, 3) := by decide +kernel
theorem dL_law_369 : decode cL_law 369 = .ok (.iconst 0, 1) := by decide +kernel
theorem dL_law_370 : decode cL_law 370 = .ok (.ireturn, 1) := by decide +kernel
theorem dL_law_371 : decode cL_law 371 = .ok (.goto 1110, 3) := by decide +kernel
theorem dL_law_374 : decode cL_law 374 = .ok (.aload_n 1, 1) := by decide +kernel
theorem dL_law_375 : decode cL_law 375 = .ok (.aload_n 0, 1) := by decide +kernel
theorem dL_law_376 : decode cL_law 376 = .ok (.iload 4, 2) := by decide +kernel
theorem dL_law_378 : decode cL_law 378 = .ok (.iconst 1, 1) := by decide +kernel
theorem dL_law_379 : decode cL_law 379 = .ok (.iadd, 1) := by decide +kernel
theorem dL_law_380 : decode cL_law 380 = .ok (.iaload, 1) := by decide +kernel
theorem dL_law_381 : decode cL_law 381 = .ok (.aload_n 3, 1) := by decide +kernel
theorem dL_law_382 : decode cL_law 382 = .ok (.invokestatic 113, 3) := by decide +kernel
theorem dL_law_385 : decode cL_law 385 = .ok (.istore 5, 2) := by decide +kernel
theorem dL_law_387 : decode cL_law 387 = .ok (.aload_n 2, 1) := by decide +kernel
theorem dL_law_388 : decode cL_law 388 = .ok (.aload_n 0, 1) := by decide +kernel
theorem dL_law_389 : decode cL_law 389 = .ok (.iload 4, 2) := by decide +kernel
theorem dL_law_391 : decode cL_law 391 = .ok (.iconst 1, 1) := by decide +kernel
theorem dL_law_392 : decode cL_law 392 = .ok (.iadd, 1) := by decide +kernel
theorem dL_law_393 : decode cL_law 393 = .ok (.iaload, 1) := by decide +kernel
theorem dL_law_394 : decode cL_law 394 = .ok (.invokevirtual 115, 3) := by decide +kernel
theorem dL_law_397 : decode cL_law 397 = .ok (.istore 6, 2) := by decide +kernel
theorem dL_law_399 : decode cL_law 399 = .ok (.aload_n 2, 1) := by decide +kernel
theorem dL_law_400 : decode cL_law 400 = .ok (.invokevirtual 101, 3) := by decide +kernel
theorem dL_law_403 : decode cL_law 403 = .ok (.iload 5, 2) := by decide +kernel
theorem dL_law_405 : decode cL_law 405 = .ok (.if_icmp .eq 5, 3) := by decide +kernel
theorem dL_law_408 : decode cL_law 408 = .ok (.iconst 0, 1) := by decide +kernel
theorem dL_law_409 : decode cL_law 409 = .ok (.ireturn, 1) := by decide +kernel
theorem dL_law_410 : decode cL_law 410 = .ok (.iload 5, 2) := by decide +kernel
theorem dL_law_412 : decode cL_law 412 = .ok (.ifCond .ne 15, 3) := by decide +kernel
theorem dL_law_415 : decode cL_law 415 = .ok (.aload_n 3, 1) := by decide +kernel
theorem dL_law_416 : decode cL_law 416 = .ok (.iconst 0, 1) := by decide +kernel
theorem dL_law_417 : decode cL_law 417 = .ok (.laload, 1) := by decide +kernel
theorem dL_law_418 : decode cL_law 418 = .ok (.iload 6, 2) := by decide +kernel
theorem dL_law_420 : decode cL_law 420 = .ok (.i2l, 1) := by decide +kernel
theorem dL_law_421 : decode cL_law 421 = .ok (.lcmp, 1) := by decide +kernel
theorem dL_law_422 : decode cL_law 422 = .ok (.ifCond .eq 5, 3) := by decide +kernel
theorem dL_law_425 : decode cL_law 425 = .ok (.iconst 0, 1) := by decide +kernel
theorem dL_law_426 : decode cL_law 426 = .ok (.ireturn, 1) := by decide +kernel
theorem dL_law_427 : decode cL_law 427 = .ok (.goto 1054, 3) := by decide +kernel
theorem dL_law_430 : decode cL_law 430 = .ok (.aload_n 1, 1) := by decide +kernel
theorem dL_law_431 : decode cL_law 431 = .ok (.aload_n 0, 1) := by decide +kernel
theorem dL_law_432 : decode cL_law 432 = .ok (.iload 4, 2) := by decide +kernel
theorem dL_law_434 : decode cL_law 434 = .ok (.iconst 1, 1) := by decide +kernel
theorem dL_law_435 : decode cL_law 435 = .ok (.iadd, 1) := by decide +kernel
theorem dL_law_436 : decode cL_law 436 = .ok (.iaload, 1) := by decide +kernel
theorem dL_law_437 : decode cL_law 437 = .ok (.aload_n 0, 1) := by decide +kernel
theorem dL_law_438 : decode cL_law 438 = .ok (.iload 4, 2) := by decide +kernel
theorem dL_law_440 : decode cL_law 440 = .ok (.iconst 2, 1) := by decide +kernel
theorem dL_law_441 : decode cL_law 441 = .ok (.iadd, 1) := by decide +kernel
theorem dL_law_442 : decode cL_law 442 = .ok (.iaload, 1) := by decide +kernel
theorem dL_law_443 : decode cL_law 443 = .ok (.aload_n 0, 1) := by decide +kernel
theorem dL_law_444 : decode cL_law 444 = .ok (.iload 4, 2) := by decide +kernel
theorem dL_law_446 : decode cL_law 446 = .ok (.iconst 3, 1) := by decide +kernel
theorem dL_law_447 : decode cL_law 447 = .ok (.iadd, 1) := by decide +kernel
theorem dL_law_448 : decode cL_law 448 = .ok (.iaload, 1) := by decide +kernel
theorem dL_law_449 : decode cL_law 449 = .ok (.invokestatic 116, 3) := by decide +kernel
theorem dL_law_452 : decode cL_law 452 = .ok (.istore 5, 2) := by decide +kernel
theorem dL_law_454 : decode cL_law 454 = .ok (.aload_n 2, 1) := by decide +kernel
theorem dL_law_455 : decode cL_law 455 = .ok (.aload_n 0, 1) := by decide +kernel
theorem dL_law_456 : decode cL_law 456 = .ok (.iload 4, 2) := by decide +kernel
theorem dL_law_458 : decode cL_law 458 = .ok (.iconst 1, 1) := by decide +kernel
theorem dL_law_459 : decode cL_law 459 = .ok (.iadd, 1) := by decide +kernel
theorem dL_law_460 : decode cL_law 460 = .ok (.iaload, 1) := by decide +kernel
theorem dL_law_461 : decode cL_law 461 = .ok (.aload_n 0, 1) := by decide +kernel
theorem dL_law_462 : decode cL_law 462 = .ok (.iload 4, 2) := by decide +kernel
theorem dL_law_464 : decode cL_law 464 = .ok (.iconst 2, 1) := by decide +kernel
theorem dL_law_465 : decode cL_law 465 = .ok (.iadd, 1) := by decide +kernel
theorem dL_law_466 : decode cL_law 466 = .ok (.iaload, 1) := by decide +kernel
theorem dL_law_467 : decode cL_law 467 = .ok (.aload_n 0, 1) := by decide +kernel
theorem dL_law_468 : decode cL_law 468 = .ok (.iload 4, 2) := by decide +kernel
theorem dL_law_470 : decode cL_law 470 = .ok (.iconst 3, 1) := by decide +kernel
theorem dL_law_471 : decode cL_law 471 = .ok (.iadd, 1) := by decide +kernel
theorem dL_law_472 : decode cL_law 472 = .ok (.iaload, 1) := by decide +kernel
theorem dL_law_473 : decode cL_law 473 = .ok (.invokevirtual 119, 3) := by decide +kernel
theorem dL_law_476 : decode cL_law 476 = .ok (.aload_n 2, 1) := by decide +kernel
theorem dL_law_477 : decode cL_law 477 = .ok (.invokevirtual 101, 3) := by decide +kernel
theorem dL_law_480 : decode cL_law 480 = .ok (.iload 5, 2) := by decide +kernel
theorem dL_law_482 : decode cL_law 482 = .ok (.if_icmp .eq 5, 3) := by decide +kernel
theorem dL_law_485 : decode cL_law 485 = .ok (.iconst 0, 1) := by decide +kernel
theorem dL_law_486 : decode cL_law 486 = .ok (.ireturn, 1) := by decide +kernel
theorem dL_law_487 : decode cL_law 487 = .ok (.goto 994, 3) := by decide +kernel
theorem dL_law_490 : decode cL_law 490 = .ok (.aload_n 1, 1) := by decide +kernel
theorem dL_law_491 : decode cL_law 491 = .ok (.aload_n 0, 1) := by decide +kernel
theorem dL_law_492 : decode cL_law 492 = .ok (.iload 4, 2) := by decide +kernel
theorem dL_law_494 : decode cL_law 494 = .ok (.iconst 1, 1) := by decide +kernel
theorem dL_law_495 : decode cL_law 495 = .ok (.iadd, 1) := by decide +kernel
theorem dL_law_496 : decode cL_law 496 = .ok (.iaload, 1) := by decide +kernel
theorem dL_law_497 : decode cL_law 497 = .ok (.aload_n 0, 1) := by decide +kernel
theorem dL_law_498 : decode cL_law 498 = .ok (.iload 4, 2) := by decide +kernel
theorem dL_law_500 : decode cL_law 500 = .ok (.iconst 2, 1) := by decide +kernel
theorem dL_law_501 : decode cL_law 501 = .ok (.iadd, 1) := by decide +kernel
theorem dL_law_502 : decode cL_law 502 = .ok (.iaload, 1) := by decide +kernel
theorem dL_law_503 : decode cL_law 503 = .ok (.aload_n 3, 1) := by decide +kernel
theorem dL_law_504 : decode cL_law 504 = .ok (.invokestatic 120, 3) := by decide +kernel
theorem dL_law_507 : decode cL_law 507 = .ok (.istore 5, 2) := by decide +kernel
theorem dL_law_509 : decode cL_law 509 = .ok (.aload_n 2, 1) := by decide +kernel
theorem dL_law_510 : decode cL_law 510 = .ok (.aload_n 0, 1) := by decide +kernel
theorem dL_law_511 : decode cL_law 511 = .ok (.iload 4, 2) := by decide +kernel
theorem dL_law_513 : decode cL_law 513 = .ok (.iconst 1, 1) := by decide +kernel
theorem dL_law_514 : decode cL_law 514 = .ok (.iadd, 1) := by decide +kernel
theorem dL_law_515 : decode cL_law 515 = .ok (.iaload, 1) := by decide +kernel
theorem dL_law_516 : decode cL_law 516 = .ok (.aload_n 0, 1) := by decide +kernel
theorem dL_law_517 : decode cL_law 517 = .ok (.iload 4, 2) := by decide +kernel
theorem dL_law_519 : decode cL_law 519 = .ok (.iconst 2, 1) := by decide +kernel
theorem dL_law_520 : decode cL_law 520 = .ok (.iadd, 1) := by decide +kernel
theorem dL_law_521 : decode cL_law 521 = .ok (.iaload, 1) := by decide +kernel
theorem dL_law_522 : decode cL_law 522 = .ok (.invokevirtual 122, 3) := by decide +kernel
theorem dL_law_525 : decode cL_law 525 = .ok (.istore 6, 2) := by decide +kernel
theorem dL_law_527 : decode cL_law 527 = .ok (.aload_n 2, 1) := by decide +kernel
theorem dL_law_528 : decode cL_law 528 = .ok (.invokevirtual 101, 3) := by decide +kernel
theorem dL_law_531 : decode cL_law 531 = .ok (.iload 5, 2) := by decide +kernel
theorem dL_law_533 : decode cL_law 533 = .ok (.if_icmp .eq 5, 3) := by decide +kernel
theorem dL_law_536 : decode cL_law 536 = .ok (.iconst 0, 1) := by decide +kernel
theorem dL_law_537 : decode cL_law 537 = .ok (.ireturn, 1) := by decide +kernel
theorem dL_law_538 : decode cL_law 538 = .ok (.iload 5, 2) := by decide +kernel
theorem dL_law_540 : decode cL_law 540 = .ok (.ifCond .ne 22, 3) := by decide +kernel
theorem dL_law_543 : decode cL_law 543 = .ok (.aload_n 3, 1) := by decide +kernel
theorem dL_law_544 : decode cL_law 544 = .ok (.iconst 0, 1) := by decide +kernel
theorem dL_law_545 : decode cL_law 545 = .ok (.laload, 1) := by decide +kernel
theorem dL_law_546 : decode cL_law 546 = .ok (.iload 6, 2) := by decide +kernel
theorem dL_law_548 : decode cL_law 548 = .ok (.ifCond .eq 7, 3) := by decide +kernel
theorem dL_law_551 : decode cL_law 551 = .ok (.lconst 1, 1) := by decide +kernel
theorem dL_law_552 : decode cL_law 552 = .ok (.goto 4, 3) := by decide +kernel
theorem dL_law_555 : decode cL_law 555 = .ok (.lconst 0, 1) := by decide +kernel
theorem dL_law_556 : decode cL_law 556 = .ok (.lcmp, 1) := by decide +kernel
theorem dL_law_557 : decode cL_law 557 = .ok (.ifCond .eq 5, 3) := by decide +kernel
theorem dL_law_560 : decode cL_law 560 = .ok (.iconst 0, 1) := by decide +kernel
theorem dL_law_561 : decode cL_law 561 = .ok (.ireturn, 1) := by decide +kernel
theorem dL_law_562 : decode cL_law 562 = .ok (.goto 919, 3) := by decide +kernel
theorem dL_law_565 : decode cL_law 565 = .ok (.aload_n 1, 1) := by decide +kernel
theorem dL_law_566 : decode cL_law 566 = .ok (.aload_n 0, 1) := by decide +kernel
theorem dL_law_567 : decode cL_law 567 = .ok (.iload 4, 2) := by decide +kernel
theorem dL_law_569 : decode cL_law 569 = .ok (.iconst 1, 1) := by decide +kernel
theorem dL_law_570 : decode cL_law 570 = .ok (.iadd, 1) := by decide +kernel
theorem dL_law_571 : decode cL_law 571 = .ok (.iaload, 1) := by decide +kernel
theorem dL_law_572 : decode cL_law 572 = .ok (.aload_n 0, 1) := by decide +kernel
theorem dL_law_573 : decode cL_law 573 = .ok (.iload 4, 2) := by decide +kernel
theorem dL_law_575 : decode cL_law 575 = .ok (.iconst 2, 1) := by decide +kernel
theorem dL_law_576 : decode cL_law 576 = .ok (.iadd, 1) := by decide +kernel
theorem dL_law_577 : decode cL_law 577 = .ok (.iaload, 1) := by decide +kernel
theorem dL_law_578 : decode cL_law 578 = .ok (.aload_n 3, 1) := by decide +kernel
theorem dL_law_579 : decode cL_law 579 = .ok (.invokestatic 123, 3) := by decide +kernel
theorem dL_law_582 : decode cL_law 582 = .ok (.istore 5, 2) := by decide +kernel
theorem dL_law_584 : decode cL_law 584 = .ok (.aload_n 2, 1) := by decide +kernel
theorem dL_law_585 : decode cL_law 585 = .ok (.aload_n 0, 1) := by decide +kernel
theorem dL_law_586 : decode cL_law 586 = .ok (.iload 4, 2) := by decide +kernel
theorem dL_law_588 : decode cL_law 588 = .ok (.iconst 1, 1) := by decide +kernel
theorem dL_law_589 : decode cL_law 589 = .ok (.iadd, 1) := by decide +kernel
theorem dL_law_590 : decode cL_law 590 = .ok (.iaload, 1) := by decide +kernel
theorem dL_law_591 : decode cL_law 591 = .ok (.aload_n 0, 1) := by decide +kernel
theorem dL_law_592 : decode cL_law 592 = .ok (.iload 4, 2) := by decide +kernel
theorem dL_law_594 : decode cL_law 594 = .ok (.iconst 2, 1) := by decide +kernel
theorem dL_law_595 : decode cL_law 595 = .ok (.iadd, 1) := by decide +kernel
theorem dL_law_596 : decode cL_law 596 = .ok (.iaload, 1) := by decide +kernel
theorem dL_law_597 : decode cL_law 597 = .ok (.invokevirtual 125, 3) := by decide +kernel
theorem dL_law_600 : decode cL_law 600 = .ok (.istore 6, 2) := by decide +kernel
theorem dL_law_602 : decode cL_law 602 = .ok (.aload_n 2, 1) := by decide +kernel
theorem dL_law_603 : decode cL_law 603 = .ok (.invokevirtual 101, 3) := by decide +kernel
theorem dL_law_606 : decode cL_law 606 = .ok (.iload 5, 2) := by decide +kernel
theorem dL_law_608 : decode cL_law 608 = .ok (.if_icmp .eq 5, 3) := by decide +kernel
theorem dL_law_611 : decode cL_law 611 = .ok (.iconst 0, 1) := by decide +kernel
theorem dL_law_612 : decode cL_law 612 = .ok (.ireturn, 1) := by decide +kernel
theorem dL_law_613 : decode cL_law 613 = .ok (.iload 5, 2) := by decide +kernel
theorem dL_law_615 : decode cL_law 615 = .ok (.ifCond .ne 22, 3) := by decide +kernel
theorem dL_law_618 : decode cL_law 618 = .ok (.aload_n 3, 1) := by decide +kernel
theorem dL_law_619 : decode cL_law 619 = .ok (.iconst 0, 1) := by decide +kernel
theorem dL_law_620 : decode cL_law 620 = .ok (.laload, 1) := by decide +kernel
theorem dL_law_621 : decode cL_law 621 = .ok (.iload 6, 2) := by decide +kernel
theorem dL_law_623 : decode cL_law 623 = .ok (.ifCond .eq 7, 3) := by decide +kernel
theorem dL_law_626 : decode cL_law 626 = .ok (.lconst 1, 1) := by decide +kernel
theorem dL_law_627 : decode cL_law 627 = .ok (.goto 4, 3) := by decide +kernel
theorem dL_law_630 : decode cL_law 630 = .ok (.lconst 0, 1) := by decide +kernel
theorem dL_law_631 : decode cL_law 631 = .ok (.lcmp, 1) := by decide +kernel
theorem dL_law_632 : decode cL_law 632 = .ok (.ifCond .eq 5, 3) := by decide +kernel
theorem dL_law_635 : decode cL_law 635 = .ok (.iconst 0, 1) := by decide +kernel
theorem dL_law_636 : decode cL_law 636 = .ok (.ireturn, 1) := by decide +kernel
theorem dL_law_637 : decode cL_law 637 = .ok (.goto 844, 3) := by decide +kernel
theorem dL_law_640 : decode cL_law 640 = .ok (.aload_n 1, 1) := by decide +kernel
theorem dL_law_641 : decode cL_law 641 = .ok (.aload_n 0, 1) := by decide +kernel
theorem dL_law_642 : decode cL_law 642 = .ok (.iload 4, 2) := by decide +kernel
theorem dL_law_644 : decode cL_law 644 = .ok (.iconst 1, 1) := by decide +kernel
theorem dL_law_645 : decode cL_law 645 = .ok (.iadd, 1) := by decide +kernel
theorem dL_law_646 : decode cL_law 646 = .ok (.iaload, 1) := by decide +kernel
theorem dL_law_647 : decode cL_law 647 = .ok (.aload_n 3, 1) := by decide +kernel
theorem dL_law_648 : decode cL_law 648 = .ok (.invokestatic 126, 3) := by decide +kernel
theorem dL_law_651 : decode cL_law 651 = .ok (.istore 5, 2) := by decide +kernel
theorem dL_law_653 : decode cL_law 653 = .ok (.aload_n 2, 1) := by decide +kernel
theorem dL_law_654 : decode cL_law 654 = .ok (.aload_n 0, 1) := by decide +kernel
theorem dL_law_655 : decode cL_law 655 = .ok (.iload 4, 2) := by decide +kernel
theorem dL_law_657 : decode cL_law 657 = .ok (.iconst 1, 1) := by decide +kernel
theorem dL_law_658 : decode cL_law 658 = .ok (.iadd, 1) := by decide +kernel
theorem dL_law_659 : decode cL_law 659 = .ok (.iaload, 1) := by decide +kernel
theorem dL_law_660 : decode cL_law 660 = .ok (.invokevirtual 128, 3) := by decide +kernel
theorem dL_law_663 : decode cL_law 663 = .ok (.istore 6, 2) := by decide +kernel
theorem dL_law_665 : decode cL_law 665 = .ok (.aload_n 2, 1) := by decide +kernel
theorem dL_law_666 : decode cL_law 666 = .ok (.invokevirtual 101, 3) := by decide +kernel
theorem dL_law_669 : decode cL_law 669 = .ok (.iload 5, 2) := by decide +kernel
theorem dL_law_671 : decode cL_law 671 = .ok (.if_icmp .eq 5, 3) := by decide +kernel
theorem dL_law_674 : decode cL_law 674 = .ok (.iconst 0, 1) := by decide +kernel
theorem dL_law_675 : decode cL_law 675 = .ok (.ireturn, 1) := by decide +kernel
theorem dL_law_676 : decode cL_law 676 = .ok (.iload 5, 2) := by decide +kernel
theorem dL_law_678 : decode cL_law 678 = .ok (.ifCond .ne 15, 3) := by decide +kernel
theorem dL_law_681 : decode cL_law 681 = .ok (.aload_n 3, 1) := by decide +kernel
theorem dL_law_682 : decode cL_law 682 = .ok (.iconst 0, 1) := by decide +kernel
theorem dL_law_683 : decode cL_law 683 = .ok (.laload, 1) := by decide +kernel
theorem dL_law_684 : decode cL_law 684 = .ok (.iload 6, 2) := by decide +kernel
theorem dL_law_686 : decode cL_law 686 = .ok (.i2l, 1) := by decide +kernel
theorem dL_law_687 : decode cL_law 687 = .ok (.lcmp, 1) := by decide +kernel
theorem dL_law_688 : decode cL_law 688 = .ok (.ifCond .eq 5, 3) := by decide +kernel
theorem dL_law_691 : decode cL_law 691 = .ok (.iconst 0, 1) := by decide +kernel
theorem dL_law_692 : decode cL_law 692 = .ok (.ireturn, 1) := by decide +kernel
theorem dL_law_693 : decode cL_law 693 = .ok (.goto 788, 3) := by decide +kernel
theorem dL_law_696 : decode cL_law 696 = .ok (.aload_n 1, 1) := by decide +kernel
theorem dL_law_697 : decode cL_law 697 = .ok (.aload_n 0, 1) := by decide +kernel
theorem dL_law_698 : decode cL_law 698 = .ok (.iload 4, 2) := by decide +kernel
theorem dL_law_700 : decode cL_law 700 = .ok (.iconst 1, 1) := by decide +kernel
theorem dL_law_701 : decode cL_law 701 = .ok (.iadd, 1) := by decide +kernel
theorem dL_law_702 : decode cL_law 702 = .ok (.iaload, 1) := by decide +kernel
theorem dL_law_703 : decode cL_law 703 = .ok (.aload_n 0, 1) := by decide +kernel
theorem dL_law_704 : decode cL_law 704 = .ok (.iload 4, 2) := by decide +kernel
theorem dL_law_706 : decode cL_law 706 = .ok (.iconst 2, 1) := by decide +kernel
theorem dL_law_707 : decode cL_law 707 = .ok (.iadd, 1) := by decide +kernel
theorem dL_law_708 : decode cL_law 708 = .ok (.iaload, 1) := by decide +kernel
theorem dL_law_709 : decode cL_law 709 = .ok (.aload_n 3, 1) := by decide +kernel
theorem dL_law_710 : decode cL_law 710 = .ok (.invokestatic 129, 3) := by decide +kernel
theorem dL_law_713 : decode cL_law 713 = .ok (.istore 5, 2) := by decide +kernel
theorem dL_law_715 : decode cL_law 715 = .ok (.aload_n 2, 1) := by decide +kernel
theorem dL_law_716 : decode cL_law 716 = .ok (.aload_n 0, 1) := by decide +kernel
theorem dL_law_717 : decode cL_law 717 = .ok (.iload 4, 2) := by decide +kernel
theorem dL_law_719 : decode cL_law 719 = .ok (.iconst 1, 1) := by decide +kernel
theorem dL_law_720 : decode cL_law 720 = .ok (.iadd, 1) := by decide +kernel
theorem dL_law_721 : decode cL_law 721 = .ok (.iaload, 1) := by decide +kernel
theorem dL_law_722 : decode cL_law 722 = .ok (.aload_n 0, 1) := by decide +kernel
theorem dL_law_723 : decode cL_law 723 = .ok (.iload 4, 2) := by decide +kernel
theorem dL_law_725 : decode cL_law 725 = .ok (.iconst 2, 1) := by decide +kernel
theorem dL_law_726 : decode cL_law 726 = .ok (.iadd, 1) := by decide +kernel
theorem dL_law_727 : decode cL_law 727 = .ok (.iaload, 1) := by decide +kernel
theorem dL_law_728 : decode cL_law 728 = .ok (.invokevirtual 131, 3) := by decide +kernel
theorem dL_law_731 : decode cL_law 731 = .ok (.istore 6, 2) := by decide +kernel
theorem dL_law_733 : decode cL_law 733 = .ok (.aload_n 2, 1) := by decide +kernel
theorem dL_law_734 : decode cL_law 734 = .ok (.invokevirtual 101, 3) := by decide +kernel
theorem dL_law_737 : decode cL_law 737 = .ok (.iload 5, 2) := by decide +kernel
theorem dL_law_739 : decode cL_law 739 = .ok (.if_icmp .eq 5, 3) := by decide +kernel
theorem dL_law_742 : decode cL_law 742 = .ok (.iconst 0, 1) := by decide +kernel
theorem dL_law_743 : decode cL_law 743 = .ok (.ireturn, 1) := by decide +kernel
theorem dL_law_744 : decode cL_law 744 = .ok (.iload 5, 2) := by decide +kernel
theorem dL_law_746 : decode cL_law 746 = .ok (.ifCond .ne 15, 3) := by decide +kernel
theorem dL_law_749 : decode cL_law 749 = .ok (.aload_n 3, 1) := by decide +kernel
theorem dL_law_750 : decode cL_law 750 = .ok (.iconst 0, 1) := by decide +kernel
theorem dL_law_751 : decode cL_law 751 = .ok (.laload, 1) := by decide +kernel
theorem dL_law_752 : decode cL_law 752 = .ok (.iload 6, 2) := by decide +kernel
theorem dL_law_754 : decode cL_law 754 = .ok (.i2l, 1) := by decide +kernel
theorem dL_law_755 : decode cL_law 755 = .ok (.lcmp, 1) := by decide +kernel
theorem dL_law_756 : decode cL_law 756 = .ok (.ifCond .eq 5, 3) := by decide +kernel
theorem dL_law_759 : decode cL_law 759 = .ok (.iconst 0, 1) := by decide +kernel
theorem dL_law_760 : decode cL_law 760 = .ok (.ireturn, 1) := by decide +kernel
theorem dL_law_761 : decode cL_law 761 = .ok (.goto 720, 3) := by decide +kernel
theorem dL_law_764 : decode cL_law 764 = .ok (.aload_n 1, 1) := by decide +kernel
theorem dL_law_765 : decode cL_law 765 = .ok (.aload_n 0, 1) := by decide +kernel
theorem dL_law_766 : decode cL_law 766 = .ok (.iload 4, 2) := by decide +kernel
theorem dL_law_768 : decode cL_law 768 = .ok (.iconst 1, 1) := by decide +kernel
theorem dL_law_769 : decode cL_law 769 = .ok (.iadd, 1) := by decide +kernel
theorem dL_law_770 : decode cL_law 770 = .ok (.iaload, 1) := by decide +kernel
theorem dL_law_771 : decode cL_law 771 = .ok (.aload_n 0, 1) := by decide +kernel
theorem dL_law_772 : decode cL_law 772 = .ok (.iload 4, 2) := by decide +kernel
theorem dL_law_774 : decode cL_law 774 = .ok (.iconst 2, 1) := by decide +kernel
theorem dL_law_775 : decode cL_law 775 = .ok (.iadd, 1) := by decide +kernel
theorem dL_law_776 : decode cL_law 776 = .ok (.iaload, 1) := by decide +kernel
theorem dL_law_777 : decode cL_law 777 = .ok (.ifCond .eq 7, 3) := by decide +kernel
theorem dL_law_780 : decode cL_law 780 = .ok (.iconst 1, 1) := by decide +kernel
theorem dL_law_781 : decode cL_law 781 = .ok (.goto 4, 3) := by decide +kernel
theorem dL_law_784 : decode cL_law 784 = .ok (.iconst 0, 1) := by decide +kernel
theorem dL_law_785 : decode cL_law 785 = .ok (.aload_n 3, 1) := by decide +kernel
theorem dL_law_786 : decode cL_law 786 = .ok (.invokestatic 132, 3) := by decide +kernel
theorem dL_law_789 : decode cL_law 789 = .ok (.istore 5, 2) := by decide +kernel
theorem dL_law_791 : decode cL_law 791 = .ok (.aload_n 2, 1) := by decide +kernel
theorem dL_law_792 : decode cL_law 792 = .ok (.aload_n 0, 1) := by decide +kernel
theorem dL_law_793 : decode cL_law 793 = .ok (.iload 4, 2) := by decide +kernel
theorem dL_law_795 : decode cL_law 795 = .ok (.iconst 1, 1) := by decide +kernel
theorem dL_law_796 : decode cL_law 796 = .ok (.iadd, 1) := by decide +kernel
theorem dL_law_797 : decode cL_law 797 = .ok (.iaload, 1) := by decide +kernel
theorem dL_law_798 : decode cL_law 798 = .ok (.aload_n 0, 1) := by decide +kernel
theorem dL_law_799 : decode cL_law 799 = .ok (.iload 4, 2) := by decide +kernel
theorem dL_law_801 : decode cL_law 801 = .ok (.iconst 2, 1) := by decide +kernel
theorem dL_law_802 : decode cL_law 802 = .ok (.iadd, 1) := by decide +kernel
theorem dL_law_803 : decode cL_law 803 = .ok (.iaload, 1) := by decide +kernel
theorem dL_law_804 : decode cL_law 804 = .ok (.ifCond .eq 7, 3) := by decide +kernel
theorem dL_law_807 : decode cL_law 807 = .ok (.iconst 1, 1) := by decide +kernel
theorem dL_law_808 : decode cL_law 808 = .ok (.goto 4, 3) := by decide +kernel
theorem dL_law_811 : decode cL_law 811 = .ok (.iconst 0, 1) := by decide +kernel
theorem dL_law_812 : decode cL_law 812 = .ok (.invokevirtual 135, 3) := by decide +kernel
theorem dL_law_815 : decode cL_law 815 = .ok (.istore 6, 2) := by decide +kernel
theorem dL_law_817 : decode cL_law 817 = .ok (.aload_n 2, 1) := by decide +kernel
theorem dL_law_818 : decode cL_law 818 = .ok (.invokevirtual 101, 3) := by decide +kernel
theorem dL_law_821 : decode cL_law 821 = .ok (.iload 5, 2) := by decide +kernel
theorem dL_law_823 : decode cL_law 823 = .ok (.if_icmp .eq 5, 3) := by decide +kernel
theorem dL_law_826 : decode cL_law 826 = .ok (.iconst 0, 1) := by decide +kernel
theorem dL_law_827 : decode cL_law 827 = .ok (.ireturn, 1) := by decide +kernel
theorem dL_law_828 : decode cL_law 828 = .ok (.iload 5, 2) := by decide +kernel
theorem dL_law_830 : decode cL_law 830 = .ok (.ifCond .ne 15, 3) := by decide +kernel
theorem dL_law_833 : decode cL_law 833 = .ok (.aload_n 3, 1) := by decide +kernel
theorem dL_law_834 : decode cL_law 834 = .ok (.iconst 0, 1) := by decide +kernel
theorem dL_law_835 : decode cL_law 835 = .ok (.laload, 1) := by decide +kernel
theorem dL_law_836 : decode cL_law 836 = .ok (.iload 6, 2) := by decide +kernel
theorem dL_law_838 : decode cL_law 838 = .ok (.i2l, 1) := by decide +kernel
theorem dL_law_839 : decode cL_law 839 = .ok (.lcmp, 1) := by decide +kernel
theorem dL_law_840 : decode cL_law 840 = .ok (.ifCond .eq 5, 3) := by decide +kernel
theorem dL_law_843 : decode cL_law 843 = .ok (.iconst 0, 1) := by decide +kernel
theorem dL_law_844 : decode cL_law 844 = .ok (.ireturn, 1) := by decide +kernel
theorem dL_law_845 : decode cL_law 845 = .ok (.goto 636, 3) := by decide +kernel
theorem dL_law_848 : decode cL_law 848 = .ok (.aload_n 1, 1) := by decide +kernel
theorem dL_law_849 : decode cL_law 849 = .ok (.aload_n 0, 1) := by decide +kernel
theorem dL_law_850 : decode cL_law 850 = .ok (.iload 4, 2) := by decide +kernel
theorem dL_law_852 : decode cL_law 852 = .ok (.iconst 1, 1) := by decide +kernel
theorem dL_law_853 : decode cL_law 853 = .ok (.iadd, 1) := by decide +kernel
theorem dL_law_854 : decode cL_law 854 = .ok (.iaload, 1) := by decide +kernel
theorem dL_law_855 : decode cL_law 855 = .ok (.ifCond .eq 7, 3) := by decide +kernel
theorem dL_law_858 : decode cL_law 858 = .ok (.iconst 1, 1) := by decide +kernel
theorem dL_law_859 : decode cL_law 859 = .ok (.goto 4, 3) := by decide +kernel
theorem dL_law_862 : decode cL_law 862 = .ok (.iconst 0, 1) := by decide +kernel
theorem dL_law_863 : decode cL_law 863 = .ok (.aload_n 0, 1) := by decide +kernel
theorem dL_law_864 : decode cL_law 864 = .ok (.iload 4, 2) := by decide +kernel
theorem dL_law_866 : decode cL_law 866 = .ok (.iconst 2, 1) := by decide +kernel
theorem dL_law_867 : decode cL_law 867 = .ok (.iadd, 1) := by decide +kernel
theorem dL_law_868 : decode cL_law 868 = .ok (.iaload, 1) := by decide +kernel
theorem dL_law_869 : decode cL_law 869 = .ok (.aload_n 0, 1) := by decide +kernel
theorem dL_law_870 : decode cL_law 870 = .ok (.iload 4, 2) := by decide +kernel
theorem dL_law_872 : decode cL_law 872 = .ok (.iconst 3, 1) := by decide +kernel
theorem dL_law_873 : decode cL_law 873 = .ok (.iadd, 1) := by decide +kernel
theorem dL_law_874 : decode cL_law 874 = .ok (.iaload, 1) := by decide +kernel
theorem dL_law_875 : decode cL_law 875 = .ok (.invokevirtual 136, 3) := by decide +kernel
theorem dL_law_878 : decode cL_law 878 = .ok (.aload_n 2, 1) := by decide +kernel
theorem dL_law_879 : decode cL_law 879 = .ok (.aload_n 0, 1) := by decide +kernel
theorem dL_law_880 : decode cL_law 880 = .ok (.iload 4, 2) := by decide +kernel
theorem dL_law_882 : decode cL_law 882 = .ok (.iconst 1, 1) := by decide +kernel
theorem dL_law_883 : decode cL_law 883 = .ok (.iadd, 1) := by decide +kernel
theorem dL_law_884 : decode cL_law 884 = .ok (.iaload, 1) := by decide +kernel
theorem dL_law_885 : decode cL_law 885 = .ok (.ifCond .eq 7, 3) := by decide +kernel
theorem dL_law_888 : decode cL_law 888 = .ok (.iconst 1, 1) := by decide +kernel
theorem dL_law_889 : decode cL_law 889 = .ok (.goto 4, 3) := by decide +kernel
theorem dL_law_892 : decode cL_law 892 = .ok (.iconst 0, 1) := by decide +kernel
theorem dL_law_893 : decode cL_law 893 = .ok (.aload_n 0, 1) := by decide +kernel
theorem dL_law_894 : decode cL_law 894 = .ok (.iload 4, 2) := by decide +kernel
theorem dL_law_896 : decode cL_law 896 = .ok (.iconst 2, 1) := by decide +kernel
theorem dL_law_897 : decode cL_law 897 = .ok (.iadd, 1) := by decide +kernel
theorem dL_law_898 : decode cL_law 898 = .ok (.iaload, 1) := by decide +kernel
theorem dL_law_899 : decode cL_law 899 = .ok (.aload_n 0, 1) := by decide +kernel
theorem dL_law_900 : decode cL_law 900 = .ok (.iload 4, 2) := by decide +kernel
theorem dL_law_902 : decode cL_law 902 = .ok (.iconst 3, 1) := by decide +kernel
theorem dL_law_903 : decode cL_law 903 = .ok (.iadd, 1) := by decide +kernel
theorem dL_law_904 : decode cL_law 904 = .ok (.iaload, 1) := by decide +kernel
theorem dL_law_905 : decode cL_law 905 = .ok (.invokevirtual 140, 3) := by decide +kernel
theorem dL_law_908 : decode cL_law 908 = .ok (.if_icmp .eq 573, 3) := by decide +kernel
theorem dL_law_911 : decode cL_law 911 = .ok (.iconst 0, 1) := by decide +kernel
theorem dL_law_912 : decode cL_law 912 = .ok (.ireturn, 1) := by decide +kernel
theorem dL_law_913 : decode cL_law 913 = .ok (.aload_n 1, 1) := by decide +kernel
theorem dL_law_914 : decode cL_law 914 = .ok (.aload_n 0, 1) := by decide +kernel
theorem dL_law_915 : decode cL_law 915 = .ok (.iload 4, 2) := by decide +kernel
theorem dL_law_917 : decode cL_law 917 = .ok (.iconst 1, 1) := by decide +kernel
theorem dL_law_918 : decode cL_law 918 = .ok (.iadd, 1) := by decide +kernel
theorem dL_law_919 : decode cL_law 919 = .ok (.iaload, 1) := by decide +kernel
theorem dL_law_920 : decode cL_law 920 = .ok (.invokestatic 141, 3) := by decide +kernel
theorem dL_law_923 : decode cL_law 923 = .ok (.istore 5, 2) := by decide +kernel
theorem dL_law_925 : decode cL_law 925 = .ok (.aload_n 2, 1) := by decide +kernel
theorem dL_law_926 : decode cL_law 926 = .ok (.aload_n 0, 1) := by decide +kernel
theorem dL_law_927 : decode cL_law 927 = .ok (.iload 4, 2) := by decide +kernel
theorem dL_law_929 : decode cL_law 929 = .ok (.iconst 1, 1) := by decide +kernel
theorem dL_law_930 : decode cL_law 930 = .ok (.iadd, 1) := by decide +kernel
theorem dL_law_931 : decode cL_law 931 = .ok (.iaload, 1) := by decide +kernel
theorem dL_law_932 : decode cL_law 932 = .ok (.invokevirtual 144, 3) := by decide +kernel
theorem dL_law_935 : decode cL_law 935 = .ok (.aload_n 2, 1) := by decide +kernel
theorem dL_law_936 : decode cL_law 936 = .ok (.invokevirtual 101, 3) := by decide +kernel
theorem dL_law_939 : decode cL_law 939 = .ok (.iload 5, 2) := by decide +kernel
theorem dL_law_941 : decode cL_law 941 = .ok (.if_icmp .eq 5, 3) := by decide +kernel
theorem dL_law_944 : decode cL_law 944 = .ok (.iconst 0, 1) := by decide +kernel
theorem dL_law_945 : decode cL_law 945 = .ok (.ireturn, 1) := by decide +kernel
theorem dL_law_946 : decode cL_law 946 = .ok (.goto 535, 3) := by decide +kernel
theorem dL_law_949 : decode cL_law 949 = .ok (.aload_n 1, 1) := by decide +kernel
theorem dL_law_950 : decode cL_law 950 = .ok (.aload_n 0, 1) := by decide +kernel
theorem dL_law_951 : decode cL_law 951 = .ok (.iload 4, 2) := by decide +kernel
theorem dL_law_953 : decode cL_law 953 = .ok (.iconst 1, 1) := by decide +kernel
theorem dL_law_954 : decode cL_law 954 = .ok (.iadd, 1) := by decide +kernel
theorem dL_law_955 : decode cL_law 955 = .ok (.iaload, 1) := by decide +kernel
theorem dL_law_956 : decode cL_law 956 = .ok (.invokestatic 145, 3) := by decide +kernel
theorem dL_law_959 : decode cL_law 959 = .ok (.istore 5, 2) := by decide +kernel
theorem dL_law_961 : decode cL_law 961 = .ok (.aload_n 2, 1) := by decide +kernel
theorem dL_law_962 : decode cL_law 962 = .ok (.aload_n 0, 1) := by decide +kernel
theorem dL_law_963 : decode cL_law 963 = .ok (.iload 4, 2) := by decide +kernel
theorem dL_law_965 : decode cL_law 965 = .ok (.iconst 1, 1) := by decide +kernel
theorem dL_law_966 : decode cL_law 966 = .ok (.iadd, 1) := by decide +kernel
theorem dL_law_967 : decode cL_law 967 = .ok (.iaload, 1) := by decide +kernel
theorem dL_law_968 : decode cL_law 968 = .ok (.invokevirtual 147, 3) := by decide +kernel
theorem dL_law_971 : decode cL_law 971 = .ok (.aload_n 2, 1) := by decide +kernel
theorem dL_law_972 : decode cL_law 972 = .ok (.invokevirtual 101, 3) := by decide +kernel
theorem dL_law_975 : decode cL_law 975 = .ok (.iload 5, 2) := by decide +kernel
theorem dL_law_977 : decode cL_law 977 = .ok (.if_icmp .eq 5, 3) := by decide +kernel
theorem dL_law_980 : decode cL_law 980 = .ok (.iconst 0, 1) := by decide +kernel
theorem dL_law_981 : decode cL_law 981 = .ok (.ireturn, 1) := by decide +kernel
theorem dL_law_982 : decode cL_law 982 = .ok (.goto 499, 3) := by decide +kernel
theorem dL_law_985 : decode cL_law 985 = .ok (.aload_n 1, 1) := by decide +kernel
theorem dL_law_986 : decode cL_law 986 = .ok (.invokevirtual 148, 3) := by decide +kernel
theorem dL_law_989 : decode cL_law 989 = .ok (.aload_n 2, 1) := by decide +kernel
theorem dL_law_990 : decode cL_law 990 = .ok (.invokevirtual 152, 3) := by decide +kernel
theorem dL_law_993 : decode cL_law 993 = .ok (.if_icmp .eq 488, 3) := by decide +kernel
theorem dL_law_996 : decode cL_law 996 = .ok (.iconst 0, 1) := by decide +kernel
theorem dL_law_997 : decode cL_law 997 = .ok (.ireturn, 1) := by decide +kernel
theorem dL_law_998 : decode cL_law 998 = .ok (.aload_n 1, 1) := by decide +kernel
theorem dL_law_999 : decode cL_law 999 = .ok (.aload_n 0, 1) := by decide +kernel
theorem dL_law_1000 : decode cL_law 1000 = .ok (.iload 4, 2) := by decide +kernel
theorem dL_law_1002 : decode cL_law 1002 = .ok (.iconst 1, 1) := by decide +kernel
theorem dL_law_1003 : decode cL_law 1003 = .ok (.iadd, 1) := by decide +kernel
theorem dL_law_1004 : decode cL_law 1004 = .ok (.iaload, 1) := by decide +kernel
theorem dL_law_1005 : decode cL_law 1005 = .ok (.aload_n 0, 1) := by decide +kernel
theorem dL_law_1006 : decode cL_law 1006 = .ok (.iload 4, 2) := by decide +kernel
theorem dL_law_1008 : decode cL_law 1008 = .ok (.iconst 2, 1) := by decide +kernel
theorem dL_law_1009 : decode cL_law 1009 = .ok (.iadd, 1) := by decide +kernel
theorem dL_law_1010 : decode cL_law 1010 = .ok (.iaload, 1) := by decide +kernel
theorem dL_law_1011 : decode cL_law 1011 = .ok (.aload_n 0, 1) := by decide +kernel
theorem dL_law_1012 : decode cL_law 1012 = .ok (.iload 4, 2) := by decide +kernel
theorem dL_law_1014 : decode cL_law 1014 = .ok (.iconst 3, 1) := by decide +kernel
theorem dL_law_1015 : decode cL_law 1015 = .ok (.iadd, 1) := by decide +kernel
theorem dL_law_1016 : decode cL_law 1016 = .ok (.iaload, 1) := by decide +kernel
theorem dL_law_1017 : decode cL_law 1017 = .ok (.aload_n 0, 1) := by decide +kernel
theorem dL_law_1018 : decode cL_law 1018 = .ok (.iload 4, 2) := by decide +kernel
theorem dL_law_1020 : decode cL_law 1020 = .ok (.iconst 4, 1) := by decide +kernel
theorem dL_law_1021 : decode cL_law 1021 = .ok (.iadd, 1) := by decide +kernel
theorem dL_law_1022 : decode cL_law 1022 = .ok (.iaload, 1) := by decide +kernel
theorem dL_law_1023 : decode cL_law 1023 = .ok (.aload_n 3, 1) := by decide +kernel
theorem dL_law_1024 : decode cL_law 1024 = .ok (.invokestatic 153, 3) := by decide +kernel
theorem dL_law_1027 : decode cL_law 1027 = .ok (.istore 5, 2) := by decide +kernel
theorem dL_law_1029 : decode cL_law 1029 = .ok (.aload_n 2, 1) := by decide +kernel
theorem dL_law_1030 : decode cL_law 1030 = .ok (.aload_n 0, 1) := by decide +kernel
theorem dL_law_1031 : decode cL_law 1031 = .ok (.iload 4, 2) := by decide +kernel
theorem dL_law_1033 : decode cL_law 1033 = .ok (.iconst 1, 1) := by decide +kernel
theorem dL_law_1034 : decode cL_law 1034 = .ok (.iadd, 1) := by decide +kernel
theorem dL_law_1035 : decode cL_law 1035 = .ok (.iaload, 1) := by decide +kernel
theorem dL_law_1036 : decode cL_law 1036 = .ok (.aload_n 0, 1) := by decide +kernel
theorem dL_law_1037 : decode cL_law 1037 = .ok (.iload 4, 2) := by decide +kernel
theorem dL_law_1039 : decode cL_law 1039 = .ok (.iconst 2, 1) := by decide +kernel
theorem dL_law_1040 : decode cL_law 1040 = .ok (.iadd, 1) := by decide +kernel
theorem dL_law_1041 : decode cL_law 1041 = .ok (.iaload, 1) := by decide +kernel
theorem dL_law_1042 : decode cL_law 1042 = .ok (.aload_n 0, 1) := by decide +kernel
theorem dL_law_1043 : decode cL_law 1043 = .ok (.iload 4, 2) := by decide +kernel
theorem dL_law_1045 : decode cL_law 1045 = .ok (.iconst 3, 1) := by decide +kernel
theorem dL_law_1046 : decode cL_law 1046 = .ok (.iadd, 1) := by decide +kernel
theorem dL_law_1047 : decode cL_law 1047 = .ok (.iaload, 1) := by decide +kernel
theorem dL_law_1048 : decode cL_law 1048 = .ok (.aload_n 0, 1) := by decide +kernel
theorem dL_law_1049 : decode cL_law 1049 = .ok (.iload 4, 2) := by decide +kernel
theorem dL_law_1051 : decode cL_law 1051 = .ok (.iconst 4, 1) := by decide +kernel
theorem dL_law_1052 : decode cL_law 1052 = .ok (.iadd, 1) := by decide +kernel
theorem dL_law_1053 : decode cL_law 1053 = .ok (.iaload, 1) := by decide +kernel
theorem dL_law_1054 : decode cL_law 1054 = .ok (.invokevirtual 156, 3) := by decide +kernel
theorem dL_law_1057 : decode cL_law 1057 = .ok (.istore 6, 2) := by decide +kernel
theorem dL_law_1059 : decode cL_law 1059 = .ok (.aload_n 2, 1) := by decide +kernel
theorem dL_law_1060 : decode cL_law 1060 = .ok (.invokevirtual 101, 3) := by decide +kernel
theorem dL_law_1063 : decode cL_law 1063 = .ok (.iload 5, 2) := by decide +kernel
theorem dL_law_1065 : decode cL_law 1065 = .ok (.if_icmp .eq 5, 3) := by decide +kernel
theorem dL_law_1068 : decode cL_law 1068 = .ok (.iconst 0, 1) := by decide +kernel
theorem dL_law_1069 : decode cL_law 1069 = .ok (.ireturn, 1) := by decide +kernel
theorem dL_law_1070 : decode cL_law 1070 = .ok (.iload 5, 2) := by decide +kernel
theorem dL_law_1072 : decode cL_law 1072 = .ok (.ifCond .ne 15, 3) := by decide +kernel
theorem dL_law_1075 : decode cL_law 1075 = .ok (.aload_n 3, 1) := by decide +kernel
theorem dL_law_1076 : decode cL_law 1076 = .ok (.iconst 0, 1) := by decide +kernel
theorem dL_law_1077 : decode cL_law 1077 = .ok (.laload, 1) := by decide +kernel
theorem dL_law_1078 : decode cL_law 1078 = .ok (.iload 6, 2) := by decide +kernel
theorem dL_law_1080 : decode cL_law 1080 = .ok (.i2l, 1) := by decide +kernel
theorem dL_law_1081 : decode cL_law 1081 = .ok (.lcmp, 1) := by decide +kernel
theorem dL_law_1082 : decode cL_law 1082 = .ok (.ifCond .eq 5, 3) := by decide +kernel
theorem dL_law_1085 : decode cL_law 1085 = .ok (.iconst 0, 1) := by decide +kernel
theorem dL_law_1086 : decode cL_law 1086 = .ok (.ireturn, 1) := by decide +kernel
theorem dL_law_1087 : decode cL_law 1087 = .ok (.goto 394, 3) := by decide +kernel
theorem dL_law_1090 : decode cL_law 1090 = .ok (.aload_n 1, 1) := by decide +kernel
theorem dL_law_1091 : decode cL_law 1091 = .ok (.invokestatic 157, 3) := by decide +kernel
theorem dL_law_1094 : decode cL_law 1094 = .ok (.istore 5, 2) := by decide +kernel
theorem dL_law_1096 : decode cL_law 1096 = .ok (.aload_n 2, 1) := by decide +kernel
theorem dL_law_1097 : decode cL_law 1097 = .ok (.invokevirtual 160, 3) := by decide +kernel
theorem dL_law_1100 : decode cL_law 1100 = .ok (.aload_n 2, 1) := by decide +kernel
theorem dL_law_1101 : decode cL_law 1101 = .ok (.invokevirtual 101, 3) := by decide +kernel
theorem dL_law_1104 : decode cL_law 1104 = .ok (.iload 5, 2) := by decide +kernel
theorem dL_law_1106 : decode cL_law 1106 = .ok (.if_icmp .eq 5, 3) := by decide +kernel
theorem dL_law_1109 : decode cL_law 1109 = .ok (.iconst 0, 1) := by decide +kernel
theorem dL_law_1110 : decode cL_law 1110 = .ok (.ireturn, 1) := by decide +kernel
theorem dL_law_1111 : decode cL_law 1111 = .ok (.goto 370, 3) := by decide +kernel
theorem dL_law_1114 : decode cL_law 1114 = .ok (.aload_n 1, 1) := by decide +kernel
theorem dL_law_1115 : decode cL_law 1115 = .ok (.aload_n 0, 1) := by decide +kernel
theorem dL_law_1116 : decode cL_law 1116 = .ok (.iload 4, 2) := by decide +kernel
theorem dL_law_1118 : decode cL_law 1118 = .ok (.iconst 1, 1) := by decide +kernel
theorem dL_law_1119 : decode cL_law 1119 = .ok (.iadd, 1) := by decide +kernel
theorem dL_law_1120 : decode cL_law 1120 = .ok (.iaload, 1) := by decide +kernel
theorem dL_law_1121 : decode cL_law 1121 = .ok (.aload_n 0, 1) := by decide +kernel
theorem dL_law_1122 : decode cL_law 1122 = .ok (.iload 4, 2) := by decide +kernel
theorem dL_law_1124 : decode cL_law 1124 = .ok (.iconst 2, 1) := by decide +kernel
theorem dL_law_1125 : decode cL_law 1125 = .ok (.iadd, 1) := by decide +kernel
theorem dL_law_1126 : decode cL_law 1126 = .ok (.iaload, 1) := by decide +kernel
theorem dL_law_1127 : decode cL_law 1127 = .ok (.i2l, 1) := by decide +kernel
theorem dL_law_1128 : decode cL_law 1128 = .ok (.bipush 32, 2) := by decide +kernel
theorem dL_law_1130 : decode cL_law 1130 = .ok (.lshl, 1) := by decide +kernel
theorem dL_law_1131 : decode cL_law 1131 = .ok (.aload_n 0, 1) := by decide +kernel
theorem dL_law_1132 : decode cL_law 1132 = .ok (.iload 4, 2) := by decide +kernel
theorem dL_law_1134 : decode cL_law 1134 = .ok (.iconst 3, 1) := by decide +kernel
theorem dL_law_1135 : decode cL_law 1135 = .ok (.iadd, 1) := by decide +kernel
theorem dL_law_1136 : decode cL_law 1136 = .ok (.iaload, 1) := by decide +kernel
theorem dL_law_1137 : decode cL_law 1137 = .ok (.i2l, 1) := by decide +kernel
theorem dL_law_1138 : decode cL_law 1138 = .ok (.ldc2_w 93, 3) := by decide +kernel
theorem dL_law_1141 : decode cL_law 1141 = .ok (.land, 1) := by decide +kernel
theorem dL_law_1142 : decode cL_law 1142 = .ok (.lor, 1) := by decide +kernel
theorem dL_law_1143 : decode cL_law 1143 = .ok (.aload_n 3, 1) := by decide +kernel
theorem dL_law_1144 : decode cL_law 1144 = .ok (.invokestatic 161, 3) := by decide +kernel
theorem dL_law_1147 : decode cL_law 1147 = .ok (.istore 5, 2) := by decide +kernel
theorem dL_law_1149 : decode cL_law 1149 = .ok (.aload_n 2, 1) := by decide +kernel
theorem dL_law_1150 : decode cL_law 1150 = .ok (.aload_n 0, 1) := by decide +kernel
theorem dL_law_1151 : decode cL_law 1151 = .ok (.iload 4, 2) := by decide +kernel
theorem dL_law_1153 : decode cL_law 1153 = .ok (.iconst 1, 1) := by decide +kernel
theorem dL_law_1154 : decode cL_law 1154 = .ok (.iadd, 1) := by decide +kernel
theorem dL_law_1155 : decode cL_law 1155 = .ok (.iaload, 1) := by decide +kernel
theorem dL_law_1156 : decode cL_law 1156 = .ok (.aload_n 0, 1) := by decide +kernel
theorem dL_law_1157 : decode cL_law 1157 = .ok (.iload 4, 2) := by decide +kernel
theorem dL_law_1159 : decode cL_law 1159 = .ok (.iconst 2, 1) := by decide +kernel
theorem dL_law_1160 : decode cL_law 1160 = .ok (.iadd, 1) := by decide +kernel
theorem dL_law_1161 : decode cL_law 1161 = .ok (.iaload, 1) := by decide +kernel
theorem dL_law_1162 : decode cL_law 1162 = .ok (.i2l, 1) := by decide +kernel
theorem dL_law_1163 : decode cL_law 1163 = .ok (.bipush 32, 2) := by decide +kernel
theorem dL_law_1165 : decode cL_law 1165 = .ok (.lshl, 1) := by decide +kernel
theorem dL_law_1166 : decode cL_law 1166 = .ok (.aload_n 0, 1) := by decide +kernel
theorem dL_law_1167 : decode cL_law 1167 = .ok (.iload 4, 2) := by decide +kernel
theorem dL_law_1169 : decode cL_law 1169 = .ok (.iconst 3, 1) := by decide +kernel
theorem dL_law_1170 : decode cL_law 1170 = .ok (.iadd, 1) := by decide +kernel
theorem dL_law_1171 : decode cL_law 1171 = .ok (.iaload, 1) := by decide +kernel
theorem dL_law_1172 : decode cL_law 1172 = .ok (.i2l, 1) := by decide +kernel
theorem dL_law_1173 : decode cL_law 1173 = .ok (.ldc2_w 93, 3) := by decide +kernel
theorem dL_law_1176 : decode cL_law 1176 = .ok (.land, 1) := by decide +kernel
theorem dL_law_1177 : decode cL_law 1177 = .ok (.lor, 1) := by decide +kernel
theorem dL_law_1178 : decode cL_law 1178 = .ok (.invokevirtual 163, 3) := by decide +kernel
theorem dL_law_1181 : decode cL_law 1181 = .ok (.lstore 6, 2) := by decide +kernel
theorem dL_law_1183 : decode cL_law 1183 = .ok (.aload_n 2, 1) := by decide +kernel
theorem dL_law_1184 : decode cL_law 1184 = .ok (.invokevirtual 101, 3) := by decide +kernel
theorem dL_law_1187 : decode cL_law 1187 = .ok (.iload 5, 2) := by decide +kernel
theorem dL_law_1189 : decode cL_law 1189 = .ok (.if_icmp .eq 5, 3) := by decide +kernel
theorem dL_law_1192 : decode cL_law 1192 = .ok (.iconst 0, 1) := by decide +kernel
theorem dL_law_1193 : decode cL_law 1193 = .ok (.ireturn, 1) := by decide +kernel
theorem dL_law_1194 : decode cL_law 1194 = .ok (.iload 5, 2) := by decide +kernel
theorem dL_law_1196 : decode cL_law 1196 = .ok (.ifCond .ne 14, 3) := by decide +kernel
theorem dL_law_1199 : decode cL_law 1199 = .ok (.aload_n 3, 1) := by decide +kernel
theorem dL_law_1200 : decode cL_law 1200 = .ok (.iconst 0, 1) := by decide +kernel
theorem dL_law_1201 : decode cL_law 1201 = .ok (.laload, 1) := by decide +kernel
theorem dL_law_1202 : decode cL_law 1202 = .ok (.lload 6, 2) := by decide +kernel
theorem dL_law_1204 : decode cL_law 1204 = .ok (.lcmp, 1) := by decide +kernel
theorem dL_law_1205 : decode cL_law 1205 = .ok (.ifCond .eq 5, 3) := by decide +kernel
theorem dL_law_1208 : decode cL_law 1208 = .ok (.iconst 0, 1) := by decide +kernel
theorem dL_law_1209 : decode cL_law 1209 = .ok (.ireturn, 1) := by decide +kernel
theorem dL_law_1210 : decode cL_law 1210 = .ok (.goto 271, 3) := by decide +kernel
theorem dL_law_1213 : decode cL_law 1213 = .ok (.aload_n 1, 1) := by decide +kernel
theorem dL_law_1214 : decode cL_law 1214 = .ok (.aload_n 0, 1) := by decide +kernel
theorem dL_law_1215 : decode cL_law 1215 = .ok (.iload 4, 2) := by decide +kernel
theorem dL_law_1217 : decode cL_law 1217 = .ok (.iconst 1, 1) := by decide +kernel
theorem dL_law_1218 : decode cL_law 1218 = .ok (.iadd, 1) := by decide +kernel
theorem dL_law_1219 : decode cL_law 1219 = .ok (.iaload, 1) := by decide +kernel
theorem dL_law_1220 : decode cL_law 1220 = .ok (.aload_n 3, 1) := by decide +kernel
theorem dL_law_1221 : decode cL_law 1221 = .ok (.invokestatic 164, 3) := by decide +kernel
theorem dL_law_1224 : decode cL_law 1224 = .ok (.istore 5, 2) := by decide +kernel
theorem dL_law_1226 : decode cL_law 1226 = .ok (.aload_n 2, 1) := by decide +kernel
theorem dL_law_1227 : decode cL_law 1227 = .ok (.aload_n 0, 1) := by decide +kernel
theorem dL_law_1228 : decode cL_law 1228 = .ok (.iload 4, 2) := by decide +kernel
theorem dL_law_1230 : decode cL_law 1230 = .ok (.iconst 1, 1) := by decide +kernel
theorem dL_law_1231 : decode cL_law 1231 = .ok (.iadd, 1) := by decide +kernel
theorem dL_law_1232 : decode cL_law 1232 = .ok (.iaload, 1) := by decide +kernel
theorem dL_law_1233 : decode cL_law 1233 = .ok (.invokevirtual 166, 3) := by decide +kernel
theorem dL_law_1236 : decode cL_law 1236 = .ok (.lstore 6, 2) := by decide +kernel
theorem dL_law_1238 : decode cL_law 1238 = .ok (.aload_n 2, 1) := by decide +kernel
theorem dL_law_1239 : decode cL_law 1239 = .ok (.invokevirtual 101, 3) := by decide +kernel
theorem dL_law_1242 : decode cL_law 1242 = .ok (.iload 5, 2) := by decide +kernel
theorem dL_law_1244 : decode cL_law 1244 = .ok (.if_icmp .eq 5, 3) := by decide +kernel
theorem dL_law_1247 : decode cL_law 1247 = .ok (.iconst 0, 1) := by decide +kernel
theorem dL_law_1248 : decode cL_law 1248 = .ok (.ireturn, 1) := by decide +kernel
theorem dL_law_1249 : decode cL_law 1249 = .ok (.iload 5, 2) := by decide +kernel
theorem dL_law_1251 : decode cL_law 1251 = .ok (.ifCond .ne 14, 3) := by decide +kernel
theorem dL_law_1254 : decode cL_law 1254 = .ok (.aload_n 3, 1) := by decide +kernel
theorem dL_law_1255 : decode cL_law 1255 = .ok (.iconst 0, 1) := by decide +kernel
theorem dL_law_1256 : decode cL_law 1256 = .ok (.laload, 1) := by decide +kernel
theorem dL_law_1257 : decode cL_law 1257 = .ok (.lload 6, 2) := by decide +kernel
theorem dL_law_1259 : decode cL_law 1259 = .ok (.lcmp, 1) := by decide +kernel
theorem dL_law_1260 : decode cL_law 1260 = .ok (.ifCond .eq 5, 3) := by decide +kernel
theorem dL_law_1263 : decode cL_law 1263 = .ok (.iconst 0, 1) := by decide +kernel
theorem dL_law_1264 : decode cL_law 1264 = .ok (.ireturn, 1) := by decide +kernel
theorem dL_law_1265 : decode cL_law 1265 = .ok (.goto 216, 3) := by decide +kernel
theorem dL_law_1268 : decode cL_law 1268 = .ok (.aload_n 1, 1) := by decide +kernel
theorem dL_law_1269 : decode cL_law 1269 = .ok (.aload_n 0, 1) := by decide +kernel
theorem dL_law_1270 : decode cL_law 1270 = .ok (.iload 4, 2) := by decide +kernel
theorem dL_law_1272 : decode cL_law 1272 = .ok (.iconst 1, 1) := by decide +kernel
theorem dL_law_1273 : decode cL_law 1273 = .ok (.iadd, 1) := by decide +kernel
theorem dL_law_1274 : decode cL_law 1274 = .ok (.iaload, 1) := by decide +kernel
theorem dL_law_1275 : decode cL_law 1275 = .ok (.aload_n 0, 1) := by decide +kernel
theorem dL_law_1276 : decode cL_law 1276 = .ok (.iload 4, 2) := by decide +kernel
theorem dL_law_1278 : decode cL_law 1278 = .ok (.iconst 2, 1) := by decide +kernel
theorem dL_law_1279 : decode cL_law 1279 = .ok (.iadd, 1) := by decide +kernel
theorem dL_law_1280 : decode cL_law 1280 = .ok (.iaload, 1) := by decide +kernel
theorem dL_law_1281 : decode cL_law 1281 = .ok (.aload_n 3, 1) := by decide +kernel
theorem dL_law_1282 : decode cL_law 1282 = .ok (.invokestatic 167, 3) := by decide +kernel
theorem dL_law_1285 : decode cL_law 1285 = .ok (.istore 5, 2) := by decide +kernel
theorem dL_law_1287 : decode cL_law 1287 = .ok (.aload_n 2, 1) := by decide +kernel
theorem dL_law_1288 : decode cL_law 1288 = .ok (.aload_n 0, 1) := by decide +kernel
theorem dL_law_1289 : decode cL_law 1289 = .ok (.iload 4, 2) := by decide +kernel
theorem dL_law_1291 : decode cL_law 1291 = .ok (.iconst 1, 1) := by decide +kernel
theorem dL_law_1292 : decode cL_law 1292 = .ok (.iadd, 1) := by decide +kernel
theorem dL_law_1293 : decode cL_law 1293 = .ok (.iaload, 1) := by decide +kernel
theorem dL_law_1294 : decode cL_law 1294 = .ok (.aload_n 0, 1) := by decide +kernel
theorem dL_law_1295 : decode cL_law 1295 = .ok (.iload 4, 2) := by decide +kernel
theorem dL_law_1297 : decode cL_law 1297 = .ok (.iconst 2, 1) := by decide +kernel
theorem dL_law_1298 : decode cL_law 1298 = .ok (.iadd, 1) := by decide +kernel
theorem dL_law_1299 : decode cL_law 1299 = .ok (.iaload, 1) := by decide +kernel
theorem dL_law_1300 : decode cL_law 1300 = .ok (.invokevirtual 169, 3) := by decide +kernel
theorem dL_law_1303 : decode cL_law 1303 = .ok (.lstore 6, 2) := by decide +kernel
theorem dL_law_1305 : decode cL_law 1305 = .ok (.aload_n 2, 1) := by decide +kernel
theorem dL_law_1306 : decode cL_law 1306 = .ok (.invokevirtual 101, 3) := by decide +kernel
theorem dL_law_1309 : decode cL_law 1309 = .ok (.iload 5, 2) := by decide +kernel
theorem dL_law_1311 : decode cL_law 1311 = .ok (.if_icmp .eq 5, 3) := by decide +kernel
theorem dL_law_1314 : decode cL_law 1314 = .ok (.iconst 0, 1) := by decide +kernel
theorem dL_law_1315 : decode cL_law 1315 = .ok (.ireturn, 1) := by decide +kernel
theorem dL_law_1316 : decode cL_law 1316 = .ok (.iload 5, 2) := by decide +kernel
theorem dL_law_1318 : decode cL_law 1318 = .ok (.ifCond .ne 14, 3) := by decide +kernel
theorem dL_law_1321 : decode cL_law 1321 = .ok (.aload_n 3, 1) := by decide +kernel
theorem dL_law_1322 : decode cL_law 1322 = .ok (.iconst 0, 1) := by decide +kernel
theorem dL_law_1323 : decode cL_law 1323 = .ok (.laload, 1) := by decide +kernel
theorem dL_law_1324 : decode cL_law 1324 = .ok (.lload 6, 2) := by decide +kernel
theorem dL_law_1326 : decode cL_law 1326 = .ok (.lcmp, 1) := by decide +kernel
theorem dL_law_1327 : decode cL_law 1327 = .ok (.ifCond .eq 5, 3) := by decide +kernel
theorem dL_law_1330 : decode cL_law 1330 = .ok (.iconst 0, 1) := by decide +kernel
theorem dL_law_1331 : decode cL_law 1331 = .ok (.ireturn, 1) := by decide +kernel
theorem dL_law_1332 : decode cL_law 1332 = .ok (.goto 149, 3) := by decide +kernel
theorem dL_law_1335 : decode cL_law 1335 = .ok (.aload_n 1, 1) := by decide +kernel
theorem dL_law_1336 : decode cL_law 1336 = .ok (.aload_n 0, 1) := by decide +kernel
theorem dL_law_1337 : decode cL_law 1337 = .ok (.iload 4, 2) := by decide +kernel
theorem dL_law_1339 : decode cL_law 1339 = .ok (.iconst 1, 1) := by decide +kernel
theorem dL_law_1340 : decode cL_law 1340 = .ok (.iadd, 1) := by decide +kernel
theorem dL_law_1341 : decode cL_law 1341 = .ok (.iaload, 1) := by decide +kernel
theorem dL_law_1342 : decode cL_law 1342 = .ok (.aload_n 0, 1) := by decide +kernel
theorem dL_law_1343 : decode cL_law 1343 = .ok (.iload 4, 2) := by decide +kernel
theorem dL_law_1345 : decode cL_law 1345 = .ok (.iconst 2, 1) := by decide +kernel
theorem dL_law_1346 : decode cL_law 1346 = .ok (.iadd, 1) := by decide +kernel
theorem dL_law_1347 : decode cL_law 1347 = .ok (.iaload, 1) := by decide +kernel
theorem dL_law_1348 : decode cL_law 1348 = .ok (.aload_n 0, 1) := by decide +kernel
theorem dL_law_1349 : decode cL_law 1349 = .ok (.iload 4, 2) := by decide +kernel
theorem dL_law_1351 : decode cL_law 1351 = .ok (.iconst 3, 1) := by decide +kernel
theorem dL_law_1352 : decode cL_law 1352 = .ok (.iadd, 1) := by decide +kernel
theorem dL_law_1353 : decode cL_law 1353 = .ok (.iaload, 1) := by decide +kernel
theorem dL_law_1354 : decode cL_law 1354 = .ok (.aload_n 3, 1) := by decide +kernel
theorem dL_law_1355 : decode cL_law 1355 = .ok (.invokestatic 170, 3) := by decide +kernel
theorem dL_law_1358 : decode cL_law 1358 = .ok (.istore 5, 2) := by decide +kernel
theorem dL_law_1360 : decode cL_law 1360 = .ok (.aload_n 2, 1) := by decide +kernel
theorem dL_law_1361 : decode cL_law 1361 = .ok (.aload_n 0, 1) := by decide +kernel
theorem dL_law_1362 : decode cL_law 1362 = .ok (.iload 4, 2) := by decide +kernel
theorem dL_law_1364 : decode cL_law 1364 = .ok (.iconst 1, 1) := by decide +kernel
theorem dL_law_1365 : decode cL_law 1365 = .ok (.iadd, 1) := by decide +kernel
theorem dL_law_1366 : decode cL_law 1366 = .ok (.iaload, 1) := by decide +kernel
theorem dL_law_1367 : decode cL_law 1367 = .ok (.aload_n 0, 1) := by decide +kernel
theorem dL_law_1368 : decode cL_law 1368 = .ok (.iload 4, 2) := by decide +kernel
theorem dL_law_1370 : decode cL_law 1370 = .ok (.iconst 2, 1) := by decide +kernel
theorem dL_law_1371 : decode cL_law 1371 = .ok (.iadd, 1) := by decide +kernel
theorem dL_law_1372 : decode cL_law 1372 = .ok (.iaload, 1) := by decide +kernel
theorem dL_law_1373 : decode cL_law 1373 = .ok (.aload_n 0, 1) := by decide +kernel
theorem dL_law_1374 : decode cL_law 1374 = .ok (.iload 4, 2) := by decide +kernel
theorem dL_law_1376 : decode cL_law 1376 = .ok (.iconst 3, 1) := by decide +kernel
theorem dL_law_1377 : decode cL_law 1377 = .ok (.iadd, 1) := by decide +kernel
theorem dL_law_1378 : decode cL_law 1378 = .ok (.iaload, 1) := by decide +kernel
theorem dL_law_1379 : decode cL_law 1379 = .ok (.invokevirtual 173, 3) := by decide +kernel
theorem dL_law_1382 : decode cL_law 1382 = .ok (.lstore 6, 2) := by decide +kernel
theorem dL_law_1384 : decode cL_law 1384 = .ok (.aload_n 2, 1) := by decide +kernel
theorem dL_law_1385 : decode cL_law 1385 = .ok (.invokevirtual 101, 3) := by decide +kernel
theorem dL_law_1388 : decode cL_law 1388 = .ok (.iload 5, 2) := by decide +kernel
theorem dL_law_1390 : decode cL_law 1390 = .ok (.if_icmp .eq 5, 3) := by decide +kernel
theorem dL_law_1393 : decode cL_law 1393 = .ok (.iconst 0, 1) := by decide +kernel
theorem dL_law_1394 : decode cL_law 1394 = .ok (.ireturn, 1) := by decide +kernel
theorem dL_law_1395 : decode cL_law 1395 = .ok (.iload 5, 2) := by decide +kernel
theorem dL_law_1397 : decode cL_law 1397 = .ok (.ifCond .ne 14, 3) := by decide +kernel
theorem dL_law_1400 : decode cL_law 1400 = .ok (.aload_n 3, 1) := by decide +kernel
theorem dL_law_1401 : decode cL_law 1401 = .ok (.iconst 0, 1) := by decide +kernel
theorem dL_law_1402 : decode cL_law 1402 = .ok (.laload, 1) := by decide +kernel
theorem dL_law_1403 : decode cL_law 1403 = .ok (.lload 6, 2) := by decide +kernel
theorem dL_law_1405 : decode cL_law 1405 = .ok (.lcmp, 1) := by decide +kernel
theorem dL_law_1406 : decode cL_law 1406 = .ok (.ifCond .eq 5, 3) := by decide +kernel
theorem dL_law_1409 : decode cL_law 1409 = .ok (.iconst 0, 1) := by decide +kernel
theorem dL_law_1410 : decode cL_law 1410 = .ok (.ireturn, 1) := by decide +kernel
theorem dL_law_1411 : decode cL_law 1411 = .ok (.goto 70, 3) := by decide +kernel
theorem dL_law_1414 : decode cL_law 1414 = .ok (.aload_n 1, 1) := by decide +kernel
theorem dL_law_1415 : decode cL_law 1415 = .ok (.aload_n 0, 1) := by decide +kernel
theorem dL_law_1416 : decode cL_law 1416 = .ok (.iload 4, 2) := by decide +kernel
theorem dL_law_1418 : decode cL_law 1418 = .ok (.iconst 1, 1) := by decide +kernel
theorem dL_law_1419 : decode cL_law 1419 = .ok (.iadd, 1) := by decide +kernel
theorem dL_law_1420 : decode cL_law 1420 = .ok (.iaload, 1) := by decide +kernel
theorem dL_law_1421 : decode cL_law 1421 = .ok (.aload_n 0, 1) := by decide +kernel
theorem dL_law_1422 : decode cL_law 1422 = .ok (.iload 4, 2) := by decide +kernel
theorem dL_law_1424 : decode cL_law 1424 = .ok (.iconst 2, 1) := by decide +kernel
theorem dL_law_1425 : decode cL_law 1425 = .ok (.iadd, 1) := by decide +kernel
theorem dL_law_1426 : decode cL_law 1426 = .ok (.iaload, 1) := by decide +kernel
theorem dL_law_1427 : decode cL_law 1427 = .ok (.aload_n 3, 1) := by decide +kernel
theorem dL_law_1428 : decode cL_law 1428 = .ok (.invokestatic 174, 3) := by decide +kernel
theorem dL_law_1431 : decode cL_law 1431 = .ok (.istore 5, 2) := by decide +kernel
theorem dL_law_1433 : decode cL_law 1433 = .ok (.aload_n 2, 1) := by decide +kernel
theorem dL_law_1434 : decode cL_law 1434 = .ok (.aload_n 0, 1) := by decide +kernel
theorem dL_law_1435 : decode cL_law 1435 = .ok (.iload 4, 2) := by decide +kernel
theorem dL_law_1437 : decode cL_law 1437 = .ok (.iconst 1, 1) := by decide +kernel
theorem dL_law_1438 : decode cL_law 1438 = .ok (.iadd, 1) := by decide +kernel
theorem dL_law_1439 : decode cL_law 1439 = .ok (.iaload, 1) := by decide +kernel
theorem dL_law_1440 : decode cL_law 1440 = .ok (.aload_n 0, 1) := by decide +kernel
theorem dL_law_1441 : decode cL_law 1441 = .ok (.iload 4, 2) := by decide +kernel
theorem dL_law_1443 : decode cL_law 1443 = .ok (.iconst 2, 1) := by decide +kernel
theorem dL_law_1444 : decode cL_law 1444 = .ok (.iadd, 1) := by decide +kernel
theorem dL_law_1445 : decode cL_law 1445 = .ok (.iaload, 1) := by decide +kernel
theorem dL_law_1446 : decode cL_law 1446 = .ok (.invokevirtual 176, 3) := by decide +kernel
theorem dL_law_1449 : decode cL_law 1449 = .ok (.lstore 6, 2) := by decide +kernel
theorem dL_law_1451 : decode cL_law 1451 = .ok (.aload_n 2, 1) := by decide +kernel
theorem dL_law_1452 : decode cL_law 1452 = .ok (.invokevirtual 101, 3) := by decide +kernel
theorem dL_law_1455 : decode cL_law 1455 = .ok (.iload 5, 2) := by decide +kernel
theorem dL_law_1457 : decode cL_law 1457 = .ok (.if_icmp .eq 5, 3) := by decide +kernel
theorem dL_law_1460 : decode cL_law 1460 = .ok (.iconst 0, 1) := by decide +kernel
theorem dL_law_1461 : decode cL_law 1461 = .ok (.ireturn, 1) := by decide +kernel
theorem dL_law_1462 : decode cL_law 1462 = .ok (.iload 5, 2) := by decide +kernel
theorem dL_law_1464 : decode cL_law 1464 = .ok (.ifCond .ne 14, 3) := by decide +kernel
theorem dL_law_1467 : decode cL_law 1467 = .ok (.aload_n 3, 1) := by decide +kernel
theorem dL_law_1468 : decode cL_law 1468 = .ok (.iconst 0, 1) := by decide +kernel
theorem dL_law_1469 : decode cL_law 1469 = .ok (.laload, 1) := by decide +kernel
theorem dL_law_1470 : decode cL_law 1470 = .ok (.lload 6, 2) := by decide +kernel
theorem dL_law_1472 : decode cL_law 1472 = .ok (.lcmp, 1) := by decide +kernel
theorem dL_law_1473 : decode cL_law 1473 = .ok (.ifCond .eq 5, 3) := by decide +kernel
theorem dL_law_1476 : decode cL_law 1476 = .ok (.iconst 0, 1) := by decide +kernel
theorem dL_law_1477 : decode cL_law 1477 = .ok (.ireturn, 1) := by decide +kernel
theorem dL_law_1478 : decode cL_law 1478 = .ok (.goto 3, 3) := by decide +kernel
theorem dL_law_1481 : decode cL_law 1481 = .ok (.iinc 4 5, 3) := by decide +kernel
theorem dL_law_1484 : decode cL_law 1484 = .ok (.goto (-1461), 3) := by decide +kernel
theorem dL_law_1487 : decode cL_law 1487 = .ok (.iconst 1, 1) := by decide +kernel
theorem dL_law_1488 : decode cL_law 1488 = .ok (.ireturn, 1) := by decide +kernel
end
section
section BASE
/-- the tables' words that a call may carry along -/
def BIG : List Cond := lw_tbl.filter goodWord
theorem big_t {w : Cond} (i : Nat) (h : tables_1[i]? = some w) (g : goodWord w = true) : w ∈ BIG := List.mem_filter.mpr ⟨List.mem_append_right _ (List.mem_of_getElem? h), g⟩
theorem big_s {w : Cond} (i : Nat) (h : (k2_sels lw_privs)[i]? = some w) (g : goodWord w = true) : w ∈ BIG := List.mem_filter.mpr ⟨List.mem_append_left _ (List.mem_of_getElem? h), g⟩
def wsy (y : MethodName) (cc : ByteArray) (n : Nat) (ret : Option FieldType) : List Cond := Cond.code y cc n ret :: BIG
theorem big_good {w : Cond} (h : w ∈ BIG) : w ∈ BIG ∧ ((w.onTables && w.keeps) = true ∨ ∃ ty, w = .arrayClass ty) := ⟨h, good_of_word (List.mem_filter.mp h).2⟩
theorem good_V {own CN : String} {ix n : Nat} {y : MethodName} {cc : ByteArray} {ret : Option FieldType} (k1 : Cond.methodLink own ix y ∈ BIG) (k2 : Cond.instanceMethod y ∈ BIG) (k3 : Cond.selects CN y y ∈ BIG) (k4 : Cond.initialized CN ∈ BIG) (k5 : Cond.code y cc n ret ∈ BIG) : GoodIn BIG (wsV own ix CN y (wsy y cc n ret)) := by
  intro w hw
  simp only [wsV, wsy, List.cons_append, List.nil_append, List.mem_cons] at hw
  rcases hw with rfl | rfl | rfl | rfl | rfl | hw
  · exact big_good k1
  · exact big_good k2
  · exact big_good k3
  · exact big_good k4
  · exact big_good k5
  · exact big_good hw
theorem good_S {own : String} {ix n : Nat} {y : MethodName} {cc : ByteArray} {ret : Option FieldType} (k1 : Cond.methodLink own ix y ∈ BIG) (k2 : Cond.static y ∈ BIG) (k4 : Cond.initialized y.cls ∈ BIG) (k5 : Cond.code y cc n ret ∈ BIG) : GoodIn BIG (va_wsS own ix y (wsy y cc n ret)) := by
  intro w hw
  simp only [va_wsS, wsy, List.cons_append, List.nil_append, List.mem_cons] at hw
  rcases hw with rfl | rfl | rfl | rfl | hw
  · exact big_good k1
  · exact big_good k2
  · exact big_good k4
  · exact big_good k5
  · exact big_good hw
/-- a cell: an array (its sort 0 int, 1 long, 2 boolean, 3 Shape, 4 Word; its length and contents), or an object (its class among vwCl, its fields) -/
abbrev Cl : Type := (Nat × vp_A) ⊕ (Nat × List Value)
abbrev Mem : Type := Nat → Cl
def jk : Cl := .inr (99, [])
def toE (cy : Nat → ClassId) (c : Cl) : va_E := match c with
  | .inl a => .inl (cy a.1, a.2)
  | .inr o => .inr o
abbrev ty5 (cy : Nat → ClassId) : List (ClassId × FieldType) := [(cy 0, .int), (cy 1, .long), (cy 2, .boolean), (cy 3, .object RX4), (cy 4, .object RX8)]
abbrev pw (cy : Nat → ClassId) (L : List Nat) (F : Mem) : va_W := ([] : va_W) ++ va_pl L (fun a => toE cy (F a))
def wo (D : va_G) (cy : Nat → ClassId) (A : Nat → Prop) (H0 : Heap) (L : List Nat) (F : Mem) (H : Heap) (locs : List Loc) : Prop :=
  (∀ a, a ∉ L → F a = jk) ∧ va_P D vwCl (pw cy L F) H ∧ va_D A (pw cy L F) ∧ va_S A H0 H locs
/-- the surroundings of a body that runs -/
abbrev Cx : Type := Program × Launch × Env × Room × State × MethodId × Array Value × List Frame × Method × Code × (State → Prop) × va_G × (Nat → ClassId) × (Nat → Prop) × Nat
def Wp (C : Cx) (cs sl pc : Nat) (lv : List (Nat × Value)) (st : List Value) (F : Mem) : Prop := match C with
  | (p, l, e, R, s, m, args, below, meth, c, Q, D, cy, A, nL) => ∀ (L : List Nat) (H : Heap) (locs : List Loc) (ls : Array Slot), wo D cy A s.heap L F H locs → lv_has ls nL lv → W p l e R s m args below meth c H locs cs sl Q (F0 m pc ls st)
def Fx (C : Cx) (cc : ByteArray) (own : String) (rt : Option FieldType) (R0 : Room) (n0 : Nat) : Prop := match C with
  | (p, l, e, R, s, m, args, below, meth, c, Q, D, cy, A, nL) => p.tables.exec = Jvm.exec ∧ c.code = cc ∧ c.maxLocals = nL ∧ s.vm.findClass own = some m.cls ∧ (∀ w ∈ BIG, w.before args s = true) ∧ va_K D vwCl (ty5 cy) s ∧ (∀ q, s.heap.size ≤ q → A q) ∧ meth.sig.returnType = rt ∧ meth.locks = false ∧ R = R0 ∧ nL = n0
theorem wo_mem {D : va_G} {cy : Nat → ClassId} {A : Nat → Prop} {H0 H : Heap} {L : List Nat} {F : Mem} {locs : List Loc} (hw : wo D cy A H0 L F H locs) {a : Nat} (h : F a ≠ jk) : a ∈ L := by
  by_cases h1 : a ∈ L
  · exact h1
  · exact absurd (hw.1 a h1) h
theorem toE_up (cy : Nat → ClassId) (F : Mem) (a : Nat) (c : Cl) : va_up (fun b => toE cy (F b)) a (toE cy c) = fun b => toE cy (va_up F a c b) := by
  funext b
  by_cases h : b = a
  · simp [va_up, h]
  · simp [va_up, h]
theorem wo_set {D : va_G} {cy : Nat → ClassId} {A : Nat → Prop} {H0 H1 : Heap} {L : List Nat} {F : Mem} {locs1 : List Loc} {a k : Nat} {c : Cl} (h0 : ∀ b, b ∉ L → F b = jk) (hDo : va_D A (pw cy L F)) (ha : a ∈ L) (hk : (pw cy L F)[k]? = some (a, toE cy (F a)))
    (hP : va_P D vwCl ((pw cy L F).set k (a, toE cy c)) H1) (hD : va_D A ((pw cy L F).set k (a, toE cy c))) (hS : va_S A H0 H1 locs1) : wo D cy A H0 L (va_up F a c) H1 locs1 := by
  have e : (pw cy L F).set k (a, toE cy c) = pw cy L (va_up F a c) := by
    have := va_pl_set (X := ([] : va_W)) (f := fun b => toE cy (F b)) (e := toE cy c) hDo ha hk
    rw [toE_up] at this
    exact this
  rw [e] at hP hD
  refine ⟨fun b hb => ?_, hP, hD, hS⟩
  have : b ≠ a := fun q => hb (q ▸ ha)
  rw [va_up_ne _ _ this]
  exact h0 b hb
theorem wo_free {D : va_G} {cy : Nat → ClassId} {A : Nat → Prop} {H0 H : Heap} {L : List Nat} {F : Mem} {locs : List Loc} (hw : wo D cy A H0 L F H locs) (hA : ∀ q, H0.size ≤ q → A q) : ∀ q, va_A (pw cy L F) H.size q → A q := by
  intro q h
  rcases h with ⟨k, e, h⟩ | h
  · exact hw.2.2.1.2 k _ h
  · exact hA q (Nat.le_trans hw.2.2.2.1 h)
/-! reads and writes of the memory -/
def inb (i : Int32) (n : Nat) : Bool := decide (¬ i < 0) && decide (i.toNatClampNeg < n)
theorem inb_vp {i : Int32} {n : Nat} (h : inb i n = true) : vp_in i n := by
  simp only [inb, Bool.and_eq_true, decide_eq_true_eq] at h
  intro q
  rcases q with q | q
  · exact h.1 q
  · omega
def obj (F : Mem) (a ci : Nat) : Option (List Value) := match F a with
  | .inr (c, fs) => if c = ci then some fs else none
  | _ => none
theorem obj_eq {F : Mem} {a ci : Nat} {fs : List Value} (h : obj F a ci = some fs) : F a = .inr (ci, fs) := by
  unfold obj at h
  split at h
  · next c fs' e => split at h
                    · next q => cases h; rw [e, q]
                    · cases h
  · cases h
theorem obj_of {F : Mem} {a ci : Nat} {fs : List Value} (h : F a = .inr (ci, fs)) : obj F a ci = some fs := by simp [obj, h]
def gfI (F : Mem) (a ci k : Nat) : Option Int32 := (obj F a ci).bind fun fs => match fs[k]? with
  | some (.int v) => some v
  | _ => none
def gfJ (F : Mem) (a ci k : Nat) : Option Int64 := (obj F a ci).bind fun fs => match fs[k]? with
  | some (.long v) => some v
  | _ => none
def gfR (F : Mem) (a ci k : Nat) : Option Nat := (obj F a ci).bind fun fs => match fs[k]? with
  | some (.ref v) => some v
  | _ => none
def pf (F : Mem) (a ci k : Nat) (v : Value) : Option Mem := (obj F a ci).bind fun fs => if k < fs.length then some (va_up F a (.inr (ci, fs.set k v))) else none
def arI (F : Mem) (t a : Nat) : Option (Nat × (Nat → Int32)) := match F a with
  | .inl (t', n, .inl f) => if t' = t then some (n, f) else none
  | _ => none
def arJ (F : Mem) (a : Nat) : Option (Nat × (Nat → Int64)) := match F a with
  | .inl (t', n, .inr (.inl f)) => if t' = 1 then some (n, f) else none
  | _ => none
def arQ (F : Mem) (t a : Nat) : Option (Nat × (Nat → Option Nat)) := match F a with
  | .inl (t', n, .inr (.inr (.inr (.inr f)))) => if t' = t then some (n, f) else none
  | _ => none
theorem arI_eq {F : Mem} {t a n : Nat} {f : Nat → Int32} (h : arI F t a = some (n, f)) : F a = .inl (t, n, .inl f) := by
  unfold arI at h
  split at h
  · next e => split at h
              · next q => cases h; rw [e, q]
              · cases h
  · cases h
theorem arJ_eq {F : Mem} {a n : Nat} {f : Nat → Int64} (h : arJ F a = some (n, f)) : F a = .inl (1, n, .inr (.inl f)) := by
  unfold arJ at h
  split at h
  · next e => split at h
              · next q => cases h; rw [e, q]
              · cases h
  · cases h
theorem arQ_eq {F : Mem} {t a n : Nat} {f : Nat → Option Nat} (h : arQ F t a = some (n, f)) : F a = .inl (t, n, .inr (.inr (.inr (.inr f)))) := by
  unfold arQ at h
  split at h
  · next e => split at h
              · next q => cases h; rw [e, q]
              · cases h
  · cases h
theorem arI_of {F : Mem} {t a n : Nat} {f : Nat → Int32} (h : F a = .inl (t, n, .inl f)) : arI F t a = some (n, f) := by simp [arI, h]
theorem arJ_of {F : Mem} {a n : Nat} {f : Nat → Int64} (h : F a = .inl (1, n, .inr (.inl f))) : arJ F a = some (n, f) := by simp [arJ, h]
theorem arQ_of {F : Mem} {t a n : Nat} {f : Nat → Option Nat} (h : F a = .inl (t, n, .inr (.inr (.inr (.inr f))))) : arQ F t a = some (n, f) := by simp [arQ, h]
/-- an array's element (t: 0 int, 2 boolean) -/
def rdI (F : Mem) (t a : Nat) (i : Int32) : Option Int32 := (arI F t a).bind fun q => if inb i q.1 then some (q.2 i.toNatClampNeg) else none
def rdJ (F : Mem) (a : Nat) (i : Int32) : Option Int64 := (arJ F a).bind fun q => if inb i q.1 then some (q.2 i.toNatClampNeg) else none
def rdQ (F : Mem) (t a : Nat) (i : Int32) : Option Nat := (arQ F t a).bind fun q => if inb i q.1 then q.2 i.toNatClampNeg else none
def wrI (F : Mem) (a : Nat) (i x : Int32) : Option Mem := (arI F 0 a).bind fun q => if inb i q.1 then some (va_up F a (.inl (0, q.1, .inl (upd q.2 i.toNatClampNeg x)))) else none
def wrZ (F : Mem) (a : Nat) (i x : Int32) : Option Mem := (arI F 2 a).bind fun q => if inb i q.1 then some (va_up F a (.inl (2, q.1, .inl (upd q.2 i.toNatClampNeg (vp_nar .boolean x))))) else none
def wrJ (F : Mem) (a : Nat) (i : Int32) (x : Int64) : Option Mem := (arJ F a).bind fun q => if inb i q.1 then some (va_up F a (.inl (1, q.1, .inr (.inl (vp_updL q.2 i.toNatClampNeg x))))) else none
def alI (F : Mem) (t a : Nat) : Option Int32 := (arI F t a).bind fun q => some (Int32.ofNat q.1)
def cpI (F : Mem) (a : Nat) (sp : Int32) (b : Nat) (dp n : Int32) : Option Mem := (arI F 0 a).bind fun q => (arI F 0 b).bind fun r =>
  if decide (¬ sp < 0) && decide (¬ dp < 0) && decide (¬ n < 0) && decide (sp.toNatClampNeg + n.toNatClampNeg ≤ q.1) && decide (dp.toNatClampNeg + n.toNatClampNeg ≤ r.1) then some (va_up F b (.inl (0, r.1, .inl (va_cpy q.2 r.2 sp.toNatClampNeg dp.toNatClampNeg n.toNatClampNeg)))) else none
theorem bnd {α β : Type} {o : Option α} {f : α → Option β} {r : β} (h : o.bind f = some r) : ∃ v, o = some v ∧ f v = some r := by
  cases o with
  | none => cases h
  | some v => exact ⟨v, rfl, h⟩
theorem gfI_eq {F : Mem} {a ci k : Nat} {v : Int32} (h : gfI F a ci k = some v) : ∃ fs, F a = .inr (ci, fs) ∧ fs[k]? = some (.int v) := by
  obtain ⟨fs, h1, h2⟩ := bnd h
  refine ⟨fs, obj_eq h1, ?_⟩
  split at h2
  · next e => cases h2; exact e
  · cases h2
theorem gfJ_eq {F : Mem} {a ci k : Nat} {v : Int64} (h : gfJ F a ci k = some v) : ∃ fs, F a = .inr (ci, fs) ∧ fs[k]? = some (.long v) := by
  obtain ⟨fs, h1, h2⟩ := bnd h
  refine ⟨fs, obj_eq h1, ?_⟩
  split at h2
  · next e => cases h2; exact e
  · cases h2
theorem gfR_eq {F : Mem} {a ci k : Nat} {v : Nat} (h : gfR F a ci k = some v) : ∃ fs, F a = .inr (ci, fs) ∧ fs[k]? = some (.ref v) := by
  obtain ⟨fs, h1, h2⟩ := bnd h
  refine ⟨fs, obj_eq h1, ?_⟩
  split at h2
  · next e => cases h2; exact e
  · cases h2
theorem ne_jk_l {F : Mem} {a : Nat} {x : Nat × vp_A} (h : F a = .inl x) : F a ≠ jk := by rw [h]; intro q; cases q
theorem ne_jk_r {F : Mem} {a ci : Nat} {fs : List Value} (h : F a = .inr (ci, fs)) (hc : ci ≠ 99) : F a ≠ jk := by
  rw [h]
  intro q
  injection q with q
  injection q with q1 q2
  exact hc q1
def iush (x y : Int32) : Int32 := (x.toUInt32 >>> (y.toUInt32 &&& Int32.toUInt32 31)).toInt32
def lush (x : Int64) (y : Int32) : Int64 := (x.toUInt64 >>> (y.toInt64.toUInt64 &&& Int64.toUInt64 63)).toInt64
def idiv0 (x y : Int32) : Option Int32 := if y = 0 then none else some (x / y)
def irem0 (x y : Int32) : Option Int32 := if y = 0 then none else some (x - x / y * y)
def ldiv0 (x y : Int64) : Option Int64 := if y = 0 then none else some (x / y)
def lrem0 (x y : Int64) : Option Int64 := if y = 0 then none else some (x - x / y * y)
def bz (v : Int32) : Option Int32 := if v = 0 ∨ v = 1 then some v else none
theorem bz_eq {v u : Int32} (h : bz v = some u) : u = v ∧ narrow .boolean (.int v) = .int v := by
  unfold bz at h
  split at h
  · next q => cases h; refine ⟨rfl, ?_⟩; rcases q with q | q <;> subst q <;> rfl
  · cases h
end BASE
section ROWS
variable {C : Cx} {cc : ByteArray} {own : String} {rt : Option FieldType} {R0 : Room} {n0 cs sl pc : Nat} {lv : List (Nat × Value)} {st : List Value} {F : Mem}

theorem wp_iconst (X : Fx C cc own rt R0 n0) {n : Int} {v : Int32} (d : decode cc pc = .ok (.iconst n, 1)) (hv : Int32.ofInt n = v) (K : Wp C cs sl (pc + 1) lv (.int v :: st) F) : Wp C cs sl pc lv (st) F := by
  obtain ⟨p, l, e, R, s, m, args, below, meth, c, Q, D, cy, A, nL⟩ := C
  obtain ⟨hx, hb, hml, hown, hts, hK, hA, hr, hlk, hR, hn0⟩ := X
  intro L H locs ls hw hl
  exact lv_iconst hx hb d hv (K L H locs ls hw hl)
theorem wp_bipush (X : Fx C cc own rt R0 n0) {n : Int} {v : Int32} (d : decode cc pc = .ok (.bipush n, 2)) (hv : (Int8.ofInt n).toInt32 = v) (K : Wp C cs sl (pc + 2) lv (.int v :: st) F) : Wp C cs sl pc lv (st) F := by
  obtain ⟨p, l, e, R, s, m, args, below, meth, c, Q, D, cy, A, nL⟩ := C
  obtain ⟨hx, hb, hml, hown, hts, hK, hA, hr, hlk, hR, hn0⟩ := X
  intro L H locs ls hw hl
  exact lv_bipush hx hb d hv (K L H locs ls hw hl)
theorem wp_sipush (X : Fx C cc own rt R0 n0) {n : Int} {v : Int32} (d : decode cc pc = .ok (.sipush n, 3)) (hv : (Int16.ofInt n).toInt32 = v) (K : Wp C cs sl (pc + 3) lv (.int v :: st) F) : Wp C cs sl pc lv (st) F := by
  obtain ⟨p, l, e, R, s, m, args, below, meth, c, Q, D, cy, A, nL⟩ := C
  obtain ⟨hx, hb, hml, hown, hts, hK, hA, hr, hlk, hR, hn0⟩ := X
  intro L H locs ls hw hl
  exact lv_sipush hx hb d hv (K L H locs ls hw hl)
theorem wp_lconst (X : Fx C cc own rt R0 n0) {n : Fin 2} {v : Int64} (d : decode cc pc = .ok (.lconst n, 1)) (hv : Int64.ofNat (n : Nat) = v) (K : Wp C cs sl (pc + 1) lv (.long v :: st) F) : Wp C cs sl pc lv (st) F := by
  obtain ⟨p, l, e, R, s, m, args, below, meth, c, Q, D, cy, A, nL⟩ := C
  obtain ⟨hx, hb, hml, hown, hts, hK, hA, hr, hlk, hR, hn0⟩ := X
  intro L H locs ls hw hl
  exact lv_lconst hx hb d hv (K L H locs ls hw hl)
theorem wp_ldc (X : Fx C cc own rt R0 n0) {ix : Nat} {v : Int32} (d : decode cc pc = .ok (.ldc ix, 2)) (hc : Cond.constant own ix v ∈ BIG) (K : Wp C cs sl (pc + 2) lv (.int v :: st) F) : Wp C cs sl pc lv (st) F := by
  obtain ⟨p, l, e, R, s, m, args, below, meth, c, Q, D, cy, A, nL⟩ := C
  obtain ⟨hx, hb, hml, hown, hts, hK, hA, hr, hlk, hR, hn0⟩ := X
  intro L H locs ls hw hl
  exact lv_ldc hx hb hown (hts _ hc) d (K L H locs ls hw hl)
theorem wp_ldcw (X : Fx C cc own rt R0 n0) {ix : Nat} {v : Int32} (d : decode cc pc = .ok (.ldc_w ix, 3)) (hc : Cond.constant own ix v ∈ BIG) (K : Wp C cs sl (pc + 3) lv (.int v :: st) F) : Wp C cs sl pc lv (st) F := by
  obtain ⟨p, l, e, R, s, m, args, below, meth, c, Q, D, cy, A, nL⟩ := C
  obtain ⟨hx, hb, hml, hown, hts, hK, hA, hr, hlk, hR, hn0⟩ := X
  intro L H locs ls hw hl
  exact lv_ldcw hx hb hown (hts _ hc) d (K L H locs ls hw hl)
theorem wp_ldc2 (X : Fx C cc own rt R0 n0) {ix : Nat} {v : Int64} (d : decode cc pc = .ok (.ldc2_w ix, 3)) (hc : Cond.constantLong own ix v ∈ BIG) (K : Wp C cs sl (pc + 3) lv (.long v :: st) F) : Wp C cs sl pc lv (st) F := by
  obtain ⟨p, l, e, R, s, m, args, below, meth, c, Q, D, cy, A, nL⟩ := C
  obtain ⟨hx, hb, hml, hown, hts, hK, hA, hr, hlk, hR, hn0⟩ := X
  intro L H locs ls hw hl
  exact lv_ldc2 hx hb hown (hts _ hc) d (K L H locs ls hw hl)
theorem wp_iadd (X : Fx C cc own rt R0 n0) {x y : Int32} (d : decode cc pc = .ok (.iadd, 1))  (K : Wp C cs sl (pc + 1) lv (.int (x + y) :: st) F) : Wp C cs sl pc lv (.int y :: .int x :: st) F := by
  obtain ⟨p, l, e, R, s, m, args, below, meth, c, Q, D, cy, A, nL⟩ := C
  obtain ⟨hx, hb, hml, hown, hts, hK, hA, hr, hlk, hR, hn0⟩ := X
  intro L H locs ls hw hl
  exact lv_iadd hx hb d (K L H locs ls hw hl)
theorem wp_isub (X : Fx C cc own rt R0 n0) {x y : Int32} (d : decode cc pc = .ok (.isub, 1))  (K : Wp C cs sl (pc + 1) lv (.int (x - y) :: st) F) : Wp C cs sl pc lv (.int y :: .int x :: st) F := by
  obtain ⟨p, l, e, R, s, m, args, below, meth, c, Q, D, cy, A, nL⟩ := C
  obtain ⟨hx, hb, hml, hown, hts, hK, hA, hr, hlk, hR, hn0⟩ := X
  intro L H locs ls hw hl
  exact lv_isub hx hb d (K L H locs ls hw hl)
theorem wp_imul (X : Fx C cc own rt R0 n0) {x y : Int32} (d : decode cc pc = .ok (.imul, 1))  (K : Wp C cs sl (pc + 1) lv (.int (x * y) :: st) F) : Wp C cs sl pc lv (.int y :: .int x :: st) F := by
  obtain ⟨p, l, e, R, s, m, args, below, meth, c, Q, D, cy, A, nL⟩ := C
  obtain ⟨hx, hb, hml, hown, hts, hK, hA, hr, hlk, hR, hn0⟩ := X
  intro L H locs ls hw hl
  exact lv_imul hx hb d (K L H locs ls hw hl)
theorem wp_iand (X : Fx C cc own rt R0 n0) {x y : Int32} (d : decode cc pc = .ok (.iand, 1))  (K : Wp C cs sl (pc + 1) lv (.int (x &&& y) :: st) F) : Wp C cs sl pc lv (.int y :: .int x :: st) F := by
  obtain ⟨p, l, e, R, s, m, args, below, meth, c, Q, D, cy, A, nL⟩ := C
  obtain ⟨hx, hb, hml, hown, hts, hK, hA, hr, hlk, hR, hn0⟩ := X
  intro L H locs ls hw hl
  exact lv_iand hx hb d (K L H locs ls hw hl)
theorem wp_ior (X : Fx C cc own rt R0 n0) {x y : Int32} (d : decode cc pc = .ok (.ior, 1))  (K : Wp C cs sl (pc + 1) lv (.int (x ||| y) :: st) F) : Wp C cs sl pc lv (.int y :: .int x :: st) F := by
  obtain ⟨p, l, e, R, s, m, args, below, meth, c, Q, D, cy, A, nL⟩ := C
  obtain ⟨hx, hb, hml, hown, hts, hK, hA, hr, hlk, hR, hn0⟩ := X
  intro L H locs ls hw hl
  exact lv_ior hx hb d (K L H locs ls hw hl)
theorem wp_ixor (X : Fx C cc own rt R0 n0) {x y : Int32} (d : decode cc pc = .ok (.ixor, 1))  (K : Wp C cs sl (pc + 1) lv (.int (x ^^^ y) :: st) F) : Wp C cs sl pc lv (.int y :: .int x :: st) F := by
  obtain ⟨p, l, e, R, s, m, args, below, meth, c, Q, D, cy, A, nL⟩ := C
  obtain ⟨hx, hb, hml, hown, hts, hK, hA, hr, hlk, hR, hn0⟩ := X
  intro L H locs ls hw hl
  exact lv_ixor hx hb d (K L H locs ls hw hl)
theorem wp_ladd (X : Fx C cc own rt R0 n0) {x y : Int64} (d : decode cc pc = .ok (.ladd, 1))  (K : Wp C cs sl (pc + 1) lv (.long (x + y) :: st) F) : Wp C cs sl pc lv (.long y :: .long x :: st) F := by
  obtain ⟨p, l, e, R, s, m, args, below, meth, c, Q, D, cy, A, nL⟩ := C
  obtain ⟨hx, hb, hml, hown, hts, hK, hA, hr, hlk, hR, hn0⟩ := X
  intro L H locs ls hw hl
  exact lv_ladd hx hb d (K L H locs ls hw hl)
theorem wp_lsub (X : Fx C cc own rt R0 n0) {x y : Int64} (d : decode cc pc = .ok (.lsub, 1))  (K : Wp C cs sl (pc + 1) lv (.long (x - y) :: st) F) : Wp C cs sl pc lv (.long y :: .long x :: st) F := by
  obtain ⟨p, l, e, R, s, m, args, below, meth, c, Q, D, cy, A, nL⟩ := C
  obtain ⟨hx, hb, hml, hown, hts, hK, hA, hr, hlk, hR, hn0⟩ := X
  intro L H locs ls hw hl
  exact lv_lsub hx hb d (K L H locs ls hw hl)
theorem wp_lmul (X : Fx C cc own rt R0 n0) {x y : Int64} (d : decode cc pc = .ok (.lmul, 1))  (K : Wp C cs sl (pc + 1) lv (.long (x * y) :: st) F) : Wp C cs sl pc lv (.long y :: .long x :: st) F := by
  obtain ⟨p, l, e, R, s, m, args, below, meth, c, Q, D, cy, A, nL⟩ := C
  obtain ⟨hx, hb, hml, hown, hts, hK, hA, hr, hlk, hR, hn0⟩ := X
  intro L H locs ls hw hl
  exact lv_lmul hx hb d (K L H locs ls hw hl)
theorem wp_land (X : Fx C cc own rt R0 n0) {x y : Int64} (d : decode cc pc = .ok (.land, 1))  (K : Wp C cs sl (pc + 1) lv (.long (x &&& y) :: st) F) : Wp C cs sl pc lv (.long y :: .long x :: st) F := by
  obtain ⟨p, l, e, R, s, m, args, below, meth, c, Q, D, cy, A, nL⟩ := C
  obtain ⟨hx, hb, hml, hown, hts, hK, hA, hr, hlk, hR, hn0⟩ := X
  intro L H locs ls hw hl
  exact lv_land hx hb d (K L H locs ls hw hl)
theorem wp_lor (X : Fx C cc own rt R0 n0) {x y : Int64} (d : decode cc pc = .ok (.lor, 1))  (K : Wp C cs sl (pc + 1) lv (.long (x ||| y) :: st) F) : Wp C cs sl pc lv (.long y :: .long x :: st) F := by
  obtain ⟨p, l, e, R, s, m, args, below, meth, c, Q, D, cy, A, nL⟩ := C
  obtain ⟨hx, hb, hml, hown, hts, hK, hA, hr, hlk, hR, hn0⟩ := X
  intro L H locs ls hw hl
  exact lv_lor hx hb d (K L H locs ls hw hl)
theorem wp_lxor (X : Fx C cc own rt R0 n0) {x y : Int64} (d : decode cc pc = .ok (.lxor, 1))  (K : Wp C cs sl (pc + 1) lv (.long (x ^^^ y) :: st) F) : Wp C cs sl pc lv (.long y :: .long x :: st) F := by
  obtain ⟨p, l, e, R, s, m, args, below, meth, c, Q, D, cy, A, nL⟩ := C
  obtain ⟨hx, hb, hml, hown, hts, hK, hA, hr, hlk, hR, hn0⟩ := X
  intro L H locs ls hw hl
  exact lv_lxor hx hb d (K L H locs ls hw hl)
theorem wp_ineg (X : Fx C cc own rt R0 n0) {x : Int32} (d : decode cc pc = .ok (.ineg, 1))  (K : Wp C cs sl (pc + 1) lv (.int (-x) :: st) F) : Wp C cs sl pc lv (.int x :: st) F := by
  obtain ⟨p, l, e, R, s, m, args, below, meth, c, Q, D, cy, A, nL⟩ := C
  obtain ⟨hx, hb, hml, hown, hts, hK, hA, hr, hlk, hR, hn0⟩ := X
  intro L H locs ls hw hl
  exact lv_ineg hx hb d (K L H locs ls hw hl)
theorem wp_lneg (X : Fx C cc own rt R0 n0) {x : Int64} (d : decode cc pc = .ok (.lneg, 1))  (K : Wp C cs sl (pc + 1) lv (.long (-x) :: st) F) : Wp C cs sl pc lv (.long x :: st) F := by
  obtain ⟨p, l, e, R, s, m, args, below, meth, c, Q, D, cy, A, nL⟩ := C
  obtain ⟨hx, hb, hml, hown, hts, hK, hA, hr, hlk, hR, hn0⟩ := X
  intro L H locs ls hw hl
  exact lv_lneg hx hb d (K L H locs ls hw hl)
theorem wp_ishl (X : Fx C cc own rt R0 n0) {x y : Int32} (d : decode cc pc = .ok (.ishl, 1))  (K : Wp C cs sl (pc + 1) lv (.int (x <<< (y &&& 31)) :: st) F) : Wp C cs sl pc lv (.int y :: .int x :: st) F := by
  obtain ⟨p, l, e, R, s, m, args, below, meth, c, Q, D, cy, A, nL⟩ := C
  obtain ⟨hx, hb, hml, hown, hts, hK, hA, hr, hlk, hR, hn0⟩ := X
  intro L H locs ls hw hl
  exact lv_ishl hx hb d (K L H locs ls hw hl)
theorem wp_ishr (X : Fx C cc own rt R0 n0) {x y : Int32} (d : decode cc pc = .ok (.ishr, 1))  (K : Wp C cs sl (pc + 1) lv (.int (x >>> (y &&& 31)) :: st) F) : Wp C cs sl pc lv (.int y :: .int x :: st) F := by
  obtain ⟨p, l, e, R, s, m, args, below, meth, c, Q, D, cy, A, nL⟩ := C
  obtain ⟨hx, hb, hml, hown, hts, hK, hA, hr, hlk, hR, hn0⟩ := X
  intro L H locs ls hw hl
  exact lv_ishr hx hb d (K L H locs ls hw hl)
theorem wp_iushr (X : Fx C cc own rt R0 n0) {x y : Int32} (d : decode cc pc = .ok (.iushr, 1))  (K : Wp C cs sl (pc + 1) lv (.int (iush x y) :: st) F) : Wp C cs sl pc lv (.int y :: .int x :: st) F := by
  obtain ⟨p, l, e, R, s, m, args, below, meth, c, Q, D, cy, A, nL⟩ := C
  obtain ⟨hx, hb, hml, hown, hts, hK, hA, hr, hlk, hR, hn0⟩ := X
  intro L H locs ls hw hl
  exact lv_iushr hx hb d rfl (K L H locs ls hw hl)
theorem wp_lushr (X : Fx C cc own rt R0 n0) {x : Int64} {y : Int32} (d : decode cc pc = .ok (.lushr, 1))  (K : Wp C cs sl (pc + 1) lv (.long (lush x y) :: st) F) : Wp C cs sl pc lv (.int y :: .long x :: st) F := by
  obtain ⟨p, l, e, R, s, m, args, below, meth, c, Q, D, cy, A, nL⟩ := C
  obtain ⟨hx, hb, hml, hown, hts, hK, hA, hr, hlk, hR, hn0⟩ := X
  intro L H locs ls hw hl
  exact lv_lushr hx hb d rfl (K L H locs ls hw hl)
theorem wp_lshl (X : Fx C cc own rt R0 n0) {x : Int64} {y : Int32} (d : decode cc pc = .ok (.lshl, 1))  (K : Wp C cs sl (pc + 1) lv (.long (x <<< (y.toInt64 &&& 63)) :: st) F) : Wp C cs sl pc lv (.int y :: .long x :: st) F := by
  obtain ⟨p, l, e, R, s, m, args, below, meth, c, Q, D, cy, A, nL⟩ := C
  obtain ⟨hx, hb, hml, hown, hts, hK, hA, hr, hlk, hR, hn0⟩ := X
  intro L H locs ls hw hl
  exact lv_lshl hx hb d rfl (K L H locs ls hw hl)
theorem wp_lshr (X : Fx C cc own rt R0 n0) {x : Int64} {y : Int32} (d : decode cc pc = .ok (.lshr, 1))  (K : Wp C cs sl (pc + 1) lv (.long (x >>> (y.toInt64 &&& 63)) :: st) F) : Wp C cs sl pc lv (.int y :: .long x :: st) F := by
  obtain ⟨p, l, e, R, s, m, args, below, meth, c, Q, D, cy, A, nL⟩ := C
  obtain ⟨hx, hb, hml, hown, hts, hK, hA, hr, hlk, hR, hn0⟩ := X
  intro L H locs ls hw hl
  exact lv_lshr hx hb d rfl (K L H locs ls hw hl)
theorem wp_i2l (X : Fx C cc own rt R0 n0) {x : Int32} (d : decode cc pc = .ok (.i2l, 1))  (K : Wp C cs sl (pc + 1) lv (.long x.toInt64 :: st) F) : Wp C cs sl pc lv (.int x :: st) F := by
  obtain ⟨p, l, e, R, s, m, args, below, meth, c, Q, D, cy, A, nL⟩ := C
  obtain ⟨hx, hb, hml, hown, hts, hK, hA, hr, hlk, hR, hn0⟩ := X
  intro L H locs ls hw hl
  exact lv_i2l hx hb d rfl (K L H locs ls hw hl)
theorem wp_l2i (X : Fx C cc own rt R0 n0) {x : Int64} (d : decode cc pc = .ok (.l2i, 1))  (K : Wp C cs sl (pc + 1) lv (.int x.toInt32 :: st) F) : Wp C cs sl pc lv (.long x :: st) F := by
  obtain ⟨p, l, e, R, s, m, args, below, meth, c, Q, D, cy, A, nL⟩ := C
  obtain ⟨hx, hb, hml, hown, hts, hK, hA, hr, hlk, hR, hn0⟩ := X
  intro L H locs ls hw hl
  exact lv_l2i hx hb d rfl (K L H locs ls hw hl)
theorem wp_lcmp (X : Fx C cc own rt R0 n0) {x y : Int64} (d : decode cc pc = .ok (.lcmp, 1))  (K : Wp C cs sl (pc + 1) lv (.int (lg_cmp x y) :: st) F) : Wp C cs sl pc lv (.long y :: .long x :: st) F := by
  obtain ⟨p, l, e, R, s, m, args, below, meth, c, Q, D, cy, A, nL⟩ := C
  obtain ⟨hx, hb, hml, hown, hts, hK, hA, hr, hlk, hR, hn0⟩ := X
  intro L H locs ls hw hl
  exact W.lcmp hx hb d (K L H locs ls hw hl)
theorem wp_dup (X : Fx C cc own rt R0 n0) {va : Value} (d : decode cc pc = .ok (.dup, 1)) (hv : va.category = 1) (K : Wp C cs sl (pc + 1) lv (va :: va :: st) F) : Wp C cs sl pc lv (va :: st) F := by
  obtain ⟨p, l, e, R, s, m, args, below, meth, c, Q, D, cy, A, nL⟩ := C
  obtain ⟨hx, hb, hml, hown, hts, hK, hA, hr, hlk, hR, hn0⟩ := X
  intro L H locs ls hw hl
  exact lv_dup hx hb d hv (K L H locs ls hw hl)
theorem wp_pop (X : Fx C cc own rt R0 n0) {va : Value} (d : decode cc pc = .ok (.pop, 1)) (hv : va.category = 1) (K : Wp C cs sl (pc + 1) lv (st) F) : Wp C cs sl pc lv (va :: st) F := by
  obtain ⟨p, l, e, R, s, m, args, below, meth, c, Q, D, cy, A, nL⟩ := C
  obtain ⟨hx, hb, hml, hown, hts, hK, hA, hr, hlk, hR, hn0⟩ := X
  intro L H locs ls hw hl
  exact lv_pop hx hb d hv (K L H locs ls hw hl)
theorem wp_dup2 (X : Fx C cc own rt R0 n0) {va vb : Value} (d : decode cc pc = .ok (.dup2, 1)) (hv : va.category = 1) (hw2 : vb.category = 1) (K : Wp C cs sl (pc + 1) lv (va :: vb :: va :: vb :: st) F) : Wp C cs sl pc lv (va :: vb :: st) F := by
  obtain ⟨p, l, e, R, s, m, args, below, meth, c, Q, D, cy, A, nL⟩ := C
  obtain ⟨hx, hb, hml, hown, hts, hK, hA, hr, hlk, hR, hn0⟩ := X
  intro L H locs ls hw hl
  exact lv_dup2_11 hx hb d hv hw2 (K L H locs ls hw hl)
theorem wp_iload_n (X : Fx C cc own rt R0 n0) {kk : Fin 4} {x : Int32} (d : decode cc pc = .ok (.iload_n kk, 1)) (k : Nat) (hk : lv[k]? = some ((kk : Nat), .int x)) (K : Wp C cs sl (pc + 1) lv (.int x :: st) F) : Wp C cs sl pc lv st F := by
  obtain ⟨p, l, e, R, s, m, args, below, meth, c, Q, D, cy, A, nL⟩ := C
  obtain ⟨hx, hb, hml, hown, hts, hK, hA, hr, hlk, hR, hn0⟩ := X
  intro L H locs ls hw hl
  exact lv_iload_n hx hb d rfl (lv_at hl k hk) (K L H locs ls hw hl)
theorem wp_iload (X : Fx C cc own rt R0 n0) {i : Nat} {x : Int32} (d : decode cc pc = .ok (.iload i, 2)) (k : Nat) (hk : lv[k]? = some (i, .int x)) (K : Wp C cs sl (pc + 2) lv (.int x :: st) F) : Wp C cs sl pc lv st F := by
  obtain ⟨p, l, e, R, s, m, args, below, meth, c, Q, D, cy, A, nL⟩ := C
  obtain ⟨hx, hb, hml, hown, hts, hK, hA, hr, hlk, hR, hn0⟩ := X
  intro L H locs ls hw hl
  exact lv_iload hx hb d (lv_at hl k hk) (K L H locs ls hw hl)
theorem wp_lload_n (X : Fx C cc own rt R0 n0) {kk : Fin 4} {x : Int64} (d : decode cc pc = .ok (.lload_n kk, 1)) (k : Nat) (hk : lv[k]? = some ((kk : Nat), .long x)) (K : Wp C cs sl (pc + 1) lv (.long x :: st) F) : Wp C cs sl pc lv st F := by
  obtain ⟨p, l, e, R, s, m, args, below, meth, c, Q, D, cy, A, nL⟩ := C
  obtain ⟨hx, hb, hml, hown, hts, hK, hA, hr, hlk, hR, hn0⟩ := X
  intro L H locs ls hw hl
  exact lv_lload_n hx hb d rfl (lv_at hl k hk) (K L H locs ls hw hl)
theorem wp_lload (X : Fx C cc own rt R0 n0) {i : Nat} {x : Int64} (d : decode cc pc = .ok (.lload i, 2)) (k : Nat) (hk : lv[k]? = some (i, .long x)) (K : Wp C cs sl (pc + 2) lv (.long x :: st) F) : Wp C cs sl pc lv st F := by
  obtain ⟨p, l, e, R, s, m, args, below, meth, c, Q, D, cy, A, nL⟩ := C
  obtain ⟨hx, hb, hml, hown, hts, hK, hA, hr, hlk, hR, hn0⟩ := X
  intro L H locs ls hw hl
  exact lv_lload hx hb d (lv_at hl k hk) (K L H locs ls hw hl)
theorem wp_aload_n (X : Fx C cc own rt R0 n0) {kk : Fin 4} {x : Nat} (d : decode cc pc = .ok (.aload_n kk, 1)) (k : Nat) (hk : lv[k]? = some ((kk : Nat), .ref x)) (K : Wp C cs sl (pc + 1) lv (.ref x :: st) F) : Wp C cs sl pc lv st F := by
  obtain ⟨p, l, e, R, s, m, args, below, meth, c, Q, D, cy, A, nL⟩ := C
  obtain ⟨hx, hb, hml, hown, hts, hK, hA, hr, hlk, hR, hn0⟩ := X
  intro L H locs ls hw hl
  exact lv_aload_n hx hb d rfl (lv_at hl k hk) (K L H locs ls hw hl)
theorem wp_aload (X : Fx C cc own rt R0 n0) {i : Nat} {x : Nat} (d : decode cc pc = .ok (.aload i, 2)) (k : Nat) (hk : lv[k]? = some (i, .ref x)) (K : Wp C cs sl (pc + 2) lv (.ref x :: st) F) : Wp C cs sl pc lv st F := by
  obtain ⟨p, l, e, R, s, m, args, below, meth, c, Q, D, cy, A, nL⟩ := C
  obtain ⟨hx, hb, hml, hown, hts, hK, hA, hr, hlk, hR, hn0⟩ := X
  intro L H locs ls hw hl
  exact lv_aload hx hb d (lv_at hl k hk) (K L H locs ls hw hl)
theorem wp_istore_n (X : Fx C cc own rt R0 n0) {kk : Fin 4} {x : Int32} {lv' : List (Nat × Value)} (d : decode cc pc = .ok (.istore_n kk, 1)) (hi : (kk : Nat) < n0) (ks : List Nat) (hl' : lv_pick (((kk : Nat), .int x) :: lv.filter (fun q => !(q.1 == (kk : Nat)) && !(q.1 + 1 == (kk : Nat) && q.2.category == 2))) ks = lv') (K : Wp C cs sl (pc + 1) lv' st F) : Wp C cs sl pc lv (.int x :: st) F := by
  obtain ⟨p, l, e, R, s, m, args, below, meth, c, Q, D, cy, A, nL⟩ := C
  obtain ⟨hx, hb, hml, hown, hts, hK, hA, hr, hlk, hR, hn0⟩ := X
  intro L H locs ls hw hl
  subst hn0
  exact lv_istore_n hx hb d rfl hl hi rfl (fun ls' hl2 => K L H locs ls' hw (lv_sub hl2 ks hl'))
theorem wp_istore (X : Fx C cc own rt R0 n0) {i : Nat} {x : Int32} {lv' : List (Nat × Value)} (d : decode cc pc = .ok (.istore i, 2)) (hi : i < n0) (ks : List Nat) (hl' : lv_pick ((i, .int x) :: lv.filter (fun q => !(q.1 == i) && !(q.1 + 1 == i && q.2.category == 2))) ks = lv') (K : Wp C cs sl (pc + 2) lv' st F) : Wp C cs sl pc lv (.int x :: st) F := by
  obtain ⟨p, l, e, R, s, m, args, below, meth, c, Q, D, cy, A, nL⟩ := C
  obtain ⟨hx, hb, hml, hown, hts, hK, hA, hr, hlk, hR, hn0⟩ := X
  intro L H locs ls hw hl
  subst hn0
  exact lv_istore hx hb d hl hi rfl (fun ls' hl2 => K L H locs ls' hw (lv_sub hl2 ks hl'))
theorem wp_lstore_n (X : Fx C cc own rt R0 n0) {kk : Fin 4} {x : Int64} {lv' : List (Nat × Value)} (d : decode cc pc = .ok (.lstore_n kk, 1)) (hi : (kk : Nat) + 1 < n0) (ks : List Nat) (hl' : lv_pick (((kk : Nat), .long x) :: lv.filter (fun q => !(q.1 == (kk : Nat)) && (!(q.1 == (kk : Nat) + 1) && !(q.1 + 1 == (kk : Nat) && q.2.category == 2)))) ks = lv') (K : Wp C cs sl (pc + 1) lv' st F) : Wp C cs sl pc lv (.long x :: st) F := by
  obtain ⟨p, l, e, R, s, m, args, below, meth, c, Q, D, cy, A, nL⟩ := C
  obtain ⟨hx, hb, hml, hown, hts, hK, hA, hr, hlk, hR, hn0⟩ := X
  intro L H locs ls hw hl
  subst hn0
  exact lv_lstore_n hx hb d rfl hl hi rfl (fun ls' hl2 => K L H locs ls' hw (lv_sub hl2 ks hl'))
theorem wp_lstore (X : Fx C cc own rt R0 n0) {i : Nat} {x : Int64} {lv' : List (Nat × Value)} (d : decode cc pc = .ok (.lstore i, 2)) (hi : i + 1 < n0) (ks : List Nat) (hl' : lv_pick ((i, .long x) :: lv.filter (fun q => !(q.1 == i) && (!(q.1 == i + 1) && !(q.1 + 1 == i && q.2.category == 2)))) ks = lv') (K : Wp C cs sl (pc + 2) lv' st F) : Wp C cs sl pc lv (.long x :: st) F := by
  obtain ⟨p, l, e, R, s, m, args, below, meth, c, Q, D, cy, A, nL⟩ := C
  obtain ⟨hx, hb, hml, hown, hts, hK, hA, hr, hlk, hR, hn0⟩ := X
  intro L H locs ls hw hl
  subst hn0
  exact lv_lstore hx hb d hl hi rfl (fun ls' hl2 => K L H locs ls' hw (lv_sub hl2 ks hl'))
theorem wp_astore_n (X : Fx C cc own rt R0 n0) {kk : Fin 4} {x : Nat} {lv' : List (Nat × Value)} (d : decode cc pc = .ok (.astore_n kk, 1)) (hi : (kk : Nat) < n0) (ks : List Nat) (hl' : lv_pick (((kk : Nat), .ref x) :: lv.filter (fun q => !(q.1 == (kk : Nat)) && !(q.1 + 1 == (kk : Nat) && q.2.category == 2))) ks = lv') (K : Wp C cs sl (pc + 1) lv' st F) : Wp C cs sl pc lv (.ref x :: st) F := by
  obtain ⟨p, l, e, R, s, m, args, below, meth, c, Q, D, cy, A, nL⟩ := C
  obtain ⟨hx, hb, hml, hown, hts, hK, hA, hr, hlk, hR, hn0⟩ := X
  intro L H locs ls hw hl
  subst hn0
  exact lv_astore_n hx hb d rfl hl hi rfl (fun ls' hl2 => K L H locs ls' hw (lv_sub hl2 ks hl'))
theorem wp_astore (X : Fx C cc own rt R0 n0) {i : Nat} {x : Nat} {lv' : List (Nat × Value)} (d : decode cc pc = .ok (.astore i, 2)) (hi : i < n0) (ks : List Nat) (hl' : lv_pick ((i, .ref x) :: lv.filter (fun q => !(q.1 == i) && !(q.1 + 1 == i && q.2.category == 2))) ks = lv') (K : Wp C cs sl (pc + 2) lv' st F) : Wp C cs sl pc lv (.ref x :: st) F := by
  obtain ⟨p, l, e, R, s, m, args, below, meth, c, Q, D, cy, A, nL⟩ := C
  obtain ⟨hx, hb, hml, hown, hts, hK, hA, hr, hlk, hR, hn0⟩ := X
  intro L H locs ls hw hl
  subst hn0
  exact lv_astore hx hb d hl hi rfl (fun ls' hl2 => K L H locs ls' hw (lv_sub hl2 ks hl'))
theorem wp_iinc (X : Fx C cc own rt R0 n0) {i : Nat} {n : Int} {x v : Int32} {lv' : List (Nat × Value)} (d : decode cc pc = .ok (.iinc i n, 3)) (hi : i < n0) (k : Nat) (hk : lv[k]? = some (i, .int x)) (hv : x + Int32.ofInt n = v) (ks : List Nat) (hl' : lv_pick ((i, .int v) :: lv.filter (fun q => !(q.1 == i) && !(q.1 + 1 == i && q.2.category == 2))) ks = lv') (K : Wp C cs sl (pc + 3) lv' st F) : Wp C cs sl pc lv st F := by
  obtain ⟨p, l, e, R, s, m, args, below, meth, c, Q, D, cy, A, nL⟩ := C
  obtain ⟨hx, hb, hml, hown, hts, hK, hA, hr, hlk, hR, hn0⟩ := X
  intro L H locs ls hw hl
  subst hn0
  exact lv_iinc hx hb d hl hk hv hi rfl (fun ls' hl2 => K L H locs ls' hw (lv_sub hl2 ks hl'))
theorem wp_sub {lv' : List (Nat × Value)} (ks : List Nat) (hl' : lv_pick lv ks = lv') (K : Wp C cs sl pc lv' st F) : Wp C cs sl pc lv st F := by
  obtain ⟨p, l, e, R, s, m, args, below, meth, c, Q, D, cy, A, nL⟩ := C
  intro L H locs ls hw hl
  exact K L H locs ls hw (lv_sub hl ks hl')
theorem wp_widen {cs' sl' : Nat} (h1 : cs ≤ cs') (h2 : sl ≤ sl') (K : Wp C cs' sl' pc lv st F) : Wp C cs sl pc lv st F := by
  obtain ⟨p, l, e, R, s, m, args, below, meth, c, Q, D, cy, A, nL⟩ := C
  intro L H locs ls hw hl
  exact W.widen h1 h2 (K L H locs ls hw hl)
theorem wp_goto (X : Fx C cc own rt R0 n0) {off : Int} {tgt : Nat} (d : decode cc pc = .ok (.goto off, 3)) (ht : (pc : Int) + off = (tgt : Int)) (K : Wp C cs sl tgt lv st F) : Wp C cs sl pc lv st F := by
  obtain ⟨p, l, e, R, s, m, args, below, meth, c, Q, D, cy, A, nL⟩ := C
  obtain ⟨hx, hb, hml, hown, hts, hK, hA, hr, hlk, hR, hn0⟩ := X
  intro L H locs ls hw hl
  exact lv_goto hx hb d ht (K L H locs ls hw hl)
theorem wp_if_eq (X : Fx C cc own rt R0 n0) {x : Int32} {off : Int} {tgt : Nat} {β : Type} {fT fE : Option β} {res : β} (d : decode cc pc = .ok (.ifCond .eq off, 3)) (ht : (pc : Int) + off = (tgt : Int)) (h : (if x = 0 then fT else fE) = some res) (kt : fT = some res → Wp C cs sl tgt lv st F) (kf : fE = some res → Wp C cs sl (pc + 3) lv st F) : Wp C cs sl pc lv (.int x :: st) F := by
  obtain ⟨p, l, e, R, s, m, args, below, meth, c, Q, D, cy, A, nL⟩ := C
  obtain ⟨hx, hb, hml, hown, hts, hK, hA, hr, hlk, hR, hn0⟩ := X
  intro L H locs ls hw hl
  exact lv_if_eq hx hb d ht (fun q => kt (by rw [if_pos q] at h; exact h) L H locs ls hw hl) (fun q => kf (by rw [if_neg q] at h; exact h) L H locs ls hw hl)
theorem wp_icmp_eq (X : Fx C cc own rt R0 n0) {x y : Int32} {off : Int} {tgt : Nat} {β : Type} {fT fE : Option β} {res : β} (d : decode cc pc = .ok (.if_icmp .eq off, 3)) (ht : (pc : Int) + off = (tgt : Int)) (h : (if x = y then fT else fE) = some res) (kt : fT = some res → Wp C cs sl tgt lv st F) (kf : fE = some res → Wp C cs sl (pc + 3) lv st F) : Wp C cs sl pc lv (.int y :: .int x :: st) F := by
  obtain ⟨p, l, e, R, s, m, args, below, meth, c, Q, D, cy, A, nL⟩ := C
  obtain ⟨hx, hb, hml, hown, hts, hK, hA, hr, hlk, hR, hn0⟩ := X
  intro L H locs ls hw hl
  exact lv_icmp_eq hx hb d ht (fun q => kt (by rw [if_pos q] at h; exact h) L H locs ls hw hl) (fun q => kf (by rw [if_neg q] at h; exact h) L H locs ls hw hl)
theorem wp_if_ne (X : Fx C cc own rt R0 n0) {x : Int32} {off : Int} {tgt : Nat} {β : Type} {fT fE : Option β} {res : β} (d : decode cc pc = .ok (.ifCond .ne off, 3)) (ht : (pc : Int) + off = (tgt : Int)) (h : (if x = 0 then fE else fT) = some res) (kt : fT = some res → Wp C cs sl tgt lv st F) (kf : fE = some res → Wp C cs sl (pc + 3) lv st F) : Wp C cs sl pc lv (.int x :: st) F := by
  obtain ⟨p, l, e, R, s, m, args, below, meth, c, Q, D, cy, A, nL⟩ := C
  obtain ⟨hx, hb, hml, hown, hts, hK, hA, hr, hlk, hR, hn0⟩ := X
  intro L H locs ls hw hl
  exact lv_if_ne hx hb d ht (fun q => kt (by rw [if_neg q] at h; exact h) L H locs ls hw hl) (fun q => kf (by rw [if_pos q] at h; exact h) L H locs ls hw hl)
theorem wp_icmp_ne (X : Fx C cc own rt R0 n0) {x y : Int32} {off : Int} {tgt : Nat} {β : Type} {fT fE : Option β} {res : β} (d : decode cc pc = .ok (.if_icmp .ne off, 3)) (ht : (pc : Int) + off = (tgt : Int)) (h : (if x = y then fE else fT) = some res) (kt : fT = some res → Wp C cs sl tgt lv st F) (kf : fE = some res → Wp C cs sl (pc + 3) lv st F) : Wp C cs sl pc lv (.int y :: .int x :: st) F := by
  obtain ⟨p, l, e, R, s, m, args, below, meth, c, Q, D, cy, A, nL⟩ := C
  obtain ⟨hx, hb, hml, hown, hts, hK, hA, hr, hlk, hR, hn0⟩ := X
  intro L H locs ls hw hl
  exact lv_icmp_ne hx hb d ht (fun q => kt (by rw [if_neg q] at h; exact h) L H locs ls hw hl) (fun q => kf (by rw [if_pos q] at h; exact h) L H locs ls hw hl)
theorem wp_if_lt (X : Fx C cc own rt R0 n0) {x : Int32} {off : Int} {tgt : Nat} {β : Type} {fT fE : Option β} {res : β} (d : decode cc pc = .ok (.ifCond .lt off, 3)) (ht : (pc : Int) + off = (tgt : Int)) (h : (if x < 0 then fT else fE) = some res) (kt : fT = some res → Wp C cs sl tgt lv st F) (kf : fE = some res → Wp C cs sl (pc + 3) lv st F) : Wp C cs sl pc lv (.int x :: st) F := by
  obtain ⟨p, l, e, R, s, m, args, below, meth, c, Q, D, cy, A, nL⟩ := C
  obtain ⟨hx, hb, hml, hown, hts, hK, hA, hr, hlk, hR, hn0⟩ := X
  intro L H locs ls hw hl
  exact lv_if_lt hx hb d ht (fun q => kt (by rw [if_pos q] at h; exact h) L H locs ls hw hl) (fun q => kf (by rw [if_neg q] at h; exact h) L H locs ls hw hl)
theorem wp_icmp_lt (X : Fx C cc own rt R0 n0) {x y : Int32} {off : Int} {tgt : Nat} {β : Type} {fT fE : Option β} {res : β} (d : decode cc pc = .ok (.if_icmp .lt off, 3)) (ht : (pc : Int) + off = (tgt : Int)) (h : (if x < y then fT else fE) = some res) (kt : fT = some res → Wp C cs sl tgt lv st F) (kf : fE = some res → Wp C cs sl (pc + 3) lv st F) : Wp C cs sl pc lv (.int y :: .int x :: st) F := by
  obtain ⟨p, l, e, R, s, m, args, below, meth, c, Q, D, cy, A, nL⟩ := C
  obtain ⟨hx, hb, hml, hown, hts, hK, hA, hr, hlk, hR, hn0⟩ := X
  intro L H locs ls hw hl
  exact lv_icmp_lt hx hb d ht (fun q => kt (by rw [if_pos q] at h; exact h) L H locs ls hw hl) (fun q => kf (by rw [if_neg q] at h; exact h) L H locs ls hw hl)
theorem wp_if_ge (X : Fx C cc own rt R0 n0) {x : Int32} {off : Int} {tgt : Nat} {β : Type} {fT fE : Option β} {res : β} (d : decode cc pc = .ok (.ifCond .ge off, 3)) (ht : (pc : Int) + off = (tgt : Int)) (h : (if 0 ≤ x then fT else fE) = some res) (kt : fT = some res → Wp C cs sl tgt lv st F) (kf : fE = some res → Wp C cs sl (pc + 3) lv st F) : Wp C cs sl pc lv (.int x :: st) F := by
  obtain ⟨p, l, e, R, s, m, args, below, meth, c, Q, D, cy, A, nL⟩ := C
  obtain ⟨hx, hb, hml, hown, hts, hK, hA, hr, hlk, hR, hn0⟩ := X
  intro L H locs ls hw hl
  exact lv_if_ge hx hb d ht (fun q => kt (by rw [if_pos q] at h; exact h) L H locs ls hw hl) (fun q => kf (by rw [if_neg q] at h; exact h) L H locs ls hw hl)
theorem wp_icmp_ge (X : Fx C cc own rt R0 n0) {x y : Int32} {off : Int} {tgt : Nat} {β : Type} {fT fE : Option β} {res : β} (d : decode cc pc = .ok (.if_icmp .ge off, 3)) (ht : (pc : Int) + off = (tgt : Int)) (h : (if y ≤ x then fT else fE) = some res) (kt : fT = some res → Wp C cs sl tgt lv st F) (kf : fE = some res → Wp C cs sl (pc + 3) lv st F) : Wp C cs sl pc lv (.int y :: .int x :: st) F := by
  obtain ⟨p, l, e, R, s, m, args, below, meth, c, Q, D, cy, A, nL⟩ := C
  obtain ⟨hx, hb, hml, hown, hts, hK, hA, hr, hlk, hR, hn0⟩ := X
  intro L H locs ls hw hl
  exact lv_icmp_ge hx hb d ht (fun q => kt (by rw [if_pos q] at h; exact h) L H locs ls hw hl) (fun q => kf (by rw [if_neg q] at h; exact h) L H locs ls hw hl)
theorem wp_if_gt (X : Fx C cc own rt R0 n0) {x : Int32} {off : Int} {tgt : Nat} {β : Type} {fT fE : Option β} {res : β} (d : decode cc pc = .ok (.ifCond .gt off, 3)) (ht : (pc : Int) + off = (tgt : Int)) (h : (if 0 < x then fT else fE) = some res) (kt : fT = some res → Wp C cs sl tgt lv st F) (kf : fE = some res → Wp C cs sl (pc + 3) lv st F) : Wp C cs sl pc lv (.int x :: st) F := by
  obtain ⟨p, l, e, R, s, m, args, below, meth, c, Q, D, cy, A, nL⟩ := C
  obtain ⟨hx, hb, hml, hown, hts, hK, hA, hr, hlk, hR, hn0⟩ := X
  intro L H locs ls hw hl
  exact lv_if_gt hx hb d ht (fun q => kt (by rw [if_pos q] at h; exact h) L H locs ls hw hl) (fun q => kf (by rw [if_neg q] at h; exact h) L H locs ls hw hl)
theorem wp_icmp_gt (X : Fx C cc own rt R0 n0) {x y : Int32} {off : Int} {tgt : Nat} {β : Type} {fT fE : Option β} {res : β} (d : decode cc pc = .ok (.if_icmp .gt off, 3)) (ht : (pc : Int) + off = (tgt : Int)) (h : (if y < x then fT else fE) = some res) (kt : fT = some res → Wp C cs sl tgt lv st F) (kf : fE = some res → Wp C cs sl (pc + 3) lv st F) : Wp C cs sl pc lv (.int y :: .int x :: st) F := by
  obtain ⟨p, l, e, R, s, m, args, below, meth, c, Q, D, cy, A, nL⟩ := C
  obtain ⟨hx, hb, hml, hown, hts, hK, hA, hr, hlk, hR, hn0⟩ := X
  intro L H locs ls hw hl
  exact lv_icmp_gt hx hb d ht (fun q => kt (by rw [if_pos q] at h; exact h) L H locs ls hw hl) (fun q => kf (by rw [if_neg q] at h; exact h) L H locs ls hw hl)
theorem wp_if_le (X : Fx C cc own rt R0 n0) {x : Int32} {off : Int} {tgt : Nat} {β : Type} {fT fE : Option β} {res : β} (d : decode cc pc = .ok (.ifCond .le off, 3)) (ht : (pc : Int) + off = (tgt : Int)) (h : (if x ≤ 0 then fT else fE) = some res) (kt : fT = some res → Wp C cs sl tgt lv st F) (kf : fE = some res → Wp C cs sl (pc + 3) lv st F) : Wp C cs sl pc lv (.int x :: st) F := by
  obtain ⟨p, l, e, R, s, m, args, below, meth, c, Q, D, cy, A, nL⟩ := C
  obtain ⟨hx, hb, hml, hown, hts, hK, hA, hr, hlk, hR, hn0⟩ := X
  intro L H locs ls hw hl
  exact lv_if_le hx hb d ht (fun q => kt (by rw [if_pos q] at h; exact h) L H locs ls hw hl) (fun q => kf (by rw [if_neg q] at h; exact h) L H locs ls hw hl)
theorem wp_icmp_le (X : Fx C cc own rt R0 n0) {x y : Int32} {off : Int} {tgt : Nat} {β : Type} {fT fE : Option β} {res : β} (d : decode cc pc = .ok (.if_icmp .le off, 3)) (ht : (pc : Int) + off = (tgt : Int)) (h : (if x ≤ y then fT else fE) = some res) (kt : fT = some res → Wp C cs sl tgt lv st F) (kf : fE = some res → Wp C cs sl (pc + 3) lv st F) : Wp C cs sl pc lv (.int y :: .int x :: st) F := by
  obtain ⟨p, l, e, R, s, m, args, below, meth, c, Q, D, cy, A, nL⟩ := C
  obtain ⟨hx, hb, hml, hown, hts, hK, hA, hr, hlk, hR, hn0⟩ := X
  intro L H locs ls hw hl
  exact lv_icmp_le hx hb d ht (fun q => kt (by rw [if_pos q] at h; exact h) L H locs ls hw hl) (fun q => kf (by rw [if_neg q] at h; exact h) L H locs ls hw hl)
theorem wp_idiv (X : Fx C cc own rt R0 n0) {x y : Int32} {β : Type} {f : Int32 → Option β} {res : β} (d : decode cc pc = .ok (.idiv, 1)) (h : (idiv0 x y).bind f = some res) (K : ∀ v, f v = some res → Wp C cs sl (pc + 1) lv (.int v :: st) F) : Wp C cs sl pc lv (.int y :: .int x :: st) F := by
  obtain ⟨p, l, e, R, s, m, args, below, meth, c, Q, D, cy, A, nL⟩ := C
  obtain ⟨hx, hb, hml, hown, hts, hK, hA, hr, hlk, hR, hn0⟩ := X
  intro L H locs ls hw hl
  obtain ⟨v, h1, h2⟩ := bnd h
  unfold idiv0 at h1
  split at h1
  · cases h1
  · next hne =>
    cases h1
    exact lv_idiv hx hb d hne (K _ h2 L H locs ls hw hl)
theorem wp_irem (X : Fx C cc own rt R0 n0) {x y : Int32} {β : Type} {f : Int32 → Option β} {res : β} (d : decode cc pc = .ok (.irem, 1)) (h : (irem0 x y).bind f = some res) (K : ∀ v, f v = some res → Wp C cs sl (pc + 1) lv (.int v :: st) F) : Wp C cs sl pc lv (.int y :: .int x :: st) F := by
  obtain ⟨p, l, e, R, s, m, args, below, meth, c, Q, D, cy, A, nL⟩ := C
  obtain ⟨hx, hb, hml, hown, hts, hK, hA, hr, hlk, hR, hn0⟩ := X
  intro L H locs ls hw hl
  obtain ⟨v, h1, h2⟩ := bnd h
  unfold irem0 at h1
  split at h1
  · cases h1
  · next hne =>
    cases h1
    exact lv_irem hx hb d hne (K _ h2 L H locs ls hw hl)
theorem wp_ldiv (X : Fx C cc own rt R0 n0) {x y : Int64} {β : Type} {f : Int64 → Option β} {res : β} (d : decode cc pc = .ok (.ldiv, 1)) (h : (ldiv0 x y).bind f = some res) (K : ∀ v, f v = some res → Wp C cs sl (pc + 1) lv (.long v :: st) F) : Wp C cs sl pc lv (.long y :: .long x :: st) F := by
  obtain ⟨p, l, e, R, s, m, args, below, meth, c, Q, D, cy, A, nL⟩ := C
  obtain ⟨hx, hb, hml, hown, hts, hK, hA, hr, hlk, hR, hn0⟩ := X
  intro L H locs ls hw hl
  obtain ⟨v, h1, h2⟩ := bnd h
  unfold ldiv0 at h1
  split at h1
  · cases h1
  · next hne =>
    cases h1
    exact lv_ldiv hx hb d hne (K _ h2 L H locs ls hw hl)
theorem wp_lrem (X : Fx C cc own rt R0 n0) {x y : Int64} {β : Type} {f : Int64 → Option β} {res : β} (d : decode cc pc = .ok (.lrem, 1)) (h : (lrem0 x y).bind f = some res) (K : ∀ v, f v = some res → Wp C cs sl (pc + 1) lv (.long v :: st) F) : Wp C cs sl pc lv (.long y :: .long x :: st) F := by
  obtain ⟨p, l, e, R, s, m, args, below, meth, c, Q, D, cy, A, nL⟩ := C
  obtain ⟨hx, hb, hml, hown, hts, hK, hA, hr, hlk, hR, hn0⟩ := X
  intro L H locs ls hw hl
  obtain ⟨v, h1, h2⟩ := bnd h
  unfold lrem0 at h1
  split at h1
  · cases h1
  · next hne =>
    cases h1
    exact lv_lrem hx hb d hne (K _ h2 L H locs ls hw hl)
theorem wp_iaload (X : Fx C cc own rt R0 n0) {a : Nat} {i : Int32} {β : Type} {f : Int32 → Option β} {res : β} (d : decode cc pc = .ok (.iaload, 1)) (h : (rdI F 0 a i).bind f = some res) (K : ∀ v, f v = some res → Wp C cs sl (pc + 1) lv (.int v :: st) F) : Wp C cs sl pc lv (.int i :: .ref a :: st) F := by
  obtain ⟨p, l, e, R, s, m, args, below, meth, c, Q, D, cy, A, nL⟩ := C
  obtain ⟨hx, hb, hml, hown, hts, hK, hA, hr, hlk, hR, hn0⟩ := X
  intro L H locs ls hw hl
  obtain ⟨v, h1, h2⟩ := bnd h
  obtain ⟨⟨n, g⟩, h3, h4⟩ := bnd h1
  have e := arI_eq h3
  obtain ⟨k, hk⟩ := va_pl_get (X := ([] : va_W)) (f := fun a => toE cy (F a)) (wo_mem hw (ne_jk_l e))
  by_cases hi : inb i n = true
  · simp only [hi, if_true] at h4
    cases h4
    exact va_iald hx hb hK hw.2.1 k 0 (hk.trans (by simp only [e]; rfl)) rfl (inb_vp hi) d (K _ h2 L H locs ls hw hl)
  · simp only [hi] at h4
    cases h4
theorem wp_zaload (X : Fx C cc own rt R0 n0) {a : Nat} {i : Int32} {β : Type} {f : Int32 → Option β} {res : β} (d : decode cc pc = .ok (.baload, 1)) (h : (rdI F 2 a i).bind f = some res) (K : ∀ v, f v = some res → Wp C cs sl (pc + 1) lv (.int v :: st) F) : Wp C cs sl pc lv (.int i :: .ref a :: st) F := by
  obtain ⟨p, l, e, R, s, m, args, below, meth, c, Q, D, cy, A, nL⟩ := C
  obtain ⟨hx, hb, hml, hown, hts, hK, hA, hr, hlk, hR, hn0⟩ := X
  intro L H locs ls hw hl
  obtain ⟨v, h1, h2⟩ := bnd h
  obtain ⟨⟨n, g⟩, h3, h4⟩ := bnd h1
  have e := arI_eq h3
  obtain ⟨k, hk⟩ := va_pl_get (X := ([] : va_W)) (f := fun a => toE cy (F a)) (wo_mem hw (ne_jk_l e))
  by_cases hi : inb i n = true
  · simp only [hi, if_true] at h4
    cases h4
    exact va_zald hx hb hK hw.2.1 k 2 (hk.trans (by simp only [e]; rfl)) rfl (inb_vp hi) d (K _ h2 L H locs ls hw hl)
  · simp only [hi] at h4
    cases h4
theorem wp_laload (X : Fx C cc own rt R0 n0) {a : Nat} {i : Int32} {β : Type} {f : Int64 → Option β} {res : β} (d : decode cc pc = .ok (.laload, 1)) (h : (rdJ F a i).bind f = some res) (K : ∀ v, f v = some res → Wp C cs sl (pc + 1) lv (.long v :: st) F) : Wp C cs sl pc lv (.int i :: .ref a :: st) F := by
  obtain ⟨p, l, e, R, s, m, args, below, meth, c, Q, D, cy, A, nL⟩ := C
  obtain ⟨hx, hb, hml, hown, hts, hK, hA, hr, hlk, hR, hn0⟩ := X
  intro L H locs ls hw hl
  obtain ⟨v, h1, h2⟩ := bnd h
  obtain ⟨⟨n, g⟩, h3, h4⟩ := bnd h1
  have e := arJ_eq h3
  obtain ⟨k, hk⟩ := va_pl_get (X := ([] : va_W)) (f := fun a => toE cy (F a)) (wo_mem hw (ne_jk_l e))
  by_cases hi : inb i n = true
  · simp only [hi, if_true] at h4
    cases h4
    exact va_lald hx hb hK hw.2.1 k 1 (hk.trans (by simp only [e]; rfl)) rfl (inb_vp hi) d (K _ h2 L H locs ls hw hl)
  · simp only [hi] at h4
    cases h4
theorem wp_aaload (X : Fx C cc own rt R0 n0) (t : Nat) {CN : String} {a : Nat} {i : Int32} {β : Type} {f : Nat → Option β} {res : β} (ht : ∀ cy : Nat → ClassId, (ty5 cy)[t]? = some (cy t, .object CN)) (d : decode cc pc = .ok (.aaload, 1)) (h : (rdQ F t a i).bind f = some res) (K : ∀ v, f v = some res → Wp C cs sl (pc + 1) lv (.ref v :: st) F) : Wp C cs sl pc lv (.int i :: .ref a :: st) F := by
  obtain ⟨p, l, e, R, s, m, args, below, meth, c, Q, D, cy, A, nL⟩ := C
  obtain ⟨hx, hb, hml, hown, hts, hK, hA, hr, hlk, hR, hn0⟩ := X
  intro L H locs ls hw hl
  obtain ⟨v, h1, h2⟩ := bnd h
  obtain ⟨⟨n, g⟩, h3, h4⟩ := bnd h1
  have e := arQ_eq h3
  obtain ⟨k, hk⟩ := va_pl_get (X := ([] : va_W)) (f := fun a => toE cy (F a)) (wo_mem hw (ne_jk_l e))
  by_cases hi : inb i n = true
  · simp only [hi, if_true] at h4
    refine va_aldq hx hb hK hw.2.1 k t (hk.trans (by simp only [e]; rfl)) (ht cy) (inb_vp hi) d ?_
    rw [h4]
    exact K _ h2 L H locs ls hw hl
  · simp only [hi] at h4
    cases h4
theorem wp_iastore (X : Fx C cc own rt R0 n0) {a : Nat} {i : Int32} {x : Int32} {β : Type} {f : Mem → Option β} {res : β} (d : decode cc pc = .ok (.iastore, 1)) (h : (wrI F a i x).bind f = some res) (K : ∀ F', f F' = some res → Wp C cs sl (pc + 1) lv st F') : Wp C cs sl pc lv (.int x :: .int i :: .ref a :: st) F := by
  obtain ⟨p, l, e, R, s, m, args, below, meth, c, Q, D, cy, A, nL⟩ := C
  obtain ⟨hx, hb, hml, hown, hts, hK, hA, hr, hlk, hR, hn0⟩ := X
  intro L H locs ls hw hl
  obtain ⟨v, h1, h2⟩ := bnd h
  obtain ⟨⟨n, g⟩, h3, h4⟩ := bnd h1
  have e := arI_eq h3
  have hm := wo_mem hw (ne_jk_l e)
  obtain ⟨k, hk⟩ := va_pl_get (X := ([] : va_W)) (f := fun a => toE cy (F a)) hm
  by_cases hi : inb i n = true
  · simp only [hi, if_true] at h4
    cases h4
    exact va_iast hx hb hK hw.2.1 hw.2.2.1 hw.2.2.2 k 0 (hk.trans (by simp only [e]; rfl)) rfl (inb_vp hi) d (fun H1 locs1 hP hD hS => K _ h2 L H1 locs1 ls (wo_set (c := .inl (0, n, .inl (upd g i.toNatClampNeg x))) hw.1 hw.2.2.1 hm hk hP hD hS) hl)
  · simp only [hi] at h4
    cases h4
theorem wp_zastore (X : Fx C cc own rt R0 n0) {a : Nat} {i : Int32} {x : Int32} {β : Type} {f : Mem → Option β} {res : β} (d : decode cc pc = .ok (.bastore, 1)) (h : (wrZ F a i x).bind f = some res) (K : ∀ F', f F' = some res → Wp C cs sl (pc + 1) lv st F') : Wp C cs sl pc lv (.int x :: .int i :: .ref a :: st) F := by
  obtain ⟨p, l, e, R, s, m, args, below, meth, c, Q, D, cy, A, nL⟩ := C
  obtain ⟨hx, hb, hml, hown, hts, hK, hA, hr, hlk, hR, hn0⟩ := X
  intro L H locs ls hw hl
  obtain ⟨v, h1, h2⟩ := bnd h
  obtain ⟨⟨n, g⟩, h3, h4⟩ := bnd h1
  have e := arI_eq h3
  have hm := wo_mem hw (ne_jk_l e)
  obtain ⟨k, hk⟩ := va_pl_get (X := ([] : va_W)) (f := fun a => toE cy (F a)) hm
  by_cases hi : inb i n = true
  · simp only [hi, if_true] at h4
    cases h4
    exact va_zast hx hb hK hw.2.1 hw.2.2.1 hw.2.2.2 k 2 (hk.trans (by simp only [e]; rfl)) rfl (inb_vp hi) d (fun H1 locs1 hP hD hS => K _ h2 L H1 locs1 ls (wo_set (c := .inl (2, n, .inl (upd g i.toNatClampNeg (vp_nar .boolean x)))) hw.1 hw.2.2.1 hm hk hP hD hS) hl)
  · simp only [hi] at h4
    cases h4
theorem wp_lastore (X : Fx C cc own rt R0 n0) {a : Nat} {i : Int32} {x : Int64} {β : Type} {f : Mem → Option β} {res : β} (d : decode cc pc = .ok (.lastore, 1)) (h : (wrJ F a i x).bind f = some res) (K : ∀ F', f F' = some res → Wp C cs sl (pc + 1) lv st F') : Wp C cs sl pc lv (.long x :: .int i :: .ref a :: st) F := by
  obtain ⟨p, l, e, R, s, m, args, below, meth, c, Q, D, cy, A, nL⟩ := C
  obtain ⟨hx, hb, hml, hown, hts, hK, hA, hr, hlk, hR, hn0⟩ := X
  intro L H locs ls hw hl
  obtain ⟨v, h1, h2⟩ := bnd h
  obtain ⟨⟨n, g⟩, h3, h4⟩ := bnd h1
  have e := arJ_eq h3
  have hm := wo_mem hw (ne_jk_l e)
  obtain ⟨k, hk⟩ := va_pl_get (X := ([] : va_W)) (f := fun a => toE cy (F a)) hm
  by_cases hi : inb i n = true
  · simp only [hi, if_true] at h4
    cases h4
    exact va_last hx hb hK hw.2.1 hw.2.2.1 hw.2.2.2 k 1 (hk.trans (by simp only [e]; rfl)) rfl (inb_vp hi) d (fun H1 locs1 hP hD hS => K _ h2 L H1 locs1 ls (wo_set (c := .inl (1, n, .inr (.inl (vp_updL g i.toNatClampNeg x)))) hw.1 hw.2.2.1 hm hk hP hD hS) hl)
  · simp only [hi] at h4
    cases h4
theorem wp_alen (X : Fx C cc own rt R0 n0) (t : Nat) {ty : FieldType} {a : Nat} {β : Type} {f : Int32 → Option β} {res : β} (ht : ∀ cy : Nat → ClassId, (ty5 cy)[t]? = some (cy t, ty)) (d : decode cc pc = .ok (.arraylength, 1)) (h : (alI F t a).bind f = some res) (K : ∀ v, f v = some res → Wp C cs sl (pc + 1) lv (.int v :: st) F) : Wp C cs sl pc lv (.ref a :: st) F := by
  obtain ⟨p, l, e, R, s, m, args, below, meth, c, Q, D, cy, A, nL⟩ := C
  obtain ⟨hx, hb, hml, hown, hts, hK, hA, hr, hlk, hR, hn0⟩ := X
  intro L H locs ls hw hl
  obtain ⟨v, h1, h2⟩ := bnd h
  obtain ⟨⟨n, g⟩, h3, h4⟩ := bnd h1
  have e := arI_eq h3
  obtain ⟨k, hk⟩ := va_pl_get (X := ([] : va_W)) (f := fun a => toE cy (F a)) (wo_mem hw (ne_jk_l e))
  cases h4
  exact va_alen hx hb hK hw.2.1 k t (hk.trans (by simp only [e]; rfl)) (ht cy) rfl d (K _ h2 L H locs ls hw hl)
theorem wp_getI (X : Fx C cc own rt R0 n0) {CN : String} {T : u_T} {N ix a ci k : Nat} {β : Type} {f : Int32 → Option β} {res : β} (hc : vwCl[ci]? = some (CN, T, N)) (hci : ci ≠ 99) (hk : k < N) (hin : ∀ w ∈ u_ws CN T N, w ∈ BIG) (hlink : Cond.fieldLink own ix (T k).1 (T k).2.1 (T k).2.2.1 ∈ BIG) (d : decode cc pc = .ok (.getfield ix, 3)) (h : (gfI F a ci k).bind f = some res) (K : ∀ v, f v = some res → Wp C cs sl (pc + 3) lv (.int v :: st) F) : Wp C cs sl pc lv (.ref a :: st) F := by
  obtain ⟨p, l, e, R, s, m, args, below, meth, c, Q, D, cy, A, nL⟩ := C
  obtain ⟨hx, hb, hml, hown, hts, hK, hA, hr, hlk, hR, hn0⟩ := X
  intro L H locs ls hw hl
  obtain ⟨v, h1, h2⟩ := bnd h
  obtain ⟨fs, e, hv⟩ := gfI_eq h1
  obtain ⟨q, hq⟩ := va_pl_get (X := ([] : va_W)) (f := fun a => toE cy (F a)) (wo_mem hw (ne_jk_r e hci))
  exact va_get hx hb hts hin hown hK hw.2.1 q (hq.trans (by simp only [e]; rfl)) hc k hk (hts _ hlink) (fun _ h9 => h9) hv d (K _ h2 L H locs ls hw hl)
theorem wp_getJ (X : Fx C cc own rt R0 n0) {CN : String} {T : u_T} {N ix a ci k : Nat} {β : Type} {f : Int64 → Option β} {res : β} (hc : vwCl[ci]? = some (CN, T, N)) (hci : ci ≠ 99) (hk : k < N) (hin : ∀ w ∈ u_ws CN T N, w ∈ BIG) (hlink : Cond.fieldLink own ix (T k).1 (T k).2.1 (T k).2.2.1 ∈ BIG) (d : decode cc pc = .ok (.getfield ix, 3)) (h : (gfJ F a ci k).bind f = some res) (K : ∀ v, f v = some res → Wp C cs sl (pc + 3) lv (.long v :: st) F) : Wp C cs sl pc lv (.ref a :: st) F := by
  obtain ⟨p, l, e, R, s, m, args, below, meth, c, Q, D, cy, A, nL⟩ := C
  obtain ⟨hx, hb, hml, hown, hts, hK, hA, hr, hlk, hR, hn0⟩ := X
  intro L H locs ls hw hl
  obtain ⟨v, h1, h2⟩ := bnd h
  obtain ⟨fs, e, hv⟩ := gfJ_eq h1
  obtain ⟨q, hq⟩ := va_pl_get (X := ([] : va_W)) (f := fun a => toE cy (F a)) (wo_mem hw (ne_jk_r e hci))
  exact va_get hx hb hts hin hown hK hw.2.1 q (hq.trans (by simp only [e]; rfl)) hc k hk (hts _ hlink) (fun _ h9 => h9) hv d (K _ h2 L H locs ls hw hl)
theorem wp_getR (X : Fx C cc own rt R0 n0) {CN : String} {T : u_T} {N ix a ci k : Nat} {β : Type} {f : Nat → Option β} {res : β} (hc : vwCl[ci]? = some (CN, T, N)) (hci : ci ≠ 99) (hk : k < N) (hin : ∀ w ∈ u_ws CN T N, w ∈ BIG) (hlink : Cond.fieldLink own ix (T k).1 (T k).2.1 (T k).2.2.1 ∈ BIG) (d : decode cc pc = .ok (.getfield ix, 3)) (h : (gfR F a ci k).bind f = some res) (K : ∀ v, f v = some res → Wp C cs sl (pc + 3) lv (.ref v :: st) F) : Wp C cs sl pc lv (.ref a :: st) F := by
  obtain ⟨p, l, e, R, s, m, args, below, meth, c, Q, D, cy, A, nL⟩ := C
  obtain ⟨hx, hb, hml, hown, hts, hK, hA, hr, hlk, hR, hn0⟩ := X
  intro L H locs ls hw hl
  obtain ⟨v, h1, h2⟩ := bnd h
  obtain ⟨fs, e, hv⟩ := gfR_eq h1
  obtain ⟨q, hq⟩ := va_pl_get (X := ([] : va_W)) (f := fun a => toE cy (F a)) (wo_mem hw (ne_jk_r e hci))
  exact va_get hx hb hts hin hown hK hw.2.1 q (hq.trans (by simp only [e]; rfl)) hc k hk (hts _ hlink) (fun _ h9 => h9) hv d (K _ h2 L H locs ls hw hl)
theorem wp_put (X : Fx C cc own rt R0 n0) {CN : String} {T : u_T} {N ix a ci k : Nat} {v : Value} (ty0 : Nat → FieldType) {ty : FieldType} {β : Type} {f : Mem → Option β} {res : β} (hc : vwCl[ci]? = some (CN, T, N)) (hci : ci ≠ 99) (hk : k < N) (hin : ∀ w ∈ u_ws CN T N, w ∈ BIG) (hlink : Cond.fieldLink own ix (T k).1 (T k).2.1 (T k).2.2.1 ∈ BIG) (hty : ∀ k, k < N → parseFieldDescriptor (T k).2.2.1 = some (ty0 k)) (hnm : ∀ a, a < N → ∀ b, b < N → a ≠ b → (T a).2.1 ≠ (T b).2.1) (hfin : (T k).2.2.2 = false) (hd : ty0 k = ty) (hn : narrow ty v = v) (hfit : fits ty v = true) (d : decode cc pc = .ok (.putfield ix, 3)) (h : (pf F a ci k v).bind f = some res) (K : ∀ F', f F' = some res → Wp C cs sl (pc + 3) lv st F') : Wp C cs sl pc lv (v :: .ref a :: st) F := by
  obtain ⟨p, l, e, R, s, m, args, below, meth, c, Q, D, cy, A, nL⟩ := C
  obtain ⟨hx, hb, hml, hown, hts, hK, hA, hr, hlk, hR, hn0⟩ := X
  intro L H locs ls hw hl
  obtain ⟨F2, h1, h2⟩ := bnd h
  obtain ⟨fs, h3, h4⟩ := bnd h1
  have e := obj_eq h3
  have hm := wo_mem hw (ne_jk_r e hci)
  obtain ⟨q, hq⟩ := va_pl_get (X := ([] : va_W)) (f := fun a => toE cy (F a)) hm
  by_cases hlt : k < fs.length
  · simp only [hlt, if_true] at h4
    cases h4
    exact va_put hx hb hts hin ty0 hty hnm hown hK hw.2.1 hw.2.2.1 hw.2.2.2 q (hq.trans (by simp only [e]; rfl)) hc k hk (hts _ hlink) (fun _ h9 => h9) hfin (by rw [hty k hk, hd]) hn hfit hlt d (fun H1 locs1 hP hD hS => K _ h2 L H1 locs1 ls (wo_set (c := .inr (ci, fs.set k v)) hw.1 hw.2.2.1 hm hq hP hD hS) hl)
  · simp only [hlt, if_false] at h4
    cases h4
theorem wp_copyi (X : Fx C cc own rt R0 n0) {ix a b : Nat} {sp dp n : Int32} {β : Type} {f : Mem → Option β} {res : β} (hlink : Cond.methodLink own ix arraycopyName ∈ BIG) (hnat : Cond.native arraycopyName ∈ BIG) (hstat : Cond.static arraycopyName ∈ BIG) (hini : Cond.initialized "java/lang/System" ∈ BIG) (hf1 : 1 ≤ R0.frames) (hf2 : (st.map fun v => v.category).sum + (nativeFrameWords "java/lang/System" "arraycopy" 5 + 11) ≤ R0.locals) (d : decode cc pc = .ok (.invokestatic ix, 3)) (h : (cpI F a sp b dp n).bind f = some res) (K : ∀ F', f F' = some res → Wp C cs sl (pc + 3) lv st F') : Wp C cs sl pc lv (.int n :: .int dp :: .ref b :: .int sp :: .ref a :: st) F := by
  obtain ⟨p, l, e, R, s, m, args, below, meth, c, Q, D, cy, A, nL⟩ := C
  obtain ⟨hx, hb, hml, hown, hts, hK, hA, hr, hlk, hR, hn0⟩ := X
  intro L H locs ls hw hl
  obtain ⟨F2, h1, h2⟩ := bnd h
  obtain ⟨⟨n1, g1⟩, h3, h4⟩ := bnd h1
  obtain ⟨⟨n2, g2⟩, h5, h6⟩ := bnd h4
  have e1 := arI_eq h3
  have e2 := arI_eq h5
  have hm := wo_mem hw (ne_jk_l e2)
  obtain ⟨k1, hk1⟩ := va_pl_get (X := ([] : va_W)) (f := fun a => toE cy (F a)) (wo_mem hw (ne_jk_l e1))
  obtain ⟨k2, hk2⟩ := va_pl_get (X := ([] : va_W)) (f := fun a => toE cy (F a)) hm
  split at h6
  · next hcond =>
    cases h6
    simp only [Bool.and_eq_true, decide_eq_true_eq] at hcond
    obtain ⟨⟨⟨⟨q1, q2⟩, q3⟩, q4⟩, q5⟩ := hcond
    subst hR
    exact va_copyi hx hb (by rw [hml, hl.1]) hown (hts _ hlink) (hts _ hnat) (hts _ hstat) (hts _ hini) hK hw.2.1 hw.2.2.1 hw.2.2.2 k1 k2 0 0 (ty := .int) (hk1.trans (by simp only [e1]; rfl)) (hk2.trans (by simp only [e2]; rfl)) rfl rfl rfl q1 q2 q3 q4 q5 (fun _ _ => rfl) hf1 hf2 d (fun H1 locs1 hP hD hS => K _ h2 L H1 locs1 ls (wo_set (c := .inl (0, n2, .inl (va_cpy g1 g2 sp.toNatClampNeg dp.toNatClampNeg n.toNatClampNeg))) hw.1 hw.2.2.1 hm hk2 hP hD hS) hl)
  · cases h6
end ROWS
section CALLS
def Pre0 (D : va_G) (cy : Nat → ClassId) (L : List Nat) (F : Mem) (sz : Nat) (U : State) : Prop := U.heap.size = sz ∧ (∀ a, a ∉ L → F a = jk) ∧ va_P D vwCl (pw cy L F) U.heap ∧ va_K D vwCl (ty5 cy) U ∧ va_D (fun _ => True) (pw cy L F)
def Post0 (D : va_G) (cy : Nat → ClassId) (A : Nat → Prop) (F' : Mem) (t : State) : Prop := ∃ L' : List Nat, (∀ a, a ∉ L' → F' a = jk) ∧ va_P D vwCl (pw cy L' F') t.heap ∧ va_K D vwCl (ty5 cy) t ∧ va_D A (pw cy L' F')
theorem pre0_blind {av : List Value} {D : va_G} {cy : Nat → ClassId} {L : List Nat} {F : Mem} {sz : Nat} : FrameBlind (va_Pc av (Pre0 D cy L F sz)) := fun a U g mk q => by
  obtain ⟨q0, q1, q2, qP, qK, qD⟩ := q
  exact ⟨q0, q1, q2, qP, va_K.moved (u := U) (U := U.calling g mk a) (Vm.Alike.refl U.vm) qK, qD⟩
/-- contracts: a method from the memory F with the arguments av answers res -/
def MI (l : Launch) (y : MethodName) (cc : ByteArray) (n : Nat) (ret : Option FieldType) (rm : Room) (D : va_G) (cy : Nat → ClassId) (F : Mem) (av : List Value) (res : Int32 × Mem) : Prop := ∀ (L : List Nat) (sz : Nat), Met l y (wsy y cc n ret) rm (va_Pc av (Pre0 D cy L F sz)) (va_Qi (fun r F' => (r, F') = res) (Post0 D cy (va_A (pw cy L F) sz)) (va_A (pw cy L F) sz)) rm.cells rm.slots (va_A (pw cy L F) sz)
def ML (l : Launch) (y : MethodName) (cc : ByteArray) (n : Nat) (ret : Option FieldType) (rm : Room) (D : va_G) (cy : Nat → ClassId) (F : Mem) (av : List Value) (res : Int64 × Mem) : Prop := ∀ (L : List Nat) (sz : Nat), Met l y (wsy y cc n ret) rm (va_Pc av (Pre0 D cy L F sz)) (va_Ql (fun r F' => (r, F') = res) (Post0 D cy (va_A (pw cy L F) sz)) (va_A (pw cy L F) sz)) rm.cells rm.slots (va_A (pw cy L F) sz)
def MV (l : Launch) (y : MethodName) (cc : ByteArray) (n : Nat) (ret : Option FieldType) (rm : Room) (D : va_G) (cy : Nat → ClassId) (F : Mem) (av : List Value) (res : Mem) : Prop := ∀ (L : List Nat) (sz : Nat), Met l y (wsy y cc n ret) rm (va_Pc av (Pre0 D cy L F sz)) (va_Qv (fun F' => F' = res) (Post0 D cy (va_A (pw cy L F) sz)) (va_A (pw cy L F) sz)) rm.cells rm.slots (va_A (pw cy L F) sz)
/-- what a body owes at its end -/
def RI (C : Cx) (mc ms : Nat) (res : Int32 × Mem) : Prop := match C with
  | (p, l, e, R, s, m, args, below, meth, c, Q, D, cy, A, nL) => Q = MQ below (va_Qi (fun r F' => (r, F') = res) (Post0 D cy A) A) args s mc ms A
def RJ (C : Cx) (mc ms : Nat) (res : Int64 × Mem) : Prop := match C with
  | (p, l, e, R, s, m, args, below, meth, c, Q, D, cy, A, nL) => Q = MQ below (va_Ql (fun r F' => (r, F') = res) (Post0 D cy A) A) args s mc ms A
def RV (C : Cx) (mc ms : Nat) (res : Mem) : Prop := match C with
  | (p, l, e, R, s, m, args, below, meth, c, Q, D, cy, A, nL) => Q = MQ below (va_Qv (fun F' => F' = res) (Post0 D cy A) A) args s mc ms A
def CD (C : Cx) (l0 : Launch) (D0 : va_G) (cy0 : Nat → ClassId) : Prop := match C with
  | (p, l, e, R, s, m, args, below, meth, c, Q, D, cy, A, nL) => l = l0 ∧ D = D0 ∧ cy = cy0

variable {C : Cx} {cc : ByteArray} {own : String} {rt : Option FieldType} {R0 : Room} {n0 cs sl pc : Nat} {lv : List (Nat × Value)} {st st0 : List Value} {F : Mem}
theorem wp_ireturn (X : Fx C cc own rt R0 n0) {ty : FieldType} {v : Int32} {res : Int32 × Mem} (Qr : RI C cs sl res) (hrt : rt = some ty) (hn : narrow ty (.int v) = .int v) (d : decode cc pc = .ok (.ireturn, 1)) (h : some (v, F) = some res) : Wp C cs sl pc lv [.int v] F := by
  obtain ⟨p, l, e, R, s, m, args, below, meth, c, Q, D, cy, A, nL⟩ := C
  obtain ⟨hx, hb, hml, hown, hts, hK, hA, hr, hlk, hR, hn0⟩ := X
  intro L H locs ls hw hl
  cases Qr
  have e9 := Option.some.inj h
  exact W.zret hx hb (hr.trans hrt) hn (fun t ht hW => ⟨⟨v, F, rfl, e9, L, hw.1, by rw [ht]; exact hw.2.1, va_K.moved hW.alike hK, hw.2.2.1⟩, hw.2.2.2.F ht⟩) hw.2.2.2.2.2 d hlk
theorem wp_lreturn (X : Fx C cc own rt R0 n0) {v : Int64} {res : Int64 × Mem} (Qr : RJ C cs sl res) (hrt : rt = some .long) (d : decode cc pc = .ok (.lreturn, 1)) (h : some (v, F) = some res) : Wp C cs sl pc lv [.long v] F := by
  obtain ⟨p, l, e, R, s, m, args, below, meth, c, Q, D, cy, A, nL⟩ := C
  obtain ⟨hx, hb, hml, hown, hts, hK, hA, hr, hlk, hR, hn0⟩ := X
  intro L H locs ls hw hl
  cases Qr
  have e9 := Option.some.inj h
  exact W.lret hx hb (hr.trans hrt) (fun t ht hW => ⟨⟨v, F, rfl, e9, L, hw.1, by rw [ht]; exact hw.2.1, va_K.moved hW.alike hK, hw.2.2.1⟩, hw.2.2.2.F ht⟩) hw.2.2.2.2.2 d hlk
theorem wp_return (X : Fx C cc own rt R0 n0) {res : Mem} (Qr : RV C cs sl res) (hrt : rt = none) (d : decode cc pc = .ok (.return_, 1)) (h : some F = some res) : Wp C cs sl pc lv [] F := by
  obtain ⟨p, l, e, R, s, m, args, below, meth, c, Q, D, cy, A, nL⟩ := C
  obtain ⟨hx, hb, hml, hown, hts, hK, hA, hr, hlk, hR, hn0⟩ := X
  intro L H locs ls hw hl
  cases Qr
  have e9 := Option.some.inj h
  exact W.vret hx hb (hr.trans hrt) (fun t ht hW => ⟨⟨F, rfl, e9, L, hw.1, by rw [ht]; exact hw.2.1, va_K.moved hW.alike hK, hw.2.2.1⟩, hw.2.2.2.F ht⟩) hw.2.2.2.2.2 d hlk
theorem mi_of {l : Launch} {y : MethodName} {rm : Room} {D : va_G} {cy : Nat → ClassId} {av : List Value} {res : Int32 × Mem} {cc : ByteArray} {maxL : Nat} {ret : Option FieldType} (hy : plainName y.cls = true) (hlen : (lg_sl av).length ≤ maxL) (lv : List (Nat × Value)) (hlv : lv_args 0 av = lv)
    (body : ∀ C : Cx, Fx C cc y.cls ret rm maxL → CD C l D cy → RI C rm.cells rm.slots res → Wp C 0 0 0 lv [] F) : MI l y cc maxL ret rm D cy F av res := by
  intro L sz
  refine Met.ofW (cc := cc) (maxL := maxL) (ret := ret) hy rfl ?_
  intro p e s m args below meth c s₁ B hml hv
  obtain ⟨rfl, hsz, h0, hP, hK, hD0⟩ := hv
  subst hsz
  have hl := lv_entry av (n := maxL) hlen
  rw [lg_entry_eq]
  rw [hlv] at hl
  exact body (p, l, e, rm, s, m, av.toArray, below, meth, c, _, D, cy, va_A (pw cy L F) s.heap.size, maxL)
    ⟨B.exec, B.bytes, hml, findClass_of_methodNamed B.named, fun w h9 => atoms_spec (ws := wsy y cc maxL ret) B.pre w (List.mem_cons_of_mem _ h9), hK, fun q h => Or.inr h, B.returns, B.notSynchronized, rfl, rfl⟩ ⟨rfl, rfl, rfl⟩ rfl
    L s.heap [] _ ⟨h0, hP, hD0.self (sz := s.heap.size), va_S.rf⟩ hl
theorem ml_of {l : Launch} {y : MethodName} {rm : Room} {D : va_G} {cy : Nat → ClassId} {av : List Value} {res : Int64 × Mem} {cc : ByteArray} {maxL : Nat} {ret : Option FieldType} (hy : plainName y.cls = true) (hlen : (lg_sl av).length ≤ maxL) (lv : List (Nat × Value)) (hlv : lv_args 0 av = lv)
    (body : ∀ C : Cx, Fx C cc y.cls ret rm maxL → CD C l D cy → RJ C rm.cells rm.slots res → Wp C 0 0 0 lv [] F) : ML l y cc maxL ret rm D cy F av res := by
  intro L sz
  refine Met.ofW (cc := cc) (maxL := maxL) (ret := ret) hy rfl ?_
  intro p e s m args below meth c s₁ B hml hv
  obtain ⟨rfl, hsz, h0, hP, hK, hD0⟩ := hv
  subst hsz
  have hl := lv_entry av (n := maxL) hlen
  rw [lg_entry_eq]
  rw [hlv] at hl
  exact body (p, l, e, rm, s, m, av.toArray, below, meth, c, _, D, cy, va_A (pw cy L F) s.heap.size, maxL)
    ⟨B.exec, B.bytes, hml, findClass_of_methodNamed B.named, fun w h9 => atoms_spec (ws := wsy y cc maxL ret) B.pre w (List.mem_cons_of_mem _ h9), hK, fun q h => Or.inr h, B.returns, B.notSynchronized, rfl, rfl⟩ ⟨rfl, rfl, rfl⟩ rfl
    L s.heap [] _ ⟨h0, hP, hD0.self (sz := s.heap.size), va_S.rf⟩ hl
theorem mv_of {l : Launch} {y : MethodName} {rm : Room} {D : va_G} {cy : Nat → ClassId} {av : List Value} {res : Mem} {cc : ByteArray} {maxL : Nat} {ret : Option FieldType} (hy : plainName y.cls = true) (hlen : (lg_sl av).length ≤ maxL) (lv : List (Nat × Value)) (hlv : lv_args 0 av = lv)
    (body : ∀ C : Cx, Fx C cc y.cls ret rm maxL → CD C l D cy → RV C rm.cells rm.slots res → Wp C 0 0 0 lv [] F) : MV l y cc maxL ret rm D cy F av res := by
  intro L sz
  refine Met.ofW (cc := cc) (maxL := maxL) (ret := ret) hy rfl ?_
  intro p e s m args below meth c s₁ B hml hv
  obtain ⟨rfl, hsz, h0, hP, hK, hD0⟩ := hv
  subst hsz
  have hl := lv_entry av (n := maxL) hlen
  rw [lg_entry_eq]
  rw [hlv] at hl
  exact body (p, l, e, rm, s, m, av.toArray, below, meth, c, _, D, cy, va_A (pw cy L F) s.heap.size, maxL)
    ⟨B.exec, B.bytes, hml, findClass_of_methodNamed B.named, fun w h9 => atoms_spec (ws := wsy y cc maxL ret) B.pre w (List.mem_cons_of_mem _ h9), hK, fun q h => Or.inr h, B.returns, B.notSynchronized, rfl, rfl⟩ ⟨rfl, rfl, rfl⟩ rfl
    L s.heap [] _ ⟨h0, hP, hD0.self (sz := s.heap.size), va_S.rf⟩ hl
theorem wp_callVI (X : Fx C cc own rt R0 n0) {y : MethodName} {rm : Room} {ix n maxL ci b : Nat} {bytes : ByteArray} {ret : Option FieldType} {CN : String} {T : u_T} {N : Nat} (As : List Value) {o : Option (Int32 × Mem)} {β : Type} {f : Int32 × Mem → Option β} {res : β} {l0 : Launch} {D0 : va_G} {cy0 : Nat → ClassId} (hcd : CD C l0 D0 cy0)
    (hM : ∀ q, o = some q → MI l0 y bytes maxL ret rm D0 cy0 F (.ref b :: As) q) (k1 : Cond.methodLink own ix y ∈ BIG) (k2 : Cond.instanceMethod y ∈ BIG) (k3 : Cond.selects CN y y ∈ BIG) (k4 : Cond.initialized CN ∈ BIG) (k5 : Cond.code y bytes maxL ret ∈ BIG) (hd : y.cls = CN ∧ y.cls ≠ "java/lang/invoke/MethodHandle" ∧ y.cls ≠ "java/lang/invoke/VarHandle" ∧ (parseMethodDescriptor y.desc).map (fun d => d.parameters.length) = some n)
    (hRf : rm.frames + 1 ≤ R0.frames ∧ 8 + (maxL + 11) + rm.locals ≤ R0.locals) (hcap : cs + rm.cells ≤ R0.cells ∧ sl + rm.slots ≤ R0.slots) (hc : vwCl[ci]? = some (CN, T, N)) (hci : ci ≠ 99) (hn : As.length = n) (hst : st0 = As.reverse ++ .ref b :: st) (hrm : (st.map fun v => v.category).sum ≤ 8) (d : decode cc pc = .ok (.invokevirtual ix, 3))
    (h : ((obj F b ci).bind fun _ => o.bind f) = some res) (K : ∀ q, f q = some res → Wp C (cs + rm.cells) (sl + rm.slots) (pc + 3) lv (.int q.1 :: st) q.2) : Wp C cs sl pc lv st0 F := by
  obtain ⟨p, l, e, R, s, m, args, below, meth, c, Q, D, cy, A, nL⟩ := C
  obtain ⟨hx, hb, hml, hown, hts, hK, hA, hr, hlk, hR, hn0⟩ := X
  obtain ⟨rfl, rfl, rfl⟩ := hcd
  intro L H locs ls hw hl
  subst hst
  subst hR
  obtain ⟨fs, h0, h1⟩ := bnd h
  obtain ⟨q, h3, h2⟩ := bnd h1
  have e := obj_eq h0
  obtain ⟨k, hk⟩ := va_pl_get (X := ([] : va_W)) (f := fun a => toE cy (F a)) (wo_mem hw (ne_jk_r e hci))
  have hFc := wo_free hw hA
  refine va_calli (va_runV (As := As) (rest := st) ⟨hx, hb, hml, hown, hts⟩ (hM q h3 L H.size) (cwV n hts (good_V k1 k2 k3 k4 k5) rfl rfl rfl hd hRf) ⟨pre0_blind, va_recv hK hw.2.1 hc (hk.trans (by simp only [e]; rfl)), fun U hU hW => ⟨rfl, by rw [hU], hw.1, by rw [hU]; exact hw.2.1, va_K.moved hW.alike hK, hw.2.2.1.weaken (fun _ _ _ _ => trivial)⟩⟩ rfl hn hl.1 rfl (lv_room hrm) d hcap) hw.2.2.2 (fun q _ h => hFc q h) hFc (fun r u t H1 locs1 ht hvm hw1 hB hz1 hk1 hS => ?_)
  subst hw1
  obtain ⟨L', g0, g1, g2, g3⟩ := hB
  rw [ht] at g1
  exact K _ h2 L' H1 locs1 ls ⟨g0, g1, g3.weaken (fun k q hk ha => hFc _ ha), hS⟩ hl
theorem wp_callSI (X : Fx C cc own rt R0 n0) {y : MethodName} {rm : Room} {ix n maxL : Nat} {bytes : ByteArray} {ret : Option FieldType} (As : List Value) {o : Option (Int32 × Mem)} {β : Type} {f : Int32 × Mem → Option β} {res : β} {l0 : Launch} {D0 : va_G} {cy0 : Nat → ClassId} (hcd : CD C l0 D0 cy0)
    (hM : ∀ q, o = some q → MI l0 y bytes maxL ret rm D0 cy0 F As q) (k1 : Cond.methodLink own ix y ∈ BIG) (k2 : Cond.static y ∈ BIG) (k4 : Cond.initialized y.cls ∈ BIG) (k5 : Cond.code y bytes maxL ret ∈ BIG) (hd : y.cls ≠ "java/lang/invoke/MethodHandle" ∧ y.cls ≠ "java/lang/invoke/VarHandle" ∧ (parseMethodDescriptor y.desc).map (fun d => d.parameters.length) = some n)
    (hRf : rm.frames + 1 ≤ R0.frames ∧ 8 + (maxL + 11) + rm.locals ≤ R0.locals) (hcap : cs + rm.cells ≤ R0.cells ∧ sl + rm.slots ≤ R0.slots) (hn : As.length = n) (hst : st0 = As.reverse ++ st) (hrm : (st.map fun v => v.category).sum ≤ 8) (d : decode cc pc = .ok (.invokestatic ix, 3))
    (h : o.bind f = some res) (K : ∀ q, f q = some res → Wp C (cs + rm.cells) (sl + rm.slots) (pc + 3) lv (.int q.1 :: st) q.2) : Wp C cs sl pc lv st0 F := by
  obtain ⟨p, l, e, R, s, m, args, below, meth, c, Q, D, cy, A, nL⟩ := C
  obtain ⟨hx, hb, hml, hown, hts, hK, hA, hr, hlk, hR, hn0⟩ := X
  obtain ⟨rfl, rfl, rfl⟩ := hcd
  intro L H locs ls hw hl
  subst hst
  subst hR
  obtain ⟨q, h3, h2⟩ := bnd h
  have hFc := wo_free hw hA
  refine va_calli (va_runS (As := As) (rest := st) ⟨hx, hb, hml, hown, hts⟩ (hM q h3 L H.size) (va_cwS n hts (good_S k1 k2 k4 k5) rfl rfl rfl hd hRf) ⟨pre0_blind, fun U hU hW => ⟨rfl, by rw [hU], hw.1, by rw [hU]; exact hw.2.1, va_K.moved hW.alike hK, hw.2.2.1.weaken (fun _ _ _ _ => trivial)⟩⟩ rfl hn hl.1 rfl (lv_room hrm) d hcap) hw.2.2.2 (fun q _ h => hFc q h) hFc (fun r u t H1 locs1 ht hvm hw1 hB hz1 hk1 hS => ?_)
  subst hw1
  obtain ⟨L', g0, g1, g2, g3⟩ := hB
  rw [ht] at g1
  exact K _ h2 L' H1 locs1 ls ⟨g0, g1, g3.weaken (fun k q hk ha => hFc _ ha), hS⟩ hl
theorem wp_callVL (X : Fx C cc own rt R0 n0) {y : MethodName} {rm : Room} {ix n maxL ci b : Nat} {bytes : ByteArray} {ret : Option FieldType} {CN : String} {T : u_T} {N : Nat} (As : List Value) {o : Option (Int64 × Mem)} {β : Type} {f : Int64 × Mem → Option β} {res : β} {l0 : Launch} {D0 : va_G} {cy0 : Nat → ClassId} (hcd : CD C l0 D0 cy0)
    (hM : ∀ q, o = some q → ML l0 y bytes maxL ret rm D0 cy0 F (.ref b :: As) q) (k1 : Cond.methodLink own ix y ∈ BIG) (k2 : Cond.instanceMethod y ∈ BIG) (k3 : Cond.selects CN y y ∈ BIG) (k4 : Cond.initialized CN ∈ BIG) (k5 : Cond.code y bytes maxL ret ∈ BIG) (hd : y.cls = CN ∧ y.cls ≠ "java/lang/invoke/MethodHandle" ∧ y.cls ≠ "java/lang/invoke/VarHandle" ∧ (parseMethodDescriptor y.desc).map (fun d => d.parameters.length) = some n)
    (hRf : rm.frames + 1 ≤ R0.frames ∧ 8 + (maxL + 11) + rm.locals ≤ R0.locals) (hcap : cs + rm.cells ≤ R0.cells ∧ sl + rm.slots ≤ R0.slots) (hc : vwCl[ci]? = some (CN, T, N)) (hci : ci ≠ 99) (hn : As.length = n) (hst : st0 = As.reverse ++ .ref b :: st) (hrm : (st.map fun v => v.category).sum ≤ 8) (d : decode cc pc = .ok (.invokevirtual ix, 3))
    (h : ((obj F b ci).bind fun _ => o.bind f) = some res) (K : ∀ q, f q = some res → Wp C (cs + rm.cells) (sl + rm.slots) (pc + 3) lv (.long q.1 :: st) q.2) : Wp C cs sl pc lv st0 F := by
  obtain ⟨p, l, e, R, s, m, args, below, meth, c, Q, D, cy, A, nL⟩ := C
  obtain ⟨hx, hb, hml, hown, hts, hK, hA, hr, hlk, hR, hn0⟩ := X
  obtain ⟨rfl, rfl, rfl⟩ := hcd
  intro L H locs ls hw hl
  subst hst
  subst hR
  obtain ⟨fs, h0, h1⟩ := bnd h
  obtain ⟨q, h3, h2⟩ := bnd h1
  have e := obj_eq h0
  obtain ⟨k, hk⟩ := va_pl_get (X := ([] : va_W)) (f := fun a => toE cy (F a)) (wo_mem hw (ne_jk_r e hci))
  have hFc := wo_free hw hA
  refine va_calll (va_runV (As := As) (rest := st) ⟨hx, hb, hml, hown, hts⟩ (hM q h3 L H.size) (cwV n hts (good_V k1 k2 k3 k4 k5) rfl rfl rfl hd hRf) ⟨pre0_blind, va_recv hK hw.2.1 hc (hk.trans (by simp only [e]; rfl)), fun U hU hW => ⟨rfl, by rw [hU], hw.1, by rw [hU]; exact hw.2.1, va_K.moved hW.alike hK, hw.2.2.1.weaken (fun _ _ _ _ => trivial)⟩⟩ rfl hn hl.1 rfl (lv_room hrm) d hcap) hw.2.2.2 (fun q _ h => hFc q h) hFc (fun r u t H1 locs1 ht hvm hw1 hB hz1 hk1 hS => ?_)
  subst hw1
  obtain ⟨L', g0, g1, g2, g3⟩ := hB
  rw [ht] at g1
  exact K _ h2 L' H1 locs1 ls ⟨g0, g1, g3.weaken (fun k q hk ha => hFc _ ha), hS⟩ hl
theorem wp_callSL (X : Fx C cc own rt R0 n0) {y : MethodName} {rm : Room} {ix n maxL : Nat} {bytes : ByteArray} {ret : Option FieldType} (As : List Value) {o : Option (Int64 × Mem)} {β : Type} {f : Int64 × Mem → Option β} {res : β} {l0 : Launch} {D0 : va_G} {cy0 : Nat → ClassId} (hcd : CD C l0 D0 cy0)
    (hM : ∀ q, o = some q → ML l0 y bytes maxL ret rm D0 cy0 F As q) (k1 : Cond.methodLink own ix y ∈ BIG) (k2 : Cond.static y ∈ BIG) (k4 : Cond.initialized y.cls ∈ BIG) (k5 : Cond.code y bytes maxL ret ∈ BIG) (hd : y.cls ≠ "java/lang/invoke/MethodHandle" ∧ y.cls ≠ "java/lang/invoke/VarHandle" ∧ (parseMethodDescriptor y.desc).map (fun d => d.parameters.length) = some n)
    (hRf : rm.frames + 1 ≤ R0.frames ∧ 8 + (maxL + 11) + rm.locals ≤ R0.locals) (hcap : cs + rm.cells ≤ R0.cells ∧ sl + rm.slots ≤ R0.slots) (hn : As.length = n) (hst : st0 = As.reverse ++ st) (hrm : (st.map fun v => v.category).sum ≤ 8) (d : decode cc pc = .ok (.invokestatic ix, 3))
    (h : o.bind f = some res) (K : ∀ q, f q = some res → Wp C (cs + rm.cells) (sl + rm.slots) (pc + 3) lv (.long q.1 :: st) q.2) : Wp C cs sl pc lv st0 F := by
  obtain ⟨p, l, e, R, s, m, args, below, meth, c, Q, D, cy, A, nL⟩ := C
  obtain ⟨hx, hb, hml, hown, hts, hK, hA, hr, hlk, hR, hn0⟩ := X
  obtain ⟨rfl, rfl, rfl⟩ := hcd
  intro L H locs ls hw hl
  subst hst
  subst hR
  obtain ⟨q, h3, h2⟩ := bnd h
  have hFc := wo_free hw hA
  refine va_calll (va_runS (As := As) (rest := st) ⟨hx, hb, hml, hown, hts⟩ (hM q h3 L H.size) (va_cwS n hts (good_S k1 k2 k4 k5) rfl rfl rfl hd hRf) ⟨pre0_blind, fun U hU hW => ⟨rfl, by rw [hU], hw.1, by rw [hU]; exact hw.2.1, va_K.moved hW.alike hK, hw.2.2.1.weaken (fun _ _ _ _ => trivial)⟩⟩ rfl hn hl.1 rfl (lv_room hrm) d hcap) hw.2.2.2 (fun q _ h => hFc q h) hFc (fun r u t H1 locs1 ht hvm hw1 hB hz1 hk1 hS => ?_)
  subst hw1
  obtain ⟨L', g0, g1, g2, g3⟩ := hB
  rw [ht] at g1
  exact K _ h2 L' H1 locs1 ls ⟨g0, g1, g3.weaken (fun k q hk ha => hFc _ ha), hS⟩ hl
theorem wp_callVV (X : Fx C cc own rt R0 n0) {y : MethodName} {rm : Room} {ix n maxL ci b : Nat} {bytes : ByteArray} {ret : Option FieldType} {CN : String} {T : u_T} {N : Nat} (As : List Value) {o : Option (Mem)} {β : Type} {f : Mem → Option β} {res : β} {l0 : Launch} {D0 : va_G} {cy0 : Nat → ClassId} (hcd : CD C l0 D0 cy0)
    (hM : ∀ q, o = some q → MV l0 y bytes maxL ret rm D0 cy0 F (.ref b :: As) q) (k1 : Cond.methodLink own ix y ∈ BIG) (k2 : Cond.instanceMethod y ∈ BIG) (k3 : Cond.selects CN y y ∈ BIG) (k4 : Cond.initialized CN ∈ BIG) (k5 : Cond.code y bytes maxL ret ∈ BIG) (hd : y.cls = CN ∧ y.cls ≠ "java/lang/invoke/MethodHandle" ∧ y.cls ≠ "java/lang/invoke/VarHandle" ∧ (parseMethodDescriptor y.desc).map (fun d => d.parameters.length) = some n)
    (hRf : rm.frames + 1 ≤ R0.frames ∧ 8 + (maxL + 11) + rm.locals ≤ R0.locals) (hcap : cs + rm.cells ≤ R0.cells ∧ sl + rm.slots ≤ R0.slots) (hc : vwCl[ci]? = some (CN, T, N)) (hci : ci ≠ 99) (hn : As.length = n) (hst : st0 = As.reverse ++ .ref b :: st) (hrm : (st.map fun v => v.category).sum ≤ 8) (d : decode cc pc = .ok (.invokevirtual ix, 3))
    (h : ((obj F b ci).bind fun _ => o.bind f) = some res) (K : ∀ q, f q = some res → Wp C (cs + rm.cells) (sl + rm.slots) (pc + 3) lv (st) q) : Wp C cs sl pc lv st0 F := by
  obtain ⟨p, l, e, R, s, m, args, below, meth, c, Q, D, cy, A, nL⟩ := C
  obtain ⟨hx, hb, hml, hown, hts, hK, hA, hr, hlk, hR, hn0⟩ := X
  obtain ⟨rfl, rfl, rfl⟩ := hcd
  intro L H locs ls hw hl
  subst hst
  subst hR
  obtain ⟨fs, h0, h1⟩ := bnd h
  obtain ⟨q, h3, h2⟩ := bnd h1
  have e := obj_eq h0
  obtain ⟨k, hk⟩ := va_pl_get (X := ([] : va_W)) (f := fun a => toE cy (F a)) (wo_mem hw (ne_jk_r e hci))
  have hFc := wo_free hw hA
  refine va_callv (va_runV (As := As) (rest := st) ⟨hx, hb, hml, hown, hts⟩ (hM q h3 L H.size) (cwV n hts (good_V k1 k2 k3 k4 k5) rfl rfl rfl hd hRf) ⟨pre0_blind, va_recv hK hw.2.1 hc (hk.trans (by simp only [e]; rfl)), fun U hU hW => ⟨rfl, by rw [hU], hw.1, by rw [hU]; exact hw.2.1, va_K.moved hW.alike hK, hw.2.2.1.weaken (fun _ _ _ _ => trivial)⟩⟩ rfl hn hl.1 rfl (lv_room hrm) d hcap) hw.2.2.2 (fun q _ h => hFc q h) hFc (fun u t H1 locs1 ht hvm hw1 hB hz1 hk1 hS => ?_)
  subst hw1
  obtain ⟨L', g0, g1, g2, g3⟩ := hB
  rw [ht] at g1
  exact K _ h2 L' H1 locs1 ls ⟨g0, g1, g3.weaken (fun k q hk ha => hFc _ ha), hS⟩ hl
theorem wp_callSV (X : Fx C cc own rt R0 n0) {y : MethodName} {rm : Room} {ix n maxL : Nat} {bytes : ByteArray} {ret : Option FieldType} (As : List Value) {o : Option (Mem)} {β : Type} {f : Mem → Option β} {res : β} {l0 : Launch} {D0 : va_G} {cy0 : Nat → ClassId} (hcd : CD C l0 D0 cy0)
    (hM : ∀ q, o = some q → MV l0 y bytes maxL ret rm D0 cy0 F As q) (k1 : Cond.methodLink own ix y ∈ BIG) (k2 : Cond.static y ∈ BIG) (k4 : Cond.initialized y.cls ∈ BIG) (k5 : Cond.code y bytes maxL ret ∈ BIG) (hd : y.cls ≠ "java/lang/invoke/MethodHandle" ∧ y.cls ≠ "java/lang/invoke/VarHandle" ∧ (parseMethodDescriptor y.desc).map (fun d => d.parameters.length) = some n)
    (hRf : rm.frames + 1 ≤ R0.frames ∧ 8 + (maxL + 11) + rm.locals ≤ R0.locals) (hcap : cs + rm.cells ≤ R0.cells ∧ sl + rm.slots ≤ R0.slots) (hn : As.length = n) (hst : st0 = As.reverse ++ st) (hrm : (st.map fun v => v.category).sum ≤ 8) (d : decode cc pc = .ok (.invokestatic ix, 3))
    (h : o.bind f = some res) (K : ∀ q, f q = some res → Wp C (cs + rm.cells) (sl + rm.slots) (pc + 3) lv (st) q) : Wp C cs sl pc lv st0 F := by
  obtain ⟨p, l, e, R, s, m, args, below, meth, c, Q, D, cy, A, nL⟩ := C
  obtain ⟨hx, hb, hml, hown, hts, hK, hA, hr, hlk, hR, hn0⟩ := X
  obtain ⟨rfl, rfl, rfl⟩ := hcd
  intro L H locs ls hw hl
  subst hst
  subst hR
  obtain ⟨q, h3, h2⟩ := bnd h
  have hFc := wo_free hw hA
  refine va_callv (va_runS (As := As) (rest := st) ⟨hx, hb, hml, hown, hts⟩ (hM q h3 L H.size) (va_cwS n hts (good_S k1 k2 k4 k5) rfl rfl rfl hd hRf) ⟨pre0_blind, fun U hU hW => ⟨rfl, by rw [hU], hw.1, by rw [hU]; exact hw.2.1, va_K.moved hW.alike hK, hw.2.2.1.weaken (fun _ _ _ _ => trivial)⟩⟩ rfl hn hl.1 rfl (lv_room hrm) d hcap) hw.2.2.2 (fun q _ h => hFc q h) hFc (fun u t H1 locs1 ht hvm hw1 hB hz1 hk1 hS => ?_)
  subst hw1
  obtain ⟨L', g0, g1, g2, g3⟩ := hB
  rw [ht] at g1
  exact K _ h2 L' H1 locs1 ls ⟨g0, g1, g3.weaken (fun k q hk ha => hFc _ ha), hS⟩ hl
end CALLS
end
