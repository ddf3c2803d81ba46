section
-- ===== PART A: goes FIRST, ahead of the names: the tables' words, and 'selects' of the private methods out of them =====
/-- a private method of a class that the tables say can be made, by its rows of tables_1 -/
def lw_okq (q : MethodName × Nat) : Prop := (q.1.cls ≠ "java/lang/invoke/MethodHandle" ∧ q.1.cls ≠ "java/lang/invoke/VarHandle") ∧ Cond.instantiable q.1.cls q.2 ∈ tables_1 ∧ Cond.privateMethod q.1 ∈ tables_1 ∧ Cond.instanceMethod q.1 ∈ tables_1
theorem lw_p0 : lw_okq (⟨"ReadingStages", "remembered", "(I)I"⟩, 11) := ⟨⟨by decide +kernel, by decide +kernel⟩, List.mem_of_getElem? (i := 18) (by decide +kernel), List.mem_of_getElem? (i := 303) (by decide +kernel), List.mem_of_getElem? (i := 304) (by decide +kernel)⟩
theorem lw_p1 : lw_okq (⟨"ReadingStages$Past", "loseOldest", "()V"⟩, 2) := ⟨⟨by decide +kernel, by decide +kernel⟩, List.mem_of_getElem? (i := 79) (by decide +kernel), List.mem_of_getElem? (i := 311) (by decide +kernel), List.mem_of_getElem? (i := 312) (by decide +kernel)⟩
theorem lw_p2 : lw_okq (⟨"ReadingStages$State", "closeGap", "([II)V"⟩, 9) := ⟨⟨by decide +kernel, by decide +kernel⟩, List.mem_of_getElem? (i := 26) (by decide +kernel), List.mem_of_getElem? (i := 340) (by decide +kernel), List.mem_of_getElem? (i := 341) (by decide +kernel)⟩
theorem lw_p3 : lw_okq (⟨"ReadingStages$State", "allBehind", "(I)I"⟩, 9) := ⟨⟨by decide +kernel, by decide +kernel⟩, List.mem_of_getElem? (i := 26) (by decide +kernel), List.mem_of_getElem? (i := 361) (by decide +kernel), List.mem_of_getElem? (i := 362) (by decide +kernel)⟩
theorem lw_p4 : lw_okq (⟨"ReadingStages$State", "changeSpan", "(I)I"⟩, 9) := ⟨⟨by decide +kernel, by decide +kernel⟩, List.mem_of_getElem? (i := 26) (by decide +kernel), List.mem_of_getElem? (i := 381) (by decide +kernel), List.mem_of_getElem? (i := 382) (by decide +kernel)⟩
theorem lw_p5 : lw_okq (⟨"ReadingStages$State", "changeBound", "(I)I"⟩, 9) := ⟨⟨by decide +kernel, by decide +kernel⟩, List.mem_of_getElem? (i := 26) (by decide +kernel), List.mem_of_getElem? (i := 385) (by decide +kernel), List.mem_of_getElem? (i := 386) (by decide +kernel)⟩
theorem lw_p6 : lw_okq (⟨"ReadingStages$State", "changeRule", "(I)I"⟩, 9) := ⟨⟨by decide +kernel, by decide +kernel⟩, List.mem_of_getElem? (i := 26) (by decide +kernel), List.mem_of_getElem? (i := 389) (by decide +kernel), List.mem_of_getElem? (i := 390) (by decide +kernel)⟩
theorem lw_p7 : lw_okq (⟨"ReadingStages", "seekBestOrGrown", "(Z)V"⟩, 11) := ⟨⟨by decide +kernel, by decide +kernel⟩, List.mem_of_getElem? (i := 18) (by decide +kernel), List.mem_of_getElem? (i := 405) (by decide +kernel), List.mem_of_getElem? (i := 406) (by decide +kernel)⟩
theorem lw_p8 : lw_okq (⟨"ReadingStages$Search", "nextGrown", "(II)I"⟩, 13) := ⟨⟨by decide +kernel, by decide +kernel⟩, List.mem_of_getElem? (i := 176) (by decide +kernel), List.mem_of_getElem? (i := 436) (by decide +kernel), List.mem_of_getElem? (i := 437) (by decide +kernel)⟩
theorem lw_p9 : lw_okq (⟨"ReadingStages$Search", "mayCome", "(II)Z"⟩, 13) := ⟨⟨by decide +kernel, by decide +kernel⟩, List.mem_of_getElem? (i := 176) (by decide +kernel), List.mem_of_getElem? (i := 450) (by decide +kernel), List.mem_of_getElem? (i := 451) (by decide +kernel)⟩
theorem lw_p10 : lw_okq (⟨"ReadingStages$Search", "keepFound", "(II)V"⟩, 13) := ⟨⟨by decide +kernel, by decide +kernel⟩, List.mem_of_getElem? (i := 176) (by decide +kernel), List.mem_of_getElem? (i := 484) (by decide +kernel), List.mem_of_getElem? (i := 485) (by decide +kernel)⟩
theorem lw_p11 : lw_okq (⟨"ReadingStages$Search", "isWanted", "(II)Z"⟩, 13) := ⟨⟨by decide +kernel, by decide +kernel⟩, List.mem_of_getElem? (i := 176) (by decide +kernel), List.mem_of_getElem? (i := 490) (by decide +kernel), List.mem_of_getElem? (i := 491) (by decide +kernel)⟩
theorem lw_p12 : lw_okq (⟨"ReadingStages", "firstWith", "([II)I"⟩, 11) := ⟨⟨by decide +kernel, by decide +kernel⟩, List.mem_of_getElem? (i := 18) (by decide +kernel), List.mem_of_getElem? (i := 520) (by decide +kernel), List.mem_of_getElem? (i := 521) (by decide +kernel)⟩
theorem lw_p13 : lw_okq (⟨"ReadingStages", "howManyWith", "([II)I"⟩, 11) := ⟨⟨by decide +kernel, by decide +kernel⟩, List.mem_of_getElem? (i := 18) (by decide +kernel), List.mem_of_getElem? (i := 529) (by decide +kernel), List.mem_of_getElem? (i := 530) (by decide +kernel)⟩
theorem lw_p14 : lw_okq (⟨"ReadingStages", "countOfReading", "(I)I"⟩, 11) := ⟨⟨by decide +kernel, by decide +kernel⟩, List.mem_of_getElem? (i := 18) (by decide +kernel), List.mem_of_getElem? (i := 544) (by decide +kernel), List.mem_of_getElem? (i := 545) (by decide +kernel)⟩
theorem lw_p15 : lw_okq (⟨"ReadingStages", "placesWith", "(I)I"⟩, 11) := ⟨⟨by decide +kernel, by decide +kernel⟩, List.mem_of_getElem? (i := 18) (by decide +kernel), List.mem_of_getElem? (i := 573) (by decide +kernel), List.mem_of_getElem? (i := 574) (by decide +kernel)⟩
def lw_privs_1 : List (MethodName × Nat) := [(⟨"ReadingStages", "remembered", "(I)I"⟩, 11), (⟨"ReadingStages$Past", "loseOldest", "()V"⟩, 2), (⟨"ReadingStages$State", "closeGap", "([II)V"⟩, 9), (⟨"ReadingStages$State", "allBehind", "(I)I"⟩, 9), (⟨"ReadingStages$State", "changeSpan", "(I)I"⟩, 9), (⟨"ReadingStages$State", "changeBound", "(I)I"⟩, 9), (⟨"ReadingStages$State", "changeRule", "(I)I"⟩, 9), (⟨"ReadingStages", "seekBestOrGrown", "(Z)V"⟩, 11), (⟨"ReadingStages$Search", "nextGrown", "(II)I"⟩, 13), (⟨"ReadingStages$Search", "mayCome", "(II)Z"⟩, 13), (⟨"ReadingStages$Search", "keepFound", "(II)V"⟩, 13), (⟨"ReadingStages$Search", "isWanted", "(II)Z"⟩, 13), (⟨"ReadingStages", "firstWith", "([II)I"⟩, 11), (⟨"ReadingStages", "howManyWith", "([II)I"⟩, 11), (⟨"ReadingStages", "countOfReading", "(I)I"⟩, 11), (⟨"ReadingStages", "placesWith", "(I)I"⟩, 11)]
theorem lw_r1 : ∀ q ∈ lw_privs_1, lw_okq q := List.forall_mem_cons.mpr ⟨lw_p0, List.forall_mem_cons.mpr ⟨lw_p1, List.forall_mem_cons.mpr ⟨lw_p2, List.forall_mem_cons.mpr ⟨lw_p3, List.forall_mem_cons.mpr ⟨lw_p4, List.forall_mem_cons.mpr ⟨lw_p5, List.forall_mem_cons.mpr ⟨lw_p6, List.forall_mem_cons.mpr ⟨lw_p7, List.forall_mem_cons.mpr ⟨lw_p8, List.forall_mem_cons.mpr ⟨lw_p9, List.forall_mem_cons.mpr ⟨lw_p10, List.forall_mem_cons.mpr ⟨lw_p11, List.forall_mem_cons.mpr ⟨lw_p12, List.forall_mem_cons.mpr ⟨lw_p13, List.forall_mem_cons.mpr ⟨lw_p14, List.forall_mem_cons.mpr ⟨lw_p15, fun _ h => absurd h List.not_mem_nil⟩⟩⟩⟩⟩⟩⟩⟩⟩⟩⟩⟩⟩⟩⟩⟩
theorem lw_p16 : lw_okq (⟨"ReadingStages", "waysToKeep", "(II)I"⟩, 11) := ⟨⟨by decide +kernel, by decide +kernel⟩, List.mem_of_getElem? (i := 18) (by decide +kernel), List.mem_of_getElem? (i := 578) (by decide +kernel), List.mem_of_getElem? (i := 579) (by decide +kernel)⟩
theorem lw_p17 : lw_okq (⟨"ReadingStages", "writeNote", "()V"⟩, 11) := ⟨⟨by decide +kernel, by decide +kernel⟩, List.mem_of_getElem? (i := 18) (by decide +kernel), List.mem_of_getElem? (i := 597) (by decide +kernel), List.mem_of_getElem? (i := 598) (by decide +kernel)⟩
theorem lw_p18 : lw_okq (⟨"ReadingStages$Parser", "takesRule", "()Z"⟩, 3) := ⟨⟨by decide +kernel, by decide +kernel⟩, List.mem_of_getElem? (i := 96) (by decide +kernel), List.mem_of_getElem? (i := 677) (by decide +kernel), List.mem_of_getElem? (i := 678) (by decide +kernel)⟩
theorem lw_p19 : lw_okq (⟨"ReadingStages$Parser", "next", "()C"⟩, 3) := ⟨⟨by decide +kernel, by decide +kernel⟩, List.mem_of_getElem? (i := 96) (by decide +kernel), List.mem_of_getElem? (i := 681) (by decide +kernel), List.mem_of_getElem? (i := 682) (by decide +kernel)⟩
theorem lw_p20 : lw_okq (⟨"ReadingStages$Parser", "isName", "(Ljava/lang/String;II)Z"⟩, 3) := ⟨⟨by decide +kernel, by decide +kernel⟩, List.mem_of_getElem? (i := 96) (by decide +kernel), List.mem_of_getElem? (i := 692) (by decide +kernel), List.mem_of_getElem? (i := 693) (by decide +kernel)⟩
theorem lw_p21 : lw_okq (⟨"ReadingStages$Parser", "takesSpan", "()Z"⟩, 3) := ⟨⟨by decide +kernel, by decide +kernel⟩, List.mem_of_getElem? (i := 96) (by decide +kernel), List.mem_of_getElem? (i := 698) (by decide +kernel), List.mem_of_getElem? (i := 699) (by decide +kernel)⟩
theorem lw_p22 : lw_okq (⟨"ReadingStages$Parser", "nextFigure", "()I"⟩, 3) := ⟨⟨by decide +kernel, by decide +kernel⟩, List.mem_of_getElem? (i := 96) (by decide +kernel), List.mem_of_getElem? (i := 702) (by decide +kernel), List.mem_of_getElem? (i := 703) (by decide +kernel)⟩
theorem lw_p23 : lw_okq (⟨"ReadingStages$Parser", "takesSign", "(C)Z"⟩, 3) := ⟨⟨by decide +kernel, by decide +kernel⟩, List.mem_of_getElem? (i := 96) (by decide +kernel), List.mem_of_getElem? (i := 706) (by decide +kernel), List.mem_of_getElem? (i := 707) (by decide +kernel)⟩
theorem lw_p24 : lw_okq (⟨"ReadingStages$Parser", "takesBooks", "()Z"⟩, 3) := ⟨⟨by decide +kernel, by decide +kernel⟩, List.mem_of_getElem? (i := 96) (by decide +kernel), List.mem_of_getElem? (i := 710) (by decide +kernel), List.mem_of_getElem? (i := 711) (by decide +kernel)⟩
theorem lw_p25 : lw_okq (⟨"ReadingStages$Parser", "takesBook", "()Z"⟩, 3) := ⟨⟨by decide +kernel, by decide +kernel⟩, List.mem_of_getElem? (i := 96) (by decide +kernel), List.mem_of_getElem? (i := 714) (by decide +kernel), List.mem_of_getElem? (i := 715) (by decide +kernel)⟩
theorem lw_p26 : lw_okq (⟨"ReadingStages$Parser", "isAtEnd", "()Z"⟩, 3) := ⟨⟨by decide +kernel, by decide +kernel⟩, List.mem_of_getElem? (i := 96) (by decide +kernel), List.mem_of_getElem? (i := 719) (by decide +kernel), List.mem_of_getElem? (i := 720) (by decide +kernel)⟩
theorem lw_p27 : lw_okq (⟨"ReadingStages$Parser", "takesPairs", "()Z"⟩, 3) := ⟨⟨by decide +kernel, by decide +kernel⟩, List.mem_of_getElem? (i := 96) (by decide +kernel), List.mem_of_getElem? (i := 723) (by decide +kernel), List.mem_of_getElem? (i := 724) (by decide +kernel)⟩
theorem lw_p28 : lw_okq (⟨"ReadingStages$Parser", "takesPair", "()Z"⟩, 3) := ⟨⟨by decide +kernel, by decide +kernel⟩, List.mem_of_getElem? (i := 96) (by decide +kernel), List.mem_of_getElem? (i := 727) (by decide +kernel), List.mem_of_getElem? (i := 728) (by decide +kernel)⟩
theorem lw_p29 : lw_okq (⟨"ReadingStages", "takeTurn", "()V"⟩, 11) := ⟨⟨by decide +kernel, by decide +kernel⟩, List.mem_of_getElem? (i := 18) (by decide +kernel), List.mem_of_getElem? (i := 738) (by decide +kernel), List.mem_of_getElem? (i := 739) (by decide +kernel)⟩
theorem lw_p30 : lw_okq (⟨"ReadingStages", "faultOfRow", "(IIII)I"⟩, 11) := ⟨⟨by decide +kernel, by decide +kernel⟩, List.mem_of_getElem? (i := 18) (by decide +kernel), List.mem_of_getElem? (i := 778) (by decide +kernel), List.mem_of_getElem? (i := 779) (by decide +kernel)⟩
theorem lw_p31 : lw_okq (⟨"ReadingStages$Sheet", "cut", "(J)J"⟩, 3) := ⟨⟨by decide +kernel, by decide +kernel⟩, List.mem_of_getElem? (i := 230) (by decide +kernel), List.mem_of_getElem? (i := 809) (by decide +kernel), List.mem_of_getElem? (i := 810) (by decide +kernel)⟩
def lw_privs_2 : List (MethodName × Nat) := [(⟨"ReadingStages", "waysToKeep", "(II)I"⟩, 11), (⟨"ReadingStages", "writeNote", "()V"⟩, 11), (⟨"ReadingStages$Parser", "takesRule", "()Z"⟩, 3), (⟨"ReadingStages$Parser", "next", "()C"⟩, 3), (⟨"ReadingStages$Parser", "isName", "(Ljava/lang/String;II)Z"⟩, 3), (⟨"ReadingStages$Parser", "takesSpan", "()Z"⟩, 3), (⟨"ReadingStages$Parser", "nextFigure", "()I"⟩, 3), (⟨"ReadingStages$Parser", "takesSign", "(C)Z"⟩, 3), (⟨"ReadingStages$Parser", "takesBooks", "()Z"⟩, 3), (⟨"ReadingStages$Parser", "takesBook", "()Z"⟩, 3), (⟨"ReadingStages$Parser", "isAtEnd", "()Z"⟩, 3), (⟨"ReadingStages$Parser", "takesPairs", "()Z"⟩, 3), (⟨"ReadingStages$Parser", "takesPair", "()Z"⟩, 3), (⟨"ReadingStages", "takeTurn", "()V"⟩, 11), (⟨"ReadingStages", "faultOfRow", "(IIII)I"⟩, 11), (⟨"ReadingStages$Sheet", "cut", "(J)J"⟩, 3)]
theorem lw_r2 : ∀ q ∈ lw_privs_2, lw_okq q := List.forall_mem_cons.mpr ⟨lw_p16, List.forall_mem_cons.mpr ⟨lw_p17, List.forall_mem_cons.mpr ⟨lw_p18, List.forall_mem_cons.mpr ⟨lw_p19, List.forall_mem_cons.mpr ⟨lw_p20, List.forall_mem_cons.mpr ⟨lw_p21, List.forall_mem_cons.mpr ⟨lw_p22, List.forall_mem_cons.mpr ⟨lw_p23, List.forall_mem_cons.mpr ⟨lw_p24, List.forall_mem_cons.mpr ⟨lw_p25, List.forall_mem_cons.mpr ⟨lw_p26, List.forall_mem_cons.mpr ⟨lw_p27, List.forall_mem_cons.mpr ⟨lw_p28, List.forall_mem_cons.mpr ⟨lw_p29, List.forall_mem_cons.mpr ⟨lw_p30, List.forall_mem_cons.mpr ⟨lw_p31, fun _ h => absurd h List.not_mem_nil⟩⟩⟩⟩⟩⟩⟩⟩⟩⟩⟩⟩⟩⟩⟩⟩
theorem lw_p32 : lw_okq (⟨"ReadingStagesModel", "takesOrder", "()V"⟩, 27) := ⟨⟨by decide +kernel, by decide +kernel⟩, List.mem_of_getElem? (i := 834) (by decide +kernel), List.mem_of_getElem? (i := 929) (by decide +kernel), List.mem_of_getElem? (i := 930) (by decide +kernel)⟩
theorem lw_p33 : lw_okq (⟨"ReadingStagesModel", "readsOrder", "()V"⟩, 27) := ⟨⟨by decide +kernel, by decide +kernel⟩, List.mem_of_getElem? (i := 834) (by decide +kernel), List.mem_of_getElem? (i := 933) (by decide +kernel), List.mem_of_getElem? (i := 934) (by decide +kernel)⟩
theorem lw_p34 : lw_okq (⟨"ReadingStagesModel", "begins", "()V"⟩, 27) := ⟨⟨by decide +kernel, by decide +kernel⟩, List.mem_of_getElem? (i := 834) (by decide +kernel), List.mem_of_getElem? (i := 937) (by decide +kernel), List.mem_of_getElem? (i := 938) (by decide +kernel)⟩
theorem lw_p35 : lw_okq (⟨"ReadingStagesModel", "wordsAt", "(I)I"⟩, 27) := ⟨⟨by decide +kernel, by decide +kernel⟩, List.mem_of_getElem? (i := 834) (by decide +kernel), List.mem_of_getElem? (i := 941) (by decide +kernel), List.mem_of_getElem? (i := 942) (by decide +kernel)⟩
theorem lw_p36 : lw_okq (⟨"ReadingStagesModel", "reads", "(II)V"⟩, 27) := ⟨⟨by decide +kernel, by decide +kernel⟩, List.mem_of_getElem? (i := 834) (by decide +kernel), List.mem_of_getElem? (i := 945) (by decide +kernel), List.mem_of_getElem? (i := 946) (by decide +kernel)⟩
theorem lw_p37 : lw_okq (⟨"ReadingStagesModel", "lasts", "(I)I"⟩, 27) := ⟨⟨by decide +kernel, by decide +kernel⟩, List.mem_of_getElem? (i := 834) (by decide +kernel), List.mem_of_getElem? (i := 952) (by decide +kernel), List.mem_of_getElem? (i := 953) (by decide +kernel)⟩
theorem lw_p38 : lw_okq (⟨"ReadingStagesModel", "isBook", "(I)Z"⟩, 27) := ⟨⟨by decide +kernel, by decide +kernel⟩, List.mem_of_getElem? (i := 834) (by decide +kernel), List.mem_of_getElem? (i := 968) (by decide +kernel), List.mem_of_getElem? (i := 969) (by decide +kernel)⟩
theorem lw_p39 : lw_okq (⟨"ReadingStagesModel", "aheadOf", "(I)I"⟩, 27) := ⟨⟨by decide +kernel, by decide +kernel⟩, List.mem_of_getElem? (i := 834) (by decide +kernel), List.mem_of_getElem? (i := 972) (by decide +kernel), List.mem_of_getElem? (i := 973) (by decide +kernel)⟩
theorem lw_p40 : lw_okq (⟨"ReadingStagesModel", "placeOf", "(I)I"⟩, 27) := ⟨⟨by decide +kernel, by decide +kernel⟩, List.mem_of_getElem? (i := 834) (by decide +kernel), List.mem_of_getElem? (i := 976) (by decide +kernel), List.mem_of_getElem? (i := 977) (by decide +kernel)⟩
theorem lw_p41 : lw_okq (⟨"ReadingStagesModel", "number", "()I"⟩, 27) := ⟨⟨by decide +kernel, by decide +kernel⟩, List.mem_of_getElem? (i := 834) (by decide +kernel), List.mem_of_getElem? (i := 984) (by decide +kernel), List.mem_of_getElem? (i := 985) (by decide +kernel)⟩
theorem lw_p42 : lw_okq (⟨"ReadingStagesModel", "peak", "()I"⟩, 27) := ⟨⟨by decide +kernel, by decide +kernel⟩, List.mem_of_getElem? (i := 834) (by decide +kernel), List.mem_of_getElem? (i := 988) (by decide +kernel), List.mem_of_getElem? (i := 989) (by decide +kernel)⟩
theorem lw_p43 : lw_okq (⟨"ReadingStagesModel", "loss", "()I"⟩, 27) := ⟨⟨by decide +kernel, by decide +kernel⟩, List.mem_of_getElem? (i := 834) (by decide +kernel), List.mem_of_getElem? (i := 992) (by decide +kernel), List.mem_of_getElem? (i := 993) (by decide +kernel)⟩
theorem lw_p44 : lw_okq (⟨"ReadingStagesModel", "isHolding", "()Z"⟩, 27) := ⟨⟨by decide +kernel, by decide +kernel⟩, List.mem_of_getElem? (i := 834) (by decide +kernel), List.mem_of_getElem? (i := 996) (by decide +kernel), List.mem_of_getElem? (i := 997) (by decide +kernel)⟩
theorem lw_p45 : lw_okq (⟨"ReadingStagesModel", "laysBest", "()V"⟩, 27) := ⟨⟨by decide +kernel, by decide +kernel⟩, List.mem_of_getElem? (i := 834) (by decide +kernel), List.mem_of_getElem? (i := 1005) (by decide +kernel), List.mem_of_getElem? (i := 1006) (by decide +kernel)⟩
theorem lw_p46 : lw_okq (⟨"ReadingStagesModel", "firstOrder", "()V"⟩, 27) := ⟨⟨by decide +kernel, by decide +kernel⟩, List.mem_of_getElem? (i := 834) (by decide +kernel), List.mem_of_getElem? (i := 1009) (by decide +kernel), List.mem_of_getElem? (i := 1010) (by decide +kernel)⟩
theorem lw_p47 : lw_okq (⟨"ReadingStagesModel", "nextOrder", "()Z"⟩, 27) := ⟨⟨by decide +kernel, by decide +kernel⟩, List.mem_of_getElem? (i := 834) (by decide +kernel), List.mem_of_getElem? (i := 1013) (by decide +kernel), List.mem_of_getElem? (i := 1014) (by decide +kernel)⟩
def lw_privs_3 : List (MethodName × Nat) := [(⟨"ReadingStagesModel", "takesOrder", "()V"⟩, 27), (⟨"ReadingStagesModel", "readsOrder", "()V"⟩, 27), (⟨"ReadingStagesModel", "begins", "()V"⟩, 27), (⟨"ReadingStagesModel", "wordsAt", "(I)I"⟩, 27), (⟨"ReadingStagesModel", "reads", "(II)V"⟩, 27), (⟨"ReadingStagesModel", "lasts", "(I)I"⟩, 27), (⟨"ReadingStagesModel", "isBook", "(I)Z"⟩, 27), (⟨"ReadingStagesModel", "aheadOf", "(I)I"⟩, 27), (⟨"ReadingStagesModel", "placeOf", "(I)I"⟩, 27), (⟨"ReadingStagesModel", "number", "()I"⟩, 27), (⟨"ReadingStagesModel", "peak", "()I"⟩, 27), (⟨"ReadingStagesModel", "loss", "()I"⟩, 27), (⟨"ReadingStagesModel", "isHolding", "()Z"⟩, 27), (⟨"ReadingStagesModel", "laysBest", "()V"⟩, 27), (⟨"ReadingStagesModel", "firstOrder", "()V"⟩, 27), (⟨"ReadingStagesModel", "nextOrder", "()Z"⟩, 27)]
theorem lw_r3 : ∀ q ∈ lw_privs_3, lw_okq q := List.forall_mem_cons.mpr ⟨lw_p32, List.forall_mem_cons.mpr ⟨lw_p33, List.forall_mem_cons.mpr ⟨lw_p34, List.forall_mem_cons.mpr ⟨lw_p35, List.forall_mem_cons.mpr ⟨lw_p36, List.forall_mem_cons.mpr ⟨lw_p37, List.forall_mem_cons.mpr ⟨lw_p38, List.forall_mem_cons.mpr ⟨lw_p39, List.forall_mem_cons.mpr ⟨lw_p40, List.forall_mem_cons.mpr ⟨lw_p41, List.forall_mem_cons.mpr ⟨lw_p42, List.forall_mem_cons.mpr ⟨lw_p43, List.forall_mem_cons.mpr ⟨lw_p44, List.forall_mem_cons.mpr ⟨lw_p45, List.forall_mem_cons.mpr ⟨lw_p46, List.forall_mem_cons.mpr ⟨lw_p47, fun _ h => absurd h List.not_mem_nil⟩⟩⟩⟩⟩⟩⟩⟩⟩⟩⟩⟩⟩⟩⟩⟩
theorem lw_p48 : lw_okq (⟨"ReadingStagesModel", "grows", "()V"⟩, 27) := ⟨⟨by decide +kernel, by decide +kernel⟩, List.mem_of_getElem? (i := 834) (by decide +kernel), List.mem_of_getElem? (i := 1017) (by decide +kernel), List.mem_of_getElem? (i := 1018) (by decide +kernel)⟩
theorem lw_p49 : lw_okq (⟨"ReadingStagesModel", "writesNote", "()V"⟩, 27) := ⟨⟨by decide +kernel, by decide +kernel⟩, List.mem_of_getElem? (i := 834) (by decide +kernel), List.mem_of_getElem? (i := 1038) (by decide +kernel), List.mem_of_getElem? (i := 1039) (by decide +kernel)⟩
theorem lw_p50 : lw_okq (⟨"ReadingStagesModel", "writes", "(I)V"⟩, 27) := ⟨⟨by decide +kernel, by decide +kernel⟩, List.mem_of_getElem? (i := 834) (by decide +kernel), List.mem_of_getElem? (i := 1042) (by decide +kernel), List.mem_of_getElem? (i := 1043) (by decide +kernel)⟩
theorem lw_p51 : lw_okq (⟨"ReadingStagesModel", "writesNumber", "(I)V"⟩, 27) := ⟨⟨by decide +kernel, by decide +kernel⟩, List.mem_of_getElem? (i := 834) (by decide +kernel), List.mem_of_getElem? (i := 1046) (by decide +kernel), List.mem_of_getElem? (i := 1047) (by decide +kernel)⟩
theorem lw_p52 : lw_okq (⟨"ReadingStagesModel", "holds", "()V"⟩, 27) := ⟨⟨by decide +kernel, by decide +kernel⟩, List.mem_of_getElem? (i := 834) (by decide +kernel), List.mem_of_getElem? (i := 1054) (by decide +kernel), List.mem_of_getElem? (i := 1055) (by decide +kernel)⟩
theorem lw_p53 : lw_okq (⟨"ReadingStagesModel", "adds", "(I)I"⟩, 27) := ⟨⟨by decide +kernel, by decide +kernel⟩, List.mem_of_getElem? (i := 834) (by decide +kernel), List.mem_of_getElem? (i := 1058) (by decide +kernel), List.mem_of_getElem? (i := 1059) (by decide +kernel)⟩
theorem lw_p54 : lw_okq (⟨"ReadingStagesModel", "acted", "(I)I"⟩, 27) := ⟨⟨by decide +kernel, by decide +kernel⟩, List.mem_of_getElem? (i := 834) (by decide +kernel), List.mem_of_getElem? (i := 1066) (by decide +kernel), List.mem_of_getElem? (i := 1067) (by decide +kernel)⟩
theorem lw_p55 : lw_okq (⟨"ReadingStagesModel", "notes", "()V"⟩, 27) := ⟨⟨by decide +kernel, by decide +kernel⟩, List.mem_of_getElem? (i := 834) (by decide +kernel), List.mem_of_getElem? (i := 1070) (by decide +kernel), List.mem_of_getElem? (i := 1071) (by decide +kernel)⟩
theorem lw_p56 : lw_okq (⟨"ReadingStagesModel", "changes", "(II)I"⟩, 27) := ⟨⟨by decide +kernel, by decide +kernel⟩, List.mem_of_getElem? (i := 834) (by decide +kernel), List.mem_of_getElem? (i := 1078) (by decide +kernel), List.mem_of_getElem? (i := 1079) (by decide +kernel)⟩
theorem lw_p57 : lw_okq (⟨"ReadingStagesModel", "loses", "(I)I"⟩, 27) := ⟨⟨by decide +kernel, by decide +kernel⟩, List.mem_of_getElem? (i := 834) (by decide +kernel), List.mem_of_getElem? (i := 1086) (by decide +kernel), List.mem_of_getElem? (i := 1087) (by decide +kernel)⟩
theorem lw_p58 : lw_okq (⟨"ReadingStagesModel", "puts", "(II)I"⟩, 27) := ⟨⟨by decide +kernel, by decide +kernel⟩, List.mem_of_getElem? (i := 834) (by decide +kernel), List.mem_of_getElem? (i := 1097) (by decide +kernel), List.mem_of_getElem? (i := 1098) (by decide +kernel)⟩
theorem lw_p59 : lw_okq (⟨"ReadingStagesModel", "comesTo", "(II)Z"⟩, 27) := ⟨⟨by decide +kernel, by decide +kernel⟩, List.mem_of_getElem? (i := 834) (by decide +kernel), List.mem_of_getElem? (i := 1101) (by decide +kernel), List.mem_of_getElem? (i := 1102) (by decide +kernel)⟩
theorem lw_p60 : lw_okq (⟨"ReadingStagesModel", "sets", "(I)I"⟩, 27) := ⟨⟨by decide +kernel, by decide +kernel⟩, List.mem_of_getElem? (i := 834) (by decide +kernel), List.mem_of_getElem? (i := 1109) (by decide +kernel), List.mem_of_getElem? (i := 1110) (by decide +kernel)⟩
theorem lw_p61 : lw_okq (⟨"ReadingStagesModel", "tells", "(II)I"⟩, 27) := ⟨⟨by decide +kernel, by decide +kernel⟩, List.mem_of_getElem? (i := 834) (by decide +kernel), List.mem_of_getElem? (i := 1117) (by decide +kernel), List.mem_of_getElem? (i := 1118) (by decide +kernel)⟩
theorem lw_p62 : lw_okq (⟨"ReadingStagesModel", "shifts", "(II)I"⟩, 27) := ⟨⟨by decide +kernel, by decide +kernel⟩, List.mem_of_getElem? (i := 834) (by decide +kernel), List.mem_of_getElem? (i := 1128) (by decide +kernel), List.mem_of_getElem? (i := 1129) (by decide +kernel)⟩
theorem lw_p63 : lw_okq (⟨"ReadingStagesModel", "settles", "(I)I"⟩, 27) := ⟨⟨by decide +kernel, by decide +kernel⟩, List.mem_of_getElem? (i := 834) (by decide +kernel), List.mem_of_getElem? (i := 1136) (by decide +kernel), List.mem_of_getElem? (i := 1137) (by decide +kernel)⟩
def lw_privs_4 : List (MethodName × Nat) := [(⟨"ReadingStagesModel", "grows", "()V"⟩, 27), (⟨"ReadingStagesModel", "writesNote", "()V"⟩, 27), (⟨"ReadingStagesModel", "writes", "(I)V"⟩, 27), (⟨"ReadingStagesModel", "writesNumber", "(I)V"⟩, 27), (⟨"ReadingStagesModel", "holds", "()V"⟩, 27), (⟨"ReadingStagesModel", "adds", "(I)I"⟩, 27), (⟨"ReadingStagesModel", "acted", "(I)I"⟩, 27), (⟨"ReadingStagesModel", "notes", "()V"⟩, 27), (⟨"ReadingStagesModel", "changes", "(II)I"⟩, 27), (⟨"ReadingStagesModel", "loses", "(I)I"⟩, 27), (⟨"ReadingStagesModel", "puts", "(II)I"⟩, 27), (⟨"ReadingStagesModel", "comesTo", "(II)Z"⟩, 27), (⟨"ReadingStagesModel", "sets", "(I)I"⟩, 27), (⟨"ReadingStagesModel", "tells", "(II)I"⟩, 27), (⟨"ReadingStagesModel", "shifts", "(II)I"⟩, 27), (⟨"ReadingStagesModel", "settles", "(I)I"⟩, 27)]
theorem lw_r4 : ∀ q ∈ lw_privs_4, lw_okq q := List.forall_mem_cons.mpr ⟨lw_p48, List.forall_mem_cons.mpr ⟨lw_p49, List.forall_mem_cons.mpr ⟨lw_p50, List.forall_mem_cons.mpr ⟨lw_p51, List.forall_mem_cons.mpr ⟨lw_p52, List.forall_mem_cons.mpr ⟨lw_p53, List.forall_mem_cons.mpr ⟨lw_p54, List.forall_mem_cons.mpr ⟨lw_p55, List.forall_mem_cons.mpr ⟨lw_p56, List.forall_mem_cons.mpr ⟨lw_p57, List.forall_mem_cons.mpr ⟨lw_p58, List.forall_mem_cons.mpr ⟨lw_p59, List.forall_mem_cons.mpr ⟨lw_p60, List.forall_mem_cons.mpr ⟨lw_p61, List.forall_mem_cons.mpr ⟨lw_p62, List.forall_mem_cons.mpr ⟨lw_p63, fun _ h => absurd h List.not_mem_nil⟩⟩⟩⟩⟩⟩⟩⟩⟩⟩⟩⟩⟩⟩⟩⟩
theorem lw_p64 : lw_okq (⟨"ReadingStagesModel", "readsAll", "()Z"⟩, 27) := ⟨⟨by decide +kernel, by decide +kernel⟩, List.mem_of_getElem? (i := 834) (by decide +kernel), List.mem_of_getElem? (i := 1150) (by decide +kernel), List.mem_of_getElem? (i := 1151) (by decide +kernel)⟩
theorem lw_p65 : lw_okq (⟨"ReadingStagesModel", "rule", "()I"⟩, 27) := ⟨⟨by decide +kernel, by decide +kernel⟩, List.mem_of_getElem? (i := 834) (by decide +kernel), List.mem_of_getElem? (i := 1154) (by decide +kernel), List.mem_of_getElem? (i := 1155) (by decide +kernel)⟩
theorem lw_p66 : lw_okq (⟨"ReadingStagesModel", "here", "()I"⟩, 27) := ⟨⟨by decide +kernel, by decide +kernel⟩, List.mem_of_getElem? (i := 834) (by decide +kernel), List.mem_of_getElem? (i := 1158) (by decide +kernel), List.mem_of_getElem? (i := 1159) (by decide +kernel)⟩
theorem lw_p67 : lw_okq (⟨"ReadingStagesModel", "isWord", "(IIIII)Z"⟩, 27) := ⟨⟨by decide +kernel, by decide +kernel⟩, List.mem_of_getElem? (i := 834) (by decide +kernel), List.mem_of_getElem? (i := 1162) (by decide +kernel), List.mem_of_getElem? (i := 1163) (by decide +kernel)⟩
theorem lw_p68 : lw_okq (⟨"ReadingStagesModel", "isAt", "(III)Z"⟩, 27) := ⟨⟨by decide +kernel, by decide +kernel⟩, List.mem_of_getElem? (i := 834) (by decide +kernel), List.mem_of_getElem? (i := 1166) (by decide +kernel), List.mem_of_getElem? (i := 1167) (by decide +kernel)⟩
theorem lw_p69 : lw_okq (⟨"ReadingStagesModel", "isMore", "(IIIII)Z"⟩, 27) := ⟨⟨by decide +kernel, by decide +kernel⟩, List.mem_of_getElem? (i := 834) (by decide +kernel), List.mem_of_getElem? (i := 1170) (by decide +kernel), List.mem_of_getElem? (i := 1171) (by decide +kernel)⟩
theorem lw_p70 : lw_okq (⟨"ReadingStagesModel", "figure", "(II)I"⟩, 27) := ⟨⟨by decide +kernel, by decide +kernel⟩, List.mem_of_getElem? (i := 834) (by decide +kernel), List.mem_of_getElem? (i := 1174) (by decide +kernel), List.mem_of_getElem? (i := 1175) (by decide +kernel)⟩
theorem lw_p71 : lw_okq (⟨"ReadingStagesModel", "takes", "(I)Z"⟩, 27) := ⟨⟨by decide +kernel, by decide +kernel⟩, List.mem_of_getElem? (i := 834) (by decide +kernel), List.mem_of_getElem? (i := 1178) (by decide +kernel), List.mem_of_getElem? (i := 1179) (by decide +kernel)⟩
theorem lw_p72 : lw_okq (⟨"ReadingStagesModel", "readsBook", "()Z"⟩, 27) := ⟨⟨by decide +kernel, by decide +kernel⟩, List.mem_of_getElem? (i := 834) (by decide +kernel), List.mem_of_getElem? (i := 1182) (by decide +kernel), List.mem_of_getElem? (i := 1183) (by decide +kernel)⟩
theorem lw_p73 : lw_okq (⟨"ReadingStagesModel", "readsPair", "()Z"⟩, 27) := ⟨⟨by decide +kernel, by decide +kernel⟩, List.mem_of_getElem? (i := 834) (by decide +kernel), List.mem_of_getElem? (i := 1188) (by decide +kernel), List.mem_of_getElem? (i := 1189) (by decide +kernel)⟩
theorem lw_p74 : lw_okq (⟨"ReadingStagesModel", "draws", "(I)I"⟩, 27) := ⟨⟨by decide +kernel, by decide +kernel⟩, List.mem_of_getElem? (i := 834) (by decide +kernel), List.mem_of_getElem? (i := 1198) (by decide +kernel), List.mem_of_getElem? (i := 1199) (by decide +kernel)⟩
theorem lw_p75 : lw_okq (⟨"ReadingStagesModel", "does", "(II)I"⟩, 27) := ⟨⟨by decide +kernel, by decide +kernel⟩, List.mem_of_getElem? (i := 834) (by decide +kernel), List.mem_of_getElem? (i := 1206) (by decide +kernel), List.mem_of_getElem? (i := 1207) (by decide +kernel)⟩
theorem lw_p76 : lw_okq (⟨"ReadingStagesModel", "found", "(IIII)I"⟩, 27) := ⟨⟨by decide +kernel, by decide +kernel⟩, List.mem_of_getElem? (i := 834) (by decide +kernel), List.mem_of_getElem? (i := 1234) (by decide +kernel), List.mem_of_getElem? (i := 1235) (by decide +kernel)⟩
def lw_privs_5 : List (MethodName × Nat) := [(⟨"ReadingStagesModel", "readsAll", "()Z"⟩, 27), (⟨"ReadingStagesModel", "rule", "()I"⟩, 27), (⟨"ReadingStagesModel", "here", "()I"⟩, 27), (⟨"ReadingStagesModel", "isWord", "(IIIII)Z"⟩, 27), (⟨"ReadingStagesModel", "isAt", "(III)Z"⟩, 27), (⟨"ReadingStagesModel", "isMore", "(IIIII)Z"⟩, 27), (⟨"ReadingStagesModel", "figure", "(II)I"⟩, 27), (⟨"ReadingStagesModel", "takes", "(I)Z"⟩, 27), (⟨"ReadingStagesModel", "readsBook", "()Z"⟩, 27), (⟨"ReadingStagesModel", "readsPair", "()Z"⟩, 27), (⟨"ReadingStagesModel", "draws", "(I)I"⟩, 27), (⟨"ReadingStagesModel", "does", "(II)I"⟩, 27), (⟨"ReadingStagesModel", "found", "(IIII)I"⟩, 27)]
theorem lw_r5 : ∀ q ∈ lw_privs_5, lw_okq q := List.forall_mem_cons.mpr ⟨lw_p64, List.forall_mem_cons.mpr ⟨lw_p65, List.forall_mem_cons.mpr ⟨lw_p66, List.forall_mem_cons.mpr ⟨lw_p67, List.forall_mem_cons.mpr ⟨lw_p68, List.forall_mem_cons.mpr ⟨lw_p69, List.forall_mem_cons.mpr ⟨lw_p70, List.forall_mem_cons.mpr ⟨lw_p71, List.forall_mem_cons.mpr ⟨lw_p72, List.forall_mem_cons.mpr ⟨lw_p73, List.forall_mem_cons.mpr ⟨lw_p74, List.forall_mem_cons.mpr ⟨lw_p75, List.forall_mem_cons.mpr ⟨lw_p76, fun _ h => absurd h List.not_mem_nil⟩⟩⟩⟩⟩⟩⟩⟩⟩⟩⟩⟩⟩
def lw_privs : List (MethodName × Nat) := lw_privs_1 ++ (lw_privs_2 ++ (lw_privs_3 ++ (lw_privs_4 ++ (lw_privs_5))))
def lw_tbl : List Cond := k2_sels lw_privs ++ tables_1
theorem lw_privs_ok : ∀ q ∈ lw_privs, lw_okq q := by
  show ∀ q ∈ lw_privs_1 ++ (lw_privs_2 ++ (lw_privs_3 ++ (lw_privs_4 ++ (lw_privs_5)))), lw_okq q
  exact List.forall_mem_append.mpr ⟨lw_r1, List.forall_mem_append.mpr ⟨lw_r2, List.forall_mem_append.mpr ⟨lw_r3, List.forall_mem_append.mpr ⟨lw_r4, lw_r5⟩⟩⟩⟩
end
section
theorem goodIn_r {big : List Cond} (ws : List Cond) (ps : List Nat) (hp : ws = ps.filterMap (fun i => big[i]?)) (h : ws.all goodWord = true) : GoodIn big ws := by
  intro w hw
  have h1 := List.all_eq_true.mp h w hw
  rw [hp] at hw
  obtain ⟨i, -, hi⟩ := List.mem_filterMap.mp hw
  have hm : w ∈ big := by first | exact List.mem_of_getElem? hi | exact List.getElem?_mem hi
  exact ⟨hm, good_of_word h1⟩
theorem goodIn_app {big a b : List Cond} (ha : GoodIn big a) (hb : GoodIn big b) : GoodIn big (a ++ b) := fun w h => (List.mem_append.mp h).elim (ha w) (hb w)
theorem goodIn_ca {big a b : List Cond} {c : Cond} (ha : GoodIn big (c :: a)) (hb : GoodIn big b) : GoodIn big (c :: (a ++ b)) := fun w h => (List.mem_cons.mp h).elim (fun e => ha w (List.mem_cons.mpr (Or.inl e))) (fun h => (List.mem_append.mp h).elim (fun h => ha w (List.mem_cons.mpr (Or.inr h))) (hb w))
theorem goodIn_sub {big ws : List Cond} (hm : ∀ w ∈ ws, w ∈ big) (h : ws.all goodWord = true) : GoodIn big ws := fun w hw => ⟨hm w hw, good_of_word (List.all_eq_true.mp h w hw)⟩
def RX0 : String := "ReadingStages$Letters"
def TX0 : u_T := fun k => match k with
  | 0 => ("ReadingStages$Letters", "row", "[C", true)
  | _ => ("ReadingStages$Letters", "size", "I", false)
def tyX0 : Nat → FieldType := fun k => match k with
  | 0 => .array .char
  | _ => .int
abbrev wsX00 : List Cond := u_ws RX0 TX0 2
theorem nmX0 : ∀ a, a < 2 → ∀ b, b < 2 → a ≠ b → (TX0 a).2.1 ≠ (TX0 b).2.1 := by decide +kernel
theorem tyX0_ok : ∀ k, k < 2 → parseFieldDescriptor (TX0 k).2.2.1 = some (tyX0 k) := by decide +kernel
abbrev cX0_init : ByteArray := prog_2_method_1_code
def yX0_init : MethodName := ⟨RX0, "<init>", "(I)V"⟩
abbrev cX0_add : ByteArray := prog_2_method_2_code
def yX0_add : MethodName := ⟨RX0, "add", "(C)Z"⟩
abbrev cX0_addNumber : ByteArray := prog_2_method_3_code
def yX0_addNumber : MethodName := ⟨RX0, "addNumber", "(I)V"⟩
abbrev cX0_at : ByteArray := prog_2_method_4_code
def yX0_at : MethodName := ⟨RX0, "at", "(I)C"⟩
def RX1 : String := "ReadingStages$Parser"
def TX1 : u_T := fun k => match k with
  | 0 => ("ReadingStages$Parser", "tape", "LReadingStages$Letters;", true)
  | 1 => ("ReadingStages$Parser", "draft", "LReadingStages$State;", true)
  | _ => ("ReadingStages$Parser", "at", "I", false)
def tyX1 : Nat → FieldType := fun k => match k with
  | 0 => .object "ReadingStages$Letters"
  | 1 => .object "ReadingStages$State"
  | _ => .int
abbrev wsX10 : List Cond := u_ws RX1 TX1 3
theorem nmX1 : ∀ a, a < 3 → ∀ b, b < 3 → a ≠ b → (TX1 a).2.1 ≠ (TX1 b).2.1 := by decide +kernel
theorem tyX1_ok : ∀ k, k < 3 → parseFieldDescriptor (TX1 k).2.2.1 = some (tyX1 k) := by decide +kernel
abbrev cX1_init : ByteArray := prog_3_method_1_code
def yX1_init : MethodName := ⟨RX1, "<init>", "()V"⟩
abbrev cX1_parses : ByteArray := prog_3_method_2_code
def yX1_parses : MethodName := ⟨RX1, "parses", "(LReadingStages$State;)Z"⟩
abbrev cX1_next : ByteArray := prog_3_method_3_code
def yX1_next : MethodName := ⟨RX1, "next", "()C"⟩
abbrev cX1_isAtEnd : ByteArray := prog_3_method_4_code
def yX1_isAtEnd : MethodName := ⟨RX1, "isAtEnd", "()Z"⟩
abbrev cX1_takesSign : ByteArray := prog_3_method_5_code
def yX1_takesSign : MethodName := ⟨RX1, "takesSign", "(C)Z"⟩
abbrev cX1_nextFigure : ByteArray := prog_3_method_6_code
def yX1_nextFigure : MethodName := ⟨RX1, "nextFigure", "()I"⟩
abbrev cX1_takesRule : ByteArray := prog_3_method_7_code
def yX1_takesRule : MethodName := ⟨RX1, "takesRule", "()Z"⟩
abbrev cX1_nameOf : ByteArray := prog_3_method_8_code
def yX1_nameOf : MethodName := ⟨RX1, "nameOf", "(I)Ljava/lang/String;"⟩
abbrev cX1_isName : ByteArray := prog_3_method_9_code
def yX1_isName : MethodName := ⟨RX1, "isName", "(Ljava/lang/String;II)Z"⟩
abbrev cX1_takesSpan : ByteArray := prog_3_method_10_code
def yX1_takesSpan : MethodName := ⟨RX1, "takesSpan", "()Z"⟩
abbrev cX1_takesBooks : ByteArray := prog_3_method_11_code
def yX1_takesBooks : MethodName := ⟨RX1, "takesBooks", "()Z"⟩
abbrev cX1_takesBook : ByteArray := prog_3_method_12_code
def yX1_takesBook : MethodName := ⟨RX1, "takesBook", "()Z"⟩
abbrev cX1_takesPairs : ByteArray := prog_3_method_13_code
def yX1_takesPairs : MethodName := ⟨RX1, "takesPairs", "()Z"⟩
abbrev cX1_takesPair : ByteArray := prog_3_method_14_code
def yX1_takesPair : MethodName := ⟨RX1, "takesPair", "()Z"⟩
def RX2 : String := "ReadingStages$Past"
def TX2 : u_T := fun k => match k with
  | 0 => ("ReadingStages$Past", "states", "[LReadingStages$State;", true)
  | _ => ("ReadingStages$Past", "size", "I", false)
def tyX2 : Nat → FieldType := fun k => match k with
  | 0 => .array (.object "ReadingStages$State")
  | _ => .int
abbrev wsX20 : List Cond := u_ws RX2 TX2 2
theorem nmX2 : ∀ a, a < 2 → ∀ b, b < 2 → a ≠ b → (TX2 a).2.1 ≠ (TX2 b).2.1 := by decide +kernel
theorem tyX2_ok : ∀ k, k < 2 → parseFieldDescriptor (TX2 k).2.2.1 = some (tyX2 k) := by decide +kernel
abbrev cX2_init : ByteArray := prog_4_method_1_code
def yX2_init : MethodName := ⟨RX2, "<init>", "()V"⟩
abbrev cX2_keep : ByteArray := prog_4_method_2_code
def yX2_keep : MethodName := ⟨RX2, "keep", "(LReadingStages$State;)V"⟩
abbrev cX2_loseOldest : ByteArray := prog_4_method_3_code
def yX2_loseOldest : MethodName := ⟨RX2, "loseOldest", "()V"⟩
abbrev cX2_bringBack : ByteArray := prog_4_method_4_code
def yX2_bringBack : MethodName := ⟨RX2, "bringBack", "(LReadingStages$State;)Z"⟩
abbrev cX2_takeFrom : ByteArray := prog_4_method_5_code
def yX2_takeFrom : MethodName := ⟨RX2, "takeFrom", "(LReadingStages$Past;)V"⟩
def RX3 : String := "ReadingStages$Reading"
def TX3 : u_T := fun k => match k with
  | 0 => ("ReadingStages$Reading", "lasts", "[I", true)
  | 1 => ("ReadingStages$Reading", "ones", "[I", true)
  | 2 => ("ReadingStages$Reading", "twos", "[I", true)
  | 3 => ("ReadingStages$Reading", "fours", "[I", true)
  | 4 => ("ReadingStages$Reading", "due", "[[I", true)
  | 5 => ("ReadingStages$Reading", "places", "I", false)
  | 6 => ("ReadingStages$Reading", "fresh", "[I", true)
  | 7 => ("ReadingStages$Reading", "again", "[I", true)
  | _ => ("ReadingStages$Reading", "lost", "[I", true)
def tyX3 : Nat → FieldType := fun k => match k with
  | 0 => .array .int
  | 1 => .array .int
  | 2 => .array .int
  | 3 => .array .int
  | 4 => .array (.array .int)
  | 5 => .int
  | 6 => .array .int
  | 7 => .array .int
  | _ => .array .int
abbrev wsX30 : List Cond := u_ws RX3 TX3 9
theorem nmX3 : ∀ a, a < 9 → ∀ b, b < 9 → a ≠ b → (TX3 a).2.1 ≠ (TX3 b).2.1 := by decide +kernel
theorem tyX3_ok : ∀ k, k < 9 → parseFieldDescriptor (TX3 k).2.2.1 = some (tyX3 k) := by decide +kernel
abbrev cX3_init : ByteArray := prog_5_method_1_code
def yX3_init : MethodName := ⟨RX3, "<init>", "()V"⟩
abbrev cX3_begin : ByteArray := prog_5_method_2_code
def yX3_begin : MethodName := ⟨RX3, "begin", "(LReadingStages$State;)V"⟩
abbrev cX3_factor : ByteArray := prog_5_method_3_code
def yX3_factor : MethodName := ⟨RX3, "factor", "(II)I"⟩
abbrev cX3_readOrder : ByteArray := prog_5_method_4_code
def yX3_readOrder : MethodName := ⟨RX3, "readOrder", "(LReadingStages$State;)V"⟩
abbrev cX3_step : ByteArray := prog_5_method_5_code
def yX3_step : MethodName := ⟨RX3, "step", "(II)V"⟩
abbrev cX3_ofStrength : ByteArray := prog_5_method_6_code
def yX3_ofStrength : MethodName := ⟨RX3, "ofStrength", "(IIII)I"⟩
abbrev cX3_knownAhead : ByteArray := prog_5_method_7_code
def yX3_knownAhead : MethodName := ⟨RX3, "knownAhead", "(I)I"⟩
abbrev cX3_strengthBehindAll : ByteArray := prog_5_method_8_code
def yX3_strengthBehindAll : MethodName := ⟨RX3, "strengthBehindAll", "(I)I"⟩
abbrev cX3_keepsWordMetAt : ByteArray := prog_5_method_9_code
def yX3_keepsWordMetAt : MethodName := ⟨RX3, "keepsWordMetAt", "(I)Z"⟩
abbrev cX3_peak : ByteArray := prog_5_method_10_code
def yX3_peak : MethodName := ⟨RX3, "peak", "()I"⟩
abbrev cX3_loss : ByteArray := prog_5_method_11_code
def yX3_loss : MethodName := ⟨RX3, "loss", "()I"⟩
def RX4 : String := "ReadingStages$Search"
def TX4 : u_T := fun k => match k with
  | 0 => ("ReadingStages$Search", "reading", "LReadingStages$Reading;", true)
  | 1 => ("ReadingStages$Search", "sets", "[I", true)
  | 2 => ("ReadingStages$Search", "leaders", "[I", true)
  | 3 => ("ReadingStages$Search", "fewestFresh", "[I", true)
  | 4 => ("ReadingStages$Search", "mostFresh", "[I", true)
  | 5 => ("ReadingStages$Search", "row", "[I", true)
  | 6 => ("ReadingStages$Search", "n", "I", false)
  | 7 => ("ReadingStages$Search", "onlyBetter", "Z", false)
  | 8 => ("ReadingStages$Search", "wanted", "I", false)
  | 9 => ("ReadingStages$Search", "count", "I", false)
  | 10 => ("ReadingStages$Search", "found", "[I", true)
  | 11 => ("ReadingStages$Search", "peak", "I", false)
  | _ => ("ReadingStages$Search", "loss", "I", false)
def tyX4 : Nat → FieldType := fun k => match k with
  | 0 => .object "ReadingStages$Reading"
  | 1 => .array .int
  | 2 => .array .int
  | 3 => .array .int
  | 4 => .array .int
  | 5 => .array .int
  | 6 => .int
  | 7 => .boolean
  | 8 => .int
  | 9 => .int
  | 10 => .array .int
  | 11 => .int
  | _ => .int
abbrev wsX40 : List Cond := u_ws RX4 TX4 13
theorem nmX4 : ∀ a, a < 13 → ∀ b, b < 13 → a ≠ b → (TX4 a).2.1 ≠ (TX4 b).2.1 := by decide +kernel
theorem tyX4_ok : ∀ k, k < 13 → parseFieldDescriptor (TX4 k).2.2.1 = some (tyX4 k) := by decide +kernel
abbrev cX4_init : ByteArray := prog_6_method_1_code
def yX4_init : MethodName := ⟨RX4, "<init>", "()V"⟩
abbrev cX4_prepare : ByteArray := prog_6_method_2_code
def yX4_prepare : MethodName := ⟨RX4, "prepare", "(LReadingStages$State;)V"⟩
abbrev cX4_forgetLeaders : ByteArray := prog_6_method_3_code
def yX4_forgetLeaders : MethodName := ⟨RX4, "forgetLeaders", "()V"⟩
abbrev cX4_limitFresh : ByteArray := prog_6_method_4_code
def yX4_limitFresh : MethodName := ⟨RX4, "limitFresh", "(I)V"⟩
abbrev cX4_wantFresh : ByteArray := prog_6_method_5_code
def yX4_wantFresh : MethodName := ⟨RX4, "wantFresh", "(II)V"⟩
abbrev cX4_seek : ByteArray := prog_6_method_6_code
def yX4_seek : MethodName := ⟨RX4, "seek", "()V"⟩
abbrev cX4_seekLeast : ByteArray := prog_6_method_7_code
def yX4_seekLeast : MethodName := ⟨RX4, "seekLeast", "()V"⟩
abbrev cX4_goThrough : ByteArray := prog_6_method_8_code
def yX4_goThrough : MethodName := ⟨RX4, "goThrough", "(LReadingStages$Search;IIII)V"⟩
abbrev cX4_mayCome : ByteArray := prog_6_method_9_code
def yX4_mayCome : MethodName := ⟨RX4, "mayCome", "(II)Z"⟩
abbrev cX4_isWanted : ByteArray := prog_6_method_10_code
def yX4_isWanted : MethodName := ⟨RX4, "isWanted", "(II)Z"⟩
abbrev cX4_keepFound : ByteArray := prog_6_method_11_code
def yX4_keepFound : MethodName := ⟨RX4, "keepFound", "(II)V"⟩
abbrev cX4_grow : ByteArray := prog_6_method_12_code
def yX4_grow : MethodName := ⟨RX4, "grow", "()V"⟩
abbrev cX4_nextGrown : ByteArray := prog_6_method_13_code
def yX4_nextGrown : MethodName := ⟨RX4, "nextGrown", "(II)I"⟩
def RX5 : String := "ReadingStages$Sheet"
def TX5 : u_T := fun k => match k with
  | 0 => ("ReadingStages$Sheet", "items", "[J", true)
  | 1 => ("ReadingStages$Sheet", "lane", "I", false)
  | _ => ("ReadingStages$Sheet", "size", "I", false)
def tyX5 : Nat → FieldType := fun k => match k with
  | 0 => .array .long
  | 1 => .int
  | _ => .int
abbrev wsX50 : List Cond := u_ws RX5 TX5 3
theorem nmX5 : ∀ a, a < 3 → ∀ b, b < 3 → a ≠ b → (TX5 a).2.1 ≠ (TX5 b).2.1 := by decide +kernel
theorem tyX5_ok : ∀ k, k < 3 → parseFieldDescriptor (TX5 k).2.2.1 = some (tyX5 k) := by decide +kernel
abbrev cX5_init : ByteArray := prog_7_method_1_code
def yX5_init : MethodName := ⟨RX5, "<init>", "()V"⟩
abbrev cX5_renew : ByteArray := prog_7_method_2_code
def yX5_renew : MethodName := ⟨RX5, "renew", "(II)V"⟩
abbrev cX5_has : ByteArray := prog_7_method_3_code
def yX5_has : MethodName := ⟨RX5, "has", "(II)Z"⟩
abbrev cX5_put : ByteArray := prog_7_method_4_code
def yX5_put : MethodName := ⟨RX5, "put", "(IJ)V"⟩
abbrev cX5_cut : ByteArray := prog_7_method_5_code
def yX5_cut : MethodName := ⟨RX5, "cut", "(J)J"⟩
def RX6 : String := "ReadingStages$State"
def TX6 : u_T := fun k => match k with
  | 0 => ("ReadingStages$State", "sets", "[I", true)
  | 1 => ("ReadingStages$State", "followers", "[I", true)
  | 2 => ("ReadingStages$State", "order", "[I", true)
  | 3 => ("ReadingStages$State", "n", "I", false)
  | 4 => ("ReadingStages$State", "prior", "I", false)
  | 5 => ("ReadingStages$State", "span", "I", false)
  | 6 => ("ReadingStages$State", "bound", "I", false)
  | 7 => ("ReadingStages$State", "rule", "I", false)
  | _ => ("ReadingStages$State", "draw", "I", false)
def tyX6 : Nat → FieldType := fun k => match k with
  | 0 => .array .int
  | 1 => .array .int
  | 2 => .array .int
  | 3 => .int
  | 4 => .int
  | 5 => .int
  | 6 => .int
  | 7 => .int
  | _ => .int
abbrev wsX60 : List Cond := u_ws RX6 TX6 9
theorem nmX6 : ∀ a, a < 9 → ∀ b, b < 9 → a ≠ b → (TX6 a).2.1 ≠ (TX6 b).2.1 := by decide +kernel
theorem tyX6_ok : ∀ k, k < 9 → parseFieldDescriptor (TX6 k).2.2.1 = some (tyX6 k) := by decide +kernel
abbrev cX6_init : ByteArray := prog_8_method_1_code
def yX6_init : MethodName := ⟨RX6, "<init>", "()V"⟩
abbrev cX6_takeFrom : ByteArray := prog_8_method_2_code
def yX6_takeFrom : MethodName := ⟨RX6, "takeFrom", "(LReadingStages$State;)V"⟩
abbrev cX6_goOn : ByteArray := prog_8_method_3_code
def yX6_goOn : MethodName := ⟨RX6, "goOn", "()V"⟩
abbrev cX6_isBook : ByteArray := prog_8_method_4_code
def yX6_isBook : MethodName := ⟨RX6, "isBook", "(I)Z"⟩
abbrev cX6_isSetOfBook : ByteArray := prog_8_method_5_code
def yX6_isSetOfBook : MethodName := ⟨RX6, "isSetOfBook", "(I)Z"⟩
abbrev cX6_addBook : ByteArray := prog_8_method_6_code
def yX6_addBook : MethodName := ⟨RX6, "addBook", "(I)I"⟩
abbrev cX6_changeWords : ByteArray := prog_8_method_7_code
def yX6_changeWords : MethodName := ⟨RX6, "changeWords", "(II)I"⟩
abbrev cX6_removeBook : ByteArray := prog_8_method_8_code
def yX6_removeBook : MethodName := ⟨RX6, "removeBook", "(I)I"⟩
abbrev cX6_closeGap : ByteArray := prog_8_method_9_code
def yX6_closeGap : MethodName := ⟨RX6, "closeGap", "([II)V"⟩
abbrev cX6_withoutBit : ByteArray := prog_8_method_10_code
def yX6_withoutBit : MethodName := ⟨RX6, "withoutBit", "(II)I"⟩
abbrev cX6_turnAhead : ByteArray := prog_8_method_11_code
def yX6_turnAhead : MethodName := ⟨RX6, "turnAhead", "(II)I"⟩
abbrev cX6_allBehind : ByteArray := prog_8_method_12_code
def yX6_allBehind : MethodName := ⟨RX6, "allBehind", "(I)I"⟩
abbrev cX6_leaders : ByteArray := prog_8_method_13_code
def yX6_leaders : MethodName := ⟨RX6, "leaders", "(I)I"⟩
abbrev cX6_changePrior : ByteArray := prog_8_method_14_code
def yX6_changePrior : MethodName := ⟨RX6, "changePrior", "(I)I"⟩
abbrev cX6_changeRules : ByteArray := prog_8_method_15_code
def yX6_changeRules : MethodName := ⟨RX6, "changeRules", "(II)I"⟩
abbrev cX6_changeSpan : ByteArray := prog_8_method_16_code
def yX6_changeSpan : MethodName := ⟨RX6, "changeSpan", "(I)I"⟩
abbrev cX6_changeBound : ByteArray := prog_8_method_17_code
def yX6_changeBound : MethodName := ⟨RX6, "changeBound", "(I)I"⟩
abbrev cX6_changeRule : ByteArray := prog_8_method_18_code
def yX6_changeRule : MethodName := ⟨RX6, "changeRule", "(I)I"⟩
abbrev cX6_moveBook : ByteArray := prog_8_method_19_code
def yX6_moveBook : MethodName := ⟨RX6, "moveBook", "(II)I"⟩
abbrev cX6_changeOrder : ByteArray := prog_8_method_20_code
def yX6_changeOrder : MethodName := ⟨RX6, "changeOrder", "([I)I"⟩
abbrev cX6_number : ByteArray := prog_8_method_21_code
def yX6_number : MethodName := ⟨RX6, "number", "([I)I"⟩
abbrev cX6_placeOf : ByteArray := prog_8_method_22_code
def yX6_placeOf : MethodName := ⟨RX6, "placeOf", "(I)I"⟩
abbrev cX6_wordsThatCount : ByteArray := prog_8_method_23_code
def yX6_wordsThatCount : MethodName := ⟨RX6, "wordsThatCount", "(I)I"⟩
abbrev cX6_holds : ByteArray := prog_8_method_24_code
def yX6_holds : MethodName := ⟨RX6, "holds", "()Z"⟩
def RX7 : String := "ReadingStages"
def TX7 : u_T := fun k => match k with
  | 0 => ("ReadingStages", "now", "LReadingStages$State;", true)
  | 1 => ("ReadingStages", "before", "LReadingStages$State;", true)
  | 2 => ("ReadingStages", "past", "LReadingStages$Past;", true)
  | 3 => ("ReadingStages", "imageNow", "LReadingStages$State;", true)
  | 4 => ("ReadingStages", "imagePast", "LReadingStages$Past;", true)
  | 5 => ("ReadingStages", "hasImage", "Z", false)
  | 6 => ("ReadingStages", "parser", "LReadingStages$Parser;", true)
  | 7 => ("ReadingStages", "note", "LReadingStages$Letters;", true)
  | 8 => ("ReadingStages", "reading", "LReadingStages$Reading;", true)
  | 9 => ("ReadingStages", "search", "LReadingStages$Search;", true)
  | _ => ("ReadingStages", "sheets", "[LReadingStages$Sheet;", true)
def tyX7 : Nat → FieldType := fun k => match k with
  | 0 => .object "ReadingStages$State"
  | 1 => .object "ReadingStages$State"
  | 2 => .object "ReadingStages$Past"
  | 3 => .object "ReadingStages$State"
  | 4 => .object "ReadingStages$Past"
  | 5 => .boolean
  | 6 => .object "ReadingStages$Parser"
  | 7 => .object "ReadingStages$Letters"
  | 8 => .object "ReadingStages$Reading"
  | 9 => .object "ReadingStages$Search"
  | _ => .array (.object "ReadingStages$Sheet")
abbrev wsX70 : List Cond := u_ws RX7 TX7 11
theorem nmX7 : ∀ a, a < 11 → ∀ b, b < 11 → a ≠ b → (TX7 a).2.1 ≠ (TX7 b).2.1 := by decide +kernel
theorem tyX7_ok : ∀ k, k < 11 → parseFieldDescriptor (TX7 k).2.2.1 = some (tyX7 k) := by decide +kernel
abbrev cX7_init : ByteArray := prog_1_method_1_code
def yX7_init : MethodName := ⟨RX7, "<init>", "()V"⟩
abbrev cX7_book : ByteArray := prog_1_method_2_code
def yX7_book : MethodName := ⟨RX7, "book", "(I)I"⟩
abbrev cX7_words : ByteArray := prog_1_method_3_code
def yX7_words : MethodName := ⟨RX7, "words", "(II)I"⟩
abbrev cX7_lose : ByteArray := prog_1_method_4_code
def yX7_lose : MethodName := ⟨RX7, "lose", "(I)I"⟩
abbrev cX7_ahead : ByteArray := prog_1_method_5_code
def yX7_ahead : MethodName := ⟨RX7, "ahead", "(II)I"⟩
abbrev cX7_prior : ByteArray := prog_1_method_6_code
def yX7_prior : MethodName := ⟨RX7, "prior", "(I)I"⟩
abbrev cX7_tell : ByteArray := prog_1_method_7_code
def yX7_tell : MethodName := ⟨RX7, "tell", "(II)I"⟩
abbrev cX7_move : ByteArray := prog_1_method_8_code
def yX7_move : MethodName := ⟨RX7, "move", "(II)I"⟩
abbrev cX7_settle : ByteArray := prog_1_method_9_code
def yX7_settle : MethodName := ⟨RX7, "settle", "(I)I"⟩
abbrev cX7_place : ByteArray := prog_1_method_10_code
def yX7_place : MethodName := ⟨RX7, "place", "(II)I"⟩
abbrev cX7_word : ByteArray := prog_1_method_11_code
def yX7_word : MethodName := ⟨RX7, "word", "(II)I"⟩
abbrev cX7_told : ByteArray := prog_1_method_12_code
def yX7_told : MethodName := ⟨RX7, "told", "(II)I"⟩
abbrev cX7_count : ByteArray := prog_1_method_13_code
def yX7_count : MethodName := ⟨RX7, "count", "(I)I"⟩
abbrev cX7_best : ByteArray := prog_1_method_14_code
def yX7_best : MethodName := ⟨RX7, "best", "(I)I"⟩
abbrev cX7_many : ByteArray := prog_1_method_15_code
def yX7_many : MethodName := ⟨RX7, "many", "(I)I"⟩
abbrev cX7_fit : ByteArray := prog_1_method_16_code
def yX7_fit : MethodName := ⟨RX7, "fit", "(I)I"⟩
abbrev cX7_kept : ByteArray := prog_1_method_17_code
def yX7_kept : MethodName := ⟨RX7, "kept", "(III)I"⟩
abbrev cX7_letter : ByteArray := prog_1_method_18_code
def yX7_letter : MethodName := ⟨RX7, "letter", "(I)I"⟩
abbrev cX7_type : ByteArray := prog_1_method_19_code
def yX7_type : MethodName := ⟨RX7, "type", "(I)I"⟩
abbrev cX7_read : ByteArray := prog_1_method_20_code
def yX7_read : MethodName := ⟨RX7, "read", "()I"⟩
abbrev cX7_drift : ByteArray := prog_1_method_21_code
def yX7_drift : MethodName := ⟨RX7, "drift", "(I)I"⟩
abbrev cX7_undo : ByteArray := prog_1_method_22_code
def yX7_undo : MethodName := ⟨RX7, "undo", "()I"⟩
abbrev cX7_seed : ByteArray := prog_1_method_23_code
def yX7_seed : MethodName := ⟨RX7, "seed", "(I)I"⟩
abbrev cX7_image : ByteArray := prog_1_method_24_code
def yX7_image : MethodName := ⟨RX7, "image", "()I"⟩
abbrev cX7_restore : ByteArray := prog_1_method_25_code
def yX7_restore : MethodName := ⟨RX7, "restore", "()I"⟩
abbrev cX7_seen : ByteArray := prog_1_method_26_code
def yX7_seen : MethodName := ⟨RX7, "seen", "(III)I"⟩
abbrev cX7_film : ByteArray := prog_1_method_27_code
def yX7_film : MethodName := ⟨RX7, "film", "(III)I"⟩
abbrev cX7_sheet : ByteArray := prog_1_method_28_code
def yX7_sheet : MethodName := ⟨RX7, "sheet", "(III)I"⟩
abbrev cX7_drop : ByteArray := prog_1_method_29_code
def yX7_drop : MethodName := ⟨RX7, "drop", "(I)I"⟩
abbrev cX7_item : ByteArray := prog_1_method_30_code
def yX7_item : MethodName := ⟨RX7, "item", "(IIIJ)I"⟩
abbrev cX7_copy : ByteArray := prog_1_method_31_code
def yX7_copy : MethodName := ⟨RX7, "copy", "(IIIII)I"⟩
abbrev cX7_remembered : ByteArray := prog_1_method_32_code
def yX7_remembered : MethodName := ⟨RX7, "remembered", "(I)I"⟩
abbrev cX7_takeTurn : ByteArray := prog_1_method_33_code
def yX7_takeTurn : MethodName := ⟨RX7, "takeTurn", "()V"⟩
abbrev cX7_seekBestOrGrown : ByteArray := prog_1_method_34_code
def yX7_seekBestOrGrown : MethodName := ⟨RX7, "seekBestOrGrown", "(Z)V"⟩
abbrev cX7_countOfReading : ByteArray := prog_1_method_35_code
def yX7_countOfReading : MethodName := ⟨RX7, "countOfReading", "(I)I"⟩
abbrev cX7_firstWith : ByteArray := prog_1_method_36_code
def yX7_firstWith : MethodName := ⟨RX7, "firstWith", "([II)I"⟩
abbrev cX7_howManyWith : ByteArray := prog_1_method_37_code
def yX7_howManyWith : MethodName := ⟨RX7, "howManyWith", "([II)I"⟩
abbrev cX7_placesWith : ByteArray := prog_1_method_38_code
def yX7_placesWith : MethodName := ⟨RX7, "placesWith", "(I)I"⟩
abbrev cX7_waysToKeep : ByteArray := prog_1_method_39_code
def yX7_waysToKeep : MethodName := ⟨RX7, "waysToKeep", "(II)I"⟩
abbrev cX7_writeNote : ByteArray := prog_1_method_40_code
def yX7_writeNote : MethodName := ⟨RX7, "writeNote", "()V"⟩
abbrev cX7_faultOfRow : ByteArray := prog_1_method_41_code
def yX7_faultOfRow : MethodName := ⟨RX7, "faultOfRow", "(IIII)I"⟩
abbrev cX7_isSheet : ByteArray := prog_1_method_42_code
def yX7_isSheet : MethodName := ⟨RX7, "isSheet", "(I)Z"⟩
abbrev cX7_isLane : ByteArray := prog_1_method_43_code
def yX7_isLane : MethodName := ⟨RX7, "isLane", "(I)Z"⟩
abbrev cX7_hasBit : ByteArray := prog_1_method_44_code
def yX7_hasBit : MethodName := ⟨RX7, "hasBit", "(II)Z"⟩
abbrev cX7_power : ByteArray := prog_1_method_45_code
def yX7_power : MethodName := ⟨RX7, "power", "(II)I"⟩
abbrev cX7_greatestDivisor : ByteArray := prog_1_method_46_code
def yX7_greatestDivisor : MethodName := ⟨RX7, "greatestDivisor", "(II)I"⟩
def RX8 : String := "ReadingStagesModel"
def TX8 : u_T := fun k => match k with
  | 0 => ("ReadingStagesModel", "now", "[I", true)
  | 1 => ("ReadingStagesModel", "past", "[I", true)
  | 2 => ("ReadingStagesModel", "acts", "I", false)
  | 3 => ("ReadingStagesModel", "image", "[I", true)
  | 4 => ("ReadingStagesModel", "imagePast", "[I", true)
  | 5 => ("ReadingStagesModel", "imageActs", "I", false)
  | 6 => ("ReadingStagesModel", "tape", "[I", true)
  | 7 => ("ReadingStagesModel", "typed", "I", false)
  | 8 => ("ReadingStagesModel", "lanes", "[I", true)
  | 9 => ("ReadingStagesModel", "sizes", "[I", true)
  | 10 => ("ReadingStagesModel", "items", "[J", true)
  | 11 => ("ReadingStagesModel", "moved", "[J", true)
  | 12 => ("ReadingStagesModel", "order", "[I", true)
  | 13 => ("ReadingStagesModel", "strength", "[I", true)
  | 14 => ("ReadingStagesModel", "last", "[I", true)
  | 15 => ("ReadingStagesModel", "news", "[I", true)
  | 16 => ("ReadingStagesModel", "agains", "[I", true)
  | 17 => ("ReadingStagesModel", "losts", "[I", true)
  | 18 => ("ReadingStagesModel", "lives", "[I", true)
  | 19 => ("ReadingStagesModel", "bestNumber", "I", false)
  | 20 => ("ReadingStagesModel", "bestPeak", "I", false)
  | 21 => ("ReadingStagesModel", "bestLoss", "I", false)
  | 22 => ("ReadingStagesModel", "note", "[I", true)
  | 23 => ("ReadingStagesModel", "noted", "I", false)
  | 24 => ("ReadingStagesModel", "first", "[I", true)
  | 25 => ("ReadingStagesModel", "place", "I", false)
  | _ => ("ReadingStagesModel", "lastTold", "I", false)
def tyX8 : Nat → FieldType := fun k => match k with
  | 0 => .array .int
  | 1 => .array .int
  | 2 => .int
  | 3 => .array .int
  | 4 => .array .int
  | 5 => .int
  | 6 => .array .int
  | 7 => .int
  | 8 => .array .int
  | 9 => .array .int
  | 10 => .array .long
  | 11 => .array .long
  | 12 => .array .int
  | 13 => .array .int
  | 14 => .array .int
  | 15 => .array .int
  | 16 => .array .int
  | 17 => .array .int
  | 18 => .array .int
  | 19 => .int
  | 20 => .int
  | 21 => .int
  | 22 => .array .int
  | 23 => .int
  | 24 => .array .int
  | 25 => .int
  | _ => .int
abbrev wsX80 : List Cond := u_ws RX8 TX8 27
theorem nmX8 : ∀ a, a < 27 → ∀ b, b < 27 → a ≠ b → (TX8 a).2.1 ≠ (TX8 b).2.1 := by decide +kernel
theorem tyX8_ok : ∀ k, k < 27 → parseFieldDescriptor (TX8 k).2.2.1 = some (tyX8 k) := by decide +kernel
abbrev cX8_init : ByteArray := prog_10_method_1_code
def yX8_init : MethodName := ⟨RX8, "<init>", "()V"⟩
abbrev cX8_in : ByteArray := prog_10_method_2_code
def yX8_in : MethodName := ⟨RX8, "in", "(JJJ)Z"⟩
abbrev cX8_has : ByteArray := prog_10_method_3_code
def yX8_has : MethodName := ⟨RX8, "has", "(II)Z"⟩
abbrev cX8_sizeOf : ByteArray := prog_10_method_4_code
def yX8_sizeOf : MethodName := ⟨RX8, "sizeOf", "(I)I"⟩
abbrev cX8_isSet : ByteArray := prog_10_method_5_code
def yX8_isSet : MethodName := ⟨RX8, "isSet", "(I)Z"⟩
abbrev cX8_isBook : ByteArray := prog_10_method_6_code
def yX8_isBook : MethodName := ⟨RX8, "isBook", "(I)Z"⟩
abbrev cX8_lasts : ByteArray := prog_10_method_7_code
def yX8_lasts : MethodName := ⟨RX8, "lasts", "(I)I"⟩
abbrev cX8_begins : ByteArray := prog_10_method_8_code
def yX8_begins : MethodName := ⟨RX8, "begins", "()V"⟩
abbrev cX8_reads : ByteArray := prog_10_method_9_code
def yX8_reads : MethodName := ⟨RX8, "reads", "(II)V"⟩
abbrev cX8_wordsAt : ByteArray := prog_10_method_10_code
def yX8_wordsAt : MethodName := ⟨RX8, "wordsAt", "(I)I"⟩
abbrev cX8_readsOrder : ByteArray := prog_10_method_11_code
def yX8_readsOrder : MethodName := ⟨RX8, "readsOrder", "()V"⟩
abbrev cX8_peak : ByteArray := prog_10_method_12_code
def yX8_peak : MethodName := ⟨RX8, "peak", "()I"⟩
abbrev cX8_loss : ByteArray := prog_10_method_13_code
def yX8_loss : MethodName := ⟨RX8, "loss", "()I"⟩
abbrev cX8_isHolding : ByteArray := prog_10_method_14_code
def yX8_isHolding : MethodName := ⟨RX8, "isHolding", "()Z"⟩
abbrev cX8_number : ByteArray := prog_10_method_15_code
def yX8_number : MethodName := ⟨RX8, "number", "()I"⟩
abbrev cX8_takesOrder : ByteArray := prog_10_method_16_code
def yX8_takesOrder : MethodName := ⟨RX8, "takesOrder", "()V"⟩
abbrev cX8_firstOrder : ByteArray := prog_10_method_17_code
def yX8_firstOrder : MethodName := ⟨RX8, "firstOrder", "()V"⟩
abbrev cX8_nextOrder : ByteArray := prog_10_method_18_code
def yX8_nextOrder : MethodName := ⟨RX8, "nextOrder", "()Z"⟩
abbrev cX8_place : ByteArray := prog_10_method_19_code
def yX8_place : MethodName := ⟨RX8, "place", "(II)I"⟩
abbrev cX8_word : ByteArray := prog_10_method_20_code
def yX8_word : MethodName := ⟨RX8, "word", "(II)I"⟩
abbrev cX8_aheadOf : ByteArray := prog_10_method_21_code
def yX8_aheadOf : MethodName := ⟨RX8, "aheadOf", "(I)I"⟩
abbrev cX8_placeOf : ByteArray := prog_10_method_22_code
def yX8_placeOf : MethodName := ⟨RX8, "placeOf", "(I)I"⟩
abbrev cX8_told : ByteArray := prog_10_method_23_code
def yX8_told : MethodName := ⟨RX8, "told", "(II)I"⟩
abbrev cX8_count : ByteArray := prog_10_method_24_code
def yX8_count : MethodName := ⟨RX8, "count", "(I)I"⟩
abbrev cX8_laysBest : ByteArray := prog_10_method_25_code
def yX8_laysBest : MethodName := ⟨RX8, "laysBest", "()V"⟩
abbrev cX8_grows : ByteArray := prog_10_method_26_code
def yX8_grows : MethodName := ⟨RX8, "grows", "()V"⟩
abbrev cX8_best : ByteArray := prog_10_method_27_code
def yX8_best : MethodName := ⟨RX8, "best", "(I)I"⟩
abbrev cX8_many : ByteArray := prog_10_method_28_code
def yX8_many : MethodName := ⟨RX8, "many", "(I)I"⟩
abbrev cX8_fit : ByteArray := prog_10_method_29_code
def yX8_fit : MethodName := ⟨RX8, "fit", "(I)I"⟩
abbrev cX8_kept : ByteArray := prog_10_method_30_code
def yX8_kept : MethodName := ⟨RX8, "kept", "(III)I"⟩
abbrev cX8_writes : ByteArray := prog_10_method_31_code
def yX8_writes : MethodName := ⟨RX8, "writes", "(I)V"⟩
abbrev cX8_writesNumber : ByteArray := prog_10_method_32_code
def yX8_writesNumber : MethodName := ⟨RX8, "writesNumber", "(I)V"⟩
abbrev cX8_writesNote : ByteArray := prog_10_method_33_code
def yX8_writesNote : MethodName := ⟨RX8, "writesNote", "()V"⟩
abbrev cX8_letter : ByteArray := prog_10_method_34_code
def yX8_letter : MethodName := ⟨RX8, "letter", "(I)I"⟩
abbrev cX8_notes : ByteArray := prog_10_method_35_code
def yX8_notes : MethodName := ⟨RX8, "notes", "()V"⟩
abbrev cX8_holds : ByteArray := prog_10_method_36_code
def yX8_holds : MethodName := ⟨RX8, "holds", "()V"⟩
abbrev cX8_acted : ByteArray := prog_10_method_37_code
def yX8_acted : MethodName := ⟨RX8, "acted", "(I)I"⟩
abbrev cX8_adds : ByteArray := prog_10_method_38_code
def yX8_adds : MethodName := ⟨RX8, "adds", "(I)I"⟩
abbrev cX8_changes : ByteArray := prog_10_method_39_code
def yX8_changes : MethodName := ⟨RX8, "changes", "(II)I"⟩
abbrev cX8_without : ByteArray := prog_10_method_40_code
def yX8_without : MethodName := ⟨RX8, "without", "(II)I"⟩
abbrev cX8_loses : ByteArray := prog_10_method_41_code
def yX8_loses : MethodName := ⟨RX8, "loses", "(I)I"⟩
abbrev cX8_comesTo : ByteArray := prog_10_method_42_code
def yX8_comesTo : MethodName := ⟨RX8, "comesTo", "(II)Z"⟩
abbrev cX8_puts : ByteArray := prog_10_method_43_code
def yX8_puts : MethodName := ⟨RX8, "puts", "(II)I"⟩
abbrev cX8_sets : ByteArray := prog_10_method_44_code
def yX8_sets : MethodName := ⟨RX8, "sets", "(I)I"⟩
abbrev cX8_tells : ByteArray := prog_10_method_45_code
def yX8_tells : MethodName := ⟨RX8, "tells", "(II)I"⟩
abbrev cX8_shifts : ByteArray := prog_10_method_46_code
def yX8_shifts : MethodName := ⟨RX8, "shifts", "(II)I"⟩
abbrev cX8_settles : ByteArray := prog_10_method_47_code
def yX8_settles : MethodName := ⟨RX8, "settles", "(I)I"⟩
abbrev cX8_book : ByteArray := prog_10_method_48_code
def yX8_book : MethodName := ⟨RX8, "book", "(I)I"⟩
abbrev cX8_words : ByteArray := prog_10_method_49_code
def yX8_words : MethodName := ⟨RX8, "words", "(II)I"⟩
abbrev cX8_lose : ByteArray := prog_10_method_50_code
def yX8_lose : MethodName := ⟨RX8, "lose", "(I)I"⟩
abbrev cX8_ahead : ByteArray := prog_10_method_51_code
def yX8_ahead : MethodName := ⟨RX8, "ahead", "(II)I"⟩
abbrev cX8_prior : ByteArray := prog_10_method_52_code
def yX8_prior : MethodName := ⟨RX8, "prior", "(I)I"⟩
abbrev cX8_tell : ByteArray := prog_10_method_53_code
def yX8_tell : MethodName := ⟨RX8, "tell", "(II)I"⟩
abbrev cX8_move : ByteArray := prog_10_method_54_code
def yX8_move : MethodName := ⟨RX8, "move", "(II)I"⟩
abbrev cX8_settle : ByteArray := prog_10_method_55_code
def yX8_settle : MethodName := ⟨RX8, "settle", "(I)I"⟩
abbrev cX8_type : ByteArray := prog_10_method_56_code
def yX8_type : MethodName := ⟨RX8, "type", "(I)I"⟩
abbrev cX8_here : ByteArray := prog_10_method_57_code
def yX8_here : MethodName := ⟨RX8, "here", "()I"⟩
abbrev cX8_isAt : ByteArray := prog_10_method_58_code
def yX8_isAt : MethodName := ⟨RX8, "isAt", "(III)Z"⟩
abbrev cX8_isWord : ByteArray := prog_10_method_59_code
def yX8_isWord : MethodName := ⟨RX8, "isWord", "(IIIII)Z"⟩
abbrev cX8_isMore : ByteArray := prog_10_method_60_code
def yX8_isMore : MethodName := ⟨RX8, "isMore", "(IIIII)Z"⟩
abbrev cX8_rule : ByteArray := prog_10_method_61_code
def yX8_rule : MethodName := ⟨RX8, "rule", "()I"⟩
abbrev cX8_takes : ByteArray := prog_10_method_62_code
def yX8_takes : MethodName := ⟨RX8, "takes", "(I)Z"⟩
abbrev cX8_figure : ByteArray := prog_10_method_63_code
def yX8_figure : MethodName := ⟨RX8, "figure", "(II)I"⟩
abbrev cX8_readsBook : ByteArray := prog_10_method_64_code
def yX8_readsBook : MethodName := ⟨RX8, "readsBook", "()Z"⟩
abbrev cX8_readsPair : ByteArray := prog_10_method_65_code
def yX8_readsPair : MethodName := ⟨RX8, "readsPair", "()Z"⟩
abbrev cX8_readsAll : ByteArray := prog_10_method_66_code
def yX8_readsAll : MethodName := ⟨RX8, "readsAll", "()Z"⟩
abbrev cX8_read : ByteArray := prog_10_method_67_code
def yX8_read : MethodName := ⟨RX8, "read", "()I"⟩
abbrev cX8_draws : ByteArray := prog_10_method_68_code
def yX8_draws : MethodName := ⟨RX8, "draws", "(I)I"⟩
abbrev cX8_does : ByteArray := prog_10_method_69_code
def yX8_does : MethodName := ⟨RX8, "does", "(II)I"⟩
abbrev cX8_drift : ByteArray := prog_10_method_70_code
def yX8_drift : MethodName := ⟨RX8, "drift", "(I)I"⟩
abbrev cX8_undo : ByteArray := prog_10_method_71_code
def yX8_undo : MethodName := ⟨RX8, "undo", "()I"⟩
abbrev cX8_seed : ByteArray := prog_10_method_72_code
def yX8_seed : MethodName := ⟨RX8, "seed", "(I)I"⟩
abbrev cX8_image : ByteArray := prog_10_method_73_code
def yX8_image : MethodName := ⟨RX8, "image", "()I"⟩
abbrev cX8_restore : ByteArray := prog_10_method_74_code
def yX8_restore : MethodName := ⟨RX8, "restore", "()I"⟩
abbrev cX8_isSheet : ByteArray := prog_10_method_75_code
def yX8_isSheet : MethodName := ⟨RX8, "isSheet", "(I)Z"⟩
abbrev cX8_cut : ByteArray := prog_10_method_76_code
def yX8_cut : MethodName := ⟨RX8, "cut", "(IJ)J"⟩
abbrev cX8_found : ByteArray := prog_10_method_77_code
def yX8_found : MethodName := ⟨RX8, "found", "(IIII)I"⟩
abbrev cX8_seen : ByteArray := prog_10_method_78_code
def yX8_seen : MethodName := ⟨RX8, "seen", "(III)I"⟩
abbrev cX8_film : ByteArray := prog_10_method_79_code
def yX8_film : MethodName := ⟨RX8, "film", "(III)I"⟩
abbrev cX8_sheet : ByteArray := prog_10_method_80_code
def yX8_sheet : MethodName := ⟨RX8, "sheet", "(III)I"⟩
abbrev cX8_drop : ByteArray := prog_10_method_81_code
def yX8_drop : MethodName := ⟨RX8, "drop", "(I)I"⟩
abbrev cX8_item : ByteArray := prog_10_method_82_code
def yX8_item : MethodName := ⟨RX8, "item", "(IIIJ)I"⟩
abbrev cX8_copy : ByteArray := prog_10_method_83_code
def yX8_copy : MethodName := ⟨RX8, "copy", "(IIIII)I"⟩
def RJ6 : String := "java/lang/Integer"
def TJ6 : u_T := fun k => match k with
  | _ => ("", "", "", false)
def tyJ6 : Nat → FieldType := fun k => match k with
  | _ => .int
abbrev wsJ60 : List Cond := u_ws RJ6 TJ6 0
theorem nmJ6 : ∀ a, a < 0 → ∀ b, b < 0 → a ≠ b → (TJ6 a).2.1 ≠ (TJ6 b).2.1 := by decide +kernel
theorem tyJ6_ok : ∀ k, k < 0 → parseFieldDescriptor (TJ6 k).2.2.1 = some (tyJ6 k) := by decide +kernel
abbrev cJ6_bitCount_0f7a4 : ByteArray := prog_11_method_49_code
def yJ6_bitCount_0f7a4 : MethodName := ⟨RJ6, "bitCount", "(I)I"⟩
def RJ9 : String := "java/lang/Math"
def TJ9 : u_T := fun k => match k with
  | _ => ("", "", "", false)
def tyJ9 : Nat → FieldType := fun k => match k with
  | _ => .int
abbrev wsJ90 : List Cond := u_ws RJ9 TJ9 0
theorem nmJ9 : ∀ a, a < 0 → ∀ b, b < 0 → a ≠ b → (TJ9 a).2.1 ≠ (TJ9 b).2.1 := by decide +kernel
theorem tyJ9_ok : ∀ k, k < 0 → parseFieldDescriptor (TJ9 k).2.2.1 = some (tyJ9 k) := by decide +kernel
abbrev cJ9_max_7cf53 : ByteArray := prog_12_method_65_code
def yJ9_max_7cf53 : MethodName := ⟨RJ9, "max", "(II)I"⟩
def RJ0 : String := "java/lang/String"
def TJ0 : u_T := fun k => match k with
  | _ => ("", "", "", false)
def tyJ0 : Nat → FieldType := fun k => match k with
  | _ => .int
abbrev wsJ00 : List Cond := u_ws RJ0 TJ0 0
theorem nmJ0 : ∀ a, a < 0 → ∀ b, b < 0 → a ≠ b → (TJ0 a).2.1 ≠ (TJ0 b).2.1 := by decide +kernel
theorem tyJ0_ok : ∀ k, k < 0 → parseFieldDescriptor (TJ0 k).2.2.1 = some (tyJ0 k) := by decide +kernel
abbrev cJ0_length_8abf5 : ByteArray := prog_13_method_54_code
def yJ0_length_8abf5 : MethodName := ⟨RJ0, "length", "()I"⟩
abbrev cJ0_charAt_5068e : ByteArray := prog_13_method_56_code
def yJ0_charAt_5068e : MethodName := ⟨RJ0, "charAt", "(I)C"⟩
abbrev cJ0_coder_7d493 : ByteArray := prog_13_method_152_code
def yJ0_coder_7d493 : MethodName := ⟨RJ0, "coder", "()B"⟩
abbrev cJ0_isLatin1_aae02 : ByteArray := prog_13_method_154_code
def yJ0_isLatin1_aae02 : MethodName := ⟨RJ0, "isLatin1", "()Z"⟩
abbrev cJ0_checkIndex_df160 : ByteArray := prog_13_method_155_code
def yJ0_checkIndex_df160 : MethodName := ⟨RJ0, "checkIndex", "(II)V"⟩
def RJ1 : String := "java/lang/StringLatin1"
def TJ1 : u_T := fun k => match k with
  | _ => ("", "", "", false)
def tyJ1 : Nat → FieldType := fun k => match k with
  | _ => .int
abbrev wsJ10 : List Cond := u_ws RJ1 TJ1 0
theorem nmJ1 : ∀ a, a < 0 → ∀ b, b < 0 → a ≠ b → (TJ1 a).2.1 ≠ (TJ1 b).2.1 := by decide +kernel
theorem tyJ1_ok : ∀ k, k < 0 → parseFieldDescriptor (TJ1 k).2.2.1 = some (tyJ1 k) := by decide +kernel
abbrev cJ1_charAt_3b067 : ByteArray := prog_14_method_2_code
def yJ1_charAt_3b067 : MethodName := ⟨RJ1, "charAt", "([BI)C"⟩
def RJ2 : String := "java/lang/StringUTF16"
def TJ2 : u_T := fun k => match k with
  | _ => ("", "", "", false)
def tyJ2 : Nat → FieldType := fun k => match k with
  | _ => .int
abbrev wsJ20 : List Cond := u_ws RJ2 TJ2 0
theorem nmJ2 : ∀ a, a < 0 → ∀ b, b < 0 → a ≠ b → (TJ2 a).2.1 ≠ (TJ2 b).2.1 := by decide +kernel
theorem tyJ2_ok : ∀ k, k < 0 → parseFieldDescriptor (TJ2 k).2.2.1 = some (tyJ2 k) := by decide +kernel
abbrev cJ2_getChar_3b067 : ByteArray := prog_15_method_5_code
def yJ2_getChar_3b067 : MethodName := ⟨RJ2, "getChar", "([BI)C"⟩
abbrev cJ2_length_9d52b : ByteArray := prog_15_method_6_code
def yJ2_length_9d52b : MethodName := ⟨RJ2, "length", "([B)I"⟩
abbrev cJ2_charAt_3b067 : ByteArray := prog_15_method_83_code
def yJ2_charAt_3b067 : MethodName := ⟨RJ2, "charAt", "([BI)C"⟩
abbrev cJ2_checkIndex_2214a : ByteArray := prog_15_method_91_code
def yJ2_checkIndex_2214a : MethodName := ⟨RJ2, "checkIndex", "(I[B)V"⟩
def RJ10 : String := "java/lang/System"
def TJ10 : u_T := fun k => match k with
  | _ => ("", "", "", false)
def tyJ10 : Nat → FieldType := fun k => match k with
  | _ => .int
abbrev wsJ100 : List Cond := u_ws RJ10 TJ10 0
theorem nmJ10 : ∀ a, a < 0 → ∀ b, b < 0 → a ≠ b → (TJ10 a).2.1 ≠ (TJ10 b).2.1 := by decide +kernel
theorem tyJ10_ok : ∀ k, k < 0 → parseFieldDescriptor (TJ10 k).2.2.1 = some (tyJ10 k) := by decide +kernel
def RJ3 : String := "jdk/internal/util/Preconditions"
def TJ3 : u_T := fun k => match k with
  | _ => ("", "", "", false)
def tyJ3 : Nat → FieldType := fun k => match k with
  | _ => .int
abbrev wsJ30 : List Cond := u_ws RJ3 TJ3 0
theorem nmJ3 : ∀ a, a < 0 → ∀ b, b < 0 → a ≠ b → (TJ3 a).2.1 ≠ (TJ3 b).2.1 := by decide +kernel
theorem tyJ3_ok : ∀ k, k < 0 → parseFieldDescriptor (TJ3 k).2.2.1 = some (tyJ3 k) := by decide +kernel
abbrev cJ3_checkIndex_8e157 : ByteArray := prog_17_method_11_code
def yJ3_checkIndex_8e157 : MethodName := ⟨RJ3, "checkIndex", "(IILjava/util/function/BiFunction;)I"⟩
def RL : String := "ReadingStagesLaw"
abbrev cL_law : ByteArray := code
def yL_law : MethodName := ⟨RL, "law", "([I)Z"⟩
def wsL_law_r1 : List Cond := [Cond.classLink RL 7 RX7, Cond.instantiable RX7 11, Cond.initialized RX7, Cond.classLink RL 10 RX8, Cond.instantiable RX8 27, Cond.initialized RX8, Cond.constantLong RL 129 (4294967295), Cond.methodLink RL 9 yX7_init, Cond.instanceMethod yX7_init, Cond.code yX7_init cX7_init 2 none, Cond.methodLink RX7 3 objectInit, Cond.instanceMethod objectInit, Cond.code objectInit ⟨#[0xb1]⟩ 1 none, Cond.classLink RX7 9 RX6, Cond.instantiable RX6 9, Cond.initialized RX6, Cond.fieldLink RX7 12 "ReadingStages" "now" "LReadingStages$State;", Cond.fieldLink RX7 16 "ReadingStages" "before" "LReadingStages$State;", Cond.classLink RX7 19 RX2, Cond.instantiable RX2 2, Cond.initialized RX2, Cond.fieldLink RX7 22 "ReadingStages" "past" "LReadingStages$Past;", Cond.fieldLink RX7 26 "ReadingStages" "imageNow" "LReadingStages$State;", Cond.fieldLink RX7 29 "ReadingStages" "imagePast" "LReadingStages$Past;"]
def wsL_law_r2 : List Cond := [Cond.classLink RX7 32 RX1, Cond.instantiable RX1 3, Cond.initialized RX1, Cond.fieldLink RX7 35 "ReadingStages" "parser" "LReadingStages$Parser;", Cond.classLink RX7 39 RX0, Cond.instantiable RX0 2, Cond.initialized RX0, Cond.fieldLink RX7 44 "ReadingStages" "note" "LReadingStages$Letters;", Cond.classLink RX7 48 RX3, Cond.instantiable RX3 9, Cond.initialized RX3, Cond.fieldLink RX7 51 "ReadingStages" "reading" "LReadingStages$Reading;", Cond.classLink RX7 55 RX4, Cond.instantiable RX4 13, Cond.initialized RX4, Cond.fieldLink RX7 58 "ReadingStages" "search" "LReadingStages$Search;", Cond.classLink RX7 62 RX5, Cond.fieldLink RX7 64 "ReadingStages" "sheets" "[LReadingStages$Sheet;", Cond.instantiable RX5 3, Cond.initialized RX5, Cond.instanceMethod yX6_init, Cond.code yX6_init cX6_init 1 none, Cond.methodLink RX6 3 objectInit, Cond.arrayClass .int]
def wsL_law_r3 : List Cond := [Cond.fieldLink RX6 9 "ReadingStages$State" "sets" "[I", Cond.fieldLink RX6 15 "ReadingStages$State" "followers" "[I", Cond.fieldLink RX6 18 "ReadingStages$State" "order" "[I", Cond.fieldLink RX6 21 "ReadingStages$State" "span" "I", Cond.fieldLink RX6 25 "ReadingStages$State" "bound" "I", Cond.fieldLink RX6 28 "ReadingStages$State" "rule" "I", Cond.fieldLink RX6 31 "ReadingStages$State" "draw" "I", Cond.methodLink RX7 21 yX2_init, Cond.instanceMethod yX2_init, Cond.code yX2_init cX2_init 2 none, Cond.methodLink RX2 3 objectInit, Cond.classLink RX2 9 RX6, Cond.fieldLink RX2 11 "ReadingStages$Past" "states" "[LReadingStages$State;", Cond.instanceMethod yX1_init, Cond.code yX1_init cX1_init 1 none, Cond.methodLink RX1 3 objectInit, Cond.classLink RX1 9 RX0, Cond.fieldLink RX1 14 "ReadingStages$Parser" "tape" "LReadingStages$Letters;", Cond.classLink RX1 20 RX6, Cond.fieldLink RX1 23 "ReadingStages$Parser" "draft" "LReadingStages$State;", Cond.methodLink RX1 11 yX0_init, Cond.instanceMethod yX0_init, Cond.code yX0_init cX0_init 2 none, Cond.methodLink RX0 1 objectInit]
def wsL_law_r4 : List Cond := [Cond.arrayClass .char, Cond.fieldLink RX0 7 "ReadingStages$Letters" "row" "[C", Cond.methodLink RX7 41 yX0_init, Cond.instanceMethod yX3_init, Cond.code yX3_init cX3_init 1 none, Cond.methodLink RX3 3 objectInit, Cond.fieldLink RX3 9 "ReadingStages$Reading" "lasts" "[I", Cond.fieldLink RX3 15 "ReadingStages$Reading" "ones" "[I", Cond.fieldLink RX3 18 "ReadingStages$Reading" "twos" "[I", Cond.fieldLink RX3 21 "ReadingStages$Reading" "fours" "[I", Cond.classLink RX3 24 "[[I", Cond.fieldLink RX3 26 "ReadingStages$Reading" "due" "[[I", Cond.fieldLink RX3 29 "ReadingStages$Reading" "fresh" "[I", Cond.fieldLink RX3 32 "ReadingStages$Reading" "again" "[I", Cond.fieldLink RX3 35 "ReadingStages$Reading" "lost" "[I", Cond.instanceMethod yX4_init, Cond.code yX4_init cX4_init 1 none, Cond.methodLink RX4 3 objectInit, Cond.classLink RX4 9 RX3, Cond.fieldLink RX4 12 "ReadingStages$Search" "reading" "LReadingStages$Reading;", Cond.fieldLink RX4 18 "ReadingStages$Search" "sets" "[I", Cond.fieldLink RX4 22 "ReadingStages$Search" "leaders" "[I", Cond.fieldLink RX4 25 "ReadingStages$Search" "fewestFresh" "[I", Cond.fieldLink RX4 28 "ReadingStages$Search" "mostFresh" "[I"]
def wsL_law_r5 : List Cond := [Cond.fieldLink RX4 31 "ReadingStages$Search" "row" "[I", Cond.fieldLink RX4 34 "ReadingStages$Search" "found" "[I", Cond.instanceMethod yX5_init, Cond.code yX5_init cX5_init 1 none, Cond.methodLink RX5 3 objectInit, Cond.arrayClass .long, Cond.fieldLink RX5 9 "ReadingStages$Sheet" "items" "[J", Cond.fieldLink RX5 15 "ReadingStages$Sheet" "lane" "I", Cond.methodLink RL 12 yX8_init, Cond.instanceMethod yX8_init, Cond.code yX8_init cX8_init 2 none, Cond.methodLink RX8 1 objectInit, Cond.fieldLink RX8 7 "ReadingStagesModel" "now" "[I", Cond.fieldLink RX8 13 "ReadingStagesModel" "past" "[I", Cond.fieldLink RX8 16 "ReadingStagesModel" "image" "[I", Cond.fieldLink RX8 19 "ReadingStagesModel" "imagePast" "[I", Cond.fieldLink RX8 22 "ReadingStagesModel" "imageActs" "I", Cond.fieldLink RX8 26 "ReadingStagesModel" "tape" "[I", Cond.fieldLink RX8 29 "ReadingStagesModel" "lanes" "[I", Cond.fieldLink RX8 32 "ReadingStagesModel" "sizes" "[I", Cond.fieldLink RX8 35 "ReadingStagesModel" "items" "[J", Cond.fieldLink RX8 39 "ReadingStagesModel" "moved" "[J", Cond.fieldLink RX8 42 "ReadingStagesModel" "order" "[I", Cond.fieldLink RX8 45 "ReadingStagesModel" "strength" "[I"]
def wsL_law_r6 : List Cond := [Cond.fieldLink RX8 48 "ReadingStagesModel" "last" "[I", Cond.fieldLink RX8 51 "ReadingStagesModel" "news" "[I", Cond.fieldLink RX8 54 "ReadingStagesModel" "agains" "[I", Cond.fieldLink RX8 57 "ReadingStagesModel" "losts" "[I", Cond.fieldLink RX8 60 "ReadingStagesModel" "lives" "[I", Cond.fieldLink RX8 63 "ReadingStagesModel" "note" "[I", Cond.fieldLink RX8 66 "ReadingStagesModel" "first" "[I", Cond.methodLink RL 13 yX7_book, Cond.instanceMethod yX7_book, Cond.selects RX7 yX7_book yX7_book, Cond.code yX7_book cX7_book 2 (some .int), Cond.methodLink RX7 69 yX6_takeFrom, Cond.instanceMethod yX6_takeFrom, Cond.selects RX6 yX6_takeFrom yX6_takeFrom, Cond.code yX6_takeFrom cX6_takeFrom 2 none, Cond.methodLink RX6 34 arraycopyName, Cond.native arraycopyName, Cond.static arraycopyName, Cond.initialized "java/lang/System", Cond.fieldLink RX6 40 "ReadingStages$State" "n" "I", Cond.fieldLink RX6 43 "ReadingStages$State" "prior" "I", Cond.methodLink RX7 73 yX6_addBook, Cond.instanceMethod yX6_addBook, Cond.selects RX6 yX6_addBook yX6_addBook]
def wsL_law_r7 : List Cond := [Cond.code yX6_addBook cX6_addBook 2 (some .int), Cond.methodLink RX6 49 yX6_isSetOfBook, Cond.static yX6_isSetOfBook, Cond.code yX6_isSetOfBook cX6_isSetOfBook 1 (some .boolean), Cond.constant RX6 48 (1048575), Cond.methodLink RX7 77 yX7_remembered, Cond.instanceMethod yX7_remembered, Cond.selects RX7 yX7_remembered yX7_remembered, Cond.code yX7_remembered cX7_remembered 2 (some .int), Cond.methodLink RX7 239 yX2_keep, Cond.instanceMethod yX2_keep, Cond.selects RX2 yX2_keep yX2_keep, Cond.code yX2_keep cX2_keep 2 none, Cond.fieldLink RX2 18 "ReadingStages$Past" "size" "I", Cond.methodLink RX2 22 yX2_loseOldest, Cond.instanceMethod yX2_loseOldest, Cond.selects RX2 yX2_loseOldest yX2_loseOldest, Cond.code yX2_loseOldest cX2_loseOldest 3 none, Cond.methodLink RX2 25 yX6_takeFrom, Cond.methodLink RL 17 yX8_book, Cond.instanceMethod yX8_book, Cond.selects RX8 yX8_book yX8_book, Cond.code yX8_book cX8_book 2 (some .int), Cond.methodLink RX8 188 yX8_holds]
def wsL_law_r8 : List Cond := [Cond.instanceMethod yX8_holds, Cond.selects RX8 yX8_holds yX8_holds, Cond.code yX8_holds cX8_holds 2 none, Cond.methodLink RX8 191 yX8_adds, Cond.instanceMethod yX8_adds, Cond.selects RX8 yX8_adds yX8_adds, Cond.code yX8_adds cX8_adds 3 (some .int), Cond.methodLink RX8 172 yX8_isSet, Cond.static yX8_isSet, Cond.code yX8_isSet cX8_isSet 1 (some .boolean), Cond.constantLong RX8 69 (1048575), Cond.methodLink RX8 71 yX8_in, Cond.static yX8_in, Cond.code yX8_in cX8_in 6 (some .boolean), Cond.methodLink RX8 194 yX8_acted, Cond.instanceMethod yX8_acted, Cond.selects RX8 yX8_acted yX8_acted, Cond.code yX8_acted cX8_acted 2 (some .int), Cond.methodLink RX8 169 yX8_notes, Cond.instanceMethod yX8_notes, Cond.selects RX8 yX8_notes yX8_notes, Cond.code yX8_notes cX8_notes 2 none, Cond.fieldLink RX8 128 "ReadingStagesModel" "acts" "I", Cond.methodLink RL 18 yX7_words]
def wsL_law_r9 : List Cond := [Cond.instanceMethod yX7_words, Cond.selects RX7 yX7_words yX7_words, Cond.code yX7_words cX7_words 3 (some .int), Cond.methodLink RX7 80 yX6_changeWords, Cond.instanceMethod yX6_changeWords, Cond.selects RX6 yX6_changeWords yX6_changeWords, Cond.code yX6_changeWords cX6_changeWords 4 (some .int), Cond.methodLink RX6 53 yX6_isBook, Cond.instanceMethod yX6_isBook, Cond.selects RX6 yX6_isBook yX6_isBook, Cond.code yX6_isBook cX6_isBook 2 (some .boolean), Cond.methodLink RL 22 yX8_words, Cond.instanceMethod yX8_words, Cond.selects RX8 yX8_words yX8_words, Cond.code yX8_words cX8_words 3 (some .int), Cond.methodLink RX8 197 yX8_changes, Cond.instanceMethod yX8_changes, Cond.selects RX8 yX8_changes yX8_changes, Cond.code yX8_changes cX8_changes 4 (some .int), Cond.methodLink RX8 104 yX8_isBook, Cond.instanceMethod yX8_isBook, Cond.selects RX8 yX8_isBook yX8_isBook, Cond.code yX8_isBook cX8_isBook 2 (some .boolean), Cond.methodLink RL 23 yX7_lose]
def wsL_law_r10 : List Cond := [Cond.instanceMethod yX7_lose, Cond.selects RX7 yX7_lose yX7_lose, Cond.code yX7_lose cX7_lose 2 (some .int), Cond.methodLink RX7 84 yX6_removeBook, Cond.instanceMethod yX6_removeBook, Cond.selects RX6 yX6_removeBook yX6_removeBook, Cond.code yX6_removeBook cX6_removeBook 3 (some .int), Cond.methodLink RX6 56 yX6_placeOf, Cond.instanceMethod yX6_placeOf, Cond.selects RX6 yX6_placeOf yX6_placeOf, Cond.code yX6_placeOf cX6_placeOf 3 (some .int), Cond.methodLink RX6 60 yX6_closeGap, Cond.instanceMethod yX6_closeGap, Cond.selects RX6 yX6_closeGap yX6_closeGap, Cond.code yX6_closeGap cX6_closeGap 4 none, Cond.methodLink RX6 68 Lib.Math.max.name, Cond.static Lib.Math.max.name, Cond.initialized "java/lang/Math", Cond.code Lib.Math.max.name Lib.Math.max.code 2 (some .int), Cond.methodLink RX6 64 yX6_withoutBit, Cond.static yX6_withoutBit, Cond.code yX6_withoutBit cX6_withoutBit 4 (some .int), Cond.methodLink RL 26 yX8_lose, Cond.instanceMethod yX8_lose]
def wsL_law_r11 : List Cond := [Cond.selects RX8 yX8_lose yX8_lose, Cond.code yX8_lose cX8_lose 2 (some .int), Cond.methodLink RX8 200 yX8_loses, Cond.instanceMethod yX8_loses, Cond.selects RX8 yX8_loses yX8_loses, Cond.code yX8_loses cX8_loses 5 (some .int), Cond.methodLink RX8 111 yX8_placeOf, Cond.instanceMethod yX8_placeOf, Cond.selects RX8 yX8_placeOf yX8_placeOf, Cond.code yX8_placeOf cX8_placeOf 3 (some .int), Cond.methodLink RX8 175 yX8_without, Cond.static yX8_without, Cond.code yX8_without cX8_without 3 (some .int), Cond.methodLink RL 27 yX7_ahead, Cond.instanceMethod yX7_ahead, Cond.selects RX7 yX7_ahead yX7_ahead, Cond.code yX7_ahead cX7_ahead 3 (some .int), Cond.methodLink RX7 87 yX6_turnAhead, Cond.instanceMethod yX6_turnAhead, Cond.selects RX6 yX6_turnAhead yX6_turnAhead, Cond.code yX6_turnAhead cX6_turnAhead 3 (some .int), Cond.static yX7_hasBit, Cond.code yX7_hasBit cX7_hasBit 2 (some .boolean), Cond.methodLink RX6 77 yX6_allBehind]
def wsL_law_r12 : List Cond := [Cond.instanceMethod yX6_allBehind, Cond.selects RX6 yX6_allBehind yX6_allBehind, Cond.code yX6_allBehind cX6_allBehind 5 (some .int), Cond.methodLink RL 30 yX8_ahead, Cond.instanceMethod yX8_ahead, Cond.selects RX8 yX8_ahead yX8_ahead, Cond.code yX8_ahead cX8_ahead 3 (some .int), Cond.methodLink RX8 203 yX8_puts, Cond.instanceMethod yX8_puts, Cond.selects RX8 yX8_puts yX8_puts, Cond.code yX8_puts cX8_puts 4 (some .int), Cond.methodLink RX8 75 yX8_has, Cond.static yX8_has, Cond.code yX8_has cX8_has 2 (some .boolean), Cond.methodLink RX8 179 yX8_comesTo, Cond.instanceMethod yX8_comesTo, Cond.selects RX8 yX8_comesTo yX8_comesTo, Cond.code yX8_comesTo cX8_comesTo 6 (some .boolean), Cond.methodLink RL 31 yX7_prior, Cond.instanceMethod yX7_prior, Cond.selects RX7 yX7_prior yX7_prior, Cond.code yX7_prior cX7_prior 2 (some .int), Cond.methodLink RX7 90 yX6_changePrior, Cond.instanceMethod yX6_changePrior]
def wsL_law_r13 : List Cond := [Cond.selects RX6 yX6_changePrior yX6_changePrior, Cond.code yX6_changePrior cX6_changePrior 3 (some .int), Cond.methodLink RL 34 yX8_prior, Cond.instanceMethod yX8_prior, Cond.selects RX8 yX8_prior yX8_prior, Cond.code yX8_prior cX8_prior 2 (some .int), Cond.methodLink RX8 206 yX8_sets, Cond.instanceMethod yX8_sets, Cond.selects RX8 yX8_sets yX8_sets, Cond.code yX8_sets cX8_sets 3 (some .int), Cond.methodLink RL 35 yX7_tell, Cond.instanceMethod yX7_tell, Cond.selects RX7 yX7_tell yX7_tell, Cond.code yX7_tell cX7_tell 3 (some .int), Cond.methodLink RX7 93 yX6_changeRules, Cond.instanceMethod yX6_changeRules, Cond.selects RX6 yX6_changeRules yX6_changeRules, Cond.code yX6_changeRules cX6_changeRules 3 (some .int), Cond.methodLink RX6 80 yX6_changeSpan, Cond.instanceMethod yX6_changeSpan, Cond.selects RX6 yX6_changeSpan yX6_changeSpan, Cond.code yX6_changeSpan cX6_changeSpan 3 (some .int), Cond.methodLink RX6 83 yX6_changeBound, Cond.instanceMethod yX6_changeBound]
def wsL_law_r14 : List Cond := [Cond.selects RX6 yX6_changeBound yX6_changeBound, Cond.code yX6_changeBound cX6_changeBound 3 (some .int), Cond.methodLink RX6 86 yX6_changeRule, Cond.instanceMethod yX6_changeRule, Cond.selects RX6 yX6_changeRule yX6_changeRule, Cond.code yX6_changeRule cX6_changeRule 3 (some .int), Cond.methodLink RL 38 yX8_tell, Cond.instanceMethod yX8_tell, Cond.selects RX8 yX8_tell yX8_tell, Cond.code yX8_tell cX8_tell 3 (some .int), Cond.methodLink RX8 209 yX8_tells, Cond.instanceMethod yX8_tells, Cond.selects RX8 yX8_tells yX8_tells, Cond.code yX8_tells cX8_tells 5 (some .int), Cond.constantLong RX8 182 (4), Cond.constantLong RX8 184 (20), Cond.constantLong RX8 186 (2), Cond.methodLink RL 39 yX7_move, Cond.instanceMethod yX7_move, Cond.selects RX7 yX7_move yX7_move, Cond.code yX7_move cX7_move 3 (some .int), Cond.methodLink RX7 96 yX6_moveBook, Cond.instanceMethod yX6_moveBook, Cond.selects RX6 yX6_moveBook yX6_moveBook]
def wsL_law_r15 : List Cond := [Cond.code yX6_moveBook cX6_moveBook 5 (some .int), Cond.methodLink RL 42 yX8_move, Cond.instanceMethod yX8_move, Cond.selects RX8 yX8_move yX8_move, Cond.code yX8_move cX8_move 3 (some .int), Cond.methodLink RX8 212 yX8_shifts, Cond.instanceMethod yX8_shifts, Cond.selects RX8 yX8_shifts yX8_shifts, Cond.code yX8_shifts cX8_shifts 6 (some .int), Cond.methodLink RL 43 yX7_settle, Cond.instanceMethod yX7_settle, Cond.selects RX7 yX7_settle yX7_settle, Cond.code yX7_settle cX7_settle 2 (some .int), Cond.fieldLink RX7 99 "ReadingStages$State" "n" "I", Cond.fieldLink RX7 107 "ReadingStages$Search" "found" "[I", Cond.methodLink RX7 103 yX7_seekBestOrGrown, Cond.instanceMethod yX7_seekBestOrGrown, Cond.selects RX7 yX7_seekBestOrGrown yX7_seekBestOrGrown, Cond.code yX7_seekBestOrGrown cX7_seekBestOrGrown 2 none, Cond.methodLink RX7 191 yX4_prepare, Cond.instanceMethod yX4_prepare, Cond.selects RX4 yX4_prepare yX4_prepare, Cond.code yX4_prepare cX4_prepare 3 none, Cond.fieldLink RX4 41 "ReadingStages$State" "n" "I"]
def wsL_law_r16 : List Cond := [Cond.fieldLink RX4 47 "ReadingStages$Search" "n" "I", Cond.fieldLink RX4 58 "ReadingStages$Search" "onlyBetter" "Z", Cond.fieldLink RX4 62 "ReadingStages$Search" "wanted" "I", Cond.fieldLink RX4 65 "ReadingStages$Search" "count" "I", Cond.fieldLink RX4 68 "ReadingStages$Search" "peak" "I", Cond.fieldLink RX4 71 "ReadingStages$Search" "loss" "I", Cond.methodLink RX4 37 yX3_begin, Cond.instanceMethod yX3_begin, Cond.selects RX3 yX3_begin yX3_begin, Cond.code yX3_begin cX3_begin 3 none, Cond.fieldLink RX3 38 "ReadingStages$State" "n" "I", Cond.fieldLink RX3 44 "ReadingStages$Reading" "places" "I", Cond.fieldLink RX3 47 "ReadingStages$State" "span" "I", Cond.fieldLink RX3 50 "ReadingStages$State" "rule" "I", Cond.methodLink RX3 53 yX3_factor, Cond.static yX3_factor, Cond.code yX3_factor cX3_factor 2 (some .int), Cond.methodLink RX4 48 yX6_wordsThatCount, Cond.instanceMethod yX6_wordsThatCount, Cond.selects RX6 yX6_wordsThatCount yX6_wordsThatCount, Cond.code yX6_wordsThatCount cX6_wordsThatCount 2 (some .int), Cond.methodLink RX4 52 yX6_leaders, Cond.instanceMethod yX6_leaders, Cond.selects RX6 yX6_leaders yX6_leaders]
def wsL_law_r17 : List Cond := [Cond.code yX6_leaders cX6_leaders 4 (some .int), Cond.methodLink RX4 54 yX4_limitFresh, Cond.instanceMethod yX4_limitFresh, Cond.selects RX4 yX4_limitFresh yX4_limitFresh, Cond.code yX4_limitFresh cX4_limitFresh 3 none, Cond.methodLink RX7 310 yX4_grow, Cond.instanceMethod yX4_grow, Cond.selects RX4 yX4_grow yX4_grow, Cond.code yX4_grow cX4_grow 4 none, Cond.methodLink RX4 121 yX4_nextGrown, Cond.instanceMethod yX4_nextGrown, Cond.selects RX4 yX4_nextGrown yX4_nextGrown, Cond.code yX4_nextGrown cX4_nextGrown 11 (some .int), Cond.methodLink RX4 129 yX3_knownAhead, Cond.instanceMethod yX3_knownAhead, Cond.selects RX3 yX3_knownAhead yX3_knownAhead, Cond.code yX3_knownAhead cX3_knownAhead 2 (some .int), Cond.methodLink RX4 95 yJ6_bitCount_0f7a4, Cond.static yJ6_bitCount_0f7a4, Cond.initialized RJ6, Cond.code yJ6_bitCount_0f7a4 cJ6_bitCount_0f7a4 1 (some .int), Cond.constant RJ6 265 (1431655765), Cond.constant RJ6 266 (858993459), Cond.constant RJ6 267 (252645135)]
def wsL_law_r18 : List Cond := [Cond.methodLink RX4 85 yX4_mayCome, Cond.instanceMethod yX4_mayCome, Cond.selects RX4 yX4_mayCome yX4_mayCome, Cond.code yX4_mayCome cX4_mayCome 3 (some .boolean), Cond.methodLink RX4 89 yX3_step, Cond.instanceMethod yX3_step, Cond.selects RX3 yX3_step yX3_step, Cond.code yX3_step cX3_step 9 none, Cond.methodLink RX3 72 yX3_knownAhead, Cond.methodLink RX3 75 yX3_ofStrength, Cond.static yX3_ofStrength, Cond.code yX3_ofStrength cX3_ofStrength 4 (some .int), Cond.methodLink RX4 124 yX3_peak, Cond.instanceMethod yX3_peak, Cond.selects RX3 yX3_peak yX3_peak, Cond.code yX3_peak cX3_peak 3 (some .int), Cond.methodLink RX3 84 Lib.Math.max.name, Cond.methodLink RX3 79 yJ6_bitCount_0f7a4, Cond.methodLink RX4 127 yX3_loss, Cond.instanceMethod yX3_loss, Cond.selects RX3 yX3_loss yX3_loss, Cond.code yX3_loss cX3_loss 3 (some .int), Cond.methodLink RX7 313 yX4_seekLeast, Cond.instanceMethod yX4_seekLeast]
def wsL_law_r19 : List Cond := [Cond.selects RX4 yX4_seekLeast yX4_seekLeast, Cond.code yX4_seekLeast cX4_seekLeast 1 none, Cond.methodLink RX4 78 yX4_seek, Cond.instanceMethod yX4_seek, Cond.selects RX4 yX4_seek yX4_seek, Cond.code yX4_seek cX4_seek 1 none, Cond.methodLink RX4 74 yX4_goThrough, Cond.static yX4_goThrough, Cond.code yX4_goThrough cX4_goThrough 9 none, Cond.fieldLink RX4 92 "ReadingStages$Reading" "fresh" "[I", Cond.methodLink RX4 100 Lib.Math.max.name, Cond.fieldLink RX4 106 "ReadingStages$Reading" "lost" "[I", Cond.methodLink RX4 81 yX4_keepFound, Cond.instanceMethod yX4_keepFound, Cond.selects RX4 yX4_keepFound yX4_keepFound, Cond.code yX4_keepFound cX4_keepFound 3 none, Cond.methodLink RX4 115 arraycopyName, Cond.methodLink RX4 109 yX4_isWanted, Cond.instanceMethod yX4_isWanted, Cond.selects RX4 yX4_isWanted yX4_isWanted, Cond.code yX4_isWanted cX4_isWanted 3 (some .boolean), Cond.methodLink RX7 111 yX6_changeOrder, Cond.instanceMethod yX6_changeOrder, Cond.selects RX6 yX6_changeOrder yX6_changeOrder]
def wsL_law_r20 : List Cond := [Cond.code yX6_changeOrder cX6_changeOrder 3 (some .int), Cond.methodLink RX6 89 yX6_number, Cond.instanceMethod yX6_number, Cond.selects RX6 yX6_number yX6_number, Cond.code yX6_number cX6_number 4 (some .int), Cond.methodLink RL 46 yX8_settle, Cond.instanceMethod yX8_settle, Cond.selects RX8 yX8_settle yX8_settle, Cond.code yX8_settle cX8_settle 2 (some .int), Cond.methodLink RX8 215 yX8_settles, Cond.instanceMethod yX8_settles, Cond.selects RX8 yX8_settles yX8_settles, Cond.code yX8_settles cX8_settles 6 (some .int), Cond.fieldLink RX8 131 "ReadingStagesModel" "bestNumber" "I", Cond.methodLink RX8 96 yX8_takesOrder, Cond.instanceMethod yX8_takesOrder, Cond.selects RX8 yX8_takesOrder yX8_takesOrder, Cond.code yX8_takesOrder cX8_takesOrder 2 none, Cond.methodLink RX8 114 yX8_number, Cond.instanceMethod yX8_number, Cond.selects RX8 yX8_number yX8_number, Cond.code yX8_number cX8_number 3 (some .int), Cond.methodLink RX8 148 yX8_laysBest, Cond.instanceMethod yX8_laysBest]
def wsL_law_r21 : List Cond := [Cond.selects RX8 yX8_laysBest yX8_laysBest, Cond.code yX8_laysBest cX8_laysBest 4 none, Cond.fieldLink RX8 137 "ReadingStagesModel" "bestPeak" "I", Cond.fieldLink RX8 140 "ReadingStagesModel" "bestLoss" "I", Cond.methodLink RX8 134 yX8_firstOrder, Cond.instanceMethod yX8_firstOrder, Cond.selects RX8 yX8_firstOrder yX8_firstOrder, Cond.code yX8_firstOrder cX8_firstOrder 2 none, Cond.methodLink RX8 124 yX8_isHolding, Cond.instanceMethod yX8_isHolding, Cond.selects RX8 yX8_isHolding yX8_isHolding, Cond.code yX8_isHolding cX8_isHolding 4 (some .boolean), Cond.methodLink RX8 99 yX8_readsOrder, Cond.instanceMethod yX8_readsOrder, Cond.selects RX8 yX8_readsOrder yX8_readsOrder, Cond.code yX8_readsOrder cX8_readsOrder 2 none, Cond.methodLink RX8 83 yX8_begins, Cond.instanceMethod yX8_begins, Cond.selects RX8 yX8_begins yX8_begins, Cond.code yX8_begins cX8_begins 2 none, Cond.methodLink RX8 86 yX8_wordsAt, Cond.instanceMethod yX8_wordsAt, Cond.selects RX8 yX8_wordsAt yX8_wordsAt, Cond.code yX8_wordsAt cX8_wordsAt 2 (some .int)]
def wsL_law_r22 : List Cond := [Cond.methodLink RX8 89 yX8_reads, Cond.instanceMethod yX8_reads, Cond.selects RX8 yX8_reads yX8_reads, Cond.code yX8_reads cX8_reads 4 none, Cond.methodLink RX8 79 yX8_lasts, Cond.instanceMethod yX8_lasts, Cond.selects RX8 yX8_lasts yX8_lasts, Cond.code yX8_lasts cX8_lasts 4 (some .int), Cond.methodLink RX8 118 yX8_peak, Cond.instanceMethod yX8_peak, Cond.selects RX8 yX8_peak yX8_peak, Cond.code yX8_peak cX8_peak 3 (some .int), Cond.methodLink RX8 93 yX8_sizeOf, Cond.static yX8_sizeOf, Cond.code yX8_sizeOf cX8_sizeOf 3 (some .int), Cond.methodLink RX8 121 yX8_loss, Cond.instanceMethod yX8_loss, Cond.selects RX8 yX8_loss yX8_loss, Cond.code yX8_loss cX8_loss 3 (some .int), Cond.methodLink RX8 143 yX8_nextOrder, Cond.instanceMethod yX8_nextOrder, Cond.selects RX8 yX8_nextOrder yX8_nextOrder, Cond.code yX8_nextOrder cX8_nextOrder 7 (some .boolean), Cond.methodLink RX8 151 yX8_grows]
def wsL_law_r23 : List Cond := [Cond.instanceMethod yX8_grows, Cond.selects RX8 yX8_grows yX8_grows, Cond.code yX8_grows cX8_grows 11 none, Cond.methodLink RX8 108 yX8_aheadOf, Cond.instanceMethod yX8_aheadOf, Cond.selects RX8 yX8_aheadOf yX8_aheadOf, Cond.code yX8_aheadOf cX8_aheadOf 4 (some .int), Cond.methodLink RL 47 yX7_place, Cond.instanceMethod yX7_place, Cond.selects RX7 yX7_place yX7_place, Cond.code yX7_place cX7_place 3 (some .int), Cond.fieldLink RX7 122 "ReadingStages$State" "order" "[I", Cond.fieldLink RX7 125 "ReadingStages$Reading" "fresh" "[I", Cond.fieldLink RX7 133 "ReadingStages$Reading" "again" "[I", Cond.fieldLink RX7 136 "ReadingStages$Reading" "lost" "[I", Cond.methodLink RX7 115 yX6_isBook, Cond.methodLink RX7 119 yX3_readOrder, Cond.instanceMethod yX3_readOrder, Cond.selects RX3 yX3_readOrder yX3_readOrder, Cond.code yX3_readOrder cX3_readOrder 3 none, Cond.fieldLink RX3 61 "ReadingStages$State" "order" "[I", Cond.methodLink RX3 57 yX3_begin, Cond.methodLink RX3 64 yX6_wordsThatCount, Cond.methodLink RX3 68 yX3_step]
def wsL_law_r24 : List Cond := [Cond.methodLink RX7 128 yJ6_bitCount_0f7a4, Cond.methodLink RX7 139 yX3_knownAhead, Cond.methodLink RL 50 yX8_place, Cond.instanceMethod yX8_place, Cond.selects RX8 yX8_place yX8_place, Cond.code yX8_place cX8_place 3 (some .int), Cond.methodLink RL 51 yX7_word, Cond.instanceMethod yX7_word, Cond.selects RX7 yX7_word yX7_word, Cond.code yX7_word cX7_word 3 (some .int), Cond.fieldLink RX7 152 "ReadingStages$State" "sets" "[I", Cond.methodLink RX7 142 yX7_firstWith, Cond.instanceMethod yX7_firstWith, Cond.selects RX7 yX7_firstWith yX7_firstWith, Cond.code yX7_firstWith cX7_firstWith 4 (some .int), Cond.methodLink RX7 325 yX7_hasBit, Cond.methodLink RX7 146 yX3_strengthBehindAll, Cond.instanceMethod yX3_strengthBehindAll, Cond.selects RX3 yX3_strengthBehindAll yX3_strengthBehindAll, Cond.code yX3_strengthBehindAll cX3_strengthBehindAll 5 (some .int), Cond.methodLink RX7 149 yX7_howManyWith, Cond.instanceMethod yX7_howManyWith, Cond.selects RX7 yX7_howManyWith yX7_howManyWith, Cond.code yX7_howManyWith cX7_howManyWith 5 (some .int)]
def wsL_law_r25 : List Cond := [Cond.methodLink RL 54 yX8_word, Cond.instanceMethod yX8_word, Cond.selects RX8 yX8_word yX8_word, Cond.code yX8_word cX8_word 8 (some .int), Cond.constantLong RX8 102 (19), Cond.methodLink RL 55 yX7_told, Cond.instanceMethod yX7_told, Cond.selects RX7 yX7_told yX7_told, Cond.code yX7_told cX7_told 3 (some .int), Cond.fieldLink RX7 155 "ReadingStages$State" "followers" "[I", Cond.methodLink RX7 158 yX6_leaders, Cond.methodLink RX7 161 yX6_placeOf, Cond.methodLink RL 58 yX8_told, Cond.instanceMethod yX8_told, Cond.selects RX8 yX8_told yX8_told, Cond.code yX8_told cX8_told 3 (some .int), Cond.methodLink RL 59 yX7_count, Cond.instanceMethod yX7_count, Cond.selects RX7 yX7_count yX7_count, Cond.code yX7_count cX7_count 2 (some .int), Cond.fieldLink RX7 164 "ReadingStages$State" "prior" "I", Cond.fieldLink RX7 167 "ReadingStages$State" "span" "I", Cond.fieldLink RX7 170 "ReadingStages$State" "bound" "I", Cond.fieldLink RX7 173 "ReadingStages$State" "rule" "I"]
def wsL_law_r26 : List Cond := [Cond.fieldLink RX7 179 "ReadingStages$Past" "size" "I", Cond.methodLink RX7 176 yX6_number, Cond.methodLink RX7 182 yX7_countOfReading, Cond.instanceMethod yX7_countOfReading, Cond.selects RX7 yX7_countOfReading yX7_countOfReading, Cond.code yX7_countOfReading cX7_countOfReading 3 (some .int), Cond.methodLink RX7 316 yX6_holds, Cond.instanceMethod yX6_holds, Cond.selects RX6 yX6_holds yX6_holds, Cond.code yX6_holds cX6_holds 3 (some .boolean), Cond.methodLink RX6 93 yX6_leaders, Cond.methodLink RX7 320 yX3_peak, Cond.methodLink RX7 323 yX3_loss, Cond.methodLink RL 62 yX8_count, Cond.instanceMethod yX8_count, Cond.selects RX8 yX8_count yX8_count, Cond.code yX8_count cX8_count 2 (some .int), Cond.methodLink RL 63 yX7_best, Cond.instanceMethod yX7_best, Cond.selects RX7 yX7_best yX7_best, Cond.code yX7_best cX7_best 2 (some .int), Cond.fieldLink RX7 185 "ReadingStages$Search" "peak" "I", Cond.fieldLink RX7 188 "ReadingStages$Search" "loss" "I", Cond.methodLink RL 66 yX8_best]
def wsL_law_r27 : List Cond := [Cond.instanceMethod yX8_best, Cond.selects RX8 yX8_best yX8_best, Cond.code yX8_best cX8_best 2 (some .int), Cond.constantLong RX8 146 (5), Cond.methodLink RL 67 yX7_many, Cond.instanceMethod yX7_many, Cond.selects RX7 yX7_many yX7_many, Cond.code yX7_many cX7_many 2 (some .int), Cond.fieldLink RX7 200 "ReadingStages$Search" "count" "I", Cond.methodLink RX7 194 yX4_limitFresh, Cond.methodLink RX7 197 yX4_seek, Cond.methodLink RL 70 yX8_many, Cond.instanceMethod yX8_many, Cond.selects RX8 yX8_many yX8_many, Cond.code yX8_many cX8_many 5 (some .int), Cond.methodLink RL 71 yX7_fit, Cond.instanceMethod yX7_fit, Cond.selects RX7 yX7_fit yX7_fit, Cond.code yX7_fit cX7_fit 2 (some .int), Cond.fieldLink RX7 203 "ReadingStages$Search" "wanted" "I", Cond.methodLink RL 74 yX8_fit, Cond.instanceMethod yX8_fit, Cond.selects RX8 yX8_fit yX8_fit, Cond.code yX8_fit cX8_fit 4 (some .int)]
def wsL_law_r28 : List Cond := [Cond.methodLink RL 75 yX7_kept, Cond.instanceMethod yX7_kept, Cond.selects RX7 yX7_kept yX7_kept, Cond.code yX7_kept cX7_kept 8 (some .int), Cond.methodLink RX7 206 yX7_placesWith, Cond.instanceMethod yX7_placesWith, Cond.selects RX7 yX7_placesWith yX7_placesWith, Cond.code yX7_placesWith cX7_placesWith 4 (some .int), Cond.methodLink RX7 328 yX6_wordsThatCount, Cond.methodLink RX7 209 yX7_waysToKeep, Cond.instanceMethod yX7_waysToKeep, Cond.selects RX7 yX7_waysToKeep yX7_waysToKeep, Cond.code yX7_waysToKeep cX7_waysToKeep 7 (some .int), Cond.methodLink RX7 331 yX3_begin, Cond.methodLink RX7 334 yX3_keepsWordMetAt, Cond.instanceMethod yX3_keepsWordMetAt, Cond.selects RX3 yX3_keepsWordMetAt yX3_keepsWordMetAt, Cond.code yX3_keepsWordMetAt cX3_keepsWordMetAt 3 (some .boolean), Cond.methodLink RX7 212 yX7_power, Cond.static yX7_power, Cond.code yX7_power cX7_power 4 (some .int), Cond.methodLink RX7 215 yX7_greatestDivisor, Cond.static yX7_greatestDivisor, Cond.code yX7_greatestDivisor cX7_greatestDivisor 6 (some .int)]
def wsL_law_r29 : List Cond := [Cond.methodLink RL 79 yX8_kept, Cond.instanceMethod yX8_kept, Cond.selects RX8 yX8_kept yX8_kept, Cond.code yX8_kept cX8_kept 9 (some .int), Cond.constantLong RX8 154 (10), Cond.methodLink RL 80 yX7_letter, Cond.instanceMethod yX7_letter, Cond.selects RX7 yX7_letter yX7_letter, Cond.code yX7_letter cX7_letter 2 (some .int), Cond.fieldLink RX7 221 "ReadingStages$Letters" "size" "I", Cond.methodLink RX7 218 yX7_writeNote, Cond.instanceMethod yX7_writeNote, Cond.selects RX7 yX7_writeNote yX7_writeNote, Cond.code yX7_writeNote cX7_writeNote 2 none, Cond.methodLink RX7 339 yJ0_length_8abf5, Cond.instanceMethod yJ0_length_8abf5, Cond.selects RJ0 yJ0_length_8abf5 yJ0_length_8abf5, Cond.initialized RJ0, Cond.code yJ0_length_8abf5 cJ0_length_8abf5 1 (some .int), Cond.fieldLink RJ0 9 "java/lang/String" "value" "[B", Cond.methodLink RJ0 335 yJ0_coder_7d493, Cond.instanceMethod yJ0_coder_7d493, Cond.selects RJ0 yJ0_coder_7d493 yJ0_coder_7d493, Cond.code yJ0_coder_7d493 cJ0_coder_7d493 1 (some .byte)]
def wsL_law_r30 : List Cond := [Cond.fieldLink RJ0 38 "java/lang/String" "COMPACT_STRINGS" "Z", Cond.fieldLink RJ0 15 "java/lang/String" "coder" "B", Cond.methodLink RX7 344 yJ0_charAt_5068e, Cond.instanceMethod yJ0_charAt_5068e, Cond.selects RJ0 yJ0_charAt_5068e yJ0_charAt_5068e, Cond.code yJ0_charAt_5068e cJ0_charAt_5068e 2 (some .char), Cond.methodLink RJ0 492 yJ0_isLatin1_aae02, Cond.instanceMethod yJ0_isLatin1_aae02, Cond.selects RJ0 yJ0_isLatin1_aae02 yJ0_isLatin1_aae02, Cond.code yJ0_isLatin1_aae02 cJ0_isLatin1_aae02 1 (some .boolean), Cond.methodLink RJ0 495 yJ1_charAt_3b067, Cond.static yJ1_charAt_3b067, Cond.initialized RJ1, Cond.code yJ1_charAt_3b067 cJ1_charAt_3b067 2 (some .char), Cond.methodLink RJ1 9 yJ0_checkIndex_df160, Cond.static yJ0_checkIndex_df160, Cond.code yJ0_checkIndex_df160 cJ0_checkIndex_df160 2 none, Cond.fieldLink RJ0 1053 "jdk/internal/util/Preconditions" "SIOOBE_FORMATTER" "Ljava/util/function/BiFunction;", Cond.methodLink RJ0 1059 yJ3_checkIndex_8e157, Cond.static yJ3_checkIndex_8e157, Cond.initialized RJ3, Cond.code yJ3_checkIndex_8e157 cJ3_checkIndex_8e157 3 (some .int), Cond.methodLink RJ0 498 yJ2_charAt_3b067, Cond.static yJ2_charAt_3b067]
def wsL_law_r31 : List Cond := [Cond.initialized RJ2, Cond.code yJ2_charAt_3b067 cJ2_charAt_3b067 2 (some .char), Cond.methodLink RJ2 67 yJ2_checkIndex_2214a, Cond.static yJ2_checkIndex_2214a, Cond.code yJ2_checkIndex_2214a cJ2_checkIndex_2214a 2 none, Cond.methodLink RJ2 48 yJ2_length_9d52b, Cond.static yJ2_length_9d52b, Cond.code yJ2_length_9d52b cJ2_length_9d52b 1 (some .int), Cond.methodLink RJ2 414 yJ0_checkIndex_df160, Cond.methodLink RJ2 71 yJ2_getChar_3b067, Cond.static yJ2_getChar_3b067, Cond.code yJ2_getChar_3b067 cJ2_getChar_3b067 2 (some .char), Cond.fieldLink RJ2 44 "java/lang/StringUTF16" "$assertionsDisabled" "Z", Cond.fieldLink RJ2 59 "java/lang/StringUTF16" "HI_BYTE_SHIFT" "I", Cond.fieldLink RJ2 63 "java/lang/StringUTF16" "LO_BYTE_SHIFT" "I", Cond.methodLink RX7 229 yX0_add, Cond.instanceMethod yX0_add, Cond.selects RX0 yX0_add yX0_add, Cond.code yX0_add cX0_add 2 (some .boolean), Cond.fieldLink RX0 13 "ReadingStages$Letters" "size" "I", Cond.methodLink RX7 347 yX0_addNumber, Cond.instanceMethod yX0_addNumber, Cond.selects RX0 yX0_addNumber yX0_addNumber, Cond.code yX0_addNumber cX0_addNumber 2 none]
def wsL_law_r32 : List Cond := [Cond.methodLink RX0 17 yX0_add, Cond.methodLink RX7 222 yX0_at, Cond.instanceMethod yX0_at, Cond.selects RX0 yX0_at yX0_at, Cond.code yX0_at cX0_at 2 (some .char), Cond.methodLink RL 83 yX8_letter, Cond.instanceMethod yX8_letter, Cond.selects RX8 yX8_letter yX8_letter, Cond.code yX8_letter cX8_letter 2 (some .int), Cond.fieldLink RX8 156 "ReadingStagesModel" "noted" "I", Cond.methodLink RX8 166 yX8_writesNote, Cond.instanceMethod yX8_writesNote, Cond.selects RX8 yX8_writesNote yX8_writesNote, Cond.code yX8_writesNote cX8_writesNote 2 none, Cond.methodLink RX8 159 yX8_writes, Cond.instanceMethod yX8_writes, Cond.selects RX8 yX8_writes yX8_writes, Cond.code yX8_writes cX8_writes 2 none, Cond.methodLink RX8 163 yX8_writesNumber, Cond.instanceMethod yX8_writesNumber, Cond.selects RX8 yX8_writesNumber yX8_writesNumber, Cond.code yX8_writesNumber cX8_writesNumber 2 none, Cond.methodLink RL 84 yX7_type, Cond.instanceMethod yX7_type]
def wsL_law_r33 : List Cond := [Cond.selects RX7 yX7_type yX7_type, Cond.code yX7_type cX7_type 2 (some .int), Cond.fieldLink RX7 226 "ReadingStages$Parser" "tape" "LReadingStages$Letters;", Cond.methodLink RL 87 yX8_type, Cond.instanceMethod yX8_type, Cond.selects RX8 yX8_type yX8_type, Cond.code yX8_type cX8_type 2 (some .int), Cond.constantLong RX8 218 (32), Cond.constantLong RX8 220 (126), Cond.fieldLink RX8 222 "ReadingStagesModel" "typed" "I", Cond.methodLink RL 88 yX7_read, Cond.instanceMethod yX7_read, Cond.selects RX7 yX7_read yX7_read, Cond.code yX7_read cX7_read 2 (some .int), Cond.fieldLink RX7 237 "ReadingStages$Parser" "at" "I", Cond.fieldLink RX7 242 "ReadingStages$Parser" "draft" "LReadingStages$State;", Cond.methodLink RX7 233 yX1_parses, Cond.instanceMethod yX1_parses, Cond.selects RX1 yX1_parses yX1_parses, Cond.code yX1_parses cX1_parses 3 (some .boolean), Cond.fieldLink RX1 31 "ReadingStages$State" "n" "I", Cond.fieldLink RX1 35 "ReadingStages$Parser" "at" "I", Cond.methodLink RX1 27 yX6_takeFrom, Cond.methodLink RX1 38 yX1_takesRule]
def wsL_law_r34 : List Cond := [Cond.instanceMethod yX1_takesRule, Cond.selects RX1 yX1_takesRule yX1_takesRule, Cond.code yX1_takesRule cX1_takesRule 3 (some .boolean), Cond.fieldLink RX1 58 "ReadingStages$Letters" "size" "I", Cond.fieldLink RX1 76 "ReadingStages$State" "rule" "I", Cond.methodLink RX1 64 yX1_next, Cond.instanceMethod yX1_next, Cond.selects RX1 yX1_next yX1_next, Cond.code yX1_next cX1_next 1 (some .char), Cond.methodLink RX1 61 yX0_at, Cond.methodLink RX1 68 yX1_nameOf, Cond.static yX1_nameOf, Cond.code yX1_nameOf cX1_nameOf 1 (some (.object "java/lang/String")), Cond.methodLink RX1 72 yX1_isName, Cond.instanceMethod yX1_isName, Cond.selects RX1 yX1_isName yX1_isName, Cond.code yX1_isName cX1_isName 5 (some .boolean), Cond.methodLink RX1 85 yJ0_length_8abf5, Cond.methodLink RX1 91 yJ0_charAt_5068e, Cond.methodLink RX1 42 yX1_takesSpan, Cond.instanceMethod yX1_takesSpan, Cond.selects RX1 yX1_takesSpan yX1_takesSpan, Cond.code yX1_takesSpan cX1_takesSpan 2 (some .boolean), Cond.fieldLink RX1 97 "ReadingStages$State" "span" "I"]
def wsL_law_r35 : List Cond := [Cond.methodLink RX1 94 yX1_nextFigure, Cond.instanceMethod yX1_nextFigure, Cond.selects RX1 yX1_nextFigure yX1_nextFigure, Cond.code yX1_nextFigure cX1_nextFigure 2 (some .int), Cond.methodLink RX1 45 yX1_takesSign, Cond.instanceMethod yX1_takesSign, Cond.selects RX1 yX1_takesSign yX1_takesSign, Cond.code yX1_takesSign cX1_takesSign 2 (some .boolean), Cond.methodLink RX1 49 yX1_takesBooks, Cond.instanceMethod yX1_takesBooks, Cond.selects RX1 yX1_takesBooks yX1_takesBooks, Cond.code yX1_takesBooks cX1_takesBooks 2 (some .boolean), Cond.methodLink RX1 100 yX1_takesBook, Cond.instanceMethod yX1_takesBook, Cond.selects RX1 yX1_takesBook yX1_takesBook, Cond.code yX1_takesBook cX1_takesBook 2 (some .boolean), Cond.methodLink RX1 103 yX6_addBook, Cond.methodLink RX1 52 yX1_isAtEnd, Cond.instanceMethod yX1_isAtEnd, Cond.selects RX1 yX1_isAtEnd yX1_isAtEnd, Cond.code yX1_isAtEnd cX1_isAtEnd 1 (some .boolean), Cond.methodLink RX1 55 yX1_takesPairs, Cond.instanceMethod yX1_takesPairs, Cond.selects RX1 yX1_takesPairs yX1_takesPairs]
def wsL_law_r36 : List Cond := [Cond.code yX1_takesPairs cX1_takesPairs 2 (some .boolean), Cond.methodLink RX1 107 yX1_takesPair, Cond.instanceMethod yX1_takesPair, Cond.selects RX1 yX1_takesPair yX1_takesPair, Cond.code yX1_takesPair cX1_takesPair 3 (some .boolean), Cond.fieldLink RX1 114 "ReadingStages$State" "followers" "[I", Cond.methodLink RX1 110 yX6_isBook, Cond.methodLink RX1 122 yX6_turnAhead, Cond.methodLink RL 92 yX8_read, Cond.instanceMethod yX8_read, Cond.selects RX8 yX8_read yX8_read, Cond.code yX8_read cX8_read 3 (some .int), Cond.fieldLink RX8 225 "ReadingStagesModel" "place" "I", Cond.methodLink RX8 261 yX8_readsAll, Cond.instanceMethod yX8_readsAll, Cond.selects RX8 yX8_readsAll yX8_readsAll, Cond.code yX8_readsAll cX8_readsAll 4 (some .boolean), Cond.methodLink RX8 249 yX8_rule, Cond.instanceMethod yX8_rule, Cond.selects RX8 yX8_rule yX8_rule, Cond.code yX8_rule cX8_rule 1 (some .int), Cond.methodLink RX8 232 yX8_here, Cond.instanceMethod yX8_here, Cond.selects RX8 yX8_here yX8_here]
def wsL_law_r37 : List Cond := [Cond.code yX8_here cX8_here 1 (some .int), Cond.methodLink RX8 235 yX8_isWord, Cond.instanceMethod yX8_isWord, Cond.selects RX8 yX8_isWord yX8_isWord, Cond.code yX8_isWord cX8_isWord 6 (some .boolean), Cond.methodLink RX8 228 yX8_isAt, Cond.instanceMethod yX8_isAt, Cond.selects RX8 yX8_isAt yX8_isAt, Cond.code yX8_isAt cX8_isAt 4 (some .boolean), Cond.methodLink RX8 239 yX8_isMore, Cond.instanceMethod yX8_isMore, Cond.selects RX8 yX8_isMore yX8_isMore, Cond.code yX8_isMore cX8_isMore 6 (some .boolean), Cond.methodLink RX8 246 yX8_figure, Cond.instanceMethod yX8_figure, Cond.selects RX8 yX8_figure yX8_figure, Cond.code yX8_figure cX8_figure 4 (some .int), Cond.methodLink RX8 252 yX8_takes, Cond.instanceMethod yX8_takes, Cond.selects RX8 yX8_takes yX8_takes, Cond.code yX8_takes cX8_takes 3 (some .boolean), Cond.methodLink RX8 255 yX8_readsBook, Cond.instanceMethod yX8_readsBook, Cond.selects RX8 yX8_readsBook yX8_readsBook]
def wsL_law_r38 : List Cond := [Cond.code yX8_readsBook cX8_readsBook 2 (some .boolean), Cond.constantLong RX8 242 (97), Cond.constantLong RX8 244 (116), Cond.methodLink RX8 258 yX8_readsPair, Cond.instanceMethod yX8_readsPair, Cond.selects RX8 yX8_readsPair yX8_readsPair, Cond.code yX8_readsPair cX8_readsPair 3 (some .boolean), Cond.methodLink RL 93 yX7_drift, Cond.instanceMethod yX7_drift, Cond.selects RX7 yX7_drift yX7_drift, Cond.code yX7_drift cX7_drift 3 (some .int), Cond.methodLink RX7 245 yX7_takeTurn, Cond.instanceMethod yX7_takeTurn, Cond.selects RX7 yX7_takeTurn yX7_takeTurn, Cond.code yX7_takeTurn cX7_takeTurn 5 none, Cond.fieldLink RX7 251 "ReadingStages$State" "draw" "I", Cond.constant RX7 308 (65536), Cond.constant RX7 309 (1048576), Cond.methodLink RX7 305 yX6_goOn, Cond.instanceMethod yX6_goOn, Cond.selects RX6 yX6_goOn yX6_goOn, Cond.code yX6_goOn cX6_goOn 1 none, Cond.constant RX6 46 (1103515245), Cond.constant RX6 47 (2147483647)]
def wsL_law_r39 : List Cond := [Cond.methodLink RL 96 yX8_drift, Cond.instanceMethod yX8_drift, Cond.selects RX8 yX8_drift yX8_drift, Cond.code yX8_drift cX8_drift 5 (some .int), Cond.constantLong RX8 270 (40), Cond.constant RX8 272 (65536), Cond.constant RX8 276 (1048576), Cond.fieldLink RX8 280 "ReadingStagesModel" "lastTold" "I", Cond.methodLink RX8 273 yX8_draws, Cond.instanceMethod yX8_draws, Cond.selects RX8 yX8_draws yX8_draws, Cond.code yX8_draws cX8_draws 2 (some .int), Cond.constantLong RX8 264 (1103515245), Cond.constantLong RX8 266 (12345), Cond.constantLong RX8 268 (2147483647), Cond.methodLink RX8 277 yX8_does, Cond.instanceMethod yX8_does, Cond.selects RX8 yX8_does yX8_does, Cond.code yX8_does cX8_does 5 (some .int), Cond.methodLink RL 97 yX7_undo, Cond.instanceMethod yX7_undo, Cond.selects RX7 yX7_undo yX7_undo, Cond.code yX7_undo cX7_undo 1 (some .int), Cond.methodLink RX7 248 yX2_bringBack]
def wsL_law_r40 : List Cond := [Cond.instanceMethod yX2_bringBack, Cond.selects RX2 yX2_bringBack yX2_bringBack, Cond.code yX2_bringBack cX2_bringBack 2 (some .boolean), Cond.methodLink RL 100 yX8_undo, Cond.instanceMethod yX8_undo, Cond.selects RX8 yX8_undo yX8_undo, Cond.code yX8_undo cX8_undo 2 (some .int), Cond.methodLink RL 101 yX7_seed, Cond.instanceMethod yX7_seed, Cond.selects RX7 yX7_seed yX7_seed, Cond.code yX7_seed cX7_seed 3 (some .int), Cond.methodLink RL 104 yX8_seed, Cond.instanceMethod yX8_seed, Cond.selects RX8 yX8_seed yX8_seed, Cond.code yX8_seed cX8_seed 3 (some .int), Cond.methodLink RL 105 yX7_image, Cond.instanceMethod yX7_image, Cond.selects RX7 yX7_image yX7_image, Cond.code yX7_image cX7_image 1 (some .int), Cond.fieldLink RX7 257 "ReadingStages" "hasImage" "Z", Cond.methodLink RX7 254 yX2_takeFrom, Cond.instanceMethod yX2_takeFrom, Cond.selects RX2 yX2_takeFrom yX2_takeFrom, Cond.code yX2_takeFrom cX2_takeFrom 3 none]
def wsL_law_r41 : List Cond := [Cond.methodLink RL 108 yX8_image, Cond.instanceMethod yX8_image, Cond.selects RX8 yX8_image yX8_image, Cond.code yX8_image cX8_image 2 (some .int), Cond.methodLink RL 109 yX7_restore, Cond.instanceMethod yX7_restore, Cond.selects RX7 yX7_restore yX7_restore, Cond.code yX7_restore cX7_restore 1 (some .int), Cond.methodLink RL 112 yX8_restore, Cond.instanceMethod yX8_restore, Cond.selects RX8 yX8_restore yX8_restore, Cond.code yX8_restore cX8_restore 2 (some .int), Cond.methodLink RL 113 yX7_seen, Cond.instanceMethod yX7_seen, Cond.selects RX7 yX7_seen yX7_seen, Cond.code yX7_seen cX7_seen 8 (some .int), Cond.fieldLink RX7 268 "ReadingStages$Sheet" "items" "[J", Cond.constantLong RX7 272 (20), Cond.methodLink RX7 261 yX7_faultOfRow, Cond.instanceMethod yX7_faultOfRow, Cond.selects RX7 yX7_faultOfRow yX7_faultOfRow, Cond.code yX7_faultOfRow cX7_faultOfRow 5 (some .int), Cond.fieldLink RX7 291 "ReadingStages$Sheet" "lane" "I", Cond.methodLink RX7 282 yX7_isSheet]
def wsL_law_r42 : List Cond := [Cond.static yX7_isSheet, Cond.code yX7_isSheet cX7_isSheet 1 (some .boolean), Cond.methodLink RX7 285 yX7_isLane, Cond.static yX7_isLane, Cond.code yX7_isLane cX7_isLane 1 (some .boolean), Cond.methodLink RX7 295 yX5_has, Cond.instanceMethod yX5_has, Cond.selects RX5 yX5_has yX5_has, Cond.code yX5_has cX5_has 3 (some .boolean), Cond.fieldLink RX5 19 "ReadingStages$Sheet" "size" "I", Cond.methodLink RX7 265 yX4_forgetLeaders, Cond.instanceMethod yX4_forgetLeaders, Cond.selects RX4 yX4_forgetLeaders yX4_forgetLeaders, Cond.code yX4_forgetLeaders cX4_forgetLeaders 2 none, Cond.methodLink RX7 274 yX4_wantFresh, Cond.instanceMethod yX4_wantFresh, Cond.selects RX4 yX4_wantFresh yX4_wantFresh, Cond.code yX4_wantFresh cX4_wantFresh 3 none, Cond.methodLink RL 116 yX8_seen, Cond.instanceMethod yX8_seen, Cond.selects RX8 yX8_seen yX8_seen, Cond.code yX8_seen cX8_seen 10 (some .int), Cond.constantLong RX8 283 (3), Cond.methodLink RX8 285 yX8_isSheet]
def wsL_law_r43 : List Cond := [Cond.static yX8_isSheet, Cond.code yX8_isSheet cX8_isSheet 1 (some .boolean), Cond.methodLink RX8 288 yX8_found, Cond.instanceMethod yX8_found, Cond.selects RX8 yX8_found yX8_found, Cond.code yX8_found cX8_found 5 (some .int), Cond.methodLink RL 117 yX7_film, Cond.instanceMethod yX7_film, Cond.selects RX7 yX7_film yX7_film, Cond.code yX7_film cX7_film 6 (some .int), Cond.methodLink RX7 278 yX5_put, Cond.instanceMethod yX5_put, Cond.selects RX5 yX5_put yX5_put, Cond.code yX5_put cX5_put 4 none, Cond.methodLink RX5 22 yX5_cut, Cond.instanceMethod yX5_cut, Cond.selects RX5 yX5_cut yX5_cut, Cond.code yX5_cut cX5_cut 3 (some .long), Cond.methodLink RL 120 yX8_film, Cond.instanceMethod yX8_film, Cond.selects RX8 yX8_film yX8_film, Cond.code yX8_film cX8_film 6 (some .int), Cond.methodLink RL 121 yX7_sheet, Cond.instanceMethod yX7_sheet]
def wsL_law_r44 : List Cond := [Cond.selects RX7 yX7_sheet yX7_sheet, Cond.code yX7_sheet cX7_sheet 4 (some .int), Cond.methodLink RX7 288 yX5_renew, Cond.instanceMethod yX5_renew, Cond.selects RX5 yX5_renew yX5_renew, Cond.code yX5_renew cX5_renew 4 none, Cond.methodLink RL 124 yX8_sheet, Cond.instanceMethod yX8_sheet, Cond.selects RX8 yX8_sheet yX8_sheet, Cond.code yX8_sheet cX8_sheet 5 (some .int), Cond.methodLink RL 125 yX7_drop, Cond.instanceMethod yX7_drop, Cond.selects RX7 yX7_drop yX7_drop, Cond.code yX7_drop cX7_drop 3 (some .int), Cond.fieldLink RX7 294 "ReadingStages$Sheet" "size" "I", Cond.methodLink RL 128 yX8_drop, Cond.instanceMethod yX8_drop, Cond.selects RX8 yX8_drop yX8_drop, Cond.code yX8_drop cX8_drop 2 (some .int), Cond.methodLink RL 131 yX7_item, Cond.instanceMethod yX7_item, Cond.selects RX7 yX7_item yX7_item, Cond.code yX7_item cX7_item 7 (some .int), Cond.methodLink RL 135 yX8_item]
def wsL_law_r45 : List Cond := [Cond.instanceMethod yX8_item, Cond.selects RX8 yX8_item yX8_item, Cond.code yX8_item cX8_item 7 (some .int), Cond.methodLink RX8 292 yX8_cut, Cond.static yX8_cut, Cond.code yX8_cut cX8_cut 3 (some .long), Cond.methodLink RL 136 yX7_copy, Cond.instanceMethod yX7_copy, Cond.selects RX7 yX7_copy yX7_copy, Cond.code yX7_copy cX7_copy 8 (some .int), Cond.methodLink RX7 299 arraycopyName, Cond.methodLink RL 140 yX8_copy, Cond.instanceMethod yX8_copy, Cond.selects RX8 yX8_copy yX8_copy, Cond.code yX8_copy cX8_copy 7 (some .int)]
def wsL_law : List Cond := (wsL_law_r1 ++ (wsL_law_r2 ++ (wsL_law_r3 ++ (wsL_law_r4 ++ (wsL_law_r5 ++ (wsL_law_r6 ++ (wsL_law_r7 ++ (wsL_law_r8 ++ (wsL_law_r9 ++ (wsL_law_r10 ++ (wsL_law_r11 ++ (wsL_law_r12 ++ (wsL_law_r13 ++ (wsL_law_r14 ++ (wsL_law_r15 ++ (wsL_law_r16 ++ (wsL_law_r17 ++ (wsL_law_r18 ++ (wsL_law_r19 ++ (wsL_law_r20 ++ (wsL_law_r21 ++ (wsL_law_r22 ++ (wsL_law_r23 ++ (wsL_law_r24 ++ (wsL_law_r25 ++ (wsL_law_r26 ++ (wsL_law_r27 ++ (wsL_law_r28 ++ (wsL_law_r29 ++ (wsL_law_r30 ++ (wsL_law_r31 ++ (wsL_law_r32 ++ (wsL_law_r33 ++ (wsL_law_r34 ++ (wsL_law_r35 ++ (wsL_law_r36 ++ (wsL_law_r37 ++ (wsL_law_r38 ++ (wsL_law_r39 ++ (wsL_law_r40 ++ (wsL_law_r41 ++ (wsL_law_r42 ++ (wsL_law_r43 ++ (wsL_law_r44 ++ wsL_law_r45)))))))))))))))))))))))))))))))))))))))))))) ++ wsX70 ++ wsX80 ++ wsX60 ++ wsX20 ++ wsX10 ++ wsX00 ++ wsX30 ++ wsX40 ++ wsX50 ++ ([] : List Cond)
theorem inlX0 : ∀ w ∈ wsX00, w ∈ wsL_law := fun _ h => List.mem_append_left _ (List.mem_append_left _ (List.mem_append_left _ (List.mem_append_left _ (List.mem_append_right _ h))))
theorem inlX1 : ∀ w ∈ wsX10, w ∈ wsL_law := fun _ h => List.mem_append_left _ (List.mem_append_left _ (List.mem_append_left _ (List.mem_append_left _ (List.mem_append_left _ (List.mem_append_right _ h)))))
theorem inlX2 : ∀ w ∈ wsX20, w ∈ wsL_law := fun _ h => List.mem_append_left _ (List.mem_append_left _ (List.mem_append_left _ (List.mem_append_left _ (List.mem_append_left _ (List.mem_append_left _ (List.mem_append_right _ h))))))
theorem inlX3 : ∀ w ∈ wsX30, w ∈ wsL_law := fun _ h => List.mem_append_left _ (List.mem_append_left _ (List.mem_append_left _ (List.mem_append_right _ h)))
theorem inlX4 : ∀ w ∈ wsX40, w ∈ wsL_law := fun _ h => List.mem_append_left _ (List.mem_append_left _ (List.mem_append_right _ h))
theorem inlX5 : ∀ w ∈ wsX50, w ∈ wsL_law := fun _ h => List.mem_append_left _ (List.mem_append_right _ h)
theorem inlX6 : ∀ w ∈ wsX60, w ∈ wsL_law := fun _ h => List.mem_append_left _ (List.mem_append_left _ (List.mem_append_left _ (List.mem_append_left _ (List.mem_append_left _ (List.mem_append_left _ (List.mem_append_left _ (List.mem_append_right _ h)))))))
theorem inlX7 : ∀ w ∈ wsX70, w ∈ wsL_law := fun _ h => List.mem_append_left _ (List.mem_append_left _ (List.mem_append_left _ (List.mem_append_left _ (List.mem_append_left _ (List.mem_append_left _ (List.mem_append_left _ (List.mem_append_left _ (List.mem_append_left _ (List.mem_append_right _ h)))))))))
theorem inlX8 : ∀ w ∈ wsX80, w ∈ wsL_law := fun _ h => List.mem_append_left _ (List.mem_append_left _ (List.mem_append_left _ (List.mem_append_left _ (List.mem_append_left _ (List.mem_append_left _ (List.mem_append_left _ (List.mem_append_left _ (List.mem_append_right _ h))))))))
abbrev vwCl : List vw_C := [(RX0, TX0, 2), (RX1, TX1, 3), (RX2, TX2, 2), (RX3, TX3, 9), (RX4, TX4, 13), (RX5, TX5, 3), (RX6, TX6, 9), (RX7, TX7, 11), (RX8, TX8, 27)]
end
section
theorem dX0_init_0 : decode cX0_init 0 = .ok (.aload_n 0, 1) := by decide +kernel
theorem dX0_init_1 : decode cX0_init 1 = .ok (.invokespecial 1, 3) := by decide +kernel
theorem dX0_init_4 : decode cX0_init 4 = .ok (.aload_n 0, 1) := by decide +kernel
theorem dX0_init_5 : decode cX0_init 5 = .ok (.iload_n 1, 1) := by decide +kernel
theorem dX0_init_6 : decode cX0_init 6 = .ok (.ifCond .ge 7, 3) := by decide +kernel
theorem dX0_init_9 : decode cX0_init 9 = .ok (.iconst 0, 1) := by decide +kernel
theorem dX0_init_10 : decode cX0_init 10 = .ok (.goto 4, 3) := by decide +kernel
theorem dX0_init_13 : decode cX0_init 13 = .ok (.iload_n 1, 1) := by decide +kernel
theorem dX0_init_14 : decode cX0_init 14 = .ok (.newarray .char, 2) := by decide +kernel
theorem dX0_init_16 : decode cX0_init 16 = .ok (.putfield 7, 3) := by decide +kernel
theorem dX0_init_19 : decode cX0_init 19 = .ok (.return_, 1) := by decide +kernel
theorem dX0_add_0 : decode cX0_add 0 = .ok (.aload_n 0, 1) := by decide +kernel
theorem dX0_add_1 : decode cX0_add 1 = .ok (.getfield 13, 3) := by decide +kernel
theorem dX0_add_4 : decode cX0_add 4 = .ok (.aload_n 0, 1) := by decide +kernel
theorem dX0_add_5 : decode cX0_add 5 = .ok (.getfield 7, 3) := by decide +kernel
theorem dX0_add_8 : decode cX0_add 8 = .ok (.arraylength, 1) := by decide +kernel
theorem dX0_add_9 : decode cX0_add 9 = .ok (.if_icmp .lt 5, 3) := by decide +kernel
theorem dX0_add_12 : decode cX0_add 12 = .ok (.iconst 0, 1) := by decide +kernel
theorem dX0_add_13 : decode cX0_add 13 = .ok (.ireturn, 1) := by decide +kernel
theorem dX0_add_14 : decode cX0_add 14 = .ok (.aload_n 0, 1) := by decide +kernel
theorem dX0_add_15 : decode cX0_add 15 = .ok (.getfield 7, 3) := by decide +kernel
theorem dX0_add_18 : decode cX0_add 18 = .ok (.aload_n 0, 1) := by decide +kernel
theorem dX0_add_19 : decode cX0_add 19 = .ok (.getfield 13, 3) := by decide +kernel
theorem dX0_add_22 : decode cX0_add 22 = .ok (.iload_n 1, 1) := by decide +kernel
theorem dX0_add_23 : decode cX0_add 23 = .ok (.castore, 1) := by decide +kernel
theorem dX0_add_24 : decode cX0_add 24 = .ok (.aload_n 0, 1) := by decide +kernel
theorem dX0_add_25 : decode cX0_add 25 = .ok (.dup, 1) := by decide +kernel
theorem dX0_add_26 : decode cX0_add 26 = .ok (.getfield 13, 3) := by decide +kernel
theorem dX0_add_29 : decode cX0_add 29 = .ok (.iconst 1, 1) := by decide +kernel
theorem dX0_add_30 : decode cX0_add 30 = .ok (.iadd, 1) := by decide +kernel
theorem dX0_add_31 : decode cX0_add 31 = .ok (.putfield 13, 3) := by decide +kernel
theorem dX0_add_34 : decode cX0_add 34 = .ok (.iconst 1, 1) := by decide +kernel
theorem dX0_add_35 : decode cX0_add 35 = .ok (.ireturn, 1) := by decide +kernel
theorem dX0_addNumber_0 : decode cX0_addNumber 0 = .ok (.iload_n 1, 1) := by decide +kernel
theorem dX0_addNumber_1 : decode cX0_addNumber 1 = .ok (.bipush 10, 2) := by decide +kernel
theorem dX0_addNumber_3 : decode cX0_addNumber 3 = .ok (.if_icmp .lt 19, 3) := by decide +kernel
theorem dX0_addNumber_6 : decode cX0_addNumber 6 = .ok (.aload_n 0, 1) := by decide +kernel
theorem dX0_addNumber_7 : decode cX0_addNumber 7 = .ok (.bipush 48, 2) := by decide +kernel
theorem dX0_addNumber_9 : decode cX0_addNumber 9 = .ok (.iload_n 1, 1) := by decide +kernel
theorem dX0_addNumber_10 : decode cX0_addNumber 10 = .ok (.bipush 10, 2) := by decide +kernel
theorem dX0_addNumber_12 : decode cX0_addNumber 12 = .ok (.idiv, 1) := by decide +kernel
theorem dX0_addNumber_13 : decode cX0_addNumber 13 = .ok (.bipush 10, 2) := by decide +kernel
theorem dX0_addNumber_15 : decode cX0_addNumber 15 = .ok (.irem, 1) := by decide +kernel
theorem dX0_addNumber_16 : decode cX0_addNumber 16 = .ok (.iadd, 1) := by decide +kernel
theorem dX0_addNumber_17 : decode cX0_addNumber 17 = .ok (.i2c, 1) := by decide +kernel
theorem dX0_addNumber_18 : decode cX0_addNumber 18 = .ok (.invokevirtual 17, 3) := by decide +kernel
theorem dX0_addNumber_21 : decode cX0_addNumber 21 = .ok (.pop, 1) := by decide +kernel
theorem dX0_addNumber_22 : decode cX0_addNumber 22 = .ok (.aload_n 0, 1) := by decide +kernel
theorem dX0_addNumber_23 : decode cX0_addNumber 23 = .ok (.bipush 48, 2) := by decide +kernel
theorem dX0_addNumber_25 : decode cX0_addNumber 25 = .ok (.iload_n 1, 1) := by decide +kernel
theorem dX0_addNumber_26 : decode cX0_addNumber 26 = .ok (.bipush 10, 2) := by decide +kernel
theorem dX0_addNumber_28 : decode cX0_addNumber 28 = .ok (.irem, 1) := by decide +kernel
theorem dX0_addNumber_29 : decode cX0_addNumber 29 = .ok (.iadd, 1) := by decide +kernel
theorem dX0_addNumber_30 : decode cX0_addNumber 30 = .ok (.i2c, 1) := by decide +kernel
theorem dX0_addNumber_31 : decode cX0_addNumber 31 = .ok (.invokevirtual 17, 3) := by decide +kernel
theorem dX0_addNumber_34 : decode cX0_addNumber 34 = .ok (.pop, 1) := by decide +kernel
theorem dX0_addNumber_35 : decode cX0_addNumber 35 = .ok (.return_, 1) := by decide +kernel
theorem dX0_at_0 : decode cX0_at 0 = .ok (.iload_n 1, 1) := by decide +kernel
theorem dX0_at_1 : decode cX0_at 1 = .ok (.ifCond .lt 20, 3) := by decide +kernel
theorem dX0_at_4 : decode cX0_at 4 = .ok (.iload_n 1, 1) := by decide +kernel
theorem dX0_at_5 : decode cX0_at 5 = .ok (.aload_n 0, 1) := by decide +kernel
theorem dX0_at_6 : decode cX0_at 6 = .ok (.getfield 13, 3) := by decide +kernel
theorem dX0_at_9 : decode cX0_at 9 = .ok (.if_icmp .ge 12, 3) := by decide +kernel
theorem dX0_at_12 : decode cX0_at 12 = .ok (.aload_n 0, 1) := by decide +kernel
theorem dX0_at_13 : decode cX0_at 13 = .ok (.getfield 7, 3) := by decide +kernel
theorem dX0_at_16 : decode cX0_at 16 = .ok (.iload_n 1, 1) := by decide +kernel
theorem dX0_at_17 : decode cX0_at 17 = .ok (.caload, 1) := by decide +kernel
theorem dX0_at_18 : decode cX0_at 18 = .ok (.goto 4, 3) := by decide +kernel
theorem dX0_at_21 : decode cX0_at 21 = .ok (.iconst 0, 1) := by decide +kernel
theorem dX0_at_22 : decode cX0_at 22 = .ok (.ireturn, 1) := by decide +kernel
theorem dX1_init_0 : decode cX1_init 0 = .ok (.aload_n 0, 1) := by decide +kernel
theorem dX1_init_1 : decode cX1_init 1 = .ok (.invokespecial 3, 3) := by decide +kernel
theorem dX1_init_4 : decode cX1_init 4 = .ok (.aload_n 0, 1) := by decide +kernel
theorem dX1_init_5 : decode cX1_init 5 = .ok (.new 9, 3) := by decide +kernel
theorem dX1_init_8 : decode cX1_init 8 = .ok (.dup, 1) := by decide +kernel
theorem dX1_init_9 : decode cX1_init 9 = .ok (.bipush 90, 2) := by decide +kernel
theorem dX1_init_11 : decode cX1_init 11 = .ok (.invokespecial 11, 3) := by decide +kernel
theorem dX1_init_14 : decode cX1_init 14 = .ok (.putfield 14, 3) := by decide +kernel
theorem dX1_init_17 : decode cX1_init 17 = .ok (.aload_n 0, 1) := by decide +kernel
theorem dX1_init_18 : decode cX1_init 18 = .ok (.new 20, 3) := by decide +kernel
theorem dX1_init_21 : decode cX1_init 21 = .ok (.dup, 1) := by decide +kernel
theorem dX1_init_22 : decode cX1_init 22 = .ok (.invokespecial 22, 3) := by decide +kernel
theorem dX1_init_25 : decode cX1_init 25 = .ok (.putfield 23, 3) := by decide +kernel
theorem dX1_init_28 : decode cX1_init 28 = .ok (.return_, 1) := by decide +kernel
theorem dX1_parses_0 : decode cX1_parses 0 = .ok (.aload_n 0, 1) := by decide +kernel
theorem dX1_parses_1 : decode cX1_parses 1 = .ok (.getfield 23, 3) := by decide +kernel
theorem dX1_parses_4 : decode cX1_parses 4 = .ok (.aload_n 1, 1) := by decide +kernel
theorem dX1_parses_5 : decode cX1_parses 5 = .ok (.invokevirtual 27, 3) := by decide +kernel
theorem dX1_parses_8 : decode cX1_parses 8 = .ok (.aload_n 0, 1) := by decide +kernel
theorem dX1_parses_9 : decode cX1_parses 9 = .ok (.getfield 23, 3) := by decide +kernel
theorem dX1_parses_12 : decode cX1_parses 12 = .ok (.iconst 0, 1) := by decide +kernel
theorem dX1_parses_13 : decode cX1_parses 13 = .ok (.putfield 31, 3) := by decide +kernel
theorem dX1_parses_16 : decode cX1_parses 16 = .ok (.aload_n 0, 1) := by decide +kernel
theorem dX1_parses_17 : decode cX1_parses 17 = .ok (.iconst 0, 1) := by decide +kernel
theorem dX1_parses_18 : decode cX1_parses 18 = .ok (.putfield 35, 3) := by decide +kernel
theorem dX1_parses_21 : decode cX1_parses 21 = .ok (.aload_n 0, 1) := by decide +kernel
theorem dX1_parses_22 : decode cX1_parses 22 = .ok (.invokevirtual 38, 3) := by decide +kernel
theorem dX1_parses_25 : decode cX1_parses 25 = .ok (.ifCond .eq 30, 3) := by decide +kernel
theorem dX1_parses_28 : decode cX1_parses 28 = .ok (.aload_n 0, 1) := by decide +kernel
theorem dX1_parses_29 : decode cX1_parses 29 = .ok (.invokevirtual 42, 3) := by decide +kernel
theorem dX1_parses_32 : decode cX1_parses 32 = .ok (.ifCond .eq 23, 3) := by decide +kernel
theorem dX1_parses_35 : decode cX1_parses 35 = .ok (.aload_n 0, 1) := by decide +kernel
theorem dX1_parses_36 : decode cX1_parses 36 = .ok (.bipush 58, 2) := by decide +kernel
theorem dX1_parses_38 : decode cX1_parses 38 = .ok (.invokevirtual 45, 3) := by decide +kernel
theorem dX1_parses_41 : decode cX1_parses 41 = .ok (.ifCond .eq 14, 3) := by decide +kernel
theorem dX1_parses_44 : decode cX1_parses 44 = .ok (.aload_n 0, 1) := by decide +kernel
theorem dX1_parses_45 : decode cX1_parses 45 = .ok (.invokevirtual 49, 3) := by decide +kernel
theorem dX1_parses_48 : decode cX1_parses 48 = .ok (.ifCond .eq 7, 3) := by decide +kernel
theorem dX1_parses_51 : decode cX1_parses 51 = .ok (.iconst 1, 1) := by decide +kernel
theorem dX1_parses_52 : decode cX1_parses 52 = .ok (.goto 4, 3) := by decide +kernel
theorem dX1_parses_55 : decode cX1_parses 55 = .ok (.iconst 0, 1) := by decide +kernel
theorem dX1_parses_56 : decode cX1_parses 56 = .ok (.istore_n 2, 1) := by decide +kernel
theorem dX1_parses_57 : decode cX1_parses 57 = .ok (.iload_n 2, 1) := by decide +kernel
theorem dX1_parses_58 : decode cX1_parses 58 = .ok (.ifCond .eq 30, 3) := by decide +kernel
theorem dX1_parses_61 : decode cX1_parses 61 = .ok (.aload_n 0, 1) := by decide +kernel
theorem dX1_parses_62 : decode cX1_parses 62 = .ok (.invokevirtual 52, 3) := by decide +kernel
theorem dX1_parses_65 : decode cX1_parses 65 = .ok (.ifCond .ne 19, 3) := by decide +kernel
theorem dX1_parses_68 : decode cX1_parses 68 = .ok (.aload_n 0, 1) := by decide +kernel
theorem dX1_parses_69 : decode cX1_parses 69 = .ok (.bipush 59, 2) := by decide +kernel
theorem dX1_parses_71 : decode cX1_parses 71 = .ok (.invokevirtual 45, 3) := by decide +kernel
theorem dX1_parses_74 : decode cX1_parses 74 = .ok (.ifCond .eq 14, 3) := by decide +kernel
theorem dX1_parses_77 : decode cX1_parses 77 = .ok (.aload_n 0, 1) := by decide +kernel
theorem dX1_parses_78 : decode cX1_parses 78 = .ok (.invokevirtual 55, 3) := by decide +kernel
theorem dX1_parses_81 : decode cX1_parses 81 = .ok (.ifCond .eq 7, 3) := by decide +kernel
theorem dX1_parses_84 : decode cX1_parses 84 = .ok (.iconst 1, 1) := by decide +kernel
theorem dX1_parses_85 : decode cX1_parses 85 = .ok (.goto 4, 3) := by decide +kernel
theorem dX1_parses_88 : decode cX1_parses 88 = .ok (.iconst 0, 1) := by decide +kernel
theorem dX1_parses_89 : decode cX1_parses 89 = .ok (.ireturn, 1) := by decide +kernel
theorem dX1_next_0 : decode cX1_next 0 = .ok (.aload_n 0, 1) := by decide +kernel
theorem dX1_next_1 : decode cX1_next 1 = .ok (.getfield 35, 3) := by decide +kernel
theorem dX1_next_4 : decode cX1_next 4 = .ok (.aload_n 0, 1) := by decide +kernel
theorem dX1_next_5 : decode cX1_next 5 = .ok (.getfield 14, 3) := by decide +kernel
theorem dX1_next_8 : decode cX1_next 8 = .ok (.getfield 58, 3) := by decide +kernel
theorem dX1_next_11 : decode cX1_next 11 = .ok (.if_icmp .ge 32, 3) := by decide +kernel
theorem dX1_next_14 : decode cX1_next 14 = .ok (.aload_n 0, 1) := by decide +kernel
theorem dX1_next_15 : decode cX1_next 15 = .ok (.getfield 14, 3) := by decide +kernel
theorem dX1_next_18 : decode cX1_next 18 = .ok (.aload_n 0, 1) := by decide +kernel
theorem dX1_next_19 : decode cX1_next 19 = .ok (.getfield 35, 3) := by decide +kernel
theorem dX1_next_22 : decode cX1_next 22 = .ok (.invokevirtual 61, 3) := by decide +kernel
theorem dX1_next_25 : decode cX1_next 25 = .ok (.bipush 32, 2) := by decide +kernel
theorem dX1_next_27 : decode cX1_next 27 = .ok (.if_icmp .ne 16, 3) := by decide +kernel
theorem dX1_next_30 : decode cX1_next 30 = .ok (.aload_n 0, 1) := by decide +kernel
theorem dX1_next_31 : decode cX1_next 31 = .ok (.dup, 1) := by decide +kernel
theorem dX1_next_32 : decode cX1_next 32 = .ok (.getfield 35, 3) := by decide +kernel
theorem dX1_next_35 : decode cX1_next 35 = .ok (.iconst 1, 1) := by decide +kernel
theorem dX1_next_36 : decode cX1_next 36 = .ok (.iadd, 1) := by decide +kernel
theorem dX1_next_37 : decode cX1_next 37 = .ok (.putfield 35, 3) := by decide +kernel
theorem dX1_next_40 : decode cX1_next 40 = .ok (.goto (-40), 3) := by decide +kernel
theorem dX1_next_43 : decode cX1_next 43 = .ok (.aload_n 0, 1) := by decide +kernel
theorem dX1_next_44 : decode cX1_next 44 = .ok (.getfield 14, 3) := by decide +kernel
theorem dX1_next_47 : decode cX1_next 47 = .ok (.aload_n 0, 1) := by decide +kernel
theorem dX1_next_48 : decode cX1_next 48 = .ok (.getfield 35, 3) := by decide +kernel
theorem dX1_next_51 : decode cX1_next 51 = .ok (.invokevirtual 61, 3) := by decide +kernel
theorem dX1_next_54 : decode cX1_next 54 = .ok (.ireturn, 1) := by decide +kernel
theorem dX1_isAtEnd_0 : decode cX1_isAtEnd 0 = .ok (.aload_n 0, 1) := by decide +kernel
theorem dX1_isAtEnd_1 : decode cX1_isAtEnd 1 = .ok (.invokevirtual 64, 3) := by decide +kernel
theorem dX1_isAtEnd_4 : decode cX1_isAtEnd 4 = .ok (.pop, 1) := by decide +kernel
theorem dX1_isAtEnd_5 : decode cX1_isAtEnd 5 = .ok (.aload_n 0, 1) := by decide +kernel
theorem dX1_isAtEnd_6 : decode cX1_isAtEnd 6 = .ok (.getfield 35, 3) := by decide +kernel
theorem dX1_isAtEnd_9 : decode cX1_isAtEnd 9 = .ok (.aload_n 0, 1) := by decide +kernel
theorem dX1_isAtEnd_10 : decode cX1_isAtEnd 10 = .ok (.getfield 14, 3) := by decide +kernel
theorem dX1_isAtEnd_13 : decode cX1_isAtEnd 13 = .ok (.getfield 58, 3) := by decide +kernel
theorem dX1_isAtEnd_16 : decode cX1_isAtEnd 16 = .ok (.if_icmp .lt 7, 3) := by decide +kernel
theorem dX1_isAtEnd_19 : decode cX1_isAtEnd 19 = .ok (.iconst 1, 1) := by decide +kernel
theorem dX1_isAtEnd_20 : decode cX1_isAtEnd 20 = .ok (.goto 4, 3) := by decide +kernel
theorem dX1_isAtEnd_23 : decode cX1_isAtEnd 23 = .ok (.iconst 0, 1) := by decide +kernel
theorem dX1_isAtEnd_24 : decode cX1_isAtEnd 24 = .ok (.ireturn, 1) := by decide +kernel
theorem dX1_takesSign_0 : decode cX1_takesSign 0 = .ok (.aload_n 0, 1) := by decide +kernel
theorem dX1_takesSign_1 : decode cX1_takesSign 1 = .ok (.invokevirtual 64, 3) := by decide +kernel
theorem dX1_takesSign_4 : decode cX1_takesSign 4 = .ok (.iload_n 1, 1) := by decide +kernel
theorem dX1_takesSign_5 : decode cX1_takesSign 5 = .ok (.if_icmp .eq 5, 3) := by decide +kernel
theorem dX1_takesSign_8 : decode cX1_takesSign 8 = .ok (.iconst 0, 1) := by decide +kernel
theorem dX1_takesSign_9 : decode cX1_takesSign 9 = .ok (.ireturn, 1) := by decide +kernel
theorem dX1_takesSign_10 : decode cX1_takesSign 10 = .ok (.aload_n 0, 1) := by decide +kernel
theorem dX1_takesSign_11 : decode cX1_takesSign 11 = .ok (.dup, 1) := by decide +kernel
theorem dX1_takesSign_12 : decode cX1_takesSign 12 = .ok (.getfield 35, 3) := by decide +kernel
theorem dX1_takesSign_15 : decode cX1_takesSign 15 = .ok (.iconst 1, 1) := by decide +kernel
theorem dX1_takesSign_16 : decode cX1_takesSign 16 = .ok (.iadd, 1) := by decide +kernel
theorem dX1_takesSign_17 : decode cX1_takesSign 17 = .ok (.putfield 35, 3) := by decide +kernel
theorem dX1_takesSign_20 : decode cX1_takesSign 20 = .ok (.iconst 1, 1) := by decide +kernel
theorem dX1_takesSign_21 : decode cX1_takesSign 21 = .ok (.ireturn, 1) := by decide +kernel
theorem dX1_nextFigure_0 : decode cX1_nextFigure 0 = .ok (.aload_n 0, 1) := by decide +kernel
theorem dX1_nextFigure_1 : decode cX1_nextFigure 1 = .ok (.invokevirtual 64, 3) := by decide +kernel
theorem dX1_nextFigure_4 : decode cX1_nextFigure 4 = .ok (.istore_n 1, 1) := by decide +kernel
theorem dX1_nextFigure_5 : decode cX1_nextFigure 5 = .ok (.iload_n 1, 1) := by decide +kernel
theorem dX1_nextFigure_6 : decode cX1_nextFigure 6 = .ok (.bipush 48, 2) := by decide +kernel
theorem dX1_nextFigure_8 : decode cX1_nextFigure 8 = .ok (.if_icmp .lt 16, 3) := by decide +kernel
theorem dX1_nextFigure_11 : decode cX1_nextFigure 11 = .ok (.iload_n 1, 1) := by decide +kernel
theorem dX1_nextFigure_12 : decode cX1_nextFigure 12 = .ok (.bipush 57, 2) := by decide +kernel
theorem dX1_nextFigure_14 : decode cX1_nextFigure 14 = .ok (.if_icmp .gt 10, 3) := by decide +kernel
theorem dX1_nextFigure_17 : decode cX1_nextFigure 17 = .ok (.iload_n 1, 1) := by decide +kernel
theorem dX1_nextFigure_18 : decode cX1_nextFigure 18 = .ok (.bipush 48, 2) := by decide +kernel
theorem dX1_nextFigure_20 : decode cX1_nextFigure 20 = .ok (.isub, 1) := by decide +kernel
theorem dX1_nextFigure_21 : decode cX1_nextFigure 21 = .ok (.goto 5, 3) := by decide +kernel
theorem dX1_nextFigure_24 : decode cX1_nextFigure 24 = .ok (.bipush (-4), 2) := by decide +kernel
theorem dX1_nextFigure_26 : decode cX1_nextFigure 26 = .ok (.ireturn, 1) := by decide +kernel
theorem dX1_takesRule_0 : decode cX1_takesRule 0 = .ok (.aload_n 0, 1) := by decide +kernel
theorem dX1_takesRule_1 : decode cX1_takesRule 1 = .ok (.invokevirtual 64, 3) := by decide +kernel
theorem dX1_takesRule_4 : decode cX1_takesRule 4 = .ok (.pop, 1) := by decide +kernel
theorem dX1_takesRule_5 : decode cX1_takesRule 5 = .ok (.aload_n 0, 1) := by decide +kernel
theorem dX1_takesRule_6 : decode cX1_takesRule 6 = .ok (.getfield 35, 3) := by decide +kernel
theorem dX1_takesRule_9 : decode cX1_takesRule 9 = .ok (.istore_n 1, 1) := by decide +kernel
theorem dX1_takesRule_10 : decode cX1_takesRule 10 = .ok (.aload_n 0, 1) := by decide +kernel
theorem dX1_takesRule_11 : decode cX1_takesRule 11 = .ok (.getfield 35, 3) := by decide +kernel
theorem dX1_takesRule_14 : decode cX1_takesRule 14 = .ok (.aload_n 0, 1) := by decide +kernel
theorem dX1_takesRule_15 : decode cX1_takesRule 15 = .ok (.getfield 14, 3) := by decide +kernel
theorem dX1_takesRule_18 : decode cX1_takesRule 18 = .ok (.getfield 58, 3) := by decide +kernel
theorem dX1_takesRule_21 : decode cX1_takesRule 21 = .ok (.if_icmp .ge 48, 3) := by decide +kernel
theorem dX1_takesRule_24 : decode cX1_takesRule 24 = .ok (.aload_n 0, 1) := by decide +kernel
theorem dX1_takesRule_25 : decode cX1_takesRule 25 = .ok (.getfield 14, 3) := by decide +kernel
theorem dX1_takesRule_28 : decode cX1_takesRule 28 = .ok (.aload_n 0, 1) := by decide +kernel
theorem dX1_takesRule_29 : decode cX1_takesRule 29 = .ok (.getfield 35, 3) := by decide +kernel
theorem dX1_takesRule_32 : decode cX1_takesRule 32 = .ok (.invokevirtual 61, 3) := by decide +kernel
theorem dX1_takesRule_35 : decode cX1_takesRule 35 = .ok (.bipush 97, 2) := by decide +kernel
theorem dX1_takesRule_37 : decode cX1_takesRule 37 = .ok (.if_icmp .lt 32, 3) := by decide +kernel
theorem dX1_takesRule_40 : decode cX1_takesRule 40 = .ok (.aload_n 0, 1) := by decide +kernel
theorem dX1_takesRule_41 : decode cX1_takesRule 41 = .ok (.getfield 14, 3) := by decide +kernel
theorem dX1_takesRule_44 : decode cX1_takesRule 44 = .ok (.aload_n 0, 1) := by decide +kernel
theorem dX1_takesRule_45 : decode cX1_takesRule 45 = .ok (.getfield 35, 3) := by decide +kernel
theorem dX1_takesRule_48 : decode cX1_takesRule 48 = .ok (.invokevirtual 61, 3) := by decide +kernel
theorem dX1_takesRule_51 : decode cX1_takesRule 51 = .ok (.bipush 122, 2) := by decide +kernel
theorem dX1_takesRule_53 : decode cX1_takesRule 53 = .ok (.if_icmp .gt 16, 3) := by decide +kernel
theorem dX1_takesRule_56 : decode cX1_takesRule 56 = .ok (.aload_n 0, 1) := by decide +kernel
theorem dX1_takesRule_57 : decode cX1_takesRule 57 = .ok (.dup, 1) := by decide +kernel
theorem dX1_takesRule_58 : decode cX1_takesRule 58 = .ok (.getfield 35, 3) := by decide +kernel
theorem dX1_takesRule_61 : decode cX1_takesRule 61 = .ok (.iconst 1, 1) := by decide +kernel
theorem dX1_takesRule_62 : decode cX1_takesRule 62 = .ok (.iadd, 1) := by decide +kernel
theorem dX1_takesRule_63 : decode cX1_takesRule 63 = .ok (.putfield 35, 3) := by decide +kernel
theorem dX1_takesRule_66 : decode cX1_takesRule 66 = .ok (.goto (-56), 3) := by decide +kernel
theorem dX1_takesRule_69 : decode cX1_takesRule 69 = .ok (.iconst 0, 1) := by decide +kernel
theorem dX1_takesRule_70 : decode cX1_takesRule 70 = .ok (.istore_n 2, 1) := by decide +kernel
theorem dX1_takesRule_71 : decode cX1_takesRule 71 = .ok (.iload_n 2, 1) := by decide +kernel
theorem dX1_takesRule_72 : decode cX1_takesRule 72 = .ok (.iconst 3, 1) := by decide +kernel
theorem dX1_takesRule_73 : decode cX1_takesRule 73 = .ok (.if_icmp .ge 35, 3) := by decide +kernel
theorem dX1_takesRule_76 : decode cX1_takesRule 76 = .ok (.aload_n 0, 1) := by decide +kernel
theorem dX1_takesRule_77 : decode cX1_takesRule 77 = .ok (.iload_n 2, 1) := by decide +kernel
theorem dX1_takesRule_78 : decode cX1_takesRule 78 = .ok (.invokestatic 68, 3) := by decide +kernel
theorem dX1_takesRule_81 : decode cX1_takesRule 81 = .ok (.iload_n 1, 1) := by decide +kernel
theorem dX1_takesRule_82 : decode cX1_takesRule 82 = .ok (.aload_n 0, 1) := by decide +kernel
theorem dX1_takesRule_83 : decode cX1_takesRule 83 = .ok (.getfield 35, 3) := by decide +kernel
theorem dX1_takesRule_86 : decode cX1_takesRule 86 = .ok (.invokevirtual 72, 3) := by decide +kernel
theorem dX1_takesRule_89 : decode cX1_takesRule 89 = .ok (.ifCond .eq 13, 3) := by decide +kernel
theorem dX1_takesRule_92 : decode cX1_takesRule 92 = .ok (.aload_n 0, 1) := by decide +kernel
theorem dX1_takesRule_93 : decode cX1_takesRule 93 = .ok (.getfield 23, 3) := by decide +kernel
theorem dX1_takesRule_96 : decode cX1_takesRule 96 = .ok (.iload_n 2, 1) := by decide +kernel
theorem dX1_takesRule_97 : decode cX1_takesRule 97 = .ok (.putfield 76, 3) := by decide +kernel
theorem dX1_takesRule_100 : decode cX1_takesRule 100 = .ok (.iconst 1, 1) := by decide +kernel
theorem dX1_takesRule_101 : decode cX1_takesRule 101 = .ok (.ireturn, 1) := by decide +kernel
theorem dX1_takesRule_102 : decode cX1_takesRule 102 = .ok (.iinc 2 1, 3) := by decide +kernel
theorem dX1_takesRule_105 : decode cX1_takesRule 105 = .ok (.goto (-34), 3) := by decide +kernel
theorem dX1_takesRule_108 : decode cX1_takesRule 108 = .ok (.aload_n 0, 1) := by decide +kernel
theorem dX1_takesRule_109 : decode cX1_takesRule 109 = .ok (.iload_n 1, 1) := by decide +kernel
theorem dX1_takesRule_110 : decode cX1_takesRule 110 = .ok (.putfield 35, 3) := by decide +kernel
theorem dX1_takesRule_113 : decode cX1_takesRule 113 = .ok (.iconst 0, 1) := by decide +kernel
theorem dX1_takesRule_114 : decode cX1_takesRule 114 = .ok (.ireturn, 1) := by decide +kernel
theorem dX1_nameOf_0 : decode cX1_nameOf 0 = .ok (.iload_n 0, 1) := by decide +kernel
theorem dX1_nameOf_1 : decode cX1_nameOf 1 = .ok (.lookupswitch 33 #[(0, 27), (1, 30)], 27) := by decide +kernel
theorem dX1_nameOf_28 : decode cX1_nameOf 28 = .ok (.ldc 79, 2) := by decide +kernel
theorem dX1_nameOf_30 : decode cX1_nameOf 30 = .ok (.areturn, 1) := by decide +kernel
theorem dX1_nameOf_31 : decode cX1_nameOf 31 = .ok (.ldc 81, 2) := by decide +kernel
theorem dX1_nameOf_33 : decode cX1_nameOf 33 = .ok (.areturn, 1) := by decide +kernel
theorem dX1_nameOf_34 : decode cX1_nameOf 34 = .ok (.ldc 83, 2) := by decide +kernel
theorem dX1_nameOf_36 : decode cX1_nameOf 36 = .ok (.areturn, 1) := by decide +kernel
theorem dX1_isName_0 : decode cX1_isName 0 = .ok (.iload_n 3, 1) := by decide +kernel
theorem dX1_isName_1 : decode cX1_isName 1 = .ok (.iload_n 2, 1) := by decide +kernel
theorem dX1_isName_2 : decode cX1_isName 2 = .ok (.isub, 1) := by decide +kernel
theorem dX1_isName_3 : decode cX1_isName 3 = .ok (.aload_n 1, 1) := by decide +kernel
theorem dX1_isName_4 : decode cX1_isName 4 = .ok (.invokevirtual 85, 3) := by decide +kernel
theorem dX1_isName_7 : decode cX1_isName 7 = .ok (.if_icmp .eq 5, 3) := by decide +kernel
theorem dX1_isName_10 : decode cX1_isName 10 = .ok (.iconst 0, 1) := by decide +kernel
theorem dX1_isName_11 : decode cX1_isName 11 = .ok (.ireturn, 1) := by decide +kernel
theorem dX1_isName_12 : decode cX1_isName 12 = .ok (.iconst 0, 1) := by decide +kernel
theorem dX1_isName_13 : decode cX1_isName 13 = .ok (.istore 4, 2) := by decide +kernel
theorem dX1_isName_15 : decode cX1_isName 15 = .ok (.iload 4, 2) := by decide +kernel
theorem dX1_isName_17 : decode cX1_isName 17 = .ok (.aload_n 1, 1) := by decide +kernel
theorem dX1_isName_18 : decode cX1_isName 18 = .ok (.invokevirtual 85, 3) := by decide +kernel
theorem dX1_isName_21 : decode cX1_isName 21 = .ok (.if_icmp .ge 31, 3) := by decide +kernel
theorem dX1_isName_24 : decode cX1_isName 24 = .ok (.aload_n 0, 1) := by decide +kernel
theorem dX1_isName_25 : decode cX1_isName 25 = .ok (.getfield 14, 3) := by decide +kernel
theorem dX1_isName_28 : decode cX1_isName 28 = .ok (.iload_n 2, 1) := by decide +kernel
theorem dX1_isName_29 : decode cX1_isName 29 = .ok (.iload 4, 2) := by decide +kernel
theorem dX1_isName_31 : decode cX1_isName 31 = .ok (.iadd, 1) := by decide +kernel
theorem dX1_isName_32 : decode cX1_isName 32 = .ok (.invokevirtual 61, 3) := by decide +kernel
theorem dX1_isName_35 : decode cX1_isName 35 = .ok (.aload_n 1, 1) := by decide +kernel
theorem dX1_isName_36 : decode cX1_isName 36 = .ok (.iload 4, 2) := by decide +kernel
theorem dX1_isName_38 : decode cX1_isName 38 = .ok (.invokevirtual 91, 3) := by decide +kernel
theorem dX1_isName_41 : decode cX1_isName 41 = .ok (.if_icmp .eq 5, 3) := by decide +kernel
theorem dX1_isName_44 : decode cX1_isName 44 = .ok (.iconst 0, 1) := by decide +kernel
theorem dX1_isName_45 : decode cX1_isName 45 = .ok (.ireturn, 1) := by decide +kernel
theorem dX1_isName_46 : decode cX1_isName 46 = .ok (.iinc 4 1, 3) := by decide +kernel
theorem dX1_isName_49 : decode cX1_isName 49 = .ok (.goto (-34), 3) := by decide +kernel
theorem dX1_isName_52 : decode cX1_isName 52 = .ok (.iconst 1, 1) := by decide +kernel
theorem dX1_isName_53 : decode cX1_isName 53 = .ok (.ireturn, 1) := by decide +kernel
theorem dX1_takesSpan_0 : decode cX1_takesSpan 0 = .ok (.aload_n 0, 1) := by decide +kernel
theorem dX1_takesSpan_1 : decode cX1_takesSpan 1 = .ok (.invokevirtual 94, 3) := by decide +kernel
theorem dX1_takesSpan_4 : decode cX1_takesSpan 4 = .ok (.istore_n 1, 1) := by decide +kernel
theorem dX1_takesSpan_5 : decode cX1_takesSpan 5 = .ok (.iload_n 1, 1) := by decide +kernel
theorem dX1_takesSpan_6 : decode cX1_takesSpan 6 = .ok (.iconst 1, 1) := by decide +kernel
theorem dX1_takesSpan_7 : decode cX1_takesSpan 7 = .ok (.if_icmp .lt 8, 3) := by decide +kernel
theorem dX1_takesSpan_10 : decode cX1_takesSpan 10 = .ok (.iload_n 1, 1) := by decide +kernel
theorem dX1_takesSpan_11 : decode cX1_takesSpan 11 = .ok (.iconst 4, 1) := by decide +kernel
theorem dX1_takesSpan_12 : decode cX1_takesSpan 12 = .ok (.if_icmp .le 5, 3) := by decide +kernel
theorem dX1_takesSpan_15 : decode cX1_takesSpan 15 = .ok (.iconst 0, 1) := by decide +kernel
theorem dX1_takesSpan_16 : decode cX1_takesSpan 16 = .ok (.ireturn, 1) := by decide +kernel
theorem dX1_takesSpan_17 : decode cX1_takesSpan 17 = .ok (.aload_n 0, 1) := by decide +kernel
theorem dX1_takesSpan_18 : decode cX1_takesSpan 18 = .ok (.getfield 23, 3) := by decide +kernel
theorem dX1_takesSpan_21 : decode cX1_takesSpan 21 = .ok (.iload_n 1, 1) := by decide +kernel
theorem dX1_takesSpan_22 : decode cX1_takesSpan 22 = .ok (.putfield 97, 3) := by decide +kernel
theorem dX1_takesSpan_25 : decode cX1_takesSpan 25 = .ok (.aload_n 0, 1) := by decide +kernel
theorem dX1_takesSpan_26 : decode cX1_takesSpan 26 = .ok (.dup, 1) := by decide +kernel
theorem dX1_takesSpan_27 : decode cX1_takesSpan 27 = .ok (.getfield 35, 3) := by decide +kernel
theorem dX1_takesSpan_30 : decode cX1_takesSpan 30 = .ok (.iconst 1, 1) := by decide +kernel
theorem dX1_takesSpan_31 : decode cX1_takesSpan 31 = .ok (.iadd, 1) := by decide +kernel
theorem dX1_takesSpan_32 : decode cX1_takesSpan 32 = .ok (.putfield 35, 3) := by decide +kernel
theorem dX1_takesSpan_35 : decode cX1_takesSpan 35 = .ok (.iconst 1, 1) := by decide +kernel
theorem dX1_takesSpan_36 : decode cX1_takesSpan 36 = .ok (.ireturn, 1) := by decide +kernel
theorem dX1_takesBooks_0 : decode cX1_takesBooks 0 = .ok (.iconst 0, 1) := by decide +kernel
theorem dX1_takesBooks_1 : decode cX1_takesBooks 1 = .ok (.istore_n 1, 1) := by decide +kernel
theorem dX1_takesBooks_2 : decode cX1_takesBooks 2 = .ok (.iload_n 1, 1) := by decide +kernel
theorem dX1_takesBooks_3 : decode cX1_takesBooks 3 = .ok (.bipush 7, 2) := by decide +kernel
theorem dX1_takesBooks_5 : decode cX1_takesBooks 5 = .ok (.if_icmp .ge 29, 3) := by decide +kernel
theorem dX1_takesBooks_8 : decode cX1_takesBooks 8 = .ok (.aload_n 0, 1) := by decide +kernel
theorem dX1_takesBooks_9 : decode cX1_takesBooks 9 = .ok (.invokevirtual 100, 3) := by decide +kernel
theorem dX1_takesBooks_12 : decode cX1_takesBooks 12 = .ok (.ifCond .ne 5, 3) := by decide +kernel
theorem dX1_takesBooks_15 : decode cX1_takesBooks 15 = .ok (.iconst 0, 1) := by decide +kernel
theorem dX1_takesBooks_16 : decode cX1_takesBooks 16 = .ok (.ireturn, 1) := by decide +kernel
theorem dX1_takesBooks_17 : decode cX1_takesBooks 17 = .ok (.aload_n 0, 1) := by decide +kernel
theorem dX1_takesBooks_18 : decode cX1_takesBooks 18 = .ok (.bipush 44, 2) := by decide +kernel
theorem dX1_takesBooks_20 : decode cX1_takesBooks 20 = .ok (.invokevirtual 45, 3) := by decide +kernel
theorem dX1_takesBooks_23 : decode cX1_takesBooks 23 = .ok (.ifCond .ne 5, 3) := by decide +kernel
theorem dX1_takesBooks_26 : decode cX1_takesBooks 26 = .ok (.iconst 1, 1) := by decide +kernel
theorem dX1_takesBooks_27 : decode cX1_takesBooks 27 = .ok (.ireturn, 1) := by decide +kernel
theorem dX1_takesBooks_28 : decode cX1_takesBooks 28 = .ok (.iinc 1 1, 3) := by decide +kernel
theorem dX1_takesBooks_31 : decode cX1_takesBooks 31 = .ok (.goto (-29), 3) := by decide +kernel
theorem dX1_takesBooks_34 : decode cX1_takesBooks 34 = .ok (.aload_n 0, 1) := by decide +kernel
theorem dX1_takesBooks_35 : decode cX1_takesBooks 35 = .ok (.invokevirtual 64, 3) := by decide +kernel
theorem dX1_takesBooks_38 : decode cX1_takesBooks 38 = .ok (.pop, 1) := by decide +kernel
theorem dX1_takesBooks_39 : decode cX1_takesBooks 39 = .ok (.iconst 0, 1) := by decide +kernel
theorem dX1_takesBooks_40 : decode cX1_takesBooks 40 = .ok (.ireturn, 1) := by decide +kernel
theorem dX1_takesBook_0 : decode cX1_takesBook 0 = .ok (.aload_n 0, 1) := by decide +kernel
theorem dX1_takesBook_1 : decode cX1_takesBook 1 = .ok (.invokevirtual 64, 3) := by decide +kernel
theorem dX1_takesBook_4 : decode cX1_takesBook 4 = .ok (.pop, 1) := by decide +kernel
theorem dX1_takesBook_5 : decode cX1_takesBook 5 = .ok (.iconst 0, 1) := by decide +kernel
theorem dX1_takesBook_6 : decode cX1_takesBook 6 = .ok (.istore_n 1, 1) := by decide +kernel
theorem dX1_takesBook_7 : decode cX1_takesBook 7 = .ok (.aload_n 0, 1) := by decide +kernel
theorem dX1_takesBook_8 : decode cX1_takesBook 8 = .ok (.getfield 35, 3) := by decide +kernel
theorem dX1_takesBook_11 : decode cX1_takesBook 11 = .ok (.aload_n 0, 1) := by decide +kernel
theorem dX1_takesBook_12 : decode cX1_takesBook 12 = .ok (.getfield 14, 3) := by decide +kernel
theorem dX1_takesBook_15 : decode cX1_takesBook 15 = .ok (.getfield 58, 3) := by decide +kernel
theorem dX1_takesBook_18 : decode cX1_takesBook 18 = .ok (.if_icmp .ge 67, 3) := by decide +kernel
theorem dX1_takesBook_21 : decode cX1_takesBook 21 = .ok (.aload_n 0, 1) := by decide +kernel
theorem dX1_takesBook_22 : decode cX1_takesBook 22 = .ok (.getfield 14, 3) := by decide +kernel
theorem dX1_takesBook_25 : decode cX1_takesBook 25 = .ok (.aload_n 0, 1) := by decide +kernel
theorem dX1_takesBook_26 : decode cX1_takesBook 26 = .ok (.getfield 35, 3) := by decide +kernel
theorem dX1_takesBook_29 : decode cX1_takesBook 29 = .ok (.invokevirtual 61, 3) := by decide +kernel
theorem dX1_takesBook_32 : decode cX1_takesBook 32 = .ok (.bipush 97, 2) := by decide +kernel
theorem dX1_takesBook_34 : decode cX1_takesBook 34 = .ok (.if_icmp .lt 51, 3) := by decide +kernel
theorem dX1_takesBook_37 : decode cX1_takesBook 37 = .ok (.aload_n 0, 1) := by decide +kernel
theorem dX1_takesBook_38 : decode cX1_takesBook 38 = .ok (.getfield 14, 3) := by decide +kernel
theorem dX1_takesBook_41 : decode cX1_takesBook 41 = .ok (.aload_n 0, 1) := by decide +kernel
theorem dX1_takesBook_42 : decode cX1_takesBook 42 = .ok (.getfield 35, 3) := by decide +kernel
theorem dX1_takesBook_45 : decode cX1_takesBook 45 = .ok (.invokevirtual 61, 3) := by decide +kernel
theorem dX1_takesBook_48 : decode cX1_takesBook 48 = .ok (.bipush 117, 2) := by decide +kernel
theorem dX1_takesBook_50 : decode cX1_takesBook 50 = .ok (.if_icmp .ge 35, 3) := by decide +kernel
theorem dX1_takesBook_53 : decode cX1_takesBook 53 = .ok (.iload_n 1, 1) := by decide +kernel
theorem dX1_takesBook_54 : decode cX1_takesBook 54 = .ok (.iconst 1, 1) := by decide +kernel
theorem dX1_takesBook_55 : decode cX1_takesBook 55 = .ok (.aload_n 0, 1) := by decide +kernel
theorem dX1_takesBook_56 : decode cX1_takesBook 56 = .ok (.getfield 14, 3) := by decide +kernel
theorem dX1_takesBook_59 : decode cX1_takesBook 59 = .ok (.aload_n 0, 1) := by decide +kernel
theorem dX1_takesBook_60 : decode cX1_takesBook 60 = .ok (.getfield 35, 3) := by decide +kernel
theorem dX1_takesBook_63 : decode cX1_takesBook 63 = .ok (.invokevirtual 61, 3) := by decide +kernel
theorem dX1_takesBook_66 : decode cX1_takesBook 66 = .ok (.bipush 97, 2) := by decide +kernel
theorem dX1_takesBook_68 : decode cX1_takesBook 68 = .ok (.isub, 1) := by decide +kernel
theorem dX1_takesBook_69 : decode cX1_takesBook 69 = .ok (.ishl, 1) := by decide +kernel
theorem dX1_takesBook_70 : decode cX1_takesBook 70 = .ok (.ior, 1) := by decide +kernel
theorem dX1_takesBook_71 : decode cX1_takesBook 71 = .ok (.istore_n 1, 1) := by decide +kernel
theorem dX1_takesBook_72 : decode cX1_takesBook 72 = .ok (.aload_n 0, 1) := by decide +kernel
theorem dX1_takesBook_73 : decode cX1_takesBook 73 = .ok (.dup, 1) := by decide +kernel
theorem dX1_takesBook_74 : decode cX1_takesBook 74 = .ok (.getfield 35, 3) := by decide +kernel
theorem dX1_takesBook_77 : decode cX1_takesBook 77 = .ok (.iconst 1, 1) := by decide +kernel
theorem dX1_takesBook_78 : decode cX1_takesBook 78 = .ok (.iadd, 1) := by decide +kernel
theorem dX1_takesBook_79 : decode cX1_takesBook 79 = .ok (.putfield 35, 3) := by decide +kernel
theorem dX1_takesBook_82 : decode cX1_takesBook 82 = .ok (.goto (-75), 3) := by decide +kernel
theorem dX1_takesBook_85 : decode cX1_takesBook 85 = .ok (.aload_n 0, 1) := by decide +kernel
theorem dX1_takesBook_86 : decode cX1_takesBook 86 = .ok (.getfield 23, 3) := by decide +kernel
theorem dX1_takesBook_89 : decode cX1_takesBook 89 = .ok (.iload_n 1, 1) := by decide +kernel
theorem dX1_takesBook_90 : decode cX1_takesBook 90 = .ok (.invokevirtual 103, 3) := by decide +kernel
theorem dX1_takesBook_93 : decode cX1_takesBook 93 = .ok (.ifCond .lt 7, 3) := by decide +kernel
theorem dX1_takesBook_96 : decode cX1_takesBook 96 = .ok (.iconst 1, 1) := by decide +kernel
theorem dX1_takesBook_97 : decode cX1_takesBook 97 = .ok (.goto 4, 3) := by decide +kernel
theorem dX1_takesBook_100 : decode cX1_takesBook 100 = .ok (.iconst 0, 1) := by decide +kernel
theorem dX1_takesBook_101 : decode cX1_takesBook 101 = .ok (.ireturn, 1) := by decide +kernel
theorem dX1_takesPairs_0 : decode cX1_takesPairs 0 = .ok (.iconst 0, 1) := by decide +kernel
theorem dX1_takesPairs_1 : decode cX1_takesPairs 1 = .ok (.istore_n 1, 1) := by decide +kernel
theorem dX1_takesPairs_2 : decode cX1_takesPairs 2 = .ok (.iload_n 1, 1) := by decide +kernel
theorem dX1_takesPairs_3 : decode cX1_takesPairs 3 = .ok (.bipush 90, 2) := by decide +kernel
theorem dX1_takesPairs_5 : decode cX1_takesPairs 5 = .ok (.if_icmp .ge 38, 3) := by decide +kernel
theorem dX1_takesPairs_8 : decode cX1_takesPairs 8 = .ok (.aload_n 0, 1) := by decide +kernel
theorem dX1_takesPairs_9 : decode cX1_takesPairs 9 = .ok (.invokevirtual 107, 3) := by decide +kernel
theorem dX1_takesPairs_12 : decode cX1_takesPairs 12 = .ok (.ifCond .ne 5, 3) := by decide +kernel
theorem dX1_takesPairs_15 : decode cX1_takesPairs 15 = .ok (.iconst 0, 1) := by decide +kernel
theorem dX1_takesPairs_16 : decode cX1_takesPairs 16 = .ok (.ireturn, 1) := by decide +kernel
theorem dX1_takesPairs_17 : decode cX1_takesPairs 17 = .ok (.aload_n 0, 1) := by decide +kernel
theorem dX1_takesPairs_18 : decode cX1_takesPairs 18 = .ok (.invokevirtual 52, 3) := by decide +kernel
theorem dX1_takesPairs_21 : decode cX1_takesPairs 21 = .ok (.ifCond .eq 5, 3) := by decide +kernel
theorem dX1_takesPairs_24 : decode cX1_takesPairs 24 = .ok (.iconst 1, 1) := by decide +kernel
theorem dX1_takesPairs_25 : decode cX1_takesPairs 25 = .ok (.ireturn, 1) := by decide +kernel
theorem dX1_takesPairs_26 : decode cX1_takesPairs 26 = .ok (.aload_n 0, 1) := by decide +kernel
theorem dX1_takesPairs_27 : decode cX1_takesPairs 27 = .ok (.bipush 44, 2) := by decide +kernel
theorem dX1_takesPairs_29 : decode cX1_takesPairs 29 = .ok (.invokevirtual 45, 3) := by decide +kernel
theorem dX1_takesPairs_32 : decode cX1_takesPairs 32 = .ok (.ifCond .ne 5, 3) := by decide +kernel
theorem dX1_takesPairs_35 : decode cX1_takesPairs 35 = .ok (.iconst 0, 1) := by decide +kernel
theorem dX1_takesPairs_36 : decode cX1_takesPairs 36 = .ok (.ireturn, 1) := by decide +kernel
theorem dX1_takesPairs_37 : decode cX1_takesPairs 37 = .ok (.iinc 1 1, 3) := by decide +kernel
theorem dX1_takesPairs_40 : decode cX1_takesPairs 40 = .ok (.goto (-38), 3) := by decide +kernel
theorem dX1_takesPairs_43 : decode cX1_takesPairs 43 = .ok (.iconst 0, 1) := by decide +kernel
theorem dX1_takesPairs_44 : decode cX1_takesPairs 44 = .ok (.ireturn, 1) := by decide +kernel
theorem dX1_takesPair_0 : decode cX1_takesPair 0 = .ok (.aload_n 0, 1) := by decide +kernel
theorem dX1_takesPair_1 : decode cX1_takesPair 1 = .ok (.invokevirtual 94, 3) := by decide +kernel
theorem dX1_takesPair_4 : decode cX1_takesPair 4 = .ok (.istore_n 1, 1) := by decide +kernel
theorem dX1_takesPair_5 : decode cX1_takesPair 5 = .ok (.aload_n 0, 1) := by decide +kernel
theorem dX1_takesPair_6 : decode cX1_takesPair 6 = .ok (.getfield 23, 3) := by decide +kernel
theorem dX1_takesPair_9 : decode cX1_takesPair 9 = .ok (.iload_n 1, 1) := by decide +kernel
theorem dX1_takesPair_10 : decode cX1_takesPair 10 = .ok (.invokevirtual 110, 3) := by decide +kernel
theorem dX1_takesPair_13 : decode cX1_takesPair 13 = .ok (.ifCond .ne 5, 3) := by decide +kernel
theorem dX1_takesPair_16 : decode cX1_takesPair 16 = .ok (.iconst 0, 1) := by decide +kernel
theorem dX1_takesPair_17 : decode cX1_takesPair 17 = .ok (.ireturn, 1) := by decide +kernel
theorem dX1_takesPair_18 : decode cX1_takesPair 18 = .ok (.aload_n 0, 1) := by decide +kernel
theorem dX1_takesPair_19 : decode cX1_takesPair 19 = .ok (.dup, 1) := by decide +kernel
theorem dX1_takesPair_20 : decode cX1_takesPair 20 = .ok (.getfield 35, 3) := by decide +kernel
theorem dX1_takesPair_23 : decode cX1_takesPair 23 = .ok (.iconst 1, 1) := by decide +kernel
theorem dX1_takesPair_24 : decode cX1_takesPair 24 = .ok (.iadd, 1) := by decide +kernel
theorem dX1_takesPair_25 : decode cX1_takesPair 25 = .ok (.putfield 35, 3) := by decide +kernel
theorem dX1_takesPair_28 : decode cX1_takesPair 28 = .ok (.aload_n 0, 1) := by decide +kernel
theorem dX1_takesPair_29 : decode cX1_takesPair 29 = .ok (.invokevirtual 94, 3) := by decide +kernel
theorem dX1_takesPair_32 : decode cX1_takesPair 32 = .ok (.istore_n 2, 1) := by decide +kernel
theorem dX1_takesPair_33 : decode cX1_takesPair 33 = .ok (.aload_n 0, 1) := by decide +kernel
theorem dX1_takesPair_34 : decode cX1_takesPair 34 = .ok (.getfield 23, 3) := by decide +kernel
theorem dX1_takesPair_37 : decode cX1_takesPair 37 = .ok (.iload_n 2, 1) := by decide +kernel
theorem dX1_takesPair_38 : decode cX1_takesPair 38 = .ok (.invokevirtual 110, 3) := by decide +kernel
theorem dX1_takesPair_41 : decode cX1_takesPair 41 = .ok (.ifCond .eq 31, 3) := by decide +kernel
theorem dX1_takesPair_44 : decode cX1_takesPair 44 = .ok (.aload_n 0, 1) := by decide +kernel
theorem dX1_takesPair_45 : decode cX1_takesPair 45 = .ok (.getfield 23, 3) := by decide +kernel
theorem dX1_takesPair_48 : decode cX1_takesPair 48 = .ok (.getfield 114, 3) := by decide +kernel
theorem dX1_takesPair_51 : decode cX1_takesPair 51 = .ok (.iload_n 1, 1) := by decide +kernel
theorem dX1_takesPair_52 : decode cX1_takesPair 52 = .ok (.iaload, 1) := by decide +kernel
theorem dX1_takesPair_53 : decode cX1_takesPair 53 = .ok (.iload_n 2, 1) := by decide +kernel
theorem dX1_takesPair_54 : decode cX1_takesPair 54 = .ok (.invokestatic 118, 3) := by decide +kernel
theorem dX1_takesPair_57 : decode cX1_takesPair 57 = .ok (.ifCond .ne 15, 3) := by decide +kernel
theorem dX1_takesPair_60 : decode cX1_takesPair 60 = .ok (.aload_n 0, 1) := by decide +kernel
theorem dX1_takesPair_61 : decode cX1_takesPair 61 = .ok (.getfield 23, 3) := by decide +kernel
theorem dX1_takesPair_64 : decode cX1_takesPair 64 = .ok (.iload_n 1, 1) := by decide +kernel
theorem dX1_takesPair_65 : decode cX1_takesPair 65 = .ok (.iload_n 2, 1) := by decide +kernel
theorem dX1_takesPair_66 : decode cX1_takesPair 66 = .ok (.invokevirtual 122, 3) := by decide +kernel
theorem dX1_takesPair_69 : decode cX1_takesPair 69 = .ok (.ifCond .ge 5, 3) := by decide +kernel
theorem dX1_takesPair_72 : decode cX1_takesPair 72 = .ok (.iconst 0, 1) := by decide +kernel
theorem dX1_takesPair_73 : decode cX1_takesPair 73 = .ok (.ireturn, 1) := by decide +kernel
theorem dX1_takesPair_74 : decode cX1_takesPair 74 = .ok (.aload_n 0, 1) := by decide +kernel
theorem dX1_takesPair_75 : decode cX1_takesPair 75 = .ok (.dup, 1) := by decide +kernel
theorem dX1_takesPair_76 : decode cX1_takesPair 76 = .ok (.getfield 35, 3) := by decide +kernel
theorem dX1_takesPair_79 : decode cX1_takesPair 79 = .ok (.iconst 1, 1) := by decide +kernel
theorem dX1_takesPair_80 : decode cX1_takesPair 80 = .ok (.iadd, 1) := by decide +kernel
theorem dX1_takesPair_81 : decode cX1_takesPair 81 = .ok (.putfield 35, 3) := by decide +kernel
theorem dX1_takesPair_84 : decode cX1_takesPair 84 = .ok (.iconst 1, 1) := by decide +kernel
theorem dX1_takesPair_85 : decode cX1_takesPair 85 = .ok (.ireturn, 1) := by decide +kernel
theorem dX2_init_0 : decode cX2_init 0 = .ok (.aload_n 0, 1) := by decide +kernel
theorem dX2_init_1 : decode cX2_init 1 = .ok (.invokespecial 3, 3) := by decide +kernel
theorem dX2_init_4 : decode cX2_init 4 = .ok (.aload_n 0, 1) := by decide +kernel
theorem dX2_init_5 : decode cX2_init 5 = .ok (.bipush 6, 2) := by decide +kernel
theorem dX2_init_7 : decode cX2_init 7 = .ok (.anewarray 9, 3) := by decide +kernel
theorem dX2_init_10 : decode cX2_init 10 = .ok (.putfield 11, 3) := by decide +kernel
theorem dX2_init_13 : decode cX2_init 13 = .ok (.iconst 0, 1) := by decide +kernel
theorem dX2_init_14 : decode cX2_init 14 = .ok (.istore_n 1, 1) := by decide +kernel
theorem dX2_init_15 : decode cX2_init 15 = .ok (.iload_n 1, 1) := by decide +kernel
theorem dX2_init_16 : decode cX2_init 16 = .ok (.bipush 6, 2) := by decide +kernel
theorem dX2_init_18 : decode cX2_init 18 = .ok (.if_icmp .ge 22, 3) := by decide +kernel
theorem dX2_init_21 : decode cX2_init 21 = .ok (.aload_n 0, 1) := by decide +kernel
theorem dX2_init_22 : decode cX2_init 22 = .ok (.getfield 11, 3) := by decide +kernel
theorem dX2_init_25 : decode cX2_init 25 = .ok (.iload_n 1, 1) := by decide +kernel
theorem dX2_init_26 : decode cX2_init 26 = .ok (.new 9, 3) := by decide +kernel
theorem dX2_init_29 : decode cX2_init 29 = .ok (.dup, 1) := by decide +kernel
theorem dX2_init_30 : decode cX2_init 30 = .ok (.invokespecial 17, 3) := by decide +kernel
theorem dX2_init_33 : decode cX2_init 33 = .ok (.aastore, 1) := by decide +kernel
theorem dX2_init_34 : decode cX2_init 34 = .ok (.iinc 1 1, 3) := by decide +kernel
theorem dX2_init_37 : decode cX2_init 37 = .ok (.goto (-22), 3) := by decide +kernel
theorem dX2_init_40 : decode cX2_init 40 = .ok (.return_, 1) := by decide +kernel
theorem dX2_keep_0 : decode cX2_keep 0 = .ok (.aload_n 0, 1) := by decide +kernel
theorem dX2_keep_1 : decode cX2_keep 1 = .ok (.getfield 18, 3) := by decide +kernel
theorem dX2_keep_4 : decode cX2_keep 4 = .ok (.bipush 6, 2) := by decide +kernel
theorem dX2_keep_6 : decode cX2_keep 6 = .ok (.if_icmp .lt 7, 3) := by decide +kernel
theorem dX2_keep_9 : decode cX2_keep 9 = .ok (.aload_n 0, 1) := by decide +kernel
theorem dX2_keep_10 : decode cX2_keep 10 = .ok (.invokevirtual 22, 3) := by decide +kernel
theorem dX2_keep_13 : decode cX2_keep 13 = .ok (.aload_n 0, 1) := by decide +kernel
theorem dX2_keep_14 : decode cX2_keep 14 = .ok (.getfield 11, 3) := by decide +kernel
theorem dX2_keep_17 : decode cX2_keep 17 = .ok (.aload_n 0, 1) := by decide +kernel
theorem dX2_keep_18 : decode cX2_keep 18 = .ok (.getfield 18, 3) := by decide +kernel
theorem dX2_keep_21 : decode cX2_keep 21 = .ok (.aaload, 1) := by decide +kernel
theorem dX2_keep_22 : decode cX2_keep 22 = .ok (.aload_n 1, 1) := by decide +kernel
theorem dX2_keep_23 : decode cX2_keep 23 = .ok (.invokevirtual 25, 3) := by decide +kernel
theorem dX2_keep_26 : decode cX2_keep 26 = .ok (.aload_n 0, 1) := by decide +kernel
theorem dX2_keep_27 : decode cX2_keep 27 = .ok (.dup, 1) := by decide +kernel
theorem dX2_keep_28 : decode cX2_keep 28 = .ok (.getfield 18, 3) := by decide +kernel
theorem dX2_keep_31 : decode cX2_keep 31 = .ok (.iconst 1, 1) := by decide +kernel
theorem dX2_keep_32 : decode cX2_keep 32 = .ok (.iadd, 1) := by decide +kernel
theorem dX2_keep_33 : decode cX2_keep 33 = .ok (.putfield 18, 3) := by decide +kernel
theorem dX2_keep_36 : decode cX2_keep 36 = .ok (.return_, 1) := by decide +kernel
theorem dX2_loseOldest_0 : decode cX2_loseOldest 0 = .ok (.aload_n 0, 1) := by decide +kernel
theorem dX2_loseOldest_1 : decode cX2_loseOldest 1 = .ok (.getfield 11, 3) := by decide +kernel
theorem dX2_loseOldest_4 : decode cX2_loseOldest 4 = .ok (.iconst 0, 1) := by decide +kernel
theorem dX2_loseOldest_5 : decode cX2_loseOldest 5 = .ok (.aaload, 1) := by decide +kernel
theorem dX2_loseOldest_6 : decode cX2_loseOldest 6 = .ok (.astore_n 1, 1) := by decide +kernel
theorem dX2_loseOldest_7 : decode cX2_loseOldest 7 = .ok (.iconst 0, 1) := by decide +kernel
theorem dX2_loseOldest_8 : decode cX2_loseOldest 8 = .ok (.istore_n 2, 1) := by decide +kernel
theorem dX2_loseOldest_9 : decode cX2_loseOldest 9 = .ok (.iload_n 2, 1) := by decide +kernel
theorem dX2_loseOldest_10 : decode cX2_loseOldest 10 = .ok (.iconst 1, 1) := by decide +kernel
theorem dX2_loseOldest_11 : decode cX2_loseOldest 11 = .ok (.iadd, 1) := by decide +kernel
theorem dX2_loseOldest_12 : decode cX2_loseOldest 12 = .ok (.bipush 6, 2) := by decide +kernel
theorem dX2_loseOldest_14 : decode cX2_loseOldest 14 = .ok (.if_icmp .ge 23, 3) := by decide +kernel
theorem dX2_loseOldest_17 : decode cX2_loseOldest 17 = .ok (.aload_n 0, 1) := by decide +kernel
theorem dX2_loseOldest_18 : decode cX2_loseOldest 18 = .ok (.getfield 11, 3) := by decide +kernel
theorem dX2_loseOldest_21 : decode cX2_loseOldest 21 = .ok (.iload_n 2, 1) := by decide +kernel
theorem dX2_loseOldest_22 : decode cX2_loseOldest 22 = .ok (.aload_n 0, 1) := by decide +kernel
theorem dX2_loseOldest_23 : decode cX2_loseOldest 23 = .ok (.getfield 11, 3) := by decide +kernel
theorem dX2_loseOldest_26 : decode cX2_loseOldest 26 = .ok (.iload_n 2, 1) := by decide +kernel
theorem dX2_loseOldest_27 : decode cX2_loseOldest 27 = .ok (.iconst 1, 1) := by decide +kernel
theorem dX2_loseOldest_28 : decode cX2_loseOldest 28 = .ok (.iadd, 1) := by decide +kernel
theorem dX2_loseOldest_29 : decode cX2_loseOldest 29 = .ok (.aaload, 1) := by decide +kernel
theorem dX2_loseOldest_30 : decode cX2_loseOldest 30 = .ok (.aastore, 1) := by decide +kernel
theorem dX2_loseOldest_31 : decode cX2_loseOldest 31 = .ok (.iinc 2 1, 3) := by decide +kernel
theorem dX2_loseOldest_34 : decode cX2_loseOldest 34 = .ok (.goto (-25), 3) := by decide +kernel
theorem dX2_loseOldest_37 : decode cX2_loseOldest 37 = .ok (.aload_n 0, 1) := by decide +kernel
theorem dX2_loseOldest_38 : decode cX2_loseOldest 38 = .ok (.getfield 11, 3) := by decide +kernel
theorem dX2_loseOldest_41 : decode cX2_loseOldest 41 = .ok (.iconst 5, 1) := by decide +kernel
theorem dX2_loseOldest_42 : decode cX2_loseOldest 42 = .ok (.aload_n 1, 1) := by decide +kernel
theorem dX2_loseOldest_43 : decode cX2_loseOldest 43 = .ok (.aastore, 1) := by decide +kernel
theorem dX2_loseOldest_44 : decode cX2_loseOldest 44 = .ok (.aload_n 0, 1) := by decide +kernel
theorem dX2_loseOldest_45 : decode cX2_loseOldest 45 = .ok (.iconst 5, 1) := by decide +kernel
theorem dX2_loseOldest_46 : decode cX2_loseOldest 46 = .ok (.putfield 18, 3) := by decide +kernel
theorem dX2_loseOldest_49 : decode cX2_loseOldest 49 = .ok (.return_, 1) := by decide +kernel
theorem dX2_bringBack_0 : decode cX2_bringBack 0 = .ok (.aload_n 0, 1) := by decide +kernel
theorem dX2_bringBack_1 : decode cX2_bringBack 1 = .ok (.getfield 18, 3) := by decide +kernel
theorem dX2_bringBack_4 : decode cX2_bringBack 4 = .ok (.ifCond .gt 5, 3) := by decide +kernel
theorem dX2_bringBack_7 : decode cX2_bringBack 7 = .ok (.iconst 0, 1) := by decide +kernel
theorem dX2_bringBack_8 : decode cX2_bringBack 8 = .ok (.ireturn, 1) := by decide +kernel
theorem dX2_bringBack_9 : decode cX2_bringBack 9 = .ok (.aload_n 0, 1) := by decide +kernel
theorem dX2_bringBack_10 : decode cX2_bringBack 10 = .ok (.dup, 1) := by decide +kernel
theorem dX2_bringBack_11 : decode cX2_bringBack 11 = .ok (.getfield 18, 3) := by decide +kernel
theorem dX2_bringBack_14 : decode cX2_bringBack 14 = .ok (.iconst 1, 1) := by decide +kernel
theorem dX2_bringBack_15 : decode cX2_bringBack 15 = .ok (.isub, 1) := by decide +kernel
theorem dX2_bringBack_16 : decode cX2_bringBack 16 = .ok (.putfield 18, 3) := by decide +kernel
theorem dX2_bringBack_19 : decode cX2_bringBack 19 = .ok (.aload_n 1, 1) := by decide +kernel
theorem dX2_bringBack_20 : decode cX2_bringBack 20 = .ok (.aload_n 0, 1) := by decide +kernel
theorem dX2_bringBack_21 : decode cX2_bringBack 21 = .ok (.getfield 11, 3) := by decide +kernel
theorem dX2_bringBack_24 : decode cX2_bringBack 24 = .ok (.aload_n 0, 1) := by decide +kernel
theorem dX2_bringBack_25 : decode cX2_bringBack 25 = .ok (.getfield 18, 3) := by decide +kernel
theorem dX2_bringBack_28 : decode cX2_bringBack 28 = .ok (.aaload, 1) := by decide +kernel
theorem dX2_bringBack_29 : decode cX2_bringBack 29 = .ok (.invokevirtual 25, 3) := by decide +kernel
theorem dX2_bringBack_32 : decode cX2_bringBack 32 = .ok (.iconst 1, 1) := by decide +kernel
theorem dX2_bringBack_33 : decode cX2_bringBack 33 = .ok (.ireturn, 1) := by decide +kernel
theorem dX2_takeFrom_0 : decode cX2_takeFrom 0 = .ok (.iconst 0, 1) := by decide +kernel
theorem dX2_takeFrom_1 : decode cX2_takeFrom 1 = .ok (.istore_n 2, 1) := by decide +kernel
theorem dX2_takeFrom_2 : decode cX2_takeFrom 2 = .ok (.iload_n 2, 1) := by decide +kernel
theorem dX2_takeFrom_3 : decode cX2_takeFrom 3 = .ok (.bipush 6, 2) := by decide +kernel
theorem dX2_takeFrom_5 : decode cX2_takeFrom 5 = .ok (.if_icmp .ge 24, 3) := by decide +kernel
theorem dX2_takeFrom_8 : decode cX2_takeFrom 8 = .ok (.aload_n 0, 1) := by decide +kernel
theorem dX2_takeFrom_9 : decode cX2_takeFrom 9 = .ok (.getfield 11, 3) := by decide +kernel
theorem dX2_takeFrom_12 : decode cX2_takeFrom 12 = .ok (.iload_n 2, 1) := by decide +kernel
theorem dX2_takeFrom_13 : decode cX2_takeFrom 13 = .ok (.aaload, 1) := by decide +kernel
theorem dX2_takeFrom_14 : decode cX2_takeFrom 14 = .ok (.aload_n 1, 1) := by decide +kernel
theorem dX2_takeFrom_15 : decode cX2_takeFrom 15 = .ok (.getfield 11, 3) := by decide +kernel
theorem dX2_takeFrom_18 : decode cX2_takeFrom 18 = .ok (.iload_n 2, 1) := by decide +kernel
theorem dX2_takeFrom_19 : decode cX2_takeFrom 19 = .ok (.aaload, 1) := by decide +kernel
theorem dX2_takeFrom_20 : decode cX2_takeFrom 20 = .ok (.invokevirtual 25, 3) := by decide +kernel
theorem dX2_takeFrom_23 : decode cX2_takeFrom 23 = .ok (.iinc 2 1, 3) := by decide +kernel
theorem dX2_takeFrom_26 : decode cX2_takeFrom 26 = .ok (.goto (-24), 3) := by decide +kernel
theorem dX2_takeFrom_29 : decode cX2_takeFrom 29 = .ok (.aload_n 0, 1) := by decide +kernel
theorem dX2_takeFrom_30 : decode cX2_takeFrom 30 = .ok (.aload_n 1, 1) := by decide +kernel
theorem dX2_takeFrom_31 : decode cX2_takeFrom 31 = .ok (.getfield 18, 3) := by decide +kernel
theorem dX2_takeFrom_34 : decode cX2_takeFrom 34 = .ok (.putfield 18, 3) := by decide +kernel
theorem dX2_takeFrom_37 : decode cX2_takeFrom 37 = .ok (.return_, 1) := by decide +kernel
theorem dX3_init_0 : decode cX3_init 0 = .ok (.aload_n 0, 1) := by decide +kernel
theorem dX3_init_1 : decode cX3_init 1 = .ok (.invokespecial 3, 3) := by decide +kernel
theorem dX3_init_4 : decode cX3_init 4 = .ok (.aload_n 0, 1) := by decide +kernel
theorem dX3_init_5 : decode cX3_init 5 = .ok (.bipush 10, 2) := by decide +kernel
theorem dX3_init_7 : decode cX3_init 7 = .ok (.newarray .int, 2) := by decide +kernel
theorem dX3_init_9 : decode cX3_init 9 = .ok (.putfield 9, 3) := by decide +kernel
theorem dX3_init_12 : decode cX3_init 12 = .ok (.aload_n 0, 1) := by decide +kernel
theorem dX3_init_13 : decode cX3_init 13 = .ok (.bipush 8, 2) := by decide +kernel
theorem dX3_init_15 : decode cX3_init 15 = .ok (.newarray .int, 2) := by decide +kernel
theorem dX3_init_17 : decode cX3_init 17 = .ok (.putfield 15, 3) := by decide +kernel
theorem dX3_init_20 : decode cX3_init 20 = .ok (.aload_n 0, 1) := by decide +kernel
theorem dX3_init_21 : decode cX3_init 21 = .ok (.bipush 8, 2) := by decide +kernel
theorem dX3_init_23 : decode cX3_init 23 = .ok (.newarray .int, 2) := by decide +kernel
theorem dX3_init_25 : decode cX3_init 25 = .ok (.putfield 18, 3) := by decide +kernel
theorem dX3_init_28 : decode cX3_init 28 = .ok (.aload_n 0, 1) := by decide +kernel
theorem dX3_init_29 : decode cX3_init 29 = .ok (.bipush 8, 2) := by decide +kernel
theorem dX3_init_31 : decode cX3_init 31 = .ok (.newarray .int, 2) := by decide +kernel
theorem dX3_init_33 : decode cX3_init 33 = .ok (.putfield 21, 3) := by decide +kernel
theorem dX3_init_36 : decode cX3_init 36 = .ok (.aload_n 0, 1) := by decide +kernel
theorem dX3_init_37 : decode cX3_init 37 = .ok (.bipush 8, 2) := by decide +kernel
theorem dX3_init_39 : decode cX3_init 39 = .ok (.bipush 7, 2) := by decide +kernel
theorem dX3_init_41 : decode cX3_init 41 = .ok (.multianewarray 24 2, 4) := by decide +kernel
theorem dX3_init_45 : decode cX3_init 45 = .ok (.putfield 26, 3) := by decide +kernel
theorem dX3_init_48 : decode cX3_init 48 = .ok (.aload_n 0, 1) := by decide +kernel
theorem dX3_init_49 : decode cX3_init 49 = .ok (.bipush 7, 2) := by decide +kernel
theorem dX3_init_51 : decode cX3_init 51 = .ok (.newarray .int, 2) := by decide +kernel
theorem dX3_init_53 : decode cX3_init 53 = .ok (.putfield 29, 3) := by decide +kernel
theorem dX3_init_56 : decode cX3_init 56 = .ok (.aload_n 0, 1) := by decide +kernel
theorem dX3_init_57 : decode cX3_init 57 = .ok (.bipush 7, 2) := by decide +kernel
theorem dX3_init_59 : decode cX3_init 59 = .ok (.newarray .int, 2) := by decide +kernel
theorem dX3_init_61 : decode cX3_init 61 = .ok (.putfield 32, 3) := by decide +kernel
theorem dX3_init_64 : decode cX3_init 64 = .ok (.aload_n 0, 1) := by decide +kernel
theorem dX3_init_65 : decode cX3_init 65 = .ok (.bipush 7, 2) := by decide +kernel
theorem dX3_init_67 : decode cX3_init 67 = .ok (.newarray .int, 2) := by decide +kernel
theorem dX3_init_69 : decode cX3_init 69 = .ok (.putfield 35, 3) := by decide +kernel
theorem dX3_init_72 : decode cX3_init 72 = .ok (.return_, 1) := by decide +kernel
theorem dX3_begin_0 : decode cX3_begin 0 = .ok (.aload_n 0, 1) := by decide +kernel
theorem dX3_begin_1 : decode cX3_begin 1 = .ok (.aload_n 1, 1) := by decide +kernel
theorem dX3_begin_2 : decode cX3_begin 2 = .ok (.getfield 38, 3) := by decide +kernel
theorem dX3_begin_5 : decode cX3_begin 5 = .ok (.putfield 44, 3) := by decide +kernel
theorem dX3_begin_8 : decode cX3_begin 8 = .ok (.iconst 1, 1) := by decide +kernel
theorem dX3_begin_9 : decode cX3_begin 9 = .ok (.istore_n 2, 1) := by decide +kernel
theorem dX3_begin_10 : decode cX3_begin 10 = .ok (.iload_n 2, 1) := by decide +kernel
theorem dX3_begin_11 : decode cX3_begin 11 = .ok (.bipush 9, 2) := by decide +kernel
theorem dX3_begin_13 : decode cX3_begin 13 = .ok (.if_icmp .gt 28, 3) := by decide +kernel
theorem dX3_begin_16 : decode cX3_begin 16 = .ok (.aload_n 0, 1) := by decide +kernel
theorem dX3_begin_17 : decode cX3_begin 17 = .ok (.getfield 9, 3) := by decide +kernel
theorem dX3_begin_20 : decode cX3_begin 20 = .ok (.iload_n 2, 1) := by decide +kernel
theorem dX3_begin_21 : decode cX3_begin 21 = .ok (.aload_n 1, 1) := by decide +kernel
theorem dX3_begin_22 : decode cX3_begin 22 = .ok (.getfield 47, 3) := by decide +kernel
theorem dX3_begin_25 : decode cX3_begin 25 = .ok (.aload_n 1, 1) := by decide +kernel
theorem dX3_begin_26 : decode cX3_begin 26 = .ok (.getfield 50, 3) := by decide +kernel
theorem dX3_begin_29 : decode cX3_begin 29 = .ok (.iload_n 2, 1) := by decide +kernel
theorem dX3_begin_30 : decode cX3_begin 30 = .ok (.invokestatic 53, 3) := by decide +kernel
theorem dX3_begin_33 : decode cX3_begin 33 = .ok (.imul, 1) := by decide +kernel
theorem dX3_begin_34 : decode cX3_begin 34 = .ok (.iastore, 1) := by decide +kernel
theorem dX3_begin_35 : decode cX3_begin 35 = .ok (.iinc 2 1, 3) := by decide +kernel
theorem dX3_begin_38 : decode cX3_begin 38 = .ok (.goto (-28), 3) := by decide +kernel
theorem dX3_begin_41 : decode cX3_begin 41 = .ok (.return_, 1) := by decide +kernel
theorem dX3_factor_0 : decode cX3_factor 0 = .ok (.iload_n 0, 1) := by decide +kernel
theorem dX3_factor_1 : decode cX3_factor 1 = .ok (.lookupswitch 35 #[(1, 27), (2, 29)], 27) := by decide +kernel
theorem dX3_factor_28 : decode cX3_factor 28 = .ok (.iload_n 1, 1) := by decide +kernel
theorem dX3_factor_29 : decode cX3_factor 29 = .ok (.ireturn, 1) := by decide +kernel
theorem dX3_factor_30 : decode cX3_factor 30 = .ok (.iconst 1, 1) := by decide +kernel
theorem dX3_factor_31 : decode cX3_factor 31 = .ok (.iload_n 1, 1) := by decide +kernel
theorem dX3_factor_32 : decode cX3_factor 32 = .ok (.iconst 1, 1) := by decide +kernel
theorem dX3_factor_33 : decode cX3_factor 33 = .ok (.isub, 1) := by decide +kernel
theorem dX3_factor_34 : decode cX3_factor 34 = .ok (.ishl, 1) := by decide +kernel
theorem dX3_factor_35 : decode cX3_factor 35 = .ok (.ireturn, 1) := by decide +kernel
theorem dX3_factor_36 : decode cX3_factor 36 = .ok (.iconst 1, 1) := by decide +kernel
theorem dX3_factor_37 : decode cX3_factor 37 = .ok (.ireturn, 1) := by decide +kernel
theorem dX3_readOrder_0 : decode cX3_readOrder 0 = .ok (.aload_n 0, 1) := by decide +kernel
theorem dX3_readOrder_1 : decode cX3_readOrder 1 = .ok (.aload_n 1, 1) := by decide +kernel
theorem dX3_readOrder_2 : decode cX3_readOrder 2 = .ok (.invokevirtual 57, 3) := by decide +kernel
theorem dX3_readOrder_5 : decode cX3_readOrder 5 = .ok (.iconst 0, 1) := by decide +kernel
theorem dX3_readOrder_6 : decode cX3_readOrder 6 = .ok (.istore_n 2, 1) := by decide +kernel
theorem dX3_readOrder_7 : decode cX3_readOrder 7 = .ok (.iload_n 2, 1) := by decide +kernel
theorem dX3_readOrder_8 : decode cX3_readOrder 8 = .ok (.aload_n 0, 1) := by decide +kernel
theorem dX3_readOrder_9 : decode cX3_readOrder 9 = .ok (.getfield 44, 3) := by decide +kernel
theorem dX3_readOrder_12 : decode cX3_readOrder 12 = .ok (.if_icmp .ge 24, 3) := by decide +kernel
theorem dX3_readOrder_15 : decode cX3_readOrder 15 = .ok (.aload_n 0, 1) := by decide +kernel
theorem dX3_readOrder_16 : decode cX3_readOrder 16 = .ok (.iload_n 2, 1) := by decide +kernel
theorem dX3_readOrder_17 : decode cX3_readOrder 17 = .ok (.aload_n 1, 1) := by decide +kernel
theorem dX3_readOrder_18 : decode cX3_readOrder 18 = .ok (.aload_n 1, 1) := by decide +kernel
theorem dX3_readOrder_19 : decode cX3_readOrder 19 = .ok (.getfield 61, 3) := by decide +kernel
theorem dX3_readOrder_22 : decode cX3_readOrder 22 = .ok (.iload_n 2, 1) := by decide +kernel
theorem dX3_readOrder_23 : decode cX3_readOrder 23 = .ok (.iaload, 1) := by decide +kernel
theorem dX3_readOrder_24 : decode cX3_readOrder 24 = .ok (.invokevirtual 64, 3) := by decide +kernel
theorem dX3_readOrder_27 : decode cX3_readOrder 27 = .ok (.invokevirtual 68, 3) := by decide +kernel
theorem dX3_readOrder_30 : decode cX3_readOrder 30 = .ok (.iinc 2 1, 3) := by decide +kernel
theorem dX3_readOrder_33 : decode cX3_readOrder 33 = .ok (.goto (-26), 3) := by decide +kernel
theorem dX3_readOrder_36 : decode cX3_readOrder 36 = .ok (.return_, 1) := by decide +kernel
theorem dX3_step_0 : decode cX3_step 0 = .ok (.iload_n 1, 1) := by decide +kernel
theorem dX3_step_1 : decode cX3_step 1 = .ok (.ifCond .lt 17, 3) := by decide +kernel
theorem dX3_step_4 : decode cX3_step 4 = .ok (.iload_n 1, 1) := by decide +kernel
theorem dX3_step_5 : decode cX3_step 5 = .ok (.aload_n 0, 1) := by decide +kernel
theorem dX3_step_6 : decode cX3_step 6 = .ok (.getfield 44, 3) := by decide +kernel
theorem dX3_step_9 : decode cX3_step 9 = .ok (.if_icmp .ge 9, 3) := by decide +kernel
theorem dX3_step_12 : decode cX3_step 12 = .ok (.iload_n 1, 1) := by decide +kernel
theorem dX3_step_13 : decode cX3_step 13 = .ok (.bipush 7, 2) := by decide +kernel
theorem dX3_step_15 : decode cX3_step 15 = .ok (.if_icmp .lt 4, 3) := by decide +kernel
theorem dX3_step_18 : decode cX3_step 18 = .ok (.return_, 1) := by decide +kernel
theorem dX3_step_19 : decode cX3_step 19 = .ok (.aload_n 0, 1) := by decide +kernel
theorem dX3_step_20 : decode cX3_step 20 = .ok (.iload_n 1, 1) := by decide +kernel
theorem dX3_step_21 : decode cX3_step 21 = .ok (.invokevirtual 72, 3) := by decide +kernel
theorem dX3_step_24 : decode cX3_step 24 = .ok (.istore_n 3, 1) := by decide +kernel
theorem dX3_step_25 : decode cX3_step 25 = .ok (.aload_n 0, 1) := by decide +kernel
theorem dX3_step_26 : decode cX3_step 26 = .ok (.getfield 29, 3) := by decide +kernel
theorem dX3_step_29 : decode cX3_step 29 = .ok (.iload_n 1, 1) := by decide +kernel
theorem dX3_step_30 : decode cX3_step 30 = .ok (.iload_n 2, 1) := by decide +kernel
theorem dX3_step_31 : decode cX3_step 31 = .ok (.iload_n 3, 1) := by decide +kernel
theorem dX3_step_32 : decode cX3_step 32 = .ok (.iconst (-1), 1) := by decide +kernel
theorem dX3_step_33 : decode cX3_step 33 = .ok (.ixor, 1) := by decide +kernel
theorem dX3_step_34 : decode cX3_step 34 = .ok (.iand, 1) := by decide +kernel
theorem dX3_step_35 : decode cX3_step 35 = .ok (.iastore, 1) := by decide +kernel
theorem dX3_step_36 : decode cX3_step 36 = .ok (.aload_n 0, 1) := by decide +kernel
theorem dX3_step_37 : decode cX3_step 37 = .ok (.getfield 32, 3) := by decide +kernel
theorem dX3_step_40 : decode cX3_step 40 = .ok (.iload_n 1, 1) := by decide +kernel
theorem dX3_step_41 : decode cX3_step 41 = .ok (.iload_n 2, 1) := by decide +kernel
theorem dX3_step_42 : decode cX3_step 42 = .ok (.iload_n 3, 1) := by decide +kernel
theorem dX3_step_43 : decode cX3_step 43 = .ok (.iand, 1) := by decide +kernel
theorem dX3_step_44 : decode cX3_step 44 = .ok (.iastore, 1) := by decide +kernel
theorem dX3_step_45 : decode cX3_step 45 = .ok (.iload_n 2, 1) := by decide +kernel
theorem dX3_step_46 : decode cX3_step 46 = .ok (.aload_n 0, 1) := by decide +kernel
theorem dX3_step_47 : decode cX3_step 47 = .ok (.getfield 15, 3) := by decide +kernel
theorem dX3_step_50 : decode cX3_step 50 = .ok (.iload_n 1, 1) := by decide +kernel
theorem dX3_step_51 : decode cX3_step 51 = .ok (.iaload, 1) := by decide +kernel
theorem dX3_step_52 : decode cX3_step 52 = .ok (.iand, 1) := by decide +kernel
theorem dX3_step_53 : decode cX3_step 53 = .ok (.istore 4, 2) := by decide +kernel
theorem dX3_step_55 : decode cX3_step 55 = .ok (.aload_n 0, 1) := by decide +kernel
theorem dX3_step_56 : decode cX3_step 56 = .ok (.getfield 15, 3) := by decide +kernel
theorem dX3_step_59 : decode cX3_step 59 = .ok (.iload_n 1, 1) := by decide +kernel
theorem dX3_step_60 : decode cX3_step 60 = .ok (.iaload, 1) := by decide +kernel
theorem dX3_step_61 : decode cX3_step 61 = .ok (.iload_n 2, 1) := by decide +kernel
theorem dX3_step_62 : decode cX3_step 62 = .ok (.ixor, 1) := by decide +kernel
theorem dX3_step_63 : decode cX3_step 63 = .ok (.istore 5, 2) := by decide +kernel
theorem dX3_step_65 : decode cX3_step 65 = .ok (.aload_n 0, 1) := by decide +kernel
theorem dX3_step_66 : decode cX3_step 66 = .ok (.getfield 18, 3) := by decide +kernel
theorem dX3_step_69 : decode cX3_step 69 = .ok (.iload_n 1, 1) := by decide +kernel
theorem dX3_step_70 : decode cX3_step 70 = .ok (.iaload, 1) := by decide +kernel
theorem dX3_step_71 : decode cX3_step 71 = .ok (.iload 4, 2) := by decide +kernel
theorem dX3_step_73 : decode cX3_step 73 = .ok (.ixor, 1) := by decide +kernel
theorem dX3_step_74 : decode cX3_step 74 = .ok (.istore 6, 2) := by decide +kernel
theorem dX3_step_76 : decode cX3_step 76 = .ok (.aload_n 0, 1) := by decide +kernel
theorem dX3_step_77 : decode cX3_step 77 = .ok (.getfield 21, 3) := by decide +kernel
theorem dX3_step_80 : decode cX3_step 80 = .ok (.iload_n 1, 1) := by decide +kernel
theorem dX3_step_81 : decode cX3_step 81 = .ok (.iaload, 1) := by decide +kernel
theorem dX3_step_82 : decode cX3_step 82 = .ok (.iload 4, 2) := by decide +kernel
theorem dX3_step_84 : decode cX3_step 84 = .ok (.aload_n 0, 1) := by decide +kernel
theorem dX3_step_85 : decode cX3_step 85 = .ok (.getfield 18, 3) := by decide +kernel
theorem dX3_step_88 : decode cX3_step 88 = .ok (.iload_n 1, 1) := by decide +kernel
theorem dX3_step_89 : decode cX3_step 89 = .ok (.iaload, 1) := by decide +kernel
theorem dX3_step_90 : decode cX3_step 90 = .ok (.iand, 1) := by decide +kernel
theorem dX3_step_91 : decode cX3_step 91 = .ok (.ixor, 1) := by decide +kernel
theorem dX3_step_92 : decode cX3_step 92 = .ok (.istore 7, 2) := by decide +kernel
theorem dX3_step_94 : decode cX3_step 94 = .ok (.iload_n 1, 1) := by decide +kernel
theorem dX3_step_95 : decode cX3_step 95 = .ok (.istore 8, 2) := by decide +kernel
theorem dX3_step_97 : decode cX3_step 97 = .ok (.iload 8, 2) := by decide +kernel
theorem dX3_step_99 : decode cX3_step 99 = .ok (.aload_n 0, 1) := by decide +kernel
theorem dX3_step_100 : decode cX3_step 100 = .ok (.getfield 44, 3) := by decide +kernel
theorem dX3_step_103 : decode cX3_step 103 = .ok (.if_icmp .ge 33, 3) := by decide +kernel
theorem dX3_step_106 : decode cX3_step 106 = .ok (.aload_n 0, 1) := by decide +kernel
theorem dX3_step_107 : decode cX3_step 107 = .ok (.getfield 26, 3) := by decide +kernel
theorem dX3_step_110 : decode cX3_step 110 = .ok (.iload_n 1, 1) := by decide +kernel
theorem dX3_step_111 : decode cX3_step 111 = .ok (.iconst 1, 1) := by decide +kernel
theorem dX3_step_112 : decode cX3_step 112 = .ok (.iadd, 1) := by decide +kernel
theorem dX3_step_113 : decode cX3_step 113 = .ok (.aaload, 1) := by decide +kernel
theorem dX3_step_114 : decode cX3_step 114 = .ok (.iload 8, 2) := by decide +kernel
theorem dX3_step_116 : decode cX3_step 116 = .ok (.aload_n 0, 1) := by decide +kernel
theorem dX3_step_117 : decode cX3_step 117 = .ok (.getfield 26, 3) := by decide +kernel
theorem dX3_step_120 : decode cX3_step 120 = .ok (.iload_n 1, 1) := by decide +kernel
theorem dX3_step_121 : decode cX3_step 121 = .ok (.aaload, 1) := by decide +kernel
theorem dX3_step_122 : decode cX3_step 122 = .ok (.iload 8, 2) := by decide +kernel
theorem dX3_step_124 : decode cX3_step 124 = .ok (.iaload, 1) := by decide +kernel
theorem dX3_step_125 : decode cX3_step 125 = .ok (.iload_n 2, 1) := by decide +kernel
theorem dX3_step_126 : decode cX3_step 126 = .ok (.iconst (-1), 1) := by decide +kernel
theorem dX3_step_127 : decode cX3_step 127 = .ok (.ixor, 1) := by decide +kernel
theorem dX3_step_128 : decode cX3_step 128 = .ok (.iand, 1) := by decide +kernel
theorem dX3_step_129 : decode cX3_step 129 = .ok (.iastore, 1) := by decide +kernel
theorem dX3_step_130 : decode cX3_step 130 = .ok (.iinc 8 1, 3) := by decide +kernel
theorem dX3_step_133 : decode cX3_step 133 = .ok (.goto (-36), 3) := by decide +kernel
theorem dX3_step_136 : decode cX3_step 136 = .ok (.iconst 1, 1) := by decide +kernel
theorem dX3_step_137 : decode cX3_step 137 = .ok (.istore 8, 2) := by decide +kernel
theorem dX3_step_139 : decode cX3_step 139 = .ok (.iload 8, 2) := by decide +kernel
theorem dX3_step_141 : decode cX3_step 141 = .ok (.iload_n 1, 1) := by decide +kernel
theorem dX3_step_142 : decode cX3_step 142 = .ok (.iconst 1, 1) := by decide +kernel
theorem dX3_step_143 : decode cX3_step 143 = .ok (.iadd, 1) := by decide +kernel
theorem dX3_step_144 : decode cX3_step 144 = .ok (.if_icmp .gt 59, 3) := by decide +kernel
theorem dX3_step_147 : decode cX3_step 147 = .ok (.iload_n 1, 1) := by decide +kernel
theorem dX3_step_148 : decode cX3_step 148 = .ok (.aload_n 0, 1) := by decide +kernel
theorem dX3_step_149 : decode cX3_step 149 = .ok (.getfield 9, 3) := by decide +kernel
theorem dX3_step_152 : decode cX3_step 152 = .ok (.iload 8, 2) := by decide +kernel
theorem dX3_step_154 : decode cX3_step 154 = .ok (.iaload, 1) := by decide +kernel
theorem dX3_step_155 : decode cX3_step 155 = .ok (.iadd, 1) := by decide +kernel
theorem dX3_step_156 : decode cX3_step 156 = .ok (.aload_n 0, 1) := by decide +kernel
theorem dX3_step_157 : decode cX3_step 157 = .ok (.getfield 44, 3) := by decide +kernel
theorem dX3_step_160 : decode cX3_step 160 = .ok (.if_icmp .ge 43, 3) := by decide +kernel
theorem dX3_step_163 : decode cX3_step 163 = .ok (.aload_n 0, 1) := by decide +kernel
theorem dX3_step_164 : decode cX3_step 164 = .ok (.getfield 26, 3) := by decide +kernel
theorem dX3_step_167 : decode cX3_step 167 = .ok (.iload_n 1, 1) := by decide +kernel
theorem dX3_step_168 : decode cX3_step 168 = .ok (.iconst 1, 1) := by decide +kernel
theorem dX3_step_169 : decode cX3_step 169 = .ok (.iadd, 1) := by decide +kernel
theorem dX3_step_170 : decode cX3_step 170 = .ok (.aaload, 1) := by decide +kernel
theorem dX3_step_171 : decode cX3_step 171 = .ok (.iload_n 1, 1) := by decide +kernel
theorem dX3_step_172 : decode cX3_step 172 = .ok (.aload_n 0, 1) := by decide +kernel
theorem dX3_step_173 : decode cX3_step 173 = .ok (.getfield 9, 3) := by decide +kernel
theorem dX3_step_176 : decode cX3_step 176 = .ok (.iload 8, 2) := by decide +kernel
theorem dX3_step_178 : decode cX3_step 178 = .ok (.iaload, 1) := by decide +kernel
theorem dX3_step_179 : decode cX3_step 179 = .ok (.iadd, 1) := by decide +kernel
theorem dX3_step_180 : decode cX3_step 180 = .ok (.dup2, 1) := by decide +kernel
theorem dX3_step_181 : decode cX3_step 181 = .ok (.iaload, 1) := by decide +kernel
theorem dX3_step_182 : decode cX3_step 182 = .ok (.iload_n 2, 1) := by decide +kernel
theorem dX3_step_183 : decode cX3_step 183 = .ok (.iload 8, 2) := by decide +kernel
theorem dX3_step_185 : decode cX3_step 185 = .ok (.iload 5, 2) := by decide +kernel
theorem dX3_step_187 : decode cX3_step 187 = .ok (.iload 6, 2) := by decide +kernel
theorem dX3_step_189 : decode cX3_step 189 = .ok (.iload 7, 2) := by decide +kernel
theorem dX3_step_191 : decode cX3_step 191 = .ok (.invokestatic 75, 3) := by decide +kernel
theorem dX3_step_194 : decode cX3_step 194 = .ok (.iand, 1) := by decide +kernel
theorem dX3_step_195 : decode cX3_step 195 = .ok (.ior, 1) := by decide +kernel
theorem dX3_step_196 : decode cX3_step 196 = .ok (.iastore, 1) := by decide +kernel
theorem dX3_step_197 : decode cX3_step 197 = .ok (.iinc 8 1, 3) := by decide +kernel
theorem dX3_step_200 : decode cX3_step 200 = .ok (.goto (-61), 3) := by decide +kernel
theorem dX3_step_203 : decode cX3_step 203 = .ok (.aload_n 0, 1) := by decide +kernel
theorem dX3_step_204 : decode cX3_step 204 = .ok (.getfield 35, 3) := by decide +kernel
theorem dX3_step_207 : decode cX3_step 207 = .ok (.iload_n 1, 1) := by decide +kernel
theorem dX3_step_208 : decode cX3_step 208 = .ok (.aload_n 0, 1) := by decide +kernel
theorem dX3_step_209 : decode cX3_step 209 = .ok (.getfield 26, 3) := by decide +kernel
theorem dX3_step_212 : decode cX3_step 212 = .ok (.iload_n 1, 1) := by decide +kernel
theorem dX3_step_213 : decode cX3_step 213 = .ok (.iconst 1, 1) := by decide +kernel
theorem dX3_step_214 : decode cX3_step 214 = .ok (.iadd, 1) := by decide +kernel
theorem dX3_step_215 : decode cX3_step 215 = .ok (.aaload, 1) := by decide +kernel
theorem dX3_step_216 : decode cX3_step 216 = .ok (.iload_n 1, 1) := by decide +kernel
theorem dX3_step_217 : decode cX3_step 217 = .ok (.iaload, 1) := by decide +kernel
theorem dX3_step_218 : decode cX3_step 218 = .ok (.iastore, 1) := by decide +kernel
theorem dX3_step_219 : decode cX3_step 219 = .ok (.aload_n 0, 1) := by decide +kernel
theorem dX3_step_220 : decode cX3_step 220 = .ok (.getfield 15, 3) := by decide +kernel
theorem dX3_step_223 : decode cX3_step 223 = .ok (.iload_n 1, 1) := by decide +kernel
theorem dX3_step_224 : decode cX3_step 224 = .ok (.iconst 1, 1) := by decide +kernel
theorem dX3_step_225 : decode cX3_step 225 = .ok (.iadd, 1) := by decide +kernel
theorem dX3_step_226 : decode cX3_step 226 = .ok (.iload 5, 2) := by decide +kernel
theorem dX3_step_228 : decode cX3_step 228 = .ok (.aload_n 0, 1) := by decide +kernel
theorem dX3_step_229 : decode cX3_step 229 = .ok (.getfield 35, 3) := by decide +kernel
theorem dX3_step_232 : decode cX3_step 232 = .ok (.iload_n 1, 1) := by decide +kernel
theorem dX3_step_233 : decode cX3_step 233 = .ok (.iaload, 1) := by decide +kernel
theorem dX3_step_234 : decode cX3_step 234 = .ok (.iconst (-1), 1) := by decide +kernel
theorem dX3_step_235 : decode cX3_step 235 = .ok (.ixor, 1) := by decide +kernel
theorem dX3_step_236 : decode cX3_step 236 = .ok (.iand, 1) := by decide +kernel
theorem dX3_step_237 : decode cX3_step 237 = .ok (.iastore, 1) := by decide +kernel
theorem dX3_step_238 : decode cX3_step 238 = .ok (.aload_n 0, 1) := by decide +kernel
theorem dX3_step_239 : decode cX3_step 239 = .ok (.getfield 18, 3) := by decide +kernel
theorem dX3_step_242 : decode cX3_step 242 = .ok (.iload_n 1, 1) := by decide +kernel
theorem dX3_step_243 : decode cX3_step 243 = .ok (.iconst 1, 1) := by decide +kernel
theorem dX3_step_244 : decode cX3_step 244 = .ok (.iadd, 1) := by decide +kernel
theorem dX3_step_245 : decode cX3_step 245 = .ok (.iload 6, 2) := by decide +kernel
theorem dX3_step_247 : decode cX3_step 247 = .ok (.aload_n 0, 1) := by decide +kernel
theorem dX3_step_248 : decode cX3_step 248 = .ok (.getfield 35, 3) := by decide +kernel
theorem dX3_step_251 : decode cX3_step 251 = .ok (.iload_n 1, 1) := by decide +kernel
theorem dX3_step_252 : decode cX3_step 252 = .ok (.iaload, 1) := by decide +kernel
theorem dX3_step_253 : decode cX3_step 253 = .ok (.iconst (-1), 1) := by decide +kernel
theorem dX3_step_254 : decode cX3_step 254 = .ok (.ixor, 1) := by decide +kernel
theorem dX3_step_255 : decode cX3_step 255 = .ok (.iand, 1) := by decide +kernel
theorem dX3_step_256 : decode cX3_step 256 = .ok (.iastore, 1) := by decide +kernel
theorem dX3_step_257 : decode cX3_step 257 = .ok (.aload_n 0, 1) := by decide +kernel
theorem dX3_step_258 : decode cX3_step 258 = .ok (.getfield 21, 3) := by decide +kernel
theorem dX3_step_261 : decode cX3_step 261 = .ok (.iload_n 1, 1) := by decide +kernel
theorem dX3_step_262 : decode cX3_step 262 = .ok (.iconst 1, 1) := by decide +kernel
theorem dX3_step_263 : decode cX3_step 263 = .ok (.iadd, 1) := by decide +kernel
theorem dX3_step_264 : decode cX3_step 264 = .ok (.iload 7, 2) := by decide +kernel
theorem dX3_step_266 : decode cX3_step 266 = .ok (.aload_n 0, 1) := by decide +kernel
theorem dX3_step_267 : decode cX3_step 267 = .ok (.getfield 35, 3) := by decide +kernel
theorem dX3_step_270 : decode cX3_step 270 = .ok (.iload_n 1, 1) := by decide +kernel
theorem dX3_step_271 : decode cX3_step 271 = .ok (.iaload, 1) := by decide +kernel
theorem dX3_step_272 : decode cX3_step 272 = .ok (.iconst (-1), 1) := by decide +kernel
theorem dX3_step_273 : decode cX3_step 273 = .ok (.ixor, 1) := by decide +kernel
theorem dX3_step_274 : decode cX3_step 274 = .ok (.iand, 1) := by decide +kernel
theorem dX3_step_275 : decode cX3_step 275 = .ok (.iastore, 1) := by decide +kernel
theorem dX3_step_276 : decode cX3_step 276 = .ok (.return_, 1) := by decide +kernel
theorem dX3_ofStrength_0 : decode cX3_ofStrength 0 = .ok (.iload_n 0, 1) := by decide +kernel
theorem dX3_ofStrength_1 : decode cX3_ofStrength 1 = .ok (.iconst 1, 1) := by decide +kernel
theorem dX3_ofStrength_2 : decode cX3_ofStrength 2 = .ok (.iand, 1) := by decide +kernel
theorem dX3_ofStrength_3 : decode cX3_ofStrength 3 = .ok (.ifCond .eq 7, 3) := by decide +kernel
theorem dX3_ofStrength_6 : decode cX3_ofStrength 6 = .ok (.iload_n 1, 1) := by decide +kernel
theorem dX3_ofStrength_7 : decode cX3_ofStrength 7 = .ok (.goto 6, 3) := by decide +kernel
theorem dX3_ofStrength_10 : decode cX3_ofStrength 10 = .ok (.iload_n 1, 1) := by decide +kernel
theorem dX3_ofStrength_11 : decode cX3_ofStrength 11 = .ok (.iconst (-1), 1) := by decide +kernel
theorem dX3_ofStrength_12 : decode cX3_ofStrength 12 = .ok (.ixor, 1) := by decide +kernel
theorem dX3_ofStrength_13 : decode cX3_ofStrength 13 = .ok (.iload_n 0, 1) := by decide +kernel
theorem dX3_ofStrength_14 : decode cX3_ofStrength 14 = .ok (.iconst 2, 1) := by decide +kernel
theorem dX3_ofStrength_15 : decode cX3_ofStrength 15 = .ok (.iand, 1) := by decide +kernel
theorem dX3_ofStrength_16 : decode cX3_ofStrength 16 = .ok (.ifCond .eq 7, 3) := by decide +kernel
theorem dX3_ofStrength_19 : decode cX3_ofStrength 19 = .ok (.iload_n 2, 1) := by decide +kernel
theorem dX3_ofStrength_20 : decode cX3_ofStrength 20 = .ok (.goto 6, 3) := by decide +kernel
theorem dX3_ofStrength_23 : decode cX3_ofStrength 23 = .ok (.iload_n 2, 1) := by decide +kernel
theorem dX3_ofStrength_24 : decode cX3_ofStrength 24 = .ok (.iconst (-1), 1) := by decide +kernel
theorem dX3_ofStrength_25 : decode cX3_ofStrength 25 = .ok (.ixor, 1) := by decide +kernel
theorem dX3_ofStrength_26 : decode cX3_ofStrength 26 = .ok (.iand, 1) := by decide +kernel
theorem dX3_ofStrength_27 : decode cX3_ofStrength 27 = .ok (.iload_n 0, 1) := by decide +kernel
theorem dX3_ofStrength_28 : decode cX3_ofStrength 28 = .ok (.iconst 4, 1) := by decide +kernel
theorem dX3_ofStrength_29 : decode cX3_ofStrength 29 = .ok (.iand, 1) := by decide +kernel
theorem dX3_ofStrength_30 : decode cX3_ofStrength 30 = .ok (.ifCond .eq 7, 3) := by decide +kernel
theorem dX3_ofStrength_33 : decode cX3_ofStrength 33 = .ok (.iload_n 3, 1) := by decide +kernel
theorem dX3_ofStrength_34 : decode cX3_ofStrength 34 = .ok (.goto 6, 3) := by decide +kernel
theorem dX3_ofStrength_37 : decode cX3_ofStrength 37 = .ok (.iload_n 3, 1) := by decide +kernel
theorem dX3_ofStrength_38 : decode cX3_ofStrength 38 = .ok (.iconst (-1), 1) := by decide +kernel
theorem dX3_ofStrength_39 : decode cX3_ofStrength 39 = .ok (.ixor, 1) := by decide +kernel
theorem dX3_ofStrength_40 : decode cX3_ofStrength 40 = .ok (.iand, 1) := by decide +kernel
theorem dX3_ofStrength_41 : decode cX3_ofStrength 41 = .ok (.ireturn, 1) := by decide +kernel
theorem dX3_knownAhead_0 : decode cX3_knownAhead 0 = .ok (.iload_n 1, 1) := by decide +kernel
theorem dX3_knownAhead_1 : decode cX3_knownAhead 1 = .ok (.ifCond .lt 9, 3) := by decide +kernel
theorem dX3_knownAhead_4 : decode cX3_knownAhead 4 = .ok (.iload_n 1, 1) := by decide +kernel
theorem dX3_knownAhead_5 : decode cX3_knownAhead 5 = .ok (.bipush 7, 2) := by decide +kernel
theorem dX3_knownAhead_7 : decode cX3_knownAhead 7 = .ok (.if_icmp .le 7, 3) := by decide +kernel
theorem dX3_knownAhead_10 : decode cX3_knownAhead 10 = .ok (.iconst 0, 1) := by decide +kernel
theorem dX3_knownAhead_11 : decode cX3_knownAhead 11 = .ok (.goto 23, 3) := by decide +kernel
theorem dX3_knownAhead_14 : decode cX3_knownAhead 14 = .ok (.aload_n 0, 1) := by decide +kernel
theorem dX3_knownAhead_15 : decode cX3_knownAhead 15 = .ok (.getfield 15, 3) := by decide +kernel
theorem dX3_knownAhead_18 : decode cX3_knownAhead 18 = .ok (.iload_n 1, 1) := by decide +kernel
theorem dX3_knownAhead_19 : decode cX3_knownAhead 19 = .ok (.iaload, 1) := by decide +kernel
theorem dX3_knownAhead_20 : decode cX3_knownAhead 20 = .ok (.aload_n 0, 1) := by decide +kernel
theorem dX3_knownAhead_21 : decode cX3_knownAhead 21 = .ok (.getfield 18, 3) := by decide +kernel
theorem dX3_knownAhead_24 : decode cX3_knownAhead 24 = .ok (.iload_n 1, 1) := by decide +kernel
theorem dX3_knownAhead_25 : decode cX3_knownAhead 25 = .ok (.iaload, 1) := by decide +kernel
theorem dX3_knownAhead_26 : decode cX3_knownAhead 26 = .ok (.ior, 1) := by decide +kernel
theorem dX3_knownAhead_27 : decode cX3_knownAhead 27 = .ok (.aload_n 0, 1) := by decide +kernel
theorem dX3_knownAhead_28 : decode cX3_knownAhead 28 = .ok (.getfield 21, 3) := by decide +kernel
theorem dX3_knownAhead_31 : decode cX3_knownAhead 31 = .ok (.iload_n 1, 1) := by decide +kernel
theorem dX3_knownAhead_32 : decode cX3_knownAhead 32 = .ok (.iaload, 1) := by decide +kernel
theorem dX3_knownAhead_33 : decode cX3_knownAhead 33 = .ok (.ior, 1) := by decide +kernel
theorem dX3_knownAhead_34 : decode cX3_knownAhead 34 = .ok (.ireturn, 1) := by decide +kernel
theorem dX3_strengthBehindAll_0 : decode cX3_strengthBehindAll 0 = .ok (.aload_n 0, 1) := by decide +kernel
theorem dX3_strengthBehindAll_1 : decode cX3_strengthBehindAll 1 = .ok (.getfield 15, 3) := by decide +kernel
theorem dX3_strengthBehindAll_4 : decode cX3_strengthBehindAll 4 = .ok (.aload_n 0, 1) := by decide +kernel
theorem dX3_strengthBehindAll_5 : decode cX3_strengthBehindAll 5 = .ok (.getfield 44, 3) := by decide +kernel
theorem dX3_strengthBehindAll_8 : decode cX3_strengthBehindAll 8 = .ok (.iaload, 1) := by decide +kernel
theorem dX3_strengthBehindAll_9 : decode cX3_strengthBehindAll 9 = .ok (.iload_n 1, 1) := by decide +kernel
theorem dX3_strengthBehindAll_10 : decode cX3_strengthBehindAll 10 = .ok (.ishr, 1) := by decide +kernel
theorem dX3_strengthBehindAll_11 : decode cX3_strengthBehindAll 11 = .ok (.iconst 1, 1) := by decide +kernel
theorem dX3_strengthBehindAll_12 : decode cX3_strengthBehindAll 12 = .ok (.iand, 1) := by decide +kernel
theorem dX3_strengthBehindAll_13 : decode cX3_strengthBehindAll 13 = .ok (.istore_n 2, 1) := by decide +kernel
theorem dX3_strengthBehindAll_14 : decode cX3_strengthBehindAll 14 = .ok (.aload_n 0, 1) := by decide +kernel
theorem dX3_strengthBehindAll_15 : decode cX3_strengthBehindAll 15 = .ok (.getfield 18, 3) := by decide +kernel
theorem dX3_strengthBehindAll_18 : decode cX3_strengthBehindAll 18 = .ok (.aload_n 0, 1) := by decide +kernel
theorem dX3_strengthBehindAll_19 : decode cX3_strengthBehindAll 19 = .ok (.getfield 44, 3) := by decide +kernel
theorem dX3_strengthBehindAll_22 : decode cX3_strengthBehindAll 22 = .ok (.iaload, 1) := by decide +kernel
theorem dX3_strengthBehindAll_23 : decode cX3_strengthBehindAll 23 = .ok (.iload_n 1, 1) := by decide +kernel
theorem dX3_strengthBehindAll_24 : decode cX3_strengthBehindAll 24 = .ok (.ishr, 1) := by decide +kernel
theorem dX3_strengthBehindAll_25 : decode cX3_strengthBehindAll 25 = .ok (.iconst 1, 1) := by decide +kernel
theorem dX3_strengthBehindAll_26 : decode cX3_strengthBehindAll 26 = .ok (.iand, 1) := by decide +kernel
theorem dX3_strengthBehindAll_27 : decode cX3_strengthBehindAll 27 = .ok (.istore_n 3, 1) := by decide +kernel
theorem dX3_strengthBehindAll_28 : decode cX3_strengthBehindAll 28 = .ok (.aload_n 0, 1) := by decide +kernel
theorem dX3_strengthBehindAll_29 : decode cX3_strengthBehindAll 29 = .ok (.getfield 21, 3) := by decide +kernel
theorem dX3_strengthBehindAll_32 : decode cX3_strengthBehindAll 32 = .ok (.aload_n 0, 1) := by decide +kernel
theorem dX3_strengthBehindAll_33 : decode cX3_strengthBehindAll 33 = .ok (.getfield 44, 3) := by decide +kernel
theorem dX3_strengthBehindAll_36 : decode cX3_strengthBehindAll 36 = .ok (.iaload, 1) := by decide +kernel
theorem dX3_strengthBehindAll_37 : decode cX3_strengthBehindAll 37 = .ok (.iload_n 1, 1) := by decide +kernel
theorem dX3_strengthBehindAll_38 : decode cX3_strengthBehindAll 38 = .ok (.ishr, 1) := by decide +kernel
theorem dX3_strengthBehindAll_39 : decode cX3_strengthBehindAll 39 = .ok (.iconst 1, 1) := by decide +kernel
theorem dX3_strengthBehindAll_40 : decode cX3_strengthBehindAll 40 = .ok (.iand, 1) := by decide +kernel
theorem dX3_strengthBehindAll_41 : decode cX3_strengthBehindAll 41 = .ok (.istore 4, 2) := by decide +kernel
theorem dX3_strengthBehindAll_43 : decode cX3_strengthBehindAll 43 = .ok (.iload_n 2, 1) := by decide +kernel
theorem dX3_strengthBehindAll_44 : decode cX3_strengthBehindAll 44 = .ok (.iconst 2, 1) := by decide +kernel
theorem dX3_strengthBehindAll_45 : decode cX3_strengthBehindAll 45 = .ok (.iload_n 3, 1) := by decide +kernel
theorem dX3_strengthBehindAll_46 : decode cX3_strengthBehindAll 46 = .ok (.imul, 1) := by decide +kernel
theorem dX3_strengthBehindAll_47 : decode cX3_strengthBehindAll 47 = .ok (.iadd, 1) := by decide +kernel
theorem dX3_strengthBehindAll_48 : decode cX3_strengthBehindAll 48 = .ok (.iconst 4, 1) := by decide +kernel
theorem dX3_strengthBehindAll_49 : decode cX3_strengthBehindAll 49 = .ok (.iload 4, 2) := by decide +kernel
theorem dX3_strengthBehindAll_51 : decode cX3_strengthBehindAll 51 = .ok (.imul, 1) := by decide +kernel
theorem dX3_strengthBehindAll_52 : decode cX3_strengthBehindAll 52 = .ok (.iadd, 1) := by decide +kernel
theorem dX3_strengthBehindAll_53 : decode cX3_strengthBehindAll 53 = .ok (.ireturn, 1) := by decide +kernel
theorem dX3_keepsWordMetAt_0 : decode cX3_keepsWordMetAt 0 = .ok (.iconst 0, 1) := by decide +kernel
theorem dX3_keepsWordMetAt_1 : decode cX3_keepsWordMetAt 1 = .ok (.istore_n 2, 1) := by decide +kernel
theorem dX3_keepsWordMetAt_2 : decode cX3_keepsWordMetAt 2 = .ok (.iload_n 2, 1) := by decide +kernel
theorem dX3_keepsWordMetAt_3 : decode cX3_keepsWordMetAt 3 = .ok (.aload_n 0, 1) := by decide +kernel
theorem dX3_keepsWordMetAt_4 : decode cX3_keepsWordMetAt 4 = .ok (.getfield 44, 3) := by decide +kernel
theorem dX3_keepsWordMetAt_7 : decode cX3_keepsWordMetAt 7 = .ok (.if_icmp .ge 19, 3) := by decide +kernel
theorem dX3_keepsWordMetAt_10 : decode cX3_keepsWordMetAt 10 = .ok (.aload_n 0, 1) := by decide +kernel
theorem dX3_keepsWordMetAt_11 : decode cX3_keepsWordMetAt 11 = .ok (.iload_n 2, 1) := by decide +kernel
theorem dX3_keepsWordMetAt_12 : decode cX3_keepsWordMetAt 12 = .ok (.iload_n 1, 1) := by decide +kernel
theorem dX3_keepsWordMetAt_13 : decode cX3_keepsWordMetAt 13 = .ok (.iload_n 2, 1) := by decide +kernel
theorem dX3_keepsWordMetAt_14 : decode cX3_keepsWordMetAt 14 = .ok (.ishr, 1) := by decide +kernel
theorem dX3_keepsWordMetAt_15 : decode cX3_keepsWordMetAt 15 = .ok (.iconst 1, 1) := by decide +kernel
theorem dX3_keepsWordMetAt_16 : decode cX3_keepsWordMetAt 16 = .ok (.iand, 1) := by decide +kernel
theorem dX3_keepsWordMetAt_17 : decode cX3_keepsWordMetAt 17 = .ok (.invokevirtual 68, 3) := by decide +kernel
theorem dX3_keepsWordMetAt_20 : decode cX3_keepsWordMetAt 20 = .ok (.iinc 2 1, 3) := by decide +kernel
theorem dX3_keepsWordMetAt_23 : decode cX3_keepsWordMetAt 23 = .ok (.goto (-21), 3) := by decide +kernel
theorem dX3_keepsWordMetAt_26 : decode cX3_keepsWordMetAt 26 = .ok (.aload_n 0, 1) := by decide +kernel
theorem dX3_keepsWordMetAt_27 : decode cX3_keepsWordMetAt 27 = .ok (.aload_n 0, 1) := by decide +kernel
theorem dX3_keepsWordMetAt_28 : decode cX3_keepsWordMetAt 28 = .ok (.getfield 44, 3) := by decide +kernel
theorem dX3_keepsWordMetAt_31 : decode cX3_keepsWordMetAt 31 = .ok (.invokevirtual 72, 3) := by decide +kernel
theorem dX3_keepsWordMetAt_34 : decode cX3_keepsWordMetAt 34 = .ok (.ifCond .eq 7, 3) := by decide +kernel
theorem dX3_keepsWordMetAt_37 : decode cX3_keepsWordMetAt 37 = .ok (.iconst 1, 1) := by decide +kernel
theorem dX3_keepsWordMetAt_38 : decode cX3_keepsWordMetAt 38 = .ok (.goto 4, 3) := by decide +kernel
theorem dX3_keepsWordMetAt_41 : decode cX3_keepsWordMetAt 41 = .ok (.iconst 0, 1) := by decide +kernel
theorem dX3_keepsWordMetAt_42 : decode cX3_keepsWordMetAt 42 = .ok (.ireturn, 1) := by decide +kernel
theorem dX3_peak_0 : decode cX3_peak 0 = .ok (.iconst 0, 1) := by decide +kernel
theorem dX3_peak_1 : decode cX3_peak 1 = .ok (.istore_n 1, 1) := by decide +kernel
theorem dX3_peak_2 : decode cX3_peak 2 = .ok (.iconst 0, 1) := by decide +kernel
theorem dX3_peak_3 : decode cX3_peak 3 = .ok (.istore_n 2, 1) := by decide +kernel
theorem dX3_peak_4 : decode cX3_peak 4 = .ok (.iload_n 2, 1) := by decide +kernel
theorem dX3_peak_5 : decode cX3_peak 5 = .ok (.aload_n 0, 1) := by decide +kernel
theorem dX3_peak_6 : decode cX3_peak 6 = .ok (.getfield 44, 3) := by decide +kernel
theorem dX3_peak_9 : decode cX3_peak 9 = .ok (.if_icmp .ge 23, 3) := by decide +kernel
theorem dX3_peak_12 : decode cX3_peak 12 = .ok (.iload_n 1, 1) := by decide +kernel
theorem dX3_peak_13 : decode cX3_peak 13 = .ok (.aload_n 0, 1) := by decide +kernel
theorem dX3_peak_14 : decode cX3_peak 14 = .ok (.getfield 29, 3) := by decide +kernel
theorem dX3_peak_17 : decode cX3_peak 17 = .ok (.iload_n 2, 1) := by decide +kernel
theorem dX3_peak_18 : decode cX3_peak 18 = .ok (.iaload, 1) := by decide +kernel
theorem dX3_peak_19 : decode cX3_peak 19 = .ok (.invokestatic 79, 3) := by decide +kernel
theorem dX3_peak_22 : decode cX3_peak 22 = .ok (.invokestatic 84, 3) := by decide +kernel
theorem dX3_peak_25 : decode cX3_peak 25 = .ok (.istore_n 1, 1) := by decide +kernel
theorem dX3_peak_26 : decode cX3_peak 26 = .ok (.iinc 2 1, 3) := by decide +kernel
theorem dX3_peak_29 : decode cX3_peak 29 = .ok (.goto (-25), 3) := by decide +kernel
theorem dX3_peak_32 : decode cX3_peak 32 = .ok (.iload_n 1, 1) := by decide +kernel
theorem dX3_peak_33 : decode cX3_peak 33 = .ok (.ireturn, 1) := by decide +kernel
theorem dX3_loss_0 : decode cX3_loss 0 = .ok (.iconst 0, 1) := by decide +kernel
theorem dX3_loss_1 : decode cX3_loss 1 = .ok (.istore_n 1, 1) := by decide +kernel
theorem dX3_loss_2 : decode cX3_loss 2 = .ok (.iconst 0, 1) := by decide +kernel
theorem dX3_loss_3 : decode cX3_loss 3 = .ok (.istore_n 2, 1) := by decide +kernel
theorem dX3_loss_4 : decode cX3_loss 4 = .ok (.iload_n 2, 1) := by decide +kernel
theorem dX3_loss_5 : decode cX3_loss 5 = .ok (.aload_n 0, 1) := by decide +kernel
theorem dX3_loss_6 : decode cX3_loss 6 = .ok (.getfield 44, 3) := by decide +kernel
theorem dX3_loss_9 : decode cX3_loss 9 = .ok (.if_icmp .ge 21, 3) := by decide +kernel
theorem dX3_loss_12 : decode cX3_loss 12 = .ok (.iload_n 1, 1) := by decide +kernel
theorem dX3_loss_13 : decode cX3_loss 13 = .ok (.aload_n 0, 1) := by decide +kernel
theorem dX3_loss_14 : decode cX3_loss 14 = .ok (.getfield 35, 3) := by decide +kernel
theorem dX3_loss_17 : decode cX3_loss 17 = .ok (.iload_n 2, 1) := by decide +kernel
theorem dX3_loss_18 : decode cX3_loss 18 = .ok (.iaload, 1) := by decide +kernel
theorem dX3_loss_19 : decode cX3_loss 19 = .ok (.invokestatic 79, 3) := by decide +kernel
theorem dX3_loss_22 : decode cX3_loss 22 = .ok (.iadd, 1) := by decide +kernel
theorem dX3_loss_23 : decode cX3_loss 23 = .ok (.istore_n 1, 1) := by decide +kernel
theorem dX3_loss_24 : decode cX3_loss 24 = .ok (.iinc 2 1, 3) := by decide +kernel
theorem dX3_loss_27 : decode cX3_loss 27 = .ok (.goto (-23), 3) := by decide +kernel
theorem dX3_loss_30 : decode cX3_loss 30 = .ok (.iload_n 1, 1) := by decide +kernel
theorem dX3_loss_31 : decode cX3_loss 31 = .ok (.ireturn, 1) := by decide +kernel
theorem dX4_init_0 : decode cX4_init 0 = .ok (.aload_n 0, 1) := by decide +kernel
theorem dX4_init_1 : decode cX4_init 1 = .ok (.invokespecial 3, 3) := by decide +kernel
theorem dX4_init_4 : decode cX4_init 4 = .ok (.aload_n 0, 1) := by decide +kernel
theorem dX4_init_5 : decode cX4_init 5 = .ok (.new 9, 3) := by decide +kernel
theorem dX4_init_8 : decode cX4_init 8 = .ok (.dup, 1) := by decide +kernel
theorem dX4_init_9 : decode cX4_init 9 = .ok (.invokespecial 11, 3) := by decide +kernel
theorem dX4_init_12 : decode cX4_init 12 = .ok (.putfield 12, 3) := by decide +kernel
theorem dX4_init_15 : decode cX4_init 15 = .ok (.aload_n 0, 1) := by decide +kernel
theorem dX4_init_16 : decode cX4_init 16 = .ok (.bipush 7, 2) := by decide +kernel
theorem dX4_init_18 : decode cX4_init 18 = .ok (.newarray .int, 2) := by decide +kernel
theorem dX4_init_20 : decode cX4_init 20 = .ok (.putfield 18, 3) := by decide +kernel
theorem dX4_init_23 : decode cX4_init 23 = .ok (.aload_n 0, 1) := by decide +kernel
theorem dX4_init_24 : decode cX4_init 24 = .ok (.bipush 7, 2) := by decide +kernel
theorem dX4_init_26 : decode cX4_init 26 = .ok (.newarray .int, 2) := by decide +kernel
theorem dX4_init_28 : decode cX4_init 28 = .ok (.putfield 22, 3) := by decide +kernel
theorem dX4_init_31 : decode cX4_init 31 = .ok (.aload_n 0, 1) := by decide +kernel
theorem dX4_init_32 : decode cX4_init 32 = .ok (.bipush 7, 2) := by decide +kernel
theorem dX4_init_34 : decode cX4_init 34 = .ok (.newarray .int, 2) := by decide +kernel
theorem dX4_init_36 : decode cX4_init 36 = .ok (.putfield 25, 3) := by decide +kernel
theorem dX4_init_39 : decode cX4_init 39 = .ok (.aload_n 0, 1) := by decide +kernel
theorem dX4_init_40 : decode cX4_init 40 = .ok (.bipush 7, 2) := by decide +kernel
theorem dX4_init_42 : decode cX4_init 42 = .ok (.newarray .int, 2) := by decide +kernel
theorem dX4_init_44 : decode cX4_init 44 = .ok (.putfield 28, 3) := by decide +kernel
theorem dX4_init_47 : decode cX4_init 47 = .ok (.aload_n 0, 1) := by decide +kernel
theorem dX4_init_48 : decode cX4_init 48 = .ok (.bipush 7, 2) := by decide +kernel
theorem dX4_init_50 : decode cX4_init 50 = .ok (.newarray .int, 2) := by decide +kernel
theorem dX4_init_52 : decode cX4_init 52 = .ok (.putfield 31, 3) := by decide +kernel
theorem dX4_init_55 : decode cX4_init 55 = .ok (.aload_n 0, 1) := by decide +kernel
theorem dX4_init_56 : decode cX4_init 56 = .ok (.bipush 7, 2) := by decide +kernel
theorem dX4_init_58 : decode cX4_init 58 = .ok (.newarray .int, 2) := by decide +kernel
theorem dX4_init_60 : decode cX4_init 60 = .ok (.putfield 34, 3) := by decide +kernel
theorem dX4_init_63 : decode cX4_init 63 = .ok (.return_, 1) := by decide +kernel
theorem dX4_prepare_0 : decode cX4_prepare 0 = .ok (.aload_n 0, 1) := by decide +kernel
theorem dX4_prepare_1 : decode cX4_prepare 1 = .ok (.getfield 12, 3) := by decide +kernel
theorem dX4_prepare_4 : decode cX4_prepare 4 = .ok (.aload_n 1, 1) := by decide +kernel
theorem dX4_prepare_5 : decode cX4_prepare 5 = .ok (.invokevirtual 37, 3) := by decide +kernel
theorem dX4_prepare_8 : decode cX4_prepare 8 = .ok (.aload_n 0, 1) := by decide +kernel
theorem dX4_prepare_9 : decode cX4_prepare 9 = .ok (.aload_n 1, 1) := by decide +kernel
theorem dX4_prepare_10 : decode cX4_prepare 10 = .ok (.getfield 41, 3) := by decide +kernel
theorem dX4_prepare_13 : decode cX4_prepare 13 = .ok (.putfield 47, 3) := by decide +kernel
theorem dX4_prepare_16 : decode cX4_prepare 16 = .ok (.iconst 0, 1) := by decide +kernel
theorem dX4_prepare_17 : decode cX4_prepare 17 = .ok (.istore_n 2, 1) := by decide +kernel
theorem dX4_prepare_18 : decode cX4_prepare 18 = .ok (.iload_n 2, 1) := by decide +kernel
theorem dX4_prepare_19 : decode cX4_prepare 19 = .ok (.aload_n 0, 1) := by decide +kernel
theorem dX4_prepare_20 : decode cX4_prepare 20 = .ok (.getfield 47, 3) := by decide +kernel
theorem dX4_prepare_23 : decode cX4_prepare 23 = .ok (.if_icmp .ge 31, 3) := by decide +kernel
theorem dX4_prepare_26 : decode cX4_prepare 26 = .ok (.aload_n 0, 1) := by decide +kernel
theorem dX4_prepare_27 : decode cX4_prepare 27 = .ok (.getfield 18, 3) := by decide +kernel
theorem dX4_prepare_30 : decode cX4_prepare 30 = .ok (.iload_n 2, 1) := by decide +kernel
theorem dX4_prepare_31 : decode cX4_prepare 31 = .ok (.aload_n 1, 1) := by decide +kernel
theorem dX4_prepare_32 : decode cX4_prepare 32 = .ok (.iload_n 2, 1) := by decide +kernel
theorem dX4_prepare_33 : decode cX4_prepare 33 = .ok (.invokevirtual 48, 3) := by decide +kernel
theorem dX4_prepare_36 : decode cX4_prepare 36 = .ok (.iastore, 1) := by decide +kernel
theorem dX4_prepare_37 : decode cX4_prepare 37 = .ok (.aload_n 0, 1) := by decide +kernel
theorem dX4_prepare_38 : decode cX4_prepare 38 = .ok (.getfield 22, 3) := by decide +kernel
theorem dX4_prepare_41 : decode cX4_prepare 41 = .ok (.iload_n 2, 1) := by decide +kernel
theorem dX4_prepare_42 : decode cX4_prepare 42 = .ok (.aload_n 1, 1) := by decide +kernel
theorem dX4_prepare_43 : decode cX4_prepare 43 = .ok (.iload_n 2, 1) := by decide +kernel
theorem dX4_prepare_44 : decode cX4_prepare 44 = .ok (.invokevirtual 52, 3) := by decide +kernel
theorem dX4_prepare_47 : decode cX4_prepare 47 = .ok (.iastore, 1) := by decide +kernel
theorem dX4_prepare_48 : decode cX4_prepare 48 = .ok (.iinc 2 1, 3) := by decide +kernel
theorem dX4_prepare_51 : decode cX4_prepare 51 = .ok (.goto (-33), 3) := by decide +kernel
theorem dX4_prepare_54 : decode cX4_prepare 54 = .ok (.aload_n 0, 1) := by decide +kernel
theorem dX4_prepare_55 : decode cX4_prepare 55 = .ok (.bipush 20, 2) := by decide +kernel
theorem dX4_prepare_57 : decode cX4_prepare 57 = .ok (.invokevirtual 54, 3) := by decide +kernel
theorem dX4_prepare_60 : decode cX4_prepare 60 = .ok (.aload_n 0, 1) := by decide +kernel
theorem dX4_prepare_61 : decode cX4_prepare 61 = .ok (.iconst 0, 1) := by decide +kernel
theorem dX4_prepare_62 : decode cX4_prepare 62 = .ok (.putfield 58, 3) := by decide +kernel
theorem dX4_prepare_65 : decode cX4_prepare 65 = .ok (.aload_n 0, 1) := by decide +kernel
theorem dX4_prepare_66 : decode cX4_prepare 66 = .ok (.sipush 5040, 3) := by decide +kernel
theorem dX4_prepare_69 : decode cX4_prepare 69 = .ok (.putfield 62, 3) := by decide +kernel
theorem dX4_prepare_72 : decode cX4_prepare 72 = .ok (.aload_n 0, 1) := by decide +kernel
theorem dX4_prepare_73 : decode cX4_prepare 73 = .ok (.iconst 0, 1) := by decide +kernel
theorem dX4_prepare_74 : decode cX4_prepare 74 = .ok (.putfield 65, 3) := by decide +kernel
theorem dX4_prepare_77 : decode cX4_prepare 77 = .ok (.aload_n 0, 1) := by decide +kernel
theorem dX4_prepare_78 : decode cX4_prepare 78 = .ok (.iconst 0, 1) := by decide +kernel
theorem dX4_prepare_79 : decode cX4_prepare 79 = .ok (.putfield 68, 3) := by decide +kernel
theorem dX4_prepare_82 : decode cX4_prepare 82 = .ok (.aload_n 0, 1) := by decide +kernel
theorem dX4_prepare_83 : decode cX4_prepare 83 = .ok (.iconst 0, 1) := by decide +kernel
theorem dX4_prepare_84 : decode cX4_prepare 84 = .ok (.putfield 71, 3) := by decide +kernel
theorem dX4_prepare_87 : decode cX4_prepare 87 = .ok (.return_, 1) := by decide +kernel
theorem dX4_forgetLeaders_0 : decode cX4_forgetLeaders 0 = .ok (.iconst 0, 1) := by decide +kernel
theorem dX4_forgetLeaders_1 : decode cX4_forgetLeaders 1 = .ok (.istore_n 1, 1) := by decide +kernel
theorem dX4_forgetLeaders_2 : decode cX4_forgetLeaders 2 = .ok (.iload_n 1, 1) := by decide +kernel
theorem dX4_forgetLeaders_3 : decode cX4_forgetLeaders 3 = .ok (.aload_n 0, 1) := by decide +kernel
theorem dX4_forgetLeaders_4 : decode cX4_forgetLeaders 4 = .ok (.getfield 47, 3) := by decide +kernel
theorem dX4_forgetLeaders_7 : decode cX4_forgetLeaders 7 = .ok (.if_icmp .ge 16, 3) := by decide +kernel
theorem dX4_forgetLeaders_10 : decode cX4_forgetLeaders 10 = .ok (.aload_n 0, 1) := by decide +kernel
theorem dX4_forgetLeaders_11 : decode cX4_forgetLeaders 11 = .ok (.getfield 22, 3) := by decide +kernel
theorem dX4_forgetLeaders_14 : decode cX4_forgetLeaders 14 = .ok (.iload_n 1, 1) := by decide +kernel
theorem dX4_forgetLeaders_15 : decode cX4_forgetLeaders 15 = .ok (.iconst 0, 1) := by decide +kernel
theorem dX4_forgetLeaders_16 : decode cX4_forgetLeaders 16 = .ok (.iastore, 1) := by decide +kernel
theorem dX4_forgetLeaders_17 : decode cX4_forgetLeaders 17 = .ok (.iinc 1 1, 3) := by decide +kernel
theorem dX4_forgetLeaders_20 : decode cX4_forgetLeaders 20 = .ok (.goto (-18), 3) := by decide +kernel
theorem dX4_forgetLeaders_23 : decode cX4_forgetLeaders 23 = .ok (.return_, 1) := by decide +kernel
theorem dX4_limitFresh_0 : decode cX4_limitFresh 0 = .ok (.iconst 0, 1) := by decide +kernel
theorem dX4_limitFresh_1 : decode cX4_limitFresh 1 = .ok (.istore_n 2, 1) := by decide +kernel
theorem dX4_limitFresh_2 : decode cX4_limitFresh 2 = .ok (.iload_n 2, 1) := by decide +kernel
theorem dX4_limitFresh_3 : decode cX4_limitFresh 3 = .ok (.aload_n 0, 1) := by decide +kernel
theorem dX4_limitFresh_4 : decode cX4_limitFresh 4 = .ok (.getfield 47, 3) := by decide +kernel
theorem dX4_limitFresh_7 : decode cX4_limitFresh 7 = .ok (.if_icmp .ge 23, 3) := by decide +kernel
theorem dX4_limitFresh_10 : decode cX4_limitFresh 10 = .ok (.aload_n 0, 1) := by decide +kernel
theorem dX4_limitFresh_11 : decode cX4_limitFresh 11 = .ok (.getfield 25, 3) := by decide +kernel
theorem dX4_limitFresh_14 : decode cX4_limitFresh 14 = .ok (.iload_n 2, 1) := by decide +kernel
theorem dX4_limitFresh_15 : decode cX4_limitFresh 15 = .ok (.iconst 0, 1) := by decide +kernel
theorem dX4_limitFresh_16 : decode cX4_limitFresh 16 = .ok (.iastore, 1) := by decide +kernel
theorem dX4_limitFresh_17 : decode cX4_limitFresh 17 = .ok (.aload_n 0, 1) := by decide +kernel
theorem dX4_limitFresh_18 : decode cX4_limitFresh 18 = .ok (.getfield 28, 3) := by decide +kernel
theorem dX4_limitFresh_21 : decode cX4_limitFresh 21 = .ok (.iload_n 2, 1) := by decide +kernel
theorem dX4_limitFresh_22 : decode cX4_limitFresh 22 = .ok (.iload_n 1, 1) := by decide +kernel
theorem dX4_limitFresh_23 : decode cX4_limitFresh 23 = .ok (.iastore, 1) := by decide +kernel
theorem dX4_limitFresh_24 : decode cX4_limitFresh 24 = .ok (.iinc 2 1, 3) := by decide +kernel
theorem dX4_limitFresh_27 : decode cX4_limitFresh 27 = .ok (.goto (-25), 3) := by decide +kernel
theorem dX4_limitFresh_30 : decode cX4_limitFresh 30 = .ok (.return_, 1) := by decide +kernel
theorem dX4_wantFresh_0 : decode cX4_wantFresh 0 = .ok (.iload_n 1, 1) := by decide +kernel
theorem dX4_wantFresh_1 : decode cX4_wantFresh 1 = .ok (.ifCond .lt 23, 3) := by decide +kernel
theorem dX4_wantFresh_4 : decode cX4_wantFresh 4 = .ok (.iload_n 1, 1) := by decide +kernel
theorem dX4_wantFresh_5 : decode cX4_wantFresh 5 = .ok (.bipush 7, 2) := by decide +kernel
theorem dX4_wantFresh_7 : decode cX4_wantFresh 7 = .ok (.if_icmp .ge 17, 3) := by decide +kernel
theorem dX4_wantFresh_10 : decode cX4_wantFresh 10 = .ok (.aload_n 0, 1) := by decide +kernel
theorem dX4_wantFresh_11 : decode cX4_wantFresh 11 = .ok (.getfield 25, 3) := by decide +kernel
theorem dX4_wantFresh_14 : decode cX4_wantFresh 14 = .ok (.iload_n 1, 1) := by decide +kernel
theorem dX4_wantFresh_15 : decode cX4_wantFresh 15 = .ok (.iload_n 2, 1) := by decide +kernel
theorem dX4_wantFresh_16 : decode cX4_wantFresh 16 = .ok (.iastore, 1) := by decide +kernel
theorem dX4_wantFresh_17 : decode cX4_wantFresh 17 = .ok (.aload_n 0, 1) := by decide +kernel
theorem dX4_wantFresh_18 : decode cX4_wantFresh 18 = .ok (.getfield 28, 3) := by decide +kernel
theorem dX4_wantFresh_21 : decode cX4_wantFresh 21 = .ok (.iload_n 1, 1) := by decide +kernel
theorem dX4_wantFresh_22 : decode cX4_wantFresh 22 = .ok (.iload_n 2, 1) := by decide +kernel
theorem dX4_wantFresh_23 : decode cX4_wantFresh 23 = .ok (.iastore, 1) := by decide +kernel
theorem dX4_wantFresh_24 : decode cX4_wantFresh 24 = .ok (.return_, 1) := by decide +kernel
theorem dX4_seek_0 : decode cX4_seek 0 = .ok (.aload_n 0, 1) := by decide +kernel
theorem dX4_seek_1 : decode cX4_seek 1 = .ok (.iconst 0, 1) := by decide +kernel
theorem dX4_seek_2 : decode cX4_seek 2 = .ok (.iconst 1, 1) := by decide +kernel
theorem dX4_seek_3 : decode cX4_seek 3 = .ok (.aload_n 0, 1) := by decide +kernel
theorem dX4_seek_4 : decode cX4_seek 4 = .ok (.getfield 47, 3) := by decide +kernel
theorem dX4_seek_7 : decode cX4_seek 7 = .ok (.ishl, 1) := by decide +kernel
theorem dX4_seek_8 : decode cX4_seek 8 = .ok (.iconst 1, 1) := by decide +kernel
theorem dX4_seek_9 : decode cX4_seek 9 = .ok (.isub, 1) := by decide +kernel
theorem dX4_seek_10 : decode cX4_seek 10 = .ok (.iconst 0, 1) := by decide +kernel
theorem dX4_seek_11 : decode cX4_seek 11 = .ok (.iconst 0, 1) := by decide +kernel
theorem dX4_seek_12 : decode cX4_seek 12 = .ok (.invokestatic 74, 3) := by decide +kernel
theorem dX4_seek_15 : decode cX4_seek 15 = .ok (.return_, 1) := by decide +kernel
theorem dX4_seekLeast_0 : decode cX4_seekLeast 0 = .ok (.aload_n 0, 1) := by decide +kernel
theorem dX4_seekLeast_1 : decode cX4_seekLeast 1 = .ok (.iconst 1, 1) := by decide +kernel
theorem dX4_seekLeast_2 : decode cX4_seekLeast 2 = .ok (.putfield 58, 3) := by decide +kernel
theorem dX4_seekLeast_5 : decode cX4_seekLeast 5 = .ok (.aload_n 0, 1) := by decide +kernel
theorem dX4_seekLeast_6 : decode cX4_seekLeast 6 = .ok (.invokevirtual 78, 3) := by decide +kernel
theorem dX4_seekLeast_9 : decode cX4_seekLeast 9 = .ok (.return_, 1) := by decide +kernel
theorem dX4_goThrough_0 : decode cX4_goThrough 0 = .ok (.iload_n 1, 1) := by decide +kernel
theorem dX4_goThrough_1 : decode cX4_goThrough 1 = .ok (.aload_n 0, 1) := by decide +kernel
theorem dX4_goThrough_2 : decode cX4_goThrough 2 = .ok (.getfield 47, 3) := by decide +kernel
theorem dX4_goThrough_5 : decode cX4_goThrough 5 = .ok (.if_icmp .ge 9, 3) := by decide +kernel
theorem dX4_goThrough_8 : decode cX4_goThrough 8 = .ok (.iload_n 1, 1) := by decide +kernel
theorem dX4_goThrough_9 : decode cX4_goThrough 9 = .ok (.bipush 7, 2) := by decide +kernel
theorem dX4_goThrough_11 : decode cX4_goThrough 11 = .ok (.if_icmp .lt 11, 3) := by decide +kernel
theorem dX4_goThrough_14 : decode cX4_goThrough 14 = .ok (.aload_n 0, 1) := by decide +kernel
theorem dX4_goThrough_15 : decode cX4_goThrough 15 = .ok (.iload_n 3, 1) := by decide +kernel
theorem dX4_goThrough_16 : decode cX4_goThrough 16 = .ok (.iload 4, 2) := by decide +kernel
theorem dX4_goThrough_18 : decode cX4_goThrough 18 = .ok (.invokevirtual 81, 3) := by decide +kernel
theorem dX4_goThrough_21 : decode cX4_goThrough 21 = .ok (.return_, 1) := by decide +kernel
theorem dX4_goThrough_22 : decode cX4_goThrough 22 = .ok (.iconst 0, 1) := by decide +kernel
theorem dX4_goThrough_23 : decode cX4_goThrough 23 = .ok (.istore 5, 2) := by decide +kernel
theorem dX4_goThrough_25 : decode cX4_goThrough 25 = .ok (.iload 5, 2) := by decide +kernel
theorem dX4_goThrough_27 : decode cX4_goThrough 27 = .ok (.aload_n 0, 1) := by decide +kernel
theorem dX4_goThrough_28 : decode cX4_goThrough 28 = .ok (.getfield 47, 3) := by decide +kernel
theorem dX4_goThrough_31 : decode cX4_goThrough 31 = .ok (.if_icmp .ge 147, 3) := by decide +kernel
theorem dX4_goThrough_34 : decode cX4_goThrough 34 = .ok (.aload_n 0, 1) := by decide +kernel
theorem dX4_goThrough_35 : decode cX4_goThrough 35 = .ok (.getfield 65, 3) := by decide +kernel
theorem dX4_goThrough_38 : decode cX4_goThrough 38 = .ok (.aload_n 0, 1) := by decide +kernel
theorem dX4_goThrough_39 : decode cX4_goThrough 39 = .ok (.getfield 62, 3) := by decide +kernel
theorem dX4_goThrough_42 : decode cX4_goThrough 42 = .ok (.if_icmp .gt 136, 3) := by decide +kernel
theorem dX4_goThrough_45 : decode cX4_goThrough 45 = .ok (.aload_n 0, 1) := by decide +kernel
theorem dX4_goThrough_46 : decode cX4_goThrough 46 = .ok (.iload 5, 2) := by decide +kernel
theorem dX4_goThrough_48 : decode cX4_goThrough 48 = .ok (.iload_n 2, 1) := by decide +kernel
theorem dX4_goThrough_49 : decode cX4_goThrough 49 = .ok (.invokevirtual 85, 3) := by decide +kernel
theorem dX4_goThrough_52 : decode cX4_goThrough 52 = .ok (.ifCond .ne 6, 3) := by decide +kernel
theorem dX4_goThrough_55 : decode cX4_goThrough 55 = .ok (.goto 117, 3) := by decide +kernel
theorem dX4_goThrough_58 : decode cX4_goThrough 58 = .ok (.aload_n 0, 1) := by decide +kernel
theorem dX4_goThrough_59 : decode cX4_goThrough 59 = .ok (.getfield 12, 3) := by decide +kernel
theorem dX4_goThrough_62 : decode cX4_goThrough 62 = .ok (.iload_n 1, 1) := by decide +kernel
theorem dX4_goThrough_63 : decode cX4_goThrough 63 = .ok (.aload_n 0, 1) := by decide +kernel
theorem dX4_goThrough_64 : decode cX4_goThrough 64 = .ok (.getfield 18, 3) := by decide +kernel
theorem dX4_goThrough_67 : decode cX4_goThrough 67 = .ok (.iload 5, 2) := by decide +kernel
theorem dX4_goThrough_69 : decode cX4_goThrough 69 = .ok (.iaload, 1) := by decide +kernel
theorem dX4_goThrough_70 : decode cX4_goThrough 70 = .ok (.invokevirtual 89, 3) := by decide +kernel
theorem dX4_goThrough_73 : decode cX4_goThrough 73 = .ok (.aload_n 0, 1) := by decide +kernel
theorem dX4_goThrough_74 : decode cX4_goThrough 74 = .ok (.getfield 12, 3) := by decide +kernel
theorem dX4_goThrough_77 : decode cX4_goThrough 77 = .ok (.getfield 92, 3) := by decide +kernel
theorem dX4_goThrough_80 : decode cX4_goThrough 80 = .ok (.iload_n 1, 1) := by decide +kernel
theorem dX4_goThrough_81 : decode cX4_goThrough 81 = .ok (.iaload, 1) := by decide +kernel
theorem dX4_goThrough_82 : decode cX4_goThrough 82 = .ok (.invokestatic 95, 3) := by decide +kernel
theorem dX4_goThrough_85 : decode cX4_goThrough 85 = .ok (.istore 6, 2) := by decide +kernel
theorem dX4_goThrough_87 : decode cX4_goThrough 87 = .ok (.iload_n 3, 1) := by decide +kernel
theorem dX4_goThrough_88 : decode cX4_goThrough 88 = .ok (.iload 6, 2) := by decide +kernel
theorem dX4_goThrough_90 : decode cX4_goThrough 90 = .ok (.invokestatic 100, 3) := by decide +kernel
theorem dX4_goThrough_93 : decode cX4_goThrough 93 = .ok (.istore 7, 2) := by decide +kernel
theorem dX4_goThrough_95 : decode cX4_goThrough 95 = .ok (.iload 4, 2) := by decide +kernel
theorem dX4_goThrough_97 : decode cX4_goThrough 97 = .ok (.aload_n 0, 1) := by decide +kernel
theorem dX4_goThrough_98 : decode cX4_goThrough 98 = .ok (.getfield 12, 3) := by decide +kernel
theorem dX4_goThrough_101 : decode cX4_goThrough 101 = .ok (.getfield 106, 3) := by decide +kernel
theorem dX4_goThrough_104 : decode cX4_goThrough 104 = .ok (.iload_n 1, 1) := by decide +kernel
theorem dX4_goThrough_105 : decode cX4_goThrough 105 = .ok (.iaload, 1) := by decide +kernel
theorem dX4_goThrough_106 : decode cX4_goThrough 106 = .ok (.invokestatic 95, 3) := by decide +kernel
theorem dX4_goThrough_109 : decode cX4_goThrough 109 = .ok (.iadd, 1) := by decide +kernel
theorem dX4_goThrough_110 : decode cX4_goThrough 110 = .ok (.istore 8, 2) := by decide +kernel
theorem dX4_goThrough_112 : decode cX4_goThrough 112 = .ok (.iload 6, 2) := by decide +kernel
theorem dX4_goThrough_114 : decode cX4_goThrough 114 = .ok (.aload_n 0, 1) := by decide +kernel
theorem dX4_goThrough_115 : decode cX4_goThrough 115 = .ok (.getfield 25, 3) := by decide +kernel
theorem dX4_goThrough_118 : decode cX4_goThrough 118 = .ok (.iload_n 1, 1) := by decide +kernel
theorem dX4_goThrough_119 : decode cX4_goThrough 119 = .ok (.iaload, 1) := by decide +kernel
theorem dX4_goThrough_120 : decode cX4_goThrough 120 = .ok (.if_icmp .lt 52, 3) := by decide +kernel
theorem dX4_goThrough_123 : decode cX4_goThrough 123 = .ok (.iload 6, 2) := by decide +kernel
theorem dX4_goThrough_125 : decode cX4_goThrough 125 = .ok (.aload_n 0, 1) := by decide +kernel
theorem dX4_goThrough_126 : decode cX4_goThrough 126 = .ok (.getfield 28, 3) := by decide +kernel
theorem dX4_goThrough_129 : decode cX4_goThrough 129 = .ok (.iload_n 1, 1) := by decide +kernel
theorem dX4_goThrough_130 : decode cX4_goThrough 130 = .ok (.iaload, 1) := by decide +kernel
theorem dX4_goThrough_131 : decode cX4_goThrough 131 = .ok (.if_icmp .gt 41, 3) := by decide +kernel
theorem dX4_goThrough_134 : decode cX4_goThrough 134 = .ok (.aload_n 0, 1) := by decide +kernel
theorem dX4_goThrough_135 : decode cX4_goThrough 135 = .ok (.iload 7, 2) := by decide +kernel
theorem dX4_goThrough_137 : decode cX4_goThrough 137 = .ok (.iload 8, 2) := by decide +kernel
theorem dX4_goThrough_139 : decode cX4_goThrough 139 = .ok (.invokevirtual 109, 3) := by decide +kernel
theorem dX4_goThrough_142 : decode cX4_goThrough 142 = .ok (.ifCond .eq 30, 3) := by decide +kernel
theorem dX4_goThrough_145 : decode cX4_goThrough 145 = .ok (.aload_n 0, 1) := by decide +kernel
theorem dX4_goThrough_146 : decode cX4_goThrough 146 = .ok (.getfield 31, 3) := by decide +kernel
theorem dX4_goThrough_149 : decode cX4_goThrough 149 = .ok (.iload_n 1, 1) := by decide +kernel
theorem dX4_goThrough_150 : decode cX4_goThrough 150 = .ok (.iload 5, 2) := by decide +kernel
theorem dX4_goThrough_152 : decode cX4_goThrough 152 = .ok (.iastore, 1) := by decide +kernel
theorem dX4_goThrough_153 : decode cX4_goThrough 153 = .ok (.aload_n 0, 1) := by decide +kernel
theorem dX4_goThrough_154 : decode cX4_goThrough 154 = .ok (.iload_n 1, 1) := by decide +kernel
theorem dX4_goThrough_155 : decode cX4_goThrough 155 = .ok (.iconst 1, 1) := by decide +kernel
theorem dX4_goThrough_156 : decode cX4_goThrough 156 = .ok (.iadd, 1) := by decide +kernel
theorem dX4_goThrough_157 : decode cX4_goThrough 157 = .ok (.iload_n 2, 1) := by decide +kernel
theorem dX4_goThrough_158 : decode cX4_goThrough 158 = .ok (.iconst 1, 1) := by decide +kernel
theorem dX4_goThrough_159 : decode cX4_goThrough 159 = .ok (.iload 5, 2) := by decide +kernel
theorem dX4_goThrough_161 : decode cX4_goThrough 161 = .ok (.ishl, 1) := by decide +kernel
theorem dX4_goThrough_162 : decode cX4_goThrough 162 = .ok (.iconst (-1), 1) := by decide +kernel
theorem dX4_goThrough_163 : decode cX4_goThrough 163 = .ok (.ixor, 1) := by decide +kernel
theorem dX4_goThrough_164 : decode cX4_goThrough 164 = .ok (.iand, 1) := by decide +kernel
theorem dX4_goThrough_165 : decode cX4_goThrough 165 = .ok (.iload 7, 2) := by decide +kernel
theorem dX4_goThrough_167 : decode cX4_goThrough 167 = .ok (.iload 8, 2) := by decide +kernel
theorem dX4_goThrough_169 : decode cX4_goThrough 169 = .ok (.invokestatic 74, 3) := by decide +kernel
theorem dX4_goThrough_172 : decode cX4_goThrough 172 = .ok (.iinc 5 1, 3) := by decide +kernel
theorem dX4_goThrough_175 : decode cX4_goThrough 175 = .ok (.goto (-150), 3) := by decide +kernel
theorem dX4_goThrough_178 : decode cX4_goThrough 178 = .ok (.return_, 1) := by decide +kernel
theorem dX4_mayCome_0 : decode cX4_mayCome 0 = .ok (.iload_n 2, 1) := by decide +kernel
theorem dX4_mayCome_1 : decode cX4_mayCome 1 = .ok (.iload_n 1, 1) := by decide +kernel
theorem dX4_mayCome_2 : decode cX4_mayCome 2 = .ok (.invokestatic 112, 3) := by decide +kernel
theorem dX4_mayCome_5 : decode cX4_mayCome 5 = .ok (.ifCond .eq 18, 3) := by decide +kernel
theorem dX4_mayCome_8 : decode cX4_mayCome 8 = .ok (.aload_n 0, 1) := by decide +kernel
theorem dX4_mayCome_9 : decode cX4_mayCome 9 = .ok (.getfield 22, 3) := by decide +kernel
theorem dX4_mayCome_12 : decode cX4_mayCome 12 = .ok (.iload_n 1, 1) := by decide +kernel
theorem dX4_mayCome_13 : decode cX4_mayCome 13 = .ok (.iaload, 1) := by decide +kernel
theorem dX4_mayCome_14 : decode cX4_mayCome 14 = .ok (.iload_n 2, 1) := by decide +kernel
theorem dX4_mayCome_15 : decode cX4_mayCome 15 = .ok (.iand, 1) := by decide +kernel
theorem dX4_mayCome_16 : decode cX4_mayCome 16 = .ok (.ifCond .ne 7, 3) := by decide +kernel
theorem dX4_mayCome_19 : decode cX4_mayCome 19 = .ok (.iconst 1, 1) := by decide +kernel
theorem dX4_mayCome_20 : decode cX4_mayCome 20 = .ok (.goto 4, 3) := by decide +kernel
theorem dX4_mayCome_23 : decode cX4_mayCome 23 = .ok (.iconst 0, 1) := by decide +kernel
theorem dX4_mayCome_24 : decode cX4_mayCome 24 = .ok (.ireturn, 1) := by decide +kernel
theorem dX4_isWanted_0 : decode cX4_isWanted 0 = .ok (.aload_n 0, 1) := by decide +kernel
theorem dX4_isWanted_1 : decode cX4_isWanted 1 = .ok (.getfield 58, 3) := by decide +kernel
theorem dX4_isWanted_4 : decode cX4_isWanted 4 = .ok (.ifCond .eq 34, 3) := by decide +kernel
theorem dX4_isWanted_7 : decode cX4_isWanted 7 = .ok (.aload_n 0, 1) := by decide +kernel
theorem dX4_isWanted_8 : decode cX4_isWanted 8 = .ok (.getfield 65, 3) := by decide +kernel
theorem dX4_isWanted_11 : decode cX4_isWanted 11 = .ok (.ifCond .eq 27, 3) := by decide +kernel
theorem dX4_isWanted_14 : decode cX4_isWanted 14 = .ok (.iload_n 1, 1) := by decide +kernel
theorem dX4_isWanted_15 : decode cX4_isWanted 15 = .ok (.aload_n 0, 1) := by decide +kernel
theorem dX4_isWanted_16 : decode cX4_isWanted 16 = .ok (.getfield 68, 3) := by decide +kernel
theorem dX4_isWanted_19 : decode cX4_isWanted 19 = .ok (.if_icmp .lt 19, 3) := by decide +kernel
theorem dX4_isWanted_22 : decode cX4_isWanted 22 = .ok (.iload_n 1, 1) := by decide +kernel
theorem dX4_isWanted_23 : decode cX4_isWanted 23 = .ok (.aload_n 0, 1) := by decide +kernel
theorem dX4_isWanted_24 : decode cX4_isWanted 24 = .ok (.getfield 68, 3) := by decide +kernel
theorem dX4_isWanted_27 : decode cX4_isWanted 27 = .ok (.if_icmp .ne 15, 3) := by decide +kernel
theorem dX4_isWanted_30 : decode cX4_isWanted 30 = .ok (.iload_n 2, 1) := by decide +kernel
theorem dX4_isWanted_31 : decode cX4_isWanted 31 = .ok (.aload_n 0, 1) := by decide +kernel
theorem dX4_isWanted_32 : decode cX4_isWanted 32 = .ok (.getfield 71, 3) := by decide +kernel
theorem dX4_isWanted_35 : decode cX4_isWanted 35 = .ok (.if_icmp .ge 7, 3) := by decide +kernel
theorem dX4_isWanted_38 : decode cX4_isWanted 38 = .ok (.iconst 1, 1) := by decide +kernel
theorem dX4_isWanted_39 : decode cX4_isWanted 39 = .ok (.goto 4, 3) := by decide +kernel
theorem dX4_isWanted_42 : decode cX4_isWanted 42 = .ok (.iconst 0, 1) := by decide +kernel
theorem dX4_isWanted_43 : decode cX4_isWanted 43 = .ok (.ireturn, 1) := by decide +kernel
theorem dX4_keepFound_0 : decode cX4_keepFound 0 = .ok (.aload_n 0, 1) := by decide +kernel
theorem dX4_keepFound_1 : decode cX4_keepFound 1 = .ok (.dup, 1) := by decide +kernel
theorem dX4_keepFound_2 : decode cX4_keepFound 2 = .ok (.getfield 65, 3) := by decide +kernel
theorem dX4_keepFound_5 : decode cX4_keepFound 5 = .ok (.iconst 1, 1) := by decide +kernel
theorem dX4_keepFound_6 : decode cX4_keepFound 6 = .ok (.iadd, 1) := by decide +kernel
end
section
theorem dX4_keepFound_7 : decode cX4_keepFound 7 = .ok (.putfield 65, 3) := by decide +kernel
theorem dX4_keepFound_10 : decode cX4_keepFound 10 = .ok (.aload_n 0, 1) := by decide +kernel
theorem dX4_keepFound_11 : decode cX4_keepFound 11 = .ok (.iload_n 1, 1) := by decide +kernel
theorem dX4_keepFound_12 : decode cX4_keepFound 12 = .ok (.putfield 68, 3) := by decide +kernel
theorem dX4_keepFound_15 : decode cX4_keepFound 15 = .ok (.aload_n 0, 1) := by decide +kernel
theorem dX4_keepFound_16 : decode cX4_keepFound 16 = .ok (.iload_n 2, 1) := by decide +kernel
theorem dX4_keepFound_17 : decode cX4_keepFound 17 = .ok (.putfield 71, 3) := by decide +kernel
theorem dX4_keepFound_20 : decode cX4_keepFound 20 = .ok (.aload_n 0, 1) := by decide +kernel
theorem dX4_keepFound_21 : decode cX4_keepFound 21 = .ok (.getfield 31, 3) := by decide +kernel
theorem dX4_keepFound_24 : decode cX4_keepFound 24 = .ok (.iconst 0, 1) := by decide +kernel
theorem dX4_keepFound_25 : decode cX4_keepFound 25 = .ok (.aload_n 0, 1) := by decide +kernel
theorem dX4_keepFound_26 : decode cX4_keepFound 26 = .ok (.getfield 34, 3) := by decide +kernel
theorem dX4_keepFound_29 : decode cX4_keepFound 29 = .ok (.iconst 0, 1) := by decide +kernel
theorem dX4_keepFound_30 : decode cX4_keepFound 30 = .ok (.bipush 7, 2) := by decide +kernel
theorem dX4_keepFound_32 : decode cX4_keepFound 32 = .ok (.invokestatic 115, 3) := by decide +kernel
theorem dX4_keepFound_35 : decode cX4_keepFound 35 = .ok (.return_, 1) := by decide +kernel
theorem dX4_grow_0 : decode cX4_grow 0 = .ok (.iconst 1, 1) := by decide +kernel
theorem dX4_grow_1 : decode cX4_grow 1 = .ok (.aload_n 0, 1) := by decide +kernel
theorem dX4_grow_2 : decode cX4_grow 2 = .ok (.getfield 47, 3) := by decide +kernel
theorem dX4_grow_5 : decode cX4_grow 5 = .ok (.ishl, 1) := by decide +kernel
theorem dX4_grow_6 : decode cX4_grow 6 = .ok (.iconst 1, 1) := by decide +kernel
theorem dX4_grow_7 : decode cX4_grow 7 = .ok (.isub, 1) := by decide +kernel
theorem dX4_grow_8 : decode cX4_grow 8 = .ok (.istore_n 1, 1) := by decide +kernel
theorem dX4_grow_9 : decode cX4_grow 9 = .ok (.iconst 0, 1) := by decide +kernel
theorem dX4_grow_10 : decode cX4_grow 10 = .ok (.istore_n 2, 1) := by decide +kernel
theorem dX4_grow_11 : decode cX4_grow 11 = .ok (.iload_n 2, 1) := by decide +kernel
theorem dX4_grow_12 : decode cX4_grow 12 = .ok (.aload_n 0, 1) := by decide +kernel
theorem dX4_grow_13 : decode cX4_grow 13 = .ok (.getfield 47, 3) := by decide +kernel
theorem dX4_grow_16 : decode cX4_grow 16 = .ok (.if_icmp .ge 50, 3) := by decide +kernel
theorem dX4_grow_19 : decode cX4_grow 19 = .ok (.aload_n 0, 1) := by decide +kernel
theorem dX4_grow_20 : decode cX4_grow 20 = .ok (.iload_n 2, 1) := by decide +kernel
theorem dX4_grow_21 : decode cX4_grow 21 = .ok (.iload_n 1, 1) := by decide +kernel
theorem dX4_grow_22 : decode cX4_grow 22 = .ok (.invokevirtual 121, 3) := by decide +kernel
theorem dX4_grow_25 : decode cX4_grow 25 = .ok (.istore_n 3, 1) := by decide +kernel
theorem dX4_grow_26 : decode cX4_grow 26 = .ok (.iload_n 3, 1) := by decide +kernel
theorem dX4_grow_27 : decode cX4_grow 27 = .ok (.ifCond .ge 4, 3) := by decide +kernel
theorem dX4_grow_30 : decode cX4_grow 30 = .ok (.return_, 1) := by decide +kernel
theorem dX4_grow_31 : decode cX4_grow 31 = .ok (.aload_n 0, 1) := by decide +kernel
theorem dX4_grow_32 : decode cX4_grow 32 = .ok (.getfield 12, 3) := by decide +kernel
theorem dX4_grow_35 : decode cX4_grow 35 = .ok (.iload_n 2, 1) := by decide +kernel
theorem dX4_grow_36 : decode cX4_grow 36 = .ok (.aload_n 0, 1) := by decide +kernel
theorem dX4_grow_37 : decode cX4_grow 37 = .ok (.getfield 18, 3) := by decide +kernel
theorem dX4_grow_40 : decode cX4_grow 40 = .ok (.iload_n 3, 1) := by decide +kernel
theorem dX4_grow_41 : decode cX4_grow 41 = .ok (.iaload, 1) := by decide +kernel
theorem dX4_grow_42 : decode cX4_grow 42 = .ok (.invokevirtual 89, 3) := by decide +kernel
theorem dX4_grow_45 : decode cX4_grow 45 = .ok (.aload_n 0, 1) := by decide +kernel
theorem dX4_grow_46 : decode cX4_grow 46 = .ok (.getfield 34, 3) := by decide +kernel
theorem dX4_grow_49 : decode cX4_grow 49 = .ok (.iload_n 2, 1) := by decide +kernel
theorem dX4_grow_50 : decode cX4_grow 50 = .ok (.iload_n 3, 1) := by decide +kernel
theorem dX4_grow_51 : decode cX4_grow 51 = .ok (.iastore, 1) := by decide +kernel
theorem dX4_grow_52 : decode cX4_grow 52 = .ok (.iload_n 1, 1) := by decide +kernel
theorem dX4_grow_53 : decode cX4_grow 53 = .ok (.iconst 1, 1) := by decide +kernel
theorem dX4_grow_54 : decode cX4_grow 54 = .ok (.iload_n 3, 1) := by decide +kernel
theorem dX4_grow_55 : decode cX4_grow 55 = .ok (.ishl, 1) := by decide +kernel
theorem dX4_grow_56 : decode cX4_grow 56 = .ok (.iconst (-1), 1) := by decide +kernel
theorem dX4_grow_57 : decode cX4_grow 57 = .ok (.ixor, 1) := by decide +kernel
theorem dX4_grow_58 : decode cX4_grow 58 = .ok (.iand, 1) := by decide +kernel
theorem dX4_grow_59 : decode cX4_grow 59 = .ok (.istore_n 1, 1) := by decide +kernel
theorem dX4_grow_60 : decode cX4_grow 60 = .ok (.iinc 2 1, 3) := by decide +kernel
theorem dX4_grow_63 : decode cX4_grow 63 = .ok (.goto (-52), 3) := by decide +kernel
theorem dX4_grow_66 : decode cX4_grow 66 = .ok (.aload_n 0, 1) := by decide +kernel
theorem dX4_grow_67 : decode cX4_grow 67 = .ok (.aload_n 0, 1) := by decide +kernel
theorem dX4_grow_68 : decode cX4_grow 68 = .ok (.getfield 12, 3) := by decide +kernel
theorem dX4_grow_71 : decode cX4_grow 71 = .ok (.invokevirtual 124, 3) := by decide +kernel
theorem dX4_grow_74 : decode cX4_grow 74 = .ok (.putfield 68, 3) := by decide +kernel
theorem dX4_grow_77 : decode cX4_grow 77 = .ok (.aload_n 0, 1) := by decide +kernel
theorem dX4_grow_78 : decode cX4_grow 78 = .ok (.aload_n 0, 1) := by decide +kernel
theorem dX4_grow_79 : decode cX4_grow 79 = .ok (.getfield 12, 3) := by decide +kernel
theorem dX4_grow_82 : decode cX4_grow 82 = .ok (.invokevirtual 127, 3) := by decide +kernel
theorem dX4_grow_85 : decode cX4_grow 85 = .ok (.putfield 71, 3) := by decide +kernel
theorem dX4_grow_88 : decode cX4_grow 88 = .ok (.return_, 1) := by decide +kernel
theorem dX4_nextGrown_0 : decode cX4_nextGrown 0 = .ok (.aload_n 0, 1) := by decide +kernel
theorem dX4_nextGrown_1 : decode cX4_nextGrown 1 = .ok (.getfield 12, 3) := by decide +kernel
theorem dX4_nextGrown_4 : decode cX4_nextGrown 4 = .ok (.iload_n 1, 1) := by decide +kernel
theorem dX4_nextGrown_5 : decode cX4_nextGrown 5 = .ok (.invokevirtual 129, 3) := by decide +kernel
theorem dX4_nextGrown_8 : decode cX4_nextGrown 8 = .ok (.istore_n 3, 1) := by decide +kernel
theorem dX4_nextGrown_9 : decode cX4_nextGrown 9 = .ok (.bipush (-4), 2) := by decide +kernel
theorem dX4_nextGrown_11 : decode cX4_nextGrown 11 = .ok (.istore 4, 2) := by decide +kernel
theorem dX4_nextGrown_13 : decode cX4_nextGrown 13 = .ok (.iconst 0, 1) := by decide +kernel
theorem dX4_nextGrown_14 : decode cX4_nextGrown 14 = .ok (.istore 5, 2) := by decide +kernel
theorem dX4_nextGrown_16 : decode cX4_nextGrown 16 = .ok (.iconst 0, 1) := by decide +kernel
theorem dX4_nextGrown_17 : decode cX4_nextGrown 17 = .ok (.istore 6, 2) := by decide +kernel
theorem dX4_nextGrown_19 : decode cX4_nextGrown 19 = .ok (.iconst 0, 1) := by decide +kernel
theorem dX4_nextGrown_20 : decode cX4_nextGrown 20 = .ok (.istore 7, 2) := by decide +kernel
theorem dX4_nextGrown_22 : decode cX4_nextGrown 22 = .ok (.iload 7, 2) := by decide +kernel
theorem dX4_nextGrown_24 : decode cX4_nextGrown 24 = .ok (.aload_n 0, 1) := by decide +kernel
theorem dX4_nextGrown_25 : decode cX4_nextGrown 25 = .ok (.getfield 47, 3) := by decide +kernel
theorem dX4_nextGrown_28 : decode cX4_nextGrown 28 = .ok (.if_icmp .ge 99, 3) := by decide +kernel
theorem dX4_nextGrown_31 : decode cX4_nextGrown 31 = .ok (.aload_n 0, 1) := by decide +kernel
theorem dX4_nextGrown_32 : decode cX4_nextGrown 32 = .ok (.getfield 18, 3) := by decide +kernel
theorem dX4_nextGrown_35 : decode cX4_nextGrown 35 = .ok (.iload 7, 2) := by decide +kernel
theorem dX4_nextGrown_37 : decode cX4_nextGrown 37 = .ok (.iaload, 1) := by decide +kernel
theorem dX4_nextGrown_38 : decode cX4_nextGrown 38 = .ok (.iload_n 3, 1) := by decide +kernel
theorem dX4_nextGrown_39 : decode cX4_nextGrown 39 = .ok (.iconst (-1), 1) := by decide +kernel
theorem dX4_nextGrown_40 : decode cX4_nextGrown 40 = .ok (.ixor, 1) := by decide +kernel
theorem dX4_nextGrown_41 : decode cX4_nextGrown 41 = .ok (.iand, 1) := by decide +kernel
theorem dX4_nextGrown_42 : decode cX4_nextGrown 42 = .ok (.invokestatic 95, 3) := by decide +kernel
theorem dX4_nextGrown_45 : decode cX4_nextGrown 45 = .ok (.istore 8, 2) := by decide +kernel
theorem dX4_nextGrown_47 : decode cX4_nextGrown 47 = .ok (.aload_n 0, 1) := by decide +kernel
theorem dX4_nextGrown_48 : decode cX4_nextGrown 48 = .ok (.getfield 18, 3) := by decide +kernel
theorem dX4_nextGrown_51 : decode cX4_nextGrown 51 = .ok (.iload 7, 2) := by decide +kernel
theorem dX4_nextGrown_53 : decode cX4_nextGrown 53 = .ok (.iaload, 1) := by decide +kernel
theorem dX4_nextGrown_54 : decode cX4_nextGrown 54 = .ok (.iload_n 3, 1) := by decide +kernel
theorem dX4_nextGrown_55 : decode cX4_nextGrown 55 = .ok (.iand, 1) := by decide +kernel
theorem dX4_nextGrown_56 : decode cX4_nextGrown 56 = .ok (.invokestatic 95, 3) := by decide +kernel
theorem dX4_nextGrown_59 : decode cX4_nextGrown 59 = .ok (.istore 9, 2) := by decide +kernel
theorem dX4_nextGrown_61 : decode cX4_nextGrown 61 = .ok (.iload 4, 2) := by decide +kernel
theorem dX4_nextGrown_63 : decode cX4_nextGrown 63 = .ok (.ifCond .lt 24, 3) := by decide +kernel
theorem dX4_nextGrown_66 : decode cX4_nextGrown 66 = .ok (.iload 8, 2) := by decide +kernel
theorem dX4_nextGrown_68 : decode cX4_nextGrown 68 = .ok (.iload 5, 2) := by decide +kernel
theorem dX4_nextGrown_70 : decode cX4_nextGrown 70 = .ok (.if_icmp .lt 17, 3) := by decide +kernel
theorem dX4_nextGrown_73 : decode cX4_nextGrown 73 = .ok (.iload 8, 2) := by decide +kernel
theorem dX4_nextGrown_75 : decode cX4_nextGrown 75 = .ok (.iload 5, 2) := by decide +kernel
theorem dX4_nextGrown_77 : decode cX4_nextGrown 77 = .ok (.if_icmp .ne 14, 3) := by decide +kernel
theorem dX4_nextGrown_80 : decode cX4_nextGrown 80 = .ok (.iload 9, 2) := by decide +kernel
theorem dX4_nextGrown_82 : decode cX4_nextGrown 82 = .ok (.iload 6, 2) := by decide +kernel
theorem dX4_nextGrown_84 : decode cX4_nextGrown 84 = .ok (.if_icmp .le 7, 3) := by decide +kernel
theorem dX4_nextGrown_87 : decode cX4_nextGrown 87 = .ok (.iconst 1, 1) := by decide +kernel
theorem dX4_nextGrown_88 : decode cX4_nextGrown 88 = .ok (.goto 4, 3) := by decide +kernel
theorem dX4_nextGrown_91 : decode cX4_nextGrown 91 = .ok (.iconst 0, 1) := by decide +kernel
theorem dX4_nextGrown_92 : decode cX4_nextGrown 92 = .ok (.istore 10, 2) := by decide +kernel
theorem dX4_nextGrown_94 : decode cX4_nextGrown 94 = .ok (.iload 10, 2) := by decide +kernel
theorem dX4_nextGrown_96 : decode cX4_nextGrown 96 = .ok (.ifCond .eq 25, 3) := by decide +kernel
theorem dX4_nextGrown_99 : decode cX4_nextGrown 99 = .ok (.aload_n 0, 1) := by decide +kernel
theorem dX4_nextGrown_100 : decode cX4_nextGrown 100 = .ok (.iload 7, 2) := by decide +kernel
theorem dX4_nextGrown_102 : decode cX4_nextGrown 102 = .ok (.iload_n 2, 1) := by decide +kernel
theorem dX4_nextGrown_103 : decode cX4_nextGrown 103 = .ok (.invokevirtual 85, 3) := by decide +kernel
theorem dX4_nextGrown_106 : decode cX4_nextGrown 106 = .ok (.ifCond .eq 15, 3) := by decide +kernel
theorem dX4_nextGrown_109 : decode cX4_nextGrown 109 = .ok (.iload 7, 2) := by decide +kernel
theorem dX4_nextGrown_111 : decode cX4_nextGrown 111 = .ok (.istore 4, 2) := by decide +kernel
theorem dX4_nextGrown_113 : decode cX4_nextGrown 113 = .ok (.iload 8, 2) := by decide +kernel
theorem dX4_nextGrown_115 : decode cX4_nextGrown 115 = .ok (.istore 5, 2) := by decide +kernel
theorem dX4_nextGrown_117 : decode cX4_nextGrown 117 = .ok (.iload 9, 2) := by decide +kernel
theorem dX4_nextGrown_119 : decode cX4_nextGrown 119 = .ok (.istore 6, 2) := by decide +kernel
theorem dX4_nextGrown_121 : decode cX4_nextGrown 121 = .ok (.iinc 7 1, 3) := by decide +kernel
theorem dX4_nextGrown_124 : decode cX4_nextGrown 124 = .ok (.goto (-102), 3) := by decide +kernel
theorem dX4_nextGrown_127 : decode cX4_nextGrown 127 = .ok (.iload 4, 2) := by decide +kernel
theorem dX4_nextGrown_129 : decode cX4_nextGrown 129 = .ok (.ireturn, 1) := by decide +kernel
theorem dX5_init_0 : decode cX5_init 0 = .ok (.aload_n 0, 1) := by decide +kernel
theorem dX5_init_1 : decode cX5_init 1 = .ok (.invokespecial 3, 3) := by decide +kernel
theorem dX5_init_4 : decode cX5_init 4 = .ok (.aload_n 0, 1) := by decide +kernel
theorem dX5_init_5 : decode cX5_init 5 = .ok (.bipush 24, 2) := by decide +kernel
theorem dX5_init_7 : decode cX5_init 7 = .ok (.newarray .long, 2) := by decide +kernel
theorem dX5_init_9 : decode cX5_init 9 = .ok (.putfield 9, 3) := by decide +kernel
theorem dX5_init_12 : decode cX5_init 12 = .ok (.aload_n 0, 1) := by decide +kernel
theorem dX5_init_13 : decode cX5_init 13 = .ok (.iconst (-1), 1) := by decide +kernel
theorem dX5_init_14 : decode cX5_init 14 = .ok (.putfield 15, 3) := by decide +kernel
theorem dX5_init_17 : decode cX5_init 17 = .ok (.return_, 1) := by decide +kernel
theorem dX5_renew_0 : decode cX5_renew 0 = .ok (.iconst 0, 1) := by decide +kernel
theorem dX5_renew_1 : decode cX5_renew 1 = .ok (.istore_n 3, 1) := by decide +kernel
theorem dX5_renew_2 : decode cX5_renew 2 = .ok (.iload_n 3, 1) := by decide +kernel
theorem dX5_renew_3 : decode cX5_renew 3 = .ok (.bipush 24, 2) := by decide +kernel
theorem dX5_renew_5 : decode cX5_renew 5 = .ok (.if_icmp .ge 16, 3) := by decide +kernel
theorem dX5_renew_8 : decode cX5_renew 8 = .ok (.aload_n 0, 1) := by decide +kernel
theorem dX5_renew_9 : decode cX5_renew 9 = .ok (.getfield 9, 3) := by decide +kernel
theorem dX5_renew_12 : decode cX5_renew 12 = .ok (.iload_n 3, 1) := by decide +kernel
theorem dX5_renew_13 : decode cX5_renew 13 = .ok (.lconst 0, 1) := by decide +kernel
theorem dX5_renew_14 : decode cX5_renew 14 = .ok (.lastore, 1) := by decide +kernel
theorem dX5_renew_15 : decode cX5_renew 15 = .ok (.iinc 3 1, 3) := by decide +kernel
theorem dX5_renew_18 : decode cX5_renew 18 = .ok (.goto (-16), 3) := by decide +kernel
theorem dX5_renew_21 : decode cX5_renew 21 = .ok (.aload_n 0, 1) := by decide +kernel
theorem dX5_renew_22 : decode cX5_renew 22 = .ok (.iload_n 1, 1) := by decide +kernel
theorem dX5_renew_23 : decode cX5_renew 23 = .ok (.putfield 15, 3) := by decide +kernel
theorem dX5_renew_26 : decode cX5_renew 26 = .ok (.aload_n 0, 1) := by decide +kernel
theorem dX5_renew_27 : decode cX5_renew 27 = .ok (.iload_n 2, 1) := by decide +kernel
theorem dX5_renew_28 : decode cX5_renew 28 = .ok (.putfield 19, 3) := by decide +kernel
theorem dX5_renew_31 : decode cX5_renew 31 = .ok (.return_, 1) := by decide +kernel
theorem dX5_has_0 : decode cX5_has 0 = .ok (.iload_n 2, 1) := by decide +kernel
theorem dX5_has_1 : decode cX5_has 1 = .ok (.ifCond .lt 21, 3) := by decide +kernel
theorem dX5_has_4 : decode cX5_has 4 = .ok (.iload_n 1, 1) := by decide +kernel
theorem dX5_has_5 : decode cX5_has 5 = .ok (.ifCond .lt 17, 3) := by decide +kernel
theorem dX5_has_8 : decode cX5_has 8 = .ok (.iload_n 1, 1) := by decide +kernel
theorem dX5_has_9 : decode cX5_has 9 = .ok (.aload_n 0, 1) := by decide +kernel
theorem dX5_has_10 : decode cX5_has 10 = .ok (.getfield 19, 3) := by decide +kernel
theorem dX5_has_13 : decode cX5_has 13 = .ok (.iload_n 2, 1) := by decide +kernel
theorem dX5_has_14 : decode cX5_has 14 = .ok (.isub, 1) := by decide +kernel
theorem dX5_has_15 : decode cX5_has 15 = .ok (.if_icmp .gt 7, 3) := by decide +kernel
theorem dX5_has_18 : decode cX5_has 18 = .ok (.iconst 1, 1) := by decide +kernel
theorem dX5_has_19 : decode cX5_has 19 = .ok (.goto 4, 3) := by decide +kernel
theorem dX5_has_22 : decode cX5_has 22 = .ok (.iconst 0, 1) := by decide +kernel
theorem dX5_has_23 : decode cX5_has 23 = .ok (.ireturn, 1) := by decide +kernel
theorem dX5_put_0 : decode cX5_put 0 = .ok (.iload_n 1, 1) := by decide +kernel
theorem dX5_put_1 : decode cX5_put 1 = .ok (.ifCond .lt 28, 3) := by decide +kernel
theorem dX5_put_4 : decode cX5_put 4 = .ok (.iload_n 1, 1) := by decide +kernel
theorem dX5_put_5 : decode cX5_put 5 = .ok (.aload_n 0, 1) := by decide +kernel
theorem dX5_put_6 : decode cX5_put 6 = .ok (.getfield 19, 3) := by decide +kernel
theorem dX5_put_9 : decode cX5_put 9 = .ok (.if_icmp .ge 20, 3) := by decide +kernel
theorem dX5_put_12 : decode cX5_put 12 = .ok (.iload_n 1, 1) := by decide +kernel
theorem dX5_put_13 : decode cX5_put 13 = .ok (.bipush 24, 2) := by decide +kernel
theorem dX5_put_15 : decode cX5_put 15 = .ok (.if_icmp .ge 14, 3) := by decide +kernel
theorem dX5_put_18 : decode cX5_put 18 = .ok (.aload_n 0, 1) := by decide +kernel
theorem dX5_put_19 : decode cX5_put 19 = .ok (.getfield 9, 3) := by decide +kernel
theorem dX5_put_22 : decode cX5_put 22 = .ok (.iload_n 1, 1) := by decide +kernel
theorem dX5_put_23 : decode cX5_put 23 = .ok (.aload_n 0, 1) := by decide +kernel
theorem dX5_put_24 : decode cX5_put 24 = .ok (.lload_n 2, 1) := by decide +kernel
theorem dX5_put_25 : decode cX5_put 25 = .ok (.invokevirtual 22, 3) := by decide +kernel
theorem dX5_put_28 : decode cX5_put 28 = .ok (.lastore, 1) := by decide +kernel
theorem dX5_put_29 : decode cX5_put 29 = .ok (.return_, 1) := by decide +kernel
theorem dX5_cut_0 : decode cX5_cut 0 = .ok (.aload_n 0, 1) := by decide +kernel
theorem dX5_cut_1 : decode cX5_cut 1 = .ok (.getfield 15, 3) := by decide +kernel
theorem dX5_cut_4 : decode cX5_cut 4 = .ok (.tableswitch 42 0 2 #[28, 33, 38], 28) := by decide +kernel
theorem dX5_cut_32 : decode cX5_cut 32 = .ok (.lload_n 1, 1) := by decide +kernel
theorem dX5_cut_33 : decode cX5_cut 33 = .ok (.l2i, 1) := by decide +kernel
theorem dX5_cut_34 : decode cX5_cut 34 = .ok (.i2b, 1) := by decide +kernel
theorem dX5_cut_35 : decode cX5_cut 35 = .ok (.i2l, 1) := by decide +kernel
theorem dX5_cut_36 : decode cX5_cut 36 = .ok (.lreturn, 1) := by decide +kernel
theorem dX5_cut_37 : decode cX5_cut 37 = .ok (.lload_n 1, 1) := by decide +kernel
theorem dX5_cut_38 : decode cX5_cut 38 = .ok (.l2i, 1) := by decide +kernel
theorem dX5_cut_39 : decode cX5_cut 39 = .ok (.i2s, 1) := by decide +kernel
theorem dX5_cut_40 : decode cX5_cut 40 = .ok (.i2l, 1) := by decide +kernel
theorem dX5_cut_41 : decode cX5_cut 41 = .ok (.lreturn, 1) := by decide +kernel
theorem dX5_cut_42 : decode cX5_cut 42 = .ok (.lload_n 1, 1) := by decide +kernel
theorem dX5_cut_43 : decode cX5_cut 43 = .ok (.l2i, 1) := by decide +kernel
theorem dX5_cut_44 : decode cX5_cut 44 = .ok (.i2l, 1) := by decide +kernel
theorem dX5_cut_45 : decode cX5_cut 45 = .ok (.lreturn, 1) := by decide +kernel
theorem dX5_cut_46 : decode cX5_cut 46 = .ok (.lload_n 1, 1) := by decide +kernel
theorem dX5_cut_47 : decode cX5_cut 47 = .ok (.lreturn, 1) := by decide +kernel
theorem dX6_init_0 : decode cX6_init 0 = .ok (.aload_n 0, 1) := by decide +kernel
theorem dX6_init_1 : decode cX6_init 1 = .ok (.invokespecial 3, 3) := by decide +kernel
theorem dX6_init_4 : decode cX6_init 4 = .ok (.aload_n 0, 1) := by decide +kernel
theorem dX6_init_5 : decode cX6_init 5 = .ok (.bipush 7, 2) := by decide +kernel
theorem dX6_init_7 : decode cX6_init 7 = .ok (.newarray .int, 2) := by decide +kernel
theorem dX6_init_9 : decode cX6_init 9 = .ok (.putfield 9, 3) := by decide +kernel
theorem dX6_init_12 : decode cX6_init 12 = .ok (.aload_n 0, 1) := by decide +kernel
theorem dX6_init_13 : decode cX6_init 13 = .ok (.bipush 7, 2) := by decide +kernel
theorem dX6_init_15 : decode cX6_init 15 = .ok (.newarray .int, 2) := by decide +kernel
theorem dX6_init_17 : decode cX6_init 17 = .ok (.putfield 15, 3) := by decide +kernel
theorem dX6_init_20 : decode cX6_init 20 = .ok (.aload_n 0, 1) := by decide +kernel
theorem dX6_init_21 : decode cX6_init 21 = .ok (.bipush 7, 2) := by decide +kernel
theorem dX6_init_23 : decode cX6_init 23 = .ok (.newarray .int, 2) := by decide +kernel
theorem dX6_init_25 : decode cX6_init 25 = .ok (.putfield 18, 3) := by decide +kernel
theorem dX6_init_28 : decode cX6_init 28 = .ok (.aload_n 0, 1) := by decide +kernel
theorem dX6_init_29 : decode cX6_init 29 = .ok (.iconst 2, 1) := by decide +kernel
theorem dX6_init_30 : decode cX6_init 30 = .ok (.putfield 21, 3) := by decide +kernel
theorem dX6_init_33 : decode cX6_init 33 = .ok (.aload_n 0, 1) := by decide +kernel
theorem dX6_init_34 : decode cX6_init 34 = .ok (.iconst 5, 1) := by decide +kernel
theorem dX6_init_35 : decode cX6_init 35 = .ok (.putfield 25, 3) := by decide +kernel
theorem dX6_init_38 : decode cX6_init 38 = .ok (.aload_n 0, 1) := by decide +kernel
theorem dX6_init_39 : decode cX6_init 39 = .ok (.iconst 0, 1) := by decide +kernel
theorem dX6_init_40 : decode cX6_init 40 = .ok (.putfield 28, 3) := by decide +kernel
theorem dX6_init_43 : decode cX6_init 43 = .ok (.aload_n 0, 1) := by decide +kernel
theorem dX6_init_44 : decode cX6_init 44 = .ok (.iconst 1, 1) := by decide +kernel
theorem dX6_init_45 : decode cX6_init 45 = .ok (.putfield 31, 3) := by decide +kernel
theorem dX6_init_48 : decode cX6_init 48 = .ok (.return_, 1) := by decide +kernel
theorem dX6_takeFrom_0 : decode cX6_takeFrom 0 = .ok (.aload_n 1, 1) := by decide +kernel
theorem dX6_takeFrom_1 : decode cX6_takeFrom 1 = .ok (.getfield 9, 3) := by decide +kernel
theorem dX6_takeFrom_4 : decode cX6_takeFrom 4 = .ok (.iconst 0, 1) := by decide +kernel
theorem dX6_takeFrom_5 : decode cX6_takeFrom 5 = .ok (.aload_n 0, 1) := by decide +kernel
theorem dX6_takeFrom_6 : decode cX6_takeFrom 6 = .ok (.getfield 9, 3) := by decide +kernel
theorem dX6_takeFrom_9 : decode cX6_takeFrom 9 = .ok (.iconst 0, 1) := by decide +kernel
theorem dX6_takeFrom_10 : decode cX6_takeFrom 10 = .ok (.bipush 7, 2) := by decide +kernel
theorem dX6_takeFrom_12 : decode cX6_takeFrom 12 = .ok (.invokestatic 34, 3) := by decide +kernel
theorem dX6_takeFrom_15 : decode cX6_takeFrom 15 = .ok (.aload_n 1, 1) := by decide +kernel
theorem dX6_takeFrom_16 : decode cX6_takeFrom 16 = .ok (.getfield 15, 3) := by decide +kernel
theorem dX6_takeFrom_19 : decode cX6_takeFrom 19 = .ok (.iconst 0, 1) := by decide +kernel
theorem dX6_takeFrom_20 : decode cX6_takeFrom 20 = .ok (.aload_n 0, 1) := by decide +kernel
theorem dX6_takeFrom_21 : decode cX6_takeFrom 21 = .ok (.getfield 15, 3) := by decide +kernel
theorem dX6_takeFrom_24 : decode cX6_takeFrom 24 = .ok (.iconst 0, 1) := by decide +kernel
theorem dX6_takeFrom_25 : decode cX6_takeFrom 25 = .ok (.bipush 7, 2) := by decide +kernel
theorem dX6_takeFrom_27 : decode cX6_takeFrom 27 = .ok (.invokestatic 34, 3) := by decide +kernel
theorem dX6_takeFrom_30 : decode cX6_takeFrom 30 = .ok (.aload_n 1, 1) := by decide +kernel
theorem dX6_takeFrom_31 : decode cX6_takeFrom 31 = .ok (.getfield 18, 3) := by decide +kernel
theorem dX6_takeFrom_34 : decode cX6_takeFrom 34 = .ok (.iconst 0, 1) := by decide +kernel
theorem dX6_takeFrom_35 : decode cX6_takeFrom 35 = .ok (.aload_n 0, 1) := by decide +kernel
theorem dX6_takeFrom_36 : decode cX6_takeFrom 36 = .ok (.getfield 18, 3) := by decide +kernel
theorem dX6_takeFrom_39 : decode cX6_takeFrom 39 = .ok (.iconst 0, 1) := by decide +kernel
theorem dX6_takeFrom_40 : decode cX6_takeFrom 40 = .ok (.bipush 7, 2) := by decide +kernel
theorem dX6_takeFrom_42 : decode cX6_takeFrom 42 = .ok (.invokestatic 34, 3) := by decide +kernel
theorem dX6_takeFrom_45 : decode cX6_takeFrom 45 = .ok (.aload_n 0, 1) := by decide +kernel
theorem dX6_takeFrom_46 : decode cX6_takeFrom 46 = .ok (.aload_n 1, 1) := by decide +kernel
theorem dX6_takeFrom_47 : decode cX6_takeFrom 47 = .ok (.getfield 40, 3) := by decide +kernel
theorem dX6_takeFrom_50 : decode cX6_takeFrom 50 = .ok (.putfield 40, 3) := by decide +kernel
theorem dX6_takeFrom_53 : decode cX6_takeFrom 53 = .ok (.aload_n 0, 1) := by decide +kernel
theorem dX6_takeFrom_54 : decode cX6_takeFrom 54 = .ok (.aload_n 1, 1) := by decide +kernel
theorem dX6_takeFrom_55 : decode cX6_takeFrom 55 = .ok (.getfield 43, 3) := by decide +kernel
theorem dX6_takeFrom_58 : decode cX6_takeFrom 58 = .ok (.putfield 43, 3) := by decide +kernel
theorem dX6_takeFrom_61 : decode cX6_takeFrom 61 = .ok (.aload_n 0, 1) := by decide +kernel
theorem dX6_takeFrom_62 : decode cX6_takeFrom 62 = .ok (.aload_n 1, 1) := by decide +kernel
theorem dX6_takeFrom_63 : decode cX6_takeFrom 63 = .ok (.getfield 21, 3) := by decide +kernel
theorem dX6_takeFrom_66 : decode cX6_takeFrom 66 = .ok (.putfield 21, 3) := by decide +kernel
theorem dX6_takeFrom_69 : decode cX6_takeFrom 69 = .ok (.aload_n 0, 1) := by decide +kernel
theorem dX6_takeFrom_70 : decode cX6_takeFrom 70 = .ok (.aload_n 1, 1) := by decide +kernel
theorem dX6_takeFrom_71 : decode cX6_takeFrom 71 = .ok (.getfield 25, 3) := by decide +kernel
theorem dX6_takeFrom_74 : decode cX6_takeFrom 74 = .ok (.putfield 25, 3) := by decide +kernel
theorem dX6_takeFrom_77 : decode cX6_takeFrom 77 = .ok (.aload_n 0, 1) := by decide +kernel
theorem dX6_takeFrom_78 : decode cX6_takeFrom 78 = .ok (.aload_n 1, 1) := by decide +kernel
theorem dX6_takeFrom_79 : decode cX6_takeFrom 79 = .ok (.getfield 28, 3) := by decide +kernel
theorem dX6_takeFrom_82 : decode cX6_takeFrom 82 = .ok (.putfield 28, 3) := by decide +kernel
theorem dX6_takeFrom_85 : decode cX6_takeFrom 85 = .ok (.aload_n 0, 1) := by decide +kernel
theorem dX6_takeFrom_86 : decode cX6_takeFrom 86 = .ok (.aload_n 1, 1) := by decide +kernel
theorem dX6_takeFrom_87 : decode cX6_takeFrom 87 = .ok (.getfield 31, 3) := by decide +kernel
theorem dX6_takeFrom_90 : decode cX6_takeFrom 90 = .ok (.putfield 31, 3) := by decide +kernel
theorem dX6_takeFrom_93 : decode cX6_takeFrom 93 = .ok (.return_, 1) := by decide +kernel
theorem dX6_goOn_0 : decode cX6_goOn 0 = .ok (.aload_n 0, 1) := by decide +kernel
theorem dX6_goOn_1 : decode cX6_goOn 1 = .ok (.aload_n 0, 1) := by decide +kernel
theorem dX6_goOn_2 : decode cX6_goOn 2 = .ok (.getfield 31, 3) := by decide +kernel
theorem dX6_goOn_5 : decode cX6_goOn 5 = .ok (.ldc 46, 2) := by decide +kernel
theorem dX6_goOn_7 : decode cX6_goOn 7 = .ok (.imul, 1) := by decide +kernel
theorem dX6_goOn_8 : decode cX6_goOn 8 = .ok (.sipush 12345, 3) := by decide +kernel
theorem dX6_goOn_11 : decode cX6_goOn 11 = .ok (.iadd, 1) := by decide +kernel
theorem dX6_goOn_12 : decode cX6_goOn 12 = .ok (.ldc 47, 2) := by decide +kernel
theorem dX6_goOn_14 : decode cX6_goOn 14 = .ok (.iand, 1) := by decide +kernel
theorem dX6_goOn_15 : decode cX6_goOn 15 = .ok (.putfield 31, 3) := by decide +kernel
theorem dX6_goOn_18 : decode cX6_goOn 18 = .ok (.return_, 1) := by decide +kernel
theorem dX6_isBook_0 : decode cX6_isBook 0 = .ok (.iload_n 1, 1) := by decide +kernel
theorem dX6_isBook_1 : decode cX6_isBook 1 = .ok (.ifCond .lt 15, 3) := by decide +kernel
theorem dX6_isBook_4 : decode cX6_isBook 4 = .ok (.iload_n 1, 1) := by decide +kernel
theorem dX6_isBook_5 : decode cX6_isBook 5 = .ok (.aload_n 0, 1) := by decide +kernel
theorem dX6_isBook_6 : decode cX6_isBook 6 = .ok (.getfield 40, 3) := by decide +kernel
theorem dX6_isBook_9 : decode cX6_isBook 9 = .ok (.if_icmp .ge 7, 3) := by decide +kernel
theorem dX6_isBook_12 : decode cX6_isBook 12 = .ok (.iconst 1, 1) := by decide +kernel
theorem dX6_isBook_13 : decode cX6_isBook 13 = .ok (.goto 4, 3) := by decide +kernel
theorem dX6_isBook_16 : decode cX6_isBook 16 = .ok (.iconst 0, 1) := by decide +kernel
theorem dX6_isBook_17 : decode cX6_isBook 17 = .ok (.ireturn, 1) := by decide +kernel
theorem dX6_isSetOfBook_0 : decode cX6_isSetOfBook 0 = .ok (.iload_n 0, 1) := by decide +kernel
theorem dX6_isSetOfBook_1 : decode cX6_isSetOfBook 1 = .ok (.ifCond .le 13, 3) := by decide +kernel
theorem dX6_isSetOfBook_4 : decode cX6_isSetOfBook 4 = .ok (.iload_n 0, 1) := by decide +kernel
theorem dX6_isSetOfBook_5 : decode cX6_isSetOfBook 5 = .ok (.ldc 48, 2) := by decide +kernel
theorem dX6_isSetOfBook_7 : decode cX6_isSetOfBook 7 = .ok (.if_icmp .gt 7, 3) := by decide +kernel
theorem dX6_isSetOfBook_10 : decode cX6_isSetOfBook 10 = .ok (.iconst 1, 1) := by decide +kernel
theorem dX6_isSetOfBook_11 : decode cX6_isSetOfBook 11 = .ok (.goto 4, 3) := by decide +kernel
theorem dX6_isSetOfBook_14 : decode cX6_isSetOfBook 14 = .ok (.iconst 0, 1) := by decide +kernel
theorem dX6_isSetOfBook_15 : decode cX6_isSetOfBook 15 = .ok (.ireturn, 1) := by decide +kernel
theorem dX6_addBook_0 : decode cX6_addBook 0 = .ok (.iload_n 1, 1) := by decide +kernel
theorem dX6_addBook_1 : decode cX6_addBook 1 = .ok (.invokestatic 49, 3) := by decide +kernel
theorem dX6_addBook_4 : decode cX6_addBook 4 = .ok (.ifCond .ne 5, 3) := by decide +kernel
theorem dX6_addBook_7 : decode cX6_addBook 7 = .ok (.iconst (-1), 1) := by decide +kernel
theorem dX6_addBook_8 : decode cX6_addBook 8 = .ok (.ireturn, 1) := by decide +kernel
theorem dX6_addBook_9 : decode cX6_addBook 9 = .ok (.aload_n 0, 1) := by decide +kernel
theorem dX6_addBook_10 : decode cX6_addBook 10 = .ok (.getfield 40, 3) := by decide +kernel
theorem dX6_addBook_13 : decode cX6_addBook 13 = .ok (.bipush 7, 2) := by decide +kernel
theorem dX6_addBook_15 : decode cX6_addBook 15 = .ok (.if_icmp .lt 6, 3) := by decide +kernel
theorem dX6_addBook_18 : decode cX6_addBook 18 = .ok (.bipush (-3), 2) := by decide +kernel
theorem dX6_addBook_20 : decode cX6_addBook 20 = .ok (.ireturn, 1) := by decide +kernel
theorem dX6_addBook_21 : decode cX6_addBook 21 = .ok (.aload_n 0, 1) := by decide +kernel
theorem dX6_addBook_22 : decode cX6_addBook 22 = .ok (.getfield 9, 3) := by decide +kernel
theorem dX6_addBook_25 : decode cX6_addBook 25 = .ok (.aload_n 0, 1) := by decide +kernel
theorem dX6_addBook_26 : decode cX6_addBook 26 = .ok (.getfield 40, 3) := by decide +kernel
theorem dX6_addBook_29 : decode cX6_addBook 29 = .ok (.iload_n 1, 1) := by decide +kernel
theorem dX6_addBook_30 : decode cX6_addBook 30 = .ok (.iastore, 1) := by decide +kernel
theorem dX6_addBook_31 : decode cX6_addBook 31 = .ok (.aload_n 0, 1) := by decide +kernel
theorem dX6_addBook_32 : decode cX6_addBook 32 = .ok (.getfield 15, 3) := by decide +kernel
theorem dX6_addBook_35 : decode cX6_addBook 35 = .ok (.aload_n 0, 1) := by decide +kernel
theorem dX6_addBook_36 : decode cX6_addBook 36 = .ok (.getfield 40, 3) := by decide +kernel
theorem dX6_addBook_39 : decode cX6_addBook 39 = .ok (.iconst 0, 1) := by decide +kernel
theorem dX6_addBook_40 : decode cX6_addBook 40 = .ok (.iastore, 1) := by decide +kernel
theorem dX6_addBook_41 : decode cX6_addBook 41 = .ok (.aload_n 0, 1) := by decide +kernel
theorem dX6_addBook_42 : decode cX6_addBook 42 = .ok (.getfield 18, 3) := by decide +kernel
theorem dX6_addBook_45 : decode cX6_addBook 45 = .ok (.aload_n 0, 1) := by decide +kernel
theorem dX6_addBook_46 : decode cX6_addBook 46 = .ok (.getfield 40, 3) := by decide +kernel
theorem dX6_addBook_49 : decode cX6_addBook 49 = .ok (.aload_n 0, 1) := by decide +kernel
theorem dX6_addBook_50 : decode cX6_addBook 50 = .ok (.getfield 40, 3) := by decide +kernel
theorem dX6_addBook_53 : decode cX6_addBook 53 = .ok (.iastore, 1) := by decide +kernel
theorem dX6_addBook_54 : decode cX6_addBook 54 = .ok (.aload_n 0, 1) := by decide +kernel
theorem dX6_addBook_55 : decode cX6_addBook 55 = .ok (.dup, 1) := by decide +kernel
theorem dX6_addBook_56 : decode cX6_addBook 56 = .ok (.getfield 40, 3) := by decide +kernel
theorem dX6_addBook_59 : decode cX6_addBook 59 = .ok (.iconst 1, 1) := by decide +kernel
theorem dX6_addBook_60 : decode cX6_addBook 60 = .ok (.iadd, 1) := by decide +kernel
theorem dX6_addBook_61 : decode cX6_addBook 61 = .ok (.putfield 40, 3) := by decide +kernel
theorem dX6_addBook_64 : decode cX6_addBook 64 = .ok (.aload_n 0, 1) := by decide +kernel
theorem dX6_addBook_65 : decode cX6_addBook 65 = .ok (.getfield 40, 3) := by decide +kernel
theorem dX6_addBook_68 : decode cX6_addBook 68 = .ok (.iconst 1, 1) := by decide +kernel
theorem dX6_addBook_69 : decode cX6_addBook 69 = .ok (.isub, 1) := by decide +kernel
theorem dX6_addBook_70 : decode cX6_addBook 70 = .ok (.ireturn, 1) := by decide +kernel
theorem dX6_changeWords_0 : decode cX6_changeWords 0 = .ok (.aload_n 0, 1) := by decide +kernel
theorem dX6_changeWords_1 : decode cX6_changeWords 1 = .ok (.iload_n 1, 1) := by decide +kernel
theorem dX6_changeWords_2 : decode cX6_changeWords 2 = .ok (.invokevirtual 53, 3) := by decide +kernel
theorem dX6_changeWords_5 : decode cX6_changeWords 5 = .ok (.ifCond .eq 10, 3) := by decide +kernel
theorem dX6_changeWords_8 : decode cX6_changeWords 8 = .ok (.iload_n 2, 1) := by decide +kernel
theorem dX6_changeWords_9 : decode cX6_changeWords 9 = .ok (.invokestatic 49, 3) := by decide +kernel
theorem dX6_changeWords_12 : decode cX6_changeWords 12 = .ok (.ifCond .ne 5, 3) := by decide +kernel
theorem dX6_changeWords_15 : decode cX6_changeWords 15 = .ok (.iconst (-1), 1) := by decide +kernel
theorem dX6_changeWords_16 : decode cX6_changeWords 16 = .ok (.ireturn, 1) := by decide +kernel
theorem dX6_changeWords_17 : decode cX6_changeWords 17 = .ok (.aload_n 0, 1) := by decide +kernel
theorem dX6_changeWords_18 : decode cX6_changeWords 18 = .ok (.getfield 9, 3) := by decide +kernel
theorem dX6_changeWords_21 : decode cX6_changeWords 21 = .ok (.iload_n 1, 1) := by decide +kernel
theorem dX6_changeWords_22 : decode cX6_changeWords 22 = .ok (.iaload, 1) := by decide +kernel
theorem dX6_changeWords_23 : decode cX6_changeWords 23 = .ok (.istore_n 3, 1) := by decide +kernel
theorem dX6_changeWords_24 : decode cX6_changeWords 24 = .ok (.iload_n 3, 1) := by decide +kernel
theorem dX6_changeWords_25 : decode cX6_changeWords 25 = .ok (.iload_n 2, 1) := by decide +kernel
theorem dX6_changeWords_26 : decode cX6_changeWords 26 = .ok (.if_icmp .ne 6, 3) := by decide +kernel
theorem dX6_changeWords_29 : decode cX6_changeWords 29 = .ok (.bipush (-2), 2) := by decide +kernel
theorem dX6_changeWords_31 : decode cX6_changeWords 31 = .ok (.ireturn, 1) := by decide +kernel
theorem dX6_changeWords_32 : decode cX6_changeWords 32 = .ok (.aload_n 0, 1) := by decide +kernel
theorem dX6_changeWords_33 : decode cX6_changeWords 33 = .ok (.getfield 9, 3) := by decide +kernel
theorem dX6_changeWords_36 : decode cX6_changeWords 36 = .ok (.iload_n 1, 1) := by decide +kernel
theorem dX6_changeWords_37 : decode cX6_changeWords 37 = .ok (.iload_n 2, 1) := by decide +kernel
theorem dX6_changeWords_38 : decode cX6_changeWords 38 = .ok (.iastore, 1) := by decide +kernel
theorem dX6_changeWords_39 : decode cX6_changeWords 39 = .ok (.iload_n 3, 1) := by decide +kernel
theorem dX6_changeWords_40 : decode cX6_changeWords 40 = .ok (.ireturn, 1) := by decide +kernel
theorem dX6_removeBook_0 : decode cX6_removeBook 0 = .ok (.aload_n 0, 1) := by decide +kernel
theorem dX6_removeBook_1 : decode cX6_removeBook 1 = .ok (.iload_n 1, 1) := by decide +kernel
theorem dX6_removeBook_2 : decode cX6_removeBook 2 = .ok (.invokevirtual 53, 3) := by decide +kernel
theorem dX6_removeBook_5 : decode cX6_removeBook 5 = .ok (.ifCond .ne 5, 3) := by decide +kernel
theorem dX6_removeBook_8 : decode cX6_removeBook 8 = .ok (.iconst (-1), 1) := by decide +kernel
theorem dX6_removeBook_9 : decode cX6_removeBook 9 = .ok (.ireturn, 1) := by decide +kernel
theorem dX6_removeBook_10 : decode cX6_removeBook 10 = .ok (.aload_n 0, 1) := by decide +kernel
theorem dX6_removeBook_11 : decode cX6_removeBook 11 = .ok (.aload_n 0, 1) := by decide +kernel
theorem dX6_removeBook_12 : decode cX6_removeBook 12 = .ok (.getfield 18, 3) := by decide +kernel
theorem dX6_removeBook_15 : decode cX6_removeBook 15 = .ok (.aload_n 0, 1) := by decide +kernel
theorem dX6_removeBook_16 : decode cX6_removeBook 16 = .ok (.iload_n 1, 1) := by decide +kernel
theorem dX6_removeBook_17 : decode cX6_removeBook 17 = .ok (.invokevirtual 56, 3) := by decide +kernel
theorem dX6_removeBook_20 : decode cX6_removeBook 20 = .ok (.invokevirtual 60, 3) := by decide +kernel
theorem dX6_removeBook_23 : decode cX6_removeBook 23 = .ok (.aload_n 0, 1) := by decide +kernel
theorem dX6_removeBook_24 : decode cX6_removeBook 24 = .ok (.aload_n 0, 1) := by decide +kernel
theorem dX6_removeBook_25 : decode cX6_removeBook 25 = .ok (.getfield 9, 3) := by decide +kernel
theorem dX6_removeBook_28 : decode cX6_removeBook 28 = .ok (.iload_n 1, 1) := by decide +kernel
theorem dX6_removeBook_29 : decode cX6_removeBook 29 = .ok (.invokevirtual 60, 3) := by decide +kernel
theorem dX6_removeBook_32 : decode cX6_removeBook 32 = .ok (.aload_n 0, 1) := by decide +kernel
theorem dX6_removeBook_33 : decode cX6_removeBook 33 = .ok (.aload_n 0, 1) := by decide +kernel
theorem dX6_removeBook_34 : decode cX6_removeBook 34 = .ok (.getfield 15, 3) := by decide +kernel
theorem dX6_removeBook_37 : decode cX6_removeBook 37 = .ok (.iload_n 1, 1) := by decide +kernel
theorem dX6_removeBook_38 : decode cX6_removeBook 38 = .ok (.invokevirtual 60, 3) := by decide +kernel
theorem dX6_removeBook_41 : decode cX6_removeBook 41 = .ok (.aload_n 0, 1) := by decide +kernel
theorem dX6_removeBook_42 : decode cX6_removeBook 42 = .ok (.dup, 1) := by decide +kernel
theorem dX6_removeBook_43 : decode cX6_removeBook 43 = .ok (.getfield 40, 3) := by decide +kernel
theorem dX6_removeBook_46 : decode cX6_removeBook 46 = .ok (.iconst 1, 1) := by decide +kernel
theorem dX6_removeBook_47 : decode cX6_removeBook 47 = .ok (.isub, 1) := by decide +kernel
theorem dX6_removeBook_48 : decode cX6_removeBook 48 = .ok (.putfield 40, 3) := by decide +kernel
theorem dX6_removeBook_51 : decode cX6_removeBook 51 = .ok (.iconst 0, 1) := by decide +kernel
theorem dX6_removeBook_52 : decode cX6_removeBook 52 = .ok (.istore_n 2, 1) := by decide +kernel
theorem dX6_removeBook_53 : decode cX6_removeBook 53 = .ok (.iload_n 2, 1) := by decide +kernel
theorem dX6_removeBook_54 : decode cX6_removeBook 54 = .ok (.aload_n 0, 1) := by decide +kernel
theorem dX6_removeBook_55 : decode cX6_removeBook 55 = .ok (.getfield 40, 3) := by decide +kernel
theorem dX6_removeBook_58 : decode cX6_removeBook 58 = .ok (.if_icmp .ge 45, 3) := by decide +kernel
theorem dX6_removeBook_61 : decode cX6_removeBook 61 = .ok (.aload_n 0, 1) := by decide +kernel
theorem dX6_removeBook_62 : decode cX6_removeBook 62 = .ok (.getfield 15, 3) := by decide +kernel
theorem dX6_removeBook_65 : decode cX6_removeBook 65 = .ok (.iload_n 2, 1) := by decide +kernel
theorem dX6_removeBook_66 : decode cX6_removeBook 66 = .ok (.aload_n 0, 1) := by decide +kernel
theorem dX6_removeBook_67 : decode cX6_removeBook 67 = .ok (.getfield 15, 3) := by decide +kernel
theorem dX6_removeBook_70 : decode cX6_removeBook 70 = .ok (.iload_n 2, 1) := by decide +kernel
theorem dX6_removeBook_71 : decode cX6_removeBook 71 = .ok (.iaload, 1) := by decide +kernel
theorem dX6_removeBook_72 : decode cX6_removeBook 72 = .ok (.iload_n 1, 1) := by decide +kernel
theorem dX6_removeBook_73 : decode cX6_removeBook 73 = .ok (.invokestatic 64, 3) := by decide +kernel
theorem dX6_removeBook_76 : decode cX6_removeBook 76 = .ok (.iastore, 1) := by decide +kernel
theorem dX6_removeBook_77 : decode cX6_removeBook 77 = .ok (.aload_n 0, 1) := by decide +kernel
theorem dX6_removeBook_78 : decode cX6_removeBook 78 = .ok (.getfield 18, 3) := by decide +kernel
theorem dX6_removeBook_81 : decode cX6_removeBook 81 = .ok (.iload_n 2, 1) := by decide +kernel
theorem dX6_removeBook_82 : decode cX6_removeBook 82 = .ok (.iaload, 1) := by decide +kernel
theorem dX6_removeBook_83 : decode cX6_removeBook 83 = .ok (.iload_n 1, 1) := by decide +kernel
theorem dX6_removeBook_84 : decode cX6_removeBook 84 = .ok (.if_icmp .le 13, 3) := by decide +kernel
theorem dX6_removeBook_87 : decode cX6_removeBook 87 = .ok (.aload_n 0, 1) := by decide +kernel
theorem dX6_removeBook_88 : decode cX6_removeBook 88 = .ok (.getfield 18, 3) := by decide +kernel
theorem dX6_removeBook_91 : decode cX6_removeBook 91 = .ok (.iload_n 2, 1) := by decide +kernel
theorem dX6_removeBook_92 : decode cX6_removeBook 92 = .ok (.dup2, 1) := by decide +kernel
theorem dX6_removeBook_93 : decode cX6_removeBook 93 = .ok (.iaload, 1) := by decide +kernel
theorem dX6_removeBook_94 : decode cX6_removeBook 94 = .ok (.iconst 1, 1) := by decide +kernel
theorem dX6_removeBook_95 : decode cX6_removeBook 95 = .ok (.isub, 1) := by decide +kernel
theorem dX6_removeBook_96 : decode cX6_removeBook 96 = .ok (.iastore, 1) := by decide +kernel
theorem dX6_removeBook_97 : decode cX6_removeBook 97 = .ok (.iinc 2 1, 3) := by decide +kernel
theorem dX6_removeBook_100 : decode cX6_removeBook 100 = .ok (.goto (-47), 3) := by decide +kernel
theorem dX6_removeBook_103 : decode cX6_removeBook 103 = .ok (.aload_n 0, 1) := by decide +kernel
theorem dX6_removeBook_104 : decode cX6_removeBook 104 = .ok (.getfield 40, 3) := by decide +kernel
theorem dX6_removeBook_107 : decode cX6_removeBook 107 = .ok (.ireturn, 1) := by decide +kernel
theorem dX6_closeGap_0 : decode cX6_closeGap 0 = .ok (.iconst 0, 1) := by decide +kernel
theorem dX6_closeGap_1 : decode cX6_closeGap 1 = .ok (.iload_n 2, 1) := by decide +kernel
theorem dX6_closeGap_2 : decode cX6_closeGap 2 = .ok (.invokestatic 68, 3) := by decide +kernel
theorem dX6_closeGap_5 : decode cX6_closeGap 5 = .ok (.istore_n 3, 1) := by decide +kernel
theorem dX6_closeGap_6 : decode cX6_closeGap 6 = .ok (.iload_n 3, 1) := by decide +kernel
theorem dX6_closeGap_7 : decode cX6_closeGap 7 = .ok (.iconst 1, 1) := by decide +kernel
theorem dX6_closeGap_8 : decode cX6_closeGap 8 = .ok (.iadd, 1) := by decide +kernel
theorem dX6_closeGap_9 : decode cX6_closeGap 9 = .ok (.aload_n 0, 1) := by decide +kernel
theorem dX6_closeGap_10 : decode cX6_closeGap 10 = .ok (.getfield 40, 3) := by decide +kernel
theorem dX6_closeGap_13 : decode cX6_closeGap 13 = .ok (.if_icmp .ge 17, 3) := by decide +kernel
theorem dX6_closeGap_16 : decode cX6_closeGap 16 = .ok (.aload_n 1, 1) := by decide +kernel
theorem dX6_closeGap_17 : decode cX6_closeGap 17 = .ok (.iload_n 3, 1) := by decide +kernel
theorem dX6_closeGap_18 : decode cX6_closeGap 18 = .ok (.aload_n 1, 1) := by decide +kernel
theorem dX6_closeGap_19 : decode cX6_closeGap 19 = .ok (.iload_n 3, 1) := by decide +kernel
theorem dX6_closeGap_20 : decode cX6_closeGap 20 = .ok (.iconst 1, 1) := by decide +kernel
theorem dX6_closeGap_21 : decode cX6_closeGap 21 = .ok (.iadd, 1) := by decide +kernel
theorem dX6_closeGap_22 : decode cX6_closeGap 22 = .ok (.iaload, 1) := by decide +kernel
theorem dX6_closeGap_23 : decode cX6_closeGap 23 = .ok (.iastore, 1) := by decide +kernel
theorem dX6_closeGap_24 : decode cX6_closeGap 24 = .ok (.iinc 3 1, 3) := by decide +kernel
theorem dX6_closeGap_27 : decode cX6_closeGap 27 = .ok (.goto (-21), 3) := by decide +kernel
theorem dX6_closeGap_30 : decode cX6_closeGap 30 = .ok (.return_, 1) := by decide +kernel
theorem dX6_withoutBit_0 : decode cX6_withoutBit 0 = .ok (.iload_n 0, 1) := by decide +kernel
theorem dX6_withoutBit_1 : decode cX6_withoutBit 1 = .ok (.iconst 1, 1) := by decide +kernel
theorem dX6_withoutBit_2 : decode cX6_withoutBit 2 = .ok (.iload_n 1, 1) := by decide +kernel
theorem dX6_withoutBit_3 : decode cX6_withoutBit 3 = .ok (.ishl, 1) := by decide +kernel
theorem dX6_withoutBit_4 : decode cX6_withoutBit 4 = .ok (.iconst 1, 1) := by decide +kernel
theorem dX6_withoutBit_5 : decode cX6_withoutBit 5 = .ok (.isub, 1) := by decide +kernel
theorem dX6_withoutBit_6 : decode cX6_withoutBit 6 = .ok (.iand, 1) := by decide +kernel
theorem dX6_withoutBit_7 : decode cX6_withoutBit 7 = .ok (.istore_n 2, 1) := by decide +kernel
theorem dX6_withoutBit_8 : decode cX6_withoutBit 8 = .ok (.iload_n 0, 1) := by decide +kernel
theorem dX6_withoutBit_9 : decode cX6_withoutBit 9 = .ok (.iload_n 1, 1) := by decide +kernel
theorem dX6_withoutBit_10 : decode cX6_withoutBit 10 = .ok (.iconst 1, 1) := by decide +kernel
theorem dX6_withoutBit_11 : decode cX6_withoutBit 11 = .ok (.iadd, 1) := by decide +kernel
theorem dX6_withoutBit_12 : decode cX6_withoutBit 12 = .ok (.ishr, 1) := by decide +kernel
theorem dX6_withoutBit_13 : decode cX6_withoutBit 13 = .ok (.istore_n 3, 1) := by decide +kernel
theorem dX6_withoutBit_14 : decode cX6_withoutBit 14 = .ok (.iload_n 2, 1) := by decide +kernel
theorem dX6_withoutBit_15 : decode cX6_withoutBit 15 = .ok (.iload_n 3, 1) := by decide +kernel
theorem dX6_withoutBit_16 : decode cX6_withoutBit 16 = .ok (.iload_n 1, 1) := by decide +kernel
theorem dX6_withoutBit_17 : decode cX6_withoutBit 17 = .ok (.ishl, 1) := by decide +kernel
theorem dX6_withoutBit_18 : decode cX6_withoutBit 18 = .ok (.ior, 1) := by decide +kernel
theorem dX6_withoutBit_19 : decode cX6_withoutBit 19 = .ok (.ireturn, 1) := by decide +kernel
theorem dX6_turnAhead_0 : decode cX6_turnAhead 0 = .ok (.aload_n 0, 1) := by decide +kernel
theorem dX6_turnAhead_1 : decode cX6_turnAhead 1 = .ok (.iload_n 1, 1) := by decide +kernel
theorem dX6_turnAhead_2 : decode cX6_turnAhead 2 = .ok (.invokevirtual 53, 3) := by decide +kernel
theorem dX6_turnAhead_5 : decode cX6_turnAhead 5 = .ok (.ifCond .eq 16, 3) := by decide +kernel
theorem dX6_turnAhead_8 : decode cX6_turnAhead 8 = .ok (.aload_n 0, 1) := by decide +kernel
theorem dX6_turnAhead_9 : decode cX6_turnAhead 9 = .ok (.iload_n 2, 1) := by decide +kernel
theorem dX6_turnAhead_10 : decode cX6_turnAhead 10 = .ok (.invokevirtual 53, 3) := by decide +kernel
theorem dX6_turnAhead_13 : decode cX6_turnAhead 13 = .ok (.ifCond .eq 8, 3) := by decide +kernel
theorem dX6_turnAhead_16 : decode cX6_turnAhead 16 = .ok (.iload_n 1, 1) := by decide +kernel
theorem dX6_turnAhead_17 : decode cX6_turnAhead 17 = .ok (.iload_n 2, 1) := by decide +kernel
theorem dX6_turnAhead_18 : decode cX6_turnAhead 18 = .ok (.if_icmp .ne 5, 3) := by decide +kernel
theorem dX6_turnAhead_21 : decode cX6_turnAhead 21 = .ok (.iconst (-1), 1) := by decide +kernel
theorem dX6_turnAhead_22 : decode cX6_turnAhead 22 = .ok (.ireturn, 1) := by decide +kernel
theorem dX6_turnAhead_23 : decode cX6_turnAhead 23 = .ok (.aload_n 0, 1) := by decide +kernel
theorem dX6_turnAhead_24 : decode cX6_turnAhead 24 = .ok (.getfield 15, 3) := by decide +kernel
theorem dX6_turnAhead_27 : decode cX6_turnAhead 27 = .ok (.iload_n 1, 1) := by decide +kernel
theorem dX6_turnAhead_28 : decode cX6_turnAhead 28 = .ok (.iaload, 1) := by decide +kernel
theorem dX6_turnAhead_29 : decode cX6_turnAhead 29 = .ok (.iload_n 2, 1) := by decide +kernel
theorem dX6_turnAhead_30 : decode cX6_turnAhead 30 = .ok (.invokestatic 73, 3) := by decide +kernel
theorem dX6_turnAhead_33 : decode cX6_turnAhead 33 = .ok (.ifCond .eq 19, 3) := by decide +kernel
theorem dX6_turnAhead_36 : decode cX6_turnAhead 36 = .ok (.aload_n 0, 1) := by decide +kernel
theorem dX6_turnAhead_37 : decode cX6_turnAhead 37 = .ok (.getfield 15, 3) := by decide +kernel
theorem dX6_turnAhead_40 : decode cX6_turnAhead 40 = .ok (.iload_n 1, 1) := by decide +kernel
theorem dX6_turnAhead_41 : decode cX6_turnAhead 41 = .ok (.dup2, 1) := by decide +kernel
theorem dX6_turnAhead_42 : decode cX6_turnAhead 42 = .ok (.iaload, 1) := by decide +kernel
theorem dX6_turnAhead_43 : decode cX6_turnAhead 43 = .ok (.iconst 1, 1) := by decide +kernel
theorem dX6_turnAhead_44 : decode cX6_turnAhead 44 = .ok (.iload_n 2, 1) := by decide +kernel
theorem dX6_turnAhead_45 : decode cX6_turnAhead 45 = .ok (.ishl, 1) := by decide +kernel
theorem dX6_turnAhead_46 : decode cX6_turnAhead 46 = .ok (.iconst (-1), 1) := by decide +kernel
theorem dX6_turnAhead_47 : decode cX6_turnAhead 47 = .ok (.ixor, 1) := by decide +kernel
theorem dX6_turnAhead_48 : decode cX6_turnAhead 48 = .ok (.iand, 1) := by decide +kernel
theorem dX6_turnAhead_49 : decode cX6_turnAhead 49 = .ok (.iastore, 1) := by decide +kernel
theorem dX6_turnAhead_50 : decode cX6_turnAhead 50 = .ok (.iconst 0, 1) := by decide +kernel
theorem dX6_turnAhead_51 : decode cX6_turnAhead 51 = .ok (.ireturn, 1) := by decide +kernel
theorem dX6_turnAhead_52 : decode cX6_turnAhead 52 = .ok (.aload_n 0, 1) := by decide +kernel
theorem dX6_turnAhead_53 : decode cX6_turnAhead 53 = .ok (.iload_n 2, 1) := by decide +kernel
theorem dX6_turnAhead_54 : decode cX6_turnAhead 54 = .ok (.invokevirtual 77, 3) := by decide +kernel
theorem dX6_turnAhead_57 : decode cX6_turnAhead 57 = .ok (.iload_n 1, 1) := by decide +kernel
theorem dX6_turnAhead_58 : decode cX6_turnAhead 58 = .ok (.invokestatic 73, 3) := by decide +kernel
theorem dX6_turnAhead_61 : decode cX6_turnAhead 61 = .ok (.ifCond .eq 6, 3) := by decide +kernel
theorem dX6_turnAhead_64 : decode cX6_turnAhead 64 = .ok (.bipush (-2), 2) := by decide +kernel
theorem dX6_turnAhead_66 : decode cX6_turnAhead 66 = .ok (.ireturn, 1) := by decide +kernel
theorem dX6_turnAhead_67 : decode cX6_turnAhead 67 = .ok (.aload_n 0, 1) := by decide +kernel
theorem dX6_turnAhead_68 : decode cX6_turnAhead 68 = .ok (.getfield 15, 3) := by decide +kernel
theorem dX6_turnAhead_71 : decode cX6_turnAhead 71 = .ok (.iload_n 1, 1) := by decide +kernel
theorem dX6_turnAhead_72 : decode cX6_turnAhead 72 = .ok (.dup2, 1) := by decide +kernel
theorem dX6_turnAhead_73 : decode cX6_turnAhead 73 = .ok (.iaload, 1) := by decide +kernel
theorem dX6_turnAhead_74 : decode cX6_turnAhead 74 = .ok (.iconst 1, 1) := by decide +kernel
theorem dX6_turnAhead_75 : decode cX6_turnAhead 75 = .ok (.iload_n 2, 1) := by decide +kernel
theorem dX6_turnAhead_76 : decode cX6_turnAhead 76 = .ok (.ishl, 1) := by decide +kernel
theorem dX6_turnAhead_77 : decode cX6_turnAhead 77 = .ok (.ior, 1) := by decide +kernel
theorem dX6_turnAhead_78 : decode cX6_turnAhead 78 = .ok (.iastore, 1) := by decide +kernel
theorem dX6_turnAhead_79 : decode cX6_turnAhead 79 = .ok (.iconst 1, 1) := by decide +kernel
theorem dX6_turnAhead_80 : decode cX6_turnAhead 80 = .ok (.ireturn, 1) := by decide +kernel
theorem dX6_allBehind_0 : decode cX6_allBehind 0 = .ok (.aload_n 0, 1) := by decide +kernel
theorem dX6_allBehind_1 : decode cX6_allBehind 1 = .ok (.getfield 15, 3) := by decide +kernel
theorem dX6_allBehind_4 : decode cX6_allBehind 4 = .ok (.iload_n 1, 1) := by decide +kernel
theorem dX6_allBehind_5 : decode cX6_allBehind 5 = .ok (.iaload, 1) := by decide +kernel
theorem dX6_allBehind_6 : decode cX6_allBehind 6 = .ok (.istore_n 2, 1) := by decide +kernel
theorem dX6_allBehind_7 : decode cX6_allBehind 7 = .ok (.iconst 0, 1) := by decide +kernel
theorem dX6_allBehind_8 : decode cX6_allBehind 8 = .ok (.istore_n 3, 1) := by decide +kernel
theorem dX6_allBehind_9 : decode cX6_allBehind 9 = .ok (.iload_n 3, 1) := by decide +kernel
theorem dX6_allBehind_10 : decode cX6_allBehind 10 = .ok (.aload_n 0, 1) := by decide +kernel
theorem dX6_allBehind_11 : decode cX6_allBehind 11 = .ok (.getfield 40, 3) := by decide +kernel
theorem dX6_allBehind_14 : decode cX6_allBehind 14 = .ok (.if_icmp .ge 46, 3) := by decide +kernel
theorem dX6_allBehind_17 : decode cX6_allBehind 17 = .ok (.iconst 0, 1) := by decide +kernel
theorem dX6_allBehind_18 : decode cX6_allBehind 18 = .ok (.istore 4, 2) := by decide +kernel
theorem dX6_allBehind_20 : decode cX6_allBehind 20 = .ok (.iload 4, 2) := by decide +kernel
theorem dX6_allBehind_22 : decode cX6_allBehind 22 = .ok (.aload_n 0, 1) := by decide +kernel
theorem dX6_allBehind_23 : decode cX6_allBehind 23 = .ok (.getfield 40, 3) := by decide +kernel
theorem dX6_allBehind_26 : decode cX6_allBehind 26 = .ok (.if_icmp .ge 28, 3) := by decide +kernel
theorem dX6_allBehind_29 : decode cX6_allBehind 29 = .ok (.iload_n 2, 1) := by decide +kernel
theorem dX6_allBehind_30 : decode cX6_allBehind 30 = .ok (.iload 4, 2) := by decide +kernel
theorem dX6_allBehind_32 : decode cX6_allBehind 32 = .ok (.invokestatic 73, 3) := by decide +kernel
theorem dX6_allBehind_35 : decode cX6_allBehind 35 = .ok (.ifCond .eq 13, 3) := by decide +kernel
theorem dX6_allBehind_38 : decode cX6_allBehind 38 = .ok (.iload_n 2, 1) := by decide +kernel
theorem dX6_allBehind_39 : decode cX6_allBehind 39 = .ok (.aload_n 0, 1) := by decide +kernel
theorem dX6_allBehind_40 : decode cX6_allBehind 40 = .ok (.getfield 15, 3) := by decide +kernel
theorem dX6_allBehind_43 : decode cX6_allBehind 43 = .ok (.iload 4, 2) := by decide +kernel
theorem dX6_allBehind_45 : decode cX6_allBehind 45 = .ok (.iaload, 1) := by decide +kernel
theorem dX6_allBehind_46 : decode cX6_allBehind 46 = .ok (.ior, 1) := by decide +kernel
theorem dX6_allBehind_47 : decode cX6_allBehind 47 = .ok (.istore_n 2, 1) := by decide +kernel
theorem dX6_allBehind_48 : decode cX6_allBehind 48 = .ok (.iinc 4 1, 3) := by decide +kernel
theorem dX6_allBehind_51 : decode cX6_allBehind 51 = .ok (.goto (-31), 3) := by decide +kernel
theorem dX6_allBehind_54 : decode cX6_allBehind 54 = .ok (.iinc 3 1, 3) := by decide +kernel
theorem dX6_allBehind_57 : decode cX6_allBehind 57 = .ok (.goto (-48), 3) := by decide +kernel
theorem dX6_allBehind_60 : decode cX6_allBehind 60 = .ok (.iload_n 2, 1) := by decide +kernel
theorem dX6_allBehind_61 : decode cX6_allBehind 61 = .ok (.ireturn, 1) := by decide +kernel
theorem dX6_leaders_0 : decode cX6_leaders 0 = .ok (.iconst 0, 1) := by decide +kernel
theorem dX6_leaders_1 : decode cX6_leaders 1 = .ok (.istore_n 2, 1) := by decide +kernel
theorem dX6_leaders_2 : decode cX6_leaders 2 = .ok (.iconst 0, 1) := by decide +kernel
theorem dX6_leaders_3 : decode cX6_leaders 3 = .ok (.istore_n 3, 1) := by decide +kernel
theorem dX6_leaders_4 : decode cX6_leaders 4 = .ok (.iload_n 3, 1) := by decide +kernel
theorem dX6_leaders_5 : decode cX6_leaders 5 = .ok (.aload_n 0, 1) := by decide +kernel
theorem dX6_leaders_6 : decode cX6_leaders 6 = .ok (.getfield 40, 3) := by decide +kernel
theorem dX6_leaders_9 : decode cX6_leaders 9 = .ok (.if_icmp .ge 28, 3) := by decide +kernel
theorem dX6_leaders_12 : decode cX6_leaders 12 = .ok (.aload_n 0, 1) := by decide +kernel
theorem dX6_leaders_13 : decode cX6_leaders 13 = .ok (.getfield 15, 3) := by decide +kernel
theorem dX6_leaders_16 : decode cX6_leaders 16 = .ok (.iload_n 3, 1) := by decide +kernel
theorem dX6_leaders_17 : decode cX6_leaders 17 = .ok (.iaload, 1) := by decide +kernel
theorem dX6_leaders_18 : decode cX6_leaders 18 = .ok (.iload_n 1, 1) := by decide +kernel
theorem dX6_leaders_19 : decode cX6_leaders 19 = .ok (.invokestatic 73, 3) := by decide +kernel
theorem dX6_leaders_22 : decode cX6_leaders 22 = .ok (.ifCond .eq 9, 3) := by decide +kernel
theorem dX6_leaders_25 : decode cX6_leaders 25 = .ok (.iload_n 2, 1) := by decide +kernel
theorem dX6_leaders_26 : decode cX6_leaders 26 = .ok (.iconst 1, 1) := by decide +kernel
theorem dX6_leaders_27 : decode cX6_leaders 27 = .ok (.iload_n 3, 1) := by decide +kernel
theorem dX6_leaders_28 : decode cX6_leaders 28 = .ok (.ishl, 1) := by decide +kernel
theorem dX6_leaders_29 : decode cX6_leaders 29 = .ok (.ior, 1) := by decide +kernel
theorem dX6_leaders_30 : decode cX6_leaders 30 = .ok (.istore_n 2, 1) := by decide +kernel
theorem dX6_leaders_31 : decode cX6_leaders 31 = .ok (.iinc 3 1, 3) := by decide +kernel
theorem dX6_leaders_34 : decode cX6_leaders 34 = .ok (.goto (-30), 3) := by decide +kernel
theorem dX6_leaders_37 : decode cX6_leaders 37 = .ok (.iload_n 2, 1) := by decide +kernel
theorem dX6_leaders_38 : decode cX6_leaders 38 = .ok (.ireturn, 1) := by decide +kernel
theorem dX6_changePrior_0 : decode cX6_changePrior 0 = .ok (.iload_n 1, 1) := by decide +kernel
theorem dX6_changePrior_1 : decode cX6_changePrior 1 = .ok (.ifCond .lt 9, 3) := by decide +kernel
theorem dX6_changePrior_4 : decode cX6_changePrior 4 = .ok (.iload_n 1, 1) := by decide +kernel
theorem dX6_changePrior_5 : decode cX6_changePrior 5 = .ok (.ldc 48, 2) := by decide +kernel
theorem dX6_changePrior_7 : decode cX6_changePrior 7 = .ok (.if_icmp .le 5, 3) := by decide +kernel
theorem dX6_changePrior_10 : decode cX6_changePrior 10 = .ok (.iconst (-1), 1) := by decide +kernel
theorem dX6_changePrior_11 : decode cX6_changePrior 11 = .ok (.ireturn, 1) := by decide +kernel
theorem dX6_changePrior_12 : decode cX6_changePrior 12 = .ok (.aload_n 0, 1) := by decide +kernel
theorem dX6_changePrior_13 : decode cX6_changePrior 13 = .ok (.getfield 43, 3) := by decide +kernel
theorem dX6_changePrior_16 : decode cX6_changePrior 16 = .ok (.istore_n 2, 1) := by decide +kernel
theorem dX6_changePrior_17 : decode cX6_changePrior 17 = .ok (.iload_n 2, 1) := by decide +kernel
theorem dX6_changePrior_18 : decode cX6_changePrior 18 = .ok (.iload_n 1, 1) := by decide +kernel
theorem dX6_changePrior_19 : decode cX6_changePrior 19 = .ok (.if_icmp .ne 6, 3) := by decide +kernel
theorem dX6_changePrior_22 : decode cX6_changePrior 22 = .ok (.bipush (-2), 2) := by decide +kernel
theorem dX6_changePrior_24 : decode cX6_changePrior 24 = .ok (.ireturn, 1) := by decide +kernel
theorem dX6_changePrior_25 : decode cX6_changePrior 25 = .ok (.aload_n 0, 1) := by decide +kernel
theorem dX6_changePrior_26 : decode cX6_changePrior 26 = .ok (.iload_n 1, 1) := by decide +kernel
theorem dX6_changePrior_27 : decode cX6_changePrior 27 = .ok (.putfield 43, 3) := by decide +kernel
theorem dX6_changePrior_30 : decode cX6_changePrior 30 = .ok (.iload_n 2, 1) := by decide +kernel
theorem dX6_changePrior_31 : decode cX6_changePrior 31 = .ok (.ireturn, 1) := by decide +kernel
theorem dX6_changeRules_0 : decode cX6_changeRules 0 = .ok (.iload_n 1, 1) := by decide +kernel
theorem dX6_changeRules_1 : decode cX6_changeRules 1 = .ok (.tableswitch 45 0 2 #[27, 33, 39], 27) := by decide +kernel
theorem dX6_changeRules_28 : decode cX6_changeRules 28 = .ok (.aload_n 0, 1) := by decide +kernel
theorem dX6_changeRules_29 : decode cX6_changeRules 29 = .ok (.iload_n 2, 1) := by decide +kernel
theorem dX6_changeRules_30 : decode cX6_changeRules 30 = .ok (.invokevirtual 80, 3) := by decide +kernel
theorem dX6_changeRules_33 : decode cX6_changeRules 33 = .ok (.ireturn, 1) := by decide +kernel
theorem dX6_changeRules_34 : decode cX6_changeRules 34 = .ok (.aload_n 0, 1) := by decide +kernel
theorem dX6_changeRules_35 : decode cX6_changeRules 35 = .ok (.iload_n 2, 1) := by decide +kernel
theorem dX6_changeRules_36 : decode cX6_changeRules 36 = .ok (.invokevirtual 83, 3) := by decide +kernel
theorem dX6_changeRules_39 : decode cX6_changeRules 39 = .ok (.ireturn, 1) := by decide +kernel
theorem dX6_changeRules_40 : decode cX6_changeRules 40 = .ok (.aload_n 0, 1) := by decide +kernel
theorem dX6_changeRules_41 : decode cX6_changeRules 41 = .ok (.iload_n 2, 1) := by decide +kernel
theorem dX6_changeRules_42 : decode cX6_changeRules 42 = .ok (.invokevirtual 86, 3) := by decide +kernel
theorem dX6_changeRules_45 : decode cX6_changeRules 45 = .ok (.ireturn, 1) := by decide +kernel
theorem dX6_changeRules_46 : decode cX6_changeRules 46 = .ok (.iconst (-1), 1) := by decide +kernel
theorem dX6_changeRules_47 : decode cX6_changeRules 47 = .ok (.ireturn, 1) := by decide +kernel
theorem dX6_changeSpan_0 : decode cX6_changeSpan 0 = .ok (.iload_n 1, 1) := by decide +kernel
theorem dX6_changeSpan_1 : decode cX6_changeSpan 1 = .ok (.iconst 1, 1) := by decide +kernel
theorem dX6_changeSpan_2 : decode cX6_changeSpan 2 = .ok (.if_icmp .lt 8, 3) := by decide +kernel
theorem dX6_changeSpan_5 : decode cX6_changeSpan 5 = .ok (.iload_n 1, 1) := by decide +kernel
theorem dX6_changeSpan_6 : decode cX6_changeSpan 6 = .ok (.iconst 4, 1) := by decide +kernel
theorem dX6_changeSpan_7 : decode cX6_changeSpan 7 = .ok (.if_icmp .le 5, 3) := by decide +kernel
theorem dX6_changeSpan_10 : decode cX6_changeSpan 10 = .ok (.iconst (-1), 1) := by decide +kernel
theorem dX6_changeSpan_11 : decode cX6_changeSpan 11 = .ok (.ireturn, 1) := by decide +kernel
theorem dX6_changeSpan_12 : decode cX6_changeSpan 12 = .ok (.aload_n 0, 1) := by decide +kernel
theorem dX6_changeSpan_13 : decode cX6_changeSpan 13 = .ok (.getfield 21, 3) := by decide +kernel
theorem dX6_changeSpan_16 : decode cX6_changeSpan 16 = .ok (.istore_n 2, 1) := by decide +kernel
theorem dX6_changeSpan_17 : decode cX6_changeSpan 17 = .ok (.aload_n 0, 1) := by decide +kernel
theorem dX6_changeSpan_18 : decode cX6_changeSpan 18 = .ok (.iload_n 1, 1) := by decide +kernel
theorem dX6_changeSpan_19 : decode cX6_changeSpan 19 = .ok (.putfield 21, 3) := by decide +kernel
theorem dX6_changeSpan_22 : decode cX6_changeSpan 22 = .ok (.iload_n 2, 1) := by decide +kernel
theorem dX6_changeSpan_23 : decode cX6_changeSpan 23 = .ok (.iload_n 1, 1) := by decide +kernel
theorem dX6_changeSpan_24 : decode cX6_changeSpan 24 = .ok (.if_icmp .ne 8, 3) := by decide +kernel
theorem dX6_changeSpan_27 : decode cX6_changeSpan 27 = .ok (.bipush (-2), 2) := by decide +kernel
theorem dX6_changeSpan_29 : decode cX6_changeSpan 29 = .ok (.goto 4, 3) := by decide +kernel
theorem dX6_changeSpan_32 : decode cX6_changeSpan 32 = .ok (.iload_n 2, 1) := by decide +kernel
theorem dX6_changeSpan_33 : decode cX6_changeSpan 33 = .ok (.ireturn, 1) := by decide +kernel
theorem dX6_changeBound_0 : decode cX6_changeBound 0 = .ok (.iload_n 1, 1) := by decide +kernel
theorem dX6_changeBound_1 : decode cX6_changeBound 1 = .ok (.ifCond .lt 9, 3) := by decide +kernel
theorem dX6_changeBound_4 : decode cX6_changeBound 4 = .ok (.iload_n 1, 1) := by decide +kernel
theorem dX6_changeBound_5 : decode cX6_changeBound 5 = .ok (.bipush 20, 2) := by decide +kernel
theorem dX6_changeBound_7 : decode cX6_changeBound 7 = .ok (.if_icmp .le 5, 3) := by decide +kernel
theorem dX6_changeBound_10 : decode cX6_changeBound 10 = .ok (.iconst (-1), 1) := by decide +kernel
theorem dX6_changeBound_11 : decode cX6_changeBound 11 = .ok (.ireturn, 1) := by decide +kernel
theorem dX6_changeBound_12 : decode cX6_changeBound 12 = .ok (.aload_n 0, 1) := by decide +kernel
theorem dX6_changeBound_13 : decode cX6_changeBound 13 = .ok (.getfield 25, 3) := by decide +kernel
theorem dX6_changeBound_16 : decode cX6_changeBound 16 = .ok (.istore_n 2, 1) := by decide +kernel
theorem dX6_changeBound_17 : decode cX6_changeBound 17 = .ok (.aload_n 0, 1) := by decide +kernel
theorem dX6_changeBound_18 : decode cX6_changeBound 18 = .ok (.iload_n 1, 1) := by decide +kernel
theorem dX6_changeBound_19 : decode cX6_changeBound 19 = .ok (.putfield 25, 3) := by decide +kernel
theorem dX6_changeBound_22 : decode cX6_changeBound 22 = .ok (.iload_n 2, 1) := by decide +kernel
theorem dX6_changeBound_23 : decode cX6_changeBound 23 = .ok (.iload_n 1, 1) := by decide +kernel
theorem dX6_changeBound_24 : decode cX6_changeBound 24 = .ok (.if_icmp .ne 8, 3) := by decide +kernel
theorem dX6_changeBound_27 : decode cX6_changeBound 27 = .ok (.bipush (-2), 2) := by decide +kernel
theorem dX6_changeBound_29 : decode cX6_changeBound 29 = .ok (.goto 4, 3) := by decide +kernel
theorem dX6_changeBound_32 : decode cX6_changeBound 32 = .ok (.iload_n 2, 1) := by decide +kernel
theorem dX6_changeBound_33 : decode cX6_changeBound 33 = .ok (.ireturn, 1) := by decide +kernel
theorem dX6_changeRule_0 : decode cX6_changeRule 0 = .ok (.iload_n 1, 1) := by decide +kernel
theorem dX6_changeRule_1 : decode cX6_changeRule 1 = .ok (.ifCond .lt 8, 3) := by decide +kernel
theorem dX6_changeRule_4 : decode cX6_changeRule 4 = .ok (.iload_n 1, 1) := by decide +kernel
theorem dX6_changeRule_5 : decode cX6_changeRule 5 = .ok (.iconst 3, 1) := by decide +kernel
theorem dX6_changeRule_6 : decode cX6_changeRule 6 = .ok (.if_icmp .lt 5, 3) := by decide +kernel
theorem dX6_changeRule_9 : decode cX6_changeRule 9 = .ok (.iconst (-1), 1) := by decide +kernel
theorem dX6_changeRule_10 : decode cX6_changeRule 10 = .ok (.ireturn, 1) := by decide +kernel
theorem dX6_changeRule_11 : decode cX6_changeRule 11 = .ok (.aload_n 0, 1) := by decide +kernel
theorem dX6_changeRule_12 : decode cX6_changeRule 12 = .ok (.getfield 28, 3) := by decide +kernel
theorem dX6_changeRule_15 : decode cX6_changeRule 15 = .ok (.istore_n 2, 1) := by decide +kernel
theorem dX6_changeRule_16 : decode cX6_changeRule 16 = .ok (.aload_n 0, 1) := by decide +kernel
theorem dX6_changeRule_17 : decode cX6_changeRule 17 = .ok (.iload_n 1, 1) := by decide +kernel
theorem dX6_changeRule_18 : decode cX6_changeRule 18 = .ok (.putfield 28, 3) := by decide +kernel
theorem dX6_changeRule_21 : decode cX6_changeRule 21 = .ok (.iload_n 2, 1) := by decide +kernel
theorem dX6_changeRule_22 : decode cX6_changeRule 22 = .ok (.iload_n 1, 1) := by decide +kernel
theorem dX6_changeRule_23 : decode cX6_changeRule 23 = .ok (.if_icmp .ne 8, 3) := by decide +kernel
theorem dX6_changeRule_26 : decode cX6_changeRule 26 = .ok (.bipush (-2), 2) := by decide +kernel
theorem dX6_changeRule_28 : decode cX6_changeRule 28 = .ok (.goto 4, 3) := by decide +kernel
theorem dX6_changeRule_31 : decode cX6_changeRule 31 = .ok (.iload_n 2, 1) := by decide +kernel
theorem dX6_changeRule_32 : decode cX6_changeRule 32 = .ok (.ireturn, 1) := by decide +kernel
theorem dX6_moveBook_0 : decode cX6_moveBook 0 = .ok (.aload_n 0, 1) := by decide +kernel
theorem dX6_moveBook_1 : decode cX6_moveBook 1 = .ok (.iload_n 1, 1) := by decide +kernel
theorem dX6_moveBook_2 : decode cX6_moveBook 2 = .ok (.invokevirtual 53, 3) := by decide +kernel
theorem dX6_moveBook_5 : decode cX6_moveBook 5 = .ok (.ifCond .eq 11, 3) := by decide +kernel
theorem dX6_moveBook_8 : decode cX6_moveBook 8 = .ok (.aload_n 0, 1) := by decide +kernel
theorem dX6_moveBook_9 : decode cX6_moveBook 9 = .ok (.iload_n 2, 1) := by decide +kernel
theorem dX6_moveBook_10 : decode cX6_moveBook 10 = .ok (.invokevirtual 53, 3) := by decide +kernel
theorem dX6_moveBook_13 : decode cX6_moveBook 13 = .ok (.ifCond .ne 5, 3) := by decide +kernel
theorem dX6_moveBook_16 : decode cX6_moveBook 16 = .ok (.iconst (-1), 1) := by decide +kernel
theorem dX6_moveBook_17 : decode cX6_moveBook 17 = .ok (.ireturn, 1) := by decide +kernel
theorem dX6_moveBook_18 : decode cX6_moveBook 18 = .ok (.iload_n 1, 1) := by decide +kernel
theorem dX6_moveBook_19 : decode cX6_moveBook 19 = .ok (.iload_n 2, 1) := by decide +kernel
theorem dX6_moveBook_20 : decode cX6_moveBook 20 = .ok (.if_icmp .ne 6, 3) := by decide +kernel
theorem dX6_moveBook_23 : decode cX6_moveBook 23 = .ok (.bipush (-2), 2) := by decide +kernel
theorem dX6_moveBook_25 : decode cX6_moveBook 25 = .ok (.ireturn, 1) := by decide +kernel
theorem dX6_moveBook_26 : decode cX6_moveBook 26 = .ok (.aload_n 0, 1) := by decide +kernel
theorem dX6_moveBook_27 : decode cX6_moveBook 27 = .ok (.getfield 18, 3) := by decide +kernel
theorem dX6_moveBook_30 : decode cX6_moveBook 30 = .ok (.iload_n 1, 1) := by decide +kernel
theorem dX6_moveBook_31 : decode cX6_moveBook 31 = .ok (.iaload, 1) := by decide +kernel
theorem dX6_moveBook_32 : decode cX6_moveBook 32 = .ok (.istore_n 3, 1) := by decide +kernel
theorem dX6_moveBook_33 : decode cX6_moveBook 33 = .ok (.iload_n 1, 1) := by decide +kernel
theorem dX6_moveBook_34 : decode cX6_moveBook 34 = .ok (.istore 4, 2) := by decide +kernel
theorem dX6_moveBook_36 : decode cX6_moveBook 36 = .ok (.iload 4, 2) := by decide +kernel
theorem dX6_moveBook_38 : decode cX6_moveBook 38 = .ok (.iload_n 2, 1) := by decide +kernel
theorem dX6_moveBook_39 : decode cX6_moveBook 39 = .ok (.if_icmp .ge 25, 3) := by decide +kernel
theorem dX6_moveBook_42 : decode cX6_moveBook 42 = .ok (.aload_n 0, 1) := by decide +kernel
theorem dX6_moveBook_43 : decode cX6_moveBook 43 = .ok (.getfield 18, 3) := by decide +kernel
theorem dX6_moveBook_46 : decode cX6_moveBook 46 = .ok (.iload 4, 2) := by decide +kernel
theorem dX6_moveBook_48 : decode cX6_moveBook 48 = .ok (.aload_n 0, 1) := by decide +kernel
theorem dX6_moveBook_49 : decode cX6_moveBook 49 = .ok (.getfield 18, 3) := by decide +kernel
theorem dX6_moveBook_52 : decode cX6_moveBook 52 = .ok (.iload 4, 2) := by decide +kernel
theorem dX6_moveBook_54 : decode cX6_moveBook 54 = .ok (.iconst 1, 1) := by decide +kernel
theorem dX6_moveBook_55 : decode cX6_moveBook 55 = .ok (.iadd, 1) := by decide +kernel
theorem dX6_moveBook_56 : decode cX6_moveBook 56 = .ok (.iaload, 1) := by decide +kernel
theorem dX6_moveBook_57 : decode cX6_moveBook 57 = .ok (.iastore, 1) := by decide +kernel
theorem dX6_moveBook_58 : decode cX6_moveBook 58 = .ok (.iinc 4 1, 3) := by decide +kernel
theorem dX6_moveBook_61 : decode cX6_moveBook 61 = .ok (.goto (-25), 3) := by decide +kernel
theorem dX6_moveBook_64 : decode cX6_moveBook 64 = .ok (.iload_n 1, 1) := by decide +kernel
theorem dX6_moveBook_65 : decode cX6_moveBook 65 = .ok (.istore 4, 2) := by decide +kernel
theorem dX6_moveBook_67 : decode cX6_moveBook 67 = .ok (.iload 4, 2) := by decide +kernel
theorem dX6_moveBook_69 : decode cX6_moveBook 69 = .ok (.iload_n 2, 1) := by decide +kernel
theorem dX6_moveBook_70 : decode cX6_moveBook 70 = .ok (.if_icmp .le 25, 3) := by decide +kernel
theorem dX6_moveBook_73 : decode cX6_moveBook 73 = .ok (.aload_n 0, 1) := by decide +kernel
theorem dX6_moveBook_74 : decode cX6_moveBook 74 = .ok (.getfield 18, 3) := by decide +kernel
theorem dX6_moveBook_77 : decode cX6_moveBook 77 = .ok (.iload 4, 2) := by decide +kernel
theorem dX6_moveBook_79 : decode cX6_moveBook 79 = .ok (.aload_n 0, 1) := by decide +kernel
theorem dX6_moveBook_80 : decode cX6_moveBook 80 = .ok (.getfield 18, 3) := by decide +kernel
theorem dX6_moveBook_83 : decode cX6_moveBook 83 = .ok (.iload 4, 2) := by decide +kernel
theorem dX6_moveBook_85 : decode cX6_moveBook 85 = .ok (.iconst 1, 1) := by decide +kernel
theorem dX6_moveBook_86 : decode cX6_moveBook 86 = .ok (.isub, 1) := by decide +kernel
theorem dX6_moveBook_87 : decode cX6_moveBook 87 = .ok (.iaload, 1) := by decide +kernel
theorem dX6_moveBook_88 : decode cX6_moveBook 88 = .ok (.iastore, 1) := by decide +kernel
theorem dX6_moveBook_89 : decode cX6_moveBook 89 = .ok (.iinc 4 (-1), 3) := by decide +kernel
theorem dX6_moveBook_92 : decode cX6_moveBook 92 = .ok (.goto (-25), 3) := by decide +kernel
theorem dX6_moveBook_95 : decode cX6_moveBook 95 = .ok (.aload_n 0, 1) := by decide +kernel
theorem dX6_moveBook_96 : decode cX6_moveBook 96 = .ok (.getfield 18, 3) := by decide +kernel
theorem dX6_moveBook_99 : decode cX6_moveBook 99 = .ok (.iload_n 2, 1) := by decide +kernel
theorem dX6_moveBook_100 : decode cX6_moveBook 100 = .ok (.iload_n 3, 1) := by decide +kernel
theorem dX6_moveBook_101 : decode cX6_moveBook 101 = .ok (.iastore, 1) := by decide +kernel
theorem dX6_moveBook_102 : decode cX6_moveBook 102 = .ok (.iload_n 3, 1) := by decide +kernel
theorem dX6_moveBook_103 : decode cX6_moveBook 103 = .ok (.ireturn, 1) := by decide +kernel
theorem dX6_changeOrder_0 : decode cX6_changeOrder 0 = .ok (.aload_n 0, 1) := by decide +kernel
theorem dX6_changeOrder_1 : decode cX6_changeOrder 1 = .ok (.aload_n 1, 1) := by decide +kernel
theorem dX6_changeOrder_2 : decode cX6_changeOrder 2 = .ok (.invokevirtual 89, 3) := by decide +kernel
theorem dX6_changeOrder_5 : decode cX6_changeOrder 5 = .ok (.istore_n 2, 1) := by decide +kernel
theorem dX6_changeOrder_6 : decode cX6_changeOrder 6 = .ok (.iload_n 2, 1) := by decide +kernel
theorem dX6_changeOrder_7 : decode cX6_changeOrder 7 = .ok (.aload_n 0, 1) := by decide +kernel
theorem dX6_changeOrder_8 : decode cX6_changeOrder 8 = .ok (.aload_n 0, 1) := by decide +kernel
theorem dX6_changeOrder_9 : decode cX6_changeOrder 9 = .ok (.getfield 18, 3) := by decide +kernel
theorem dX6_changeOrder_12 : decode cX6_changeOrder 12 = .ok (.invokevirtual 89, 3) := by decide +kernel
theorem dX6_changeOrder_15 : decode cX6_changeOrder 15 = .ok (.if_icmp .ne 6, 3) := by decide +kernel
theorem dX6_changeOrder_18 : decode cX6_changeOrder 18 = .ok (.bipush (-2), 2) := by decide +kernel
theorem dX6_changeOrder_20 : decode cX6_changeOrder 20 = .ok (.ireturn, 1) := by decide +kernel
theorem dX6_changeOrder_21 : decode cX6_changeOrder 21 = .ok (.aload_n 1, 1) := by decide +kernel
theorem dX6_changeOrder_22 : decode cX6_changeOrder 22 = .ok (.iconst 0, 1) := by decide +kernel
theorem dX6_changeOrder_23 : decode cX6_changeOrder 23 = .ok (.aload_n 0, 1) := by decide +kernel
theorem dX6_changeOrder_24 : decode cX6_changeOrder 24 = .ok (.getfield 18, 3) := by decide +kernel
theorem dX6_changeOrder_27 : decode cX6_changeOrder 27 = .ok (.iconst 0, 1) := by decide +kernel
theorem dX6_changeOrder_28 : decode cX6_changeOrder 28 = .ok (.bipush 7, 2) := by decide +kernel
theorem dX6_changeOrder_30 : decode cX6_changeOrder 30 = .ok (.invokestatic 34, 3) := by decide +kernel
theorem dX6_changeOrder_33 : decode cX6_changeOrder 33 = .ok (.iload_n 2, 1) := by decide +kernel
theorem dX6_changeOrder_34 : decode cX6_changeOrder 34 = .ok (.ireturn, 1) := by decide +kernel
theorem dX6_number_0 : decode cX6_number 0 = .ok (.iconst 0, 1) := by decide +kernel
theorem dX6_number_1 : decode cX6_number 1 = .ok (.istore_n 2, 1) := by decide +kernel
theorem dX6_number_2 : decode cX6_number 2 = .ok (.iconst 0, 1) := by decide +kernel
theorem dX6_number_3 : decode cX6_number 3 = .ok (.istore_n 3, 1) := by decide +kernel
theorem dX6_number_4 : decode cX6_number 4 = .ok (.iload_n 3, 1) := by decide +kernel
theorem dX6_number_5 : decode cX6_number 5 = .ok (.aload_n 0, 1) := by decide +kernel
theorem dX6_number_6 : decode cX6_number 6 = .ok (.getfield 40, 3) := by decide +kernel
theorem dX6_number_9 : decode cX6_number 9 = .ok (.if_icmp .ge 18, 3) := by decide +kernel
theorem dX6_number_12 : decode cX6_number 12 = .ok (.iload_n 2, 1) := by decide +kernel
theorem dX6_number_13 : decode cX6_number 13 = .ok (.bipush 10, 2) := by decide +kernel
theorem dX6_number_15 : decode cX6_number 15 = .ok (.imul, 1) := by decide +kernel
theorem dX6_number_16 : decode cX6_number 16 = .ok (.aload_n 1, 1) := by decide +kernel
theorem dX6_number_17 : decode cX6_number 17 = .ok (.iload_n 3, 1) := by decide +kernel
theorem dX6_number_18 : decode cX6_number 18 = .ok (.iaload, 1) := by decide +kernel
theorem dX6_number_19 : decode cX6_number 19 = .ok (.iadd, 1) := by decide +kernel
theorem dX6_number_20 : decode cX6_number 20 = .ok (.istore_n 2, 1) := by decide +kernel
theorem dX6_number_21 : decode cX6_number 21 = .ok (.iinc 3 1, 3) := by decide +kernel
theorem dX6_number_24 : decode cX6_number 24 = .ok (.goto (-20), 3) := by decide +kernel
theorem dX6_number_27 : decode cX6_number 27 = .ok (.iload_n 2, 1) := by decide +kernel
theorem dX6_number_28 : decode cX6_number 28 = .ok (.ireturn, 1) := by decide +kernel
theorem dX6_placeOf_0 : decode cX6_placeOf 0 = .ok (.iconst 0, 1) := by decide +kernel
theorem dX6_placeOf_1 : decode cX6_placeOf 1 = .ok (.istore_n 2, 1) := by decide +kernel
theorem dX6_placeOf_2 : decode cX6_placeOf 2 = .ok (.iload_n 2, 1) := by decide +kernel
theorem dX6_placeOf_3 : decode cX6_placeOf 3 = .ok (.aload_n 0, 1) := by decide +kernel
theorem dX6_placeOf_4 : decode cX6_placeOf 4 = .ok (.getfield 40, 3) := by decide +kernel
theorem dX6_placeOf_7 : decode cX6_placeOf 7 = .ok (.if_icmp .ge 21, 3) := by decide +kernel
theorem dX6_placeOf_10 : decode cX6_placeOf 10 = .ok (.aload_n 0, 1) := by decide +kernel
theorem dX6_placeOf_11 : decode cX6_placeOf 11 = .ok (.getfield 18, 3) := by decide +kernel
theorem dX6_placeOf_14 : decode cX6_placeOf 14 = .ok (.iload_n 2, 1) := by decide +kernel
theorem dX6_placeOf_15 : decode cX6_placeOf 15 = .ok (.iaload, 1) := by decide +kernel
theorem dX6_placeOf_16 : decode cX6_placeOf 16 = .ok (.iload_n 1, 1) := by decide +kernel
theorem dX6_placeOf_17 : decode cX6_placeOf 17 = .ok (.if_icmp .ne 5, 3) := by decide +kernel
theorem dX6_placeOf_20 : decode cX6_placeOf 20 = .ok (.iload_n 2, 1) := by decide +kernel
theorem dX6_placeOf_21 : decode cX6_placeOf 21 = .ok (.ireturn, 1) := by decide +kernel
theorem dX6_placeOf_22 : decode cX6_placeOf 22 = .ok (.iinc 2 1, 3) := by decide +kernel
theorem dX6_placeOf_25 : decode cX6_placeOf 25 = .ok (.goto (-23), 3) := by decide +kernel
theorem dX6_placeOf_28 : decode cX6_placeOf 28 = .ok (.bipush (-4), 2) := by decide +kernel
theorem dX6_placeOf_30 : decode cX6_placeOf 30 = .ok (.ireturn, 1) := by decide +kernel
theorem dX6_wordsThatCount_0 : decode cX6_wordsThatCount 0 = .ok (.aload_n 0, 1) := by decide +kernel
theorem dX6_wordsThatCount_1 : decode cX6_wordsThatCount 1 = .ok (.iload_n 1, 1) := by decide +kernel
theorem dX6_wordsThatCount_2 : decode cX6_wordsThatCount 2 = .ok (.invokevirtual 53, 3) := by decide +kernel
theorem dX6_wordsThatCount_5 : decode cX6_wordsThatCount 5 = .ok (.ifCond .eq 19, 3) := by decide +kernel
theorem dX6_wordsThatCount_8 : decode cX6_wordsThatCount 8 = .ok (.aload_n 0, 1) := by decide +kernel
theorem dX6_wordsThatCount_9 : decode cX6_wordsThatCount 9 = .ok (.getfield 9, 3) := by decide +kernel
theorem dX6_wordsThatCount_12 : decode cX6_wordsThatCount 12 = .ok (.iload_n 1, 1) := by decide +kernel
theorem dX6_wordsThatCount_13 : decode cX6_wordsThatCount 13 = .ok (.iaload, 1) := by decide +kernel
theorem dX6_wordsThatCount_14 : decode cX6_wordsThatCount 14 = .ok (.aload_n 0, 1) := by decide +kernel
theorem dX6_wordsThatCount_15 : decode cX6_wordsThatCount 15 = .ok (.getfield 43, 3) := by decide +kernel
theorem dX6_wordsThatCount_18 : decode cX6_wordsThatCount 18 = .ok (.iconst (-1), 1) := by decide +kernel
theorem dX6_wordsThatCount_19 : decode cX6_wordsThatCount 19 = .ok (.ixor, 1) := by decide +kernel
theorem dX6_wordsThatCount_20 : decode cX6_wordsThatCount 20 = .ok (.iand, 1) := by decide +kernel
theorem dX6_wordsThatCount_21 : decode cX6_wordsThatCount 21 = .ok (.goto 4, 3) := by decide +kernel
theorem dX6_wordsThatCount_24 : decode cX6_wordsThatCount 24 = .ok (.iconst 0, 1) := by decide +kernel
theorem dX6_wordsThatCount_25 : decode cX6_wordsThatCount 25 = .ok (.ireturn, 1) := by decide +kernel
theorem dX6_holds_0 : decode cX6_holds 0 = .ok (.iconst 1, 1) := by decide +kernel
theorem dX6_holds_1 : decode cX6_holds 1 = .ok (.aload_n 0, 1) := by decide +kernel
theorem dX6_holds_2 : decode cX6_holds 2 = .ok (.getfield 40, 3) := by decide +kernel
theorem dX6_holds_5 : decode cX6_holds 5 = .ok (.ishl, 1) := by decide +kernel
theorem dX6_holds_6 : decode cX6_holds 6 = .ok (.iconst 1, 1) := by decide +kernel
theorem dX6_holds_7 : decode cX6_holds 7 = .ok (.isub, 1) := by decide +kernel
theorem dX6_holds_8 : decode cX6_holds 8 = .ok (.istore_n 1, 1) := by decide +kernel
theorem dX6_holds_9 : decode cX6_holds 9 = .ok (.iconst 0, 1) := by decide +kernel
theorem dX6_holds_10 : decode cX6_holds 10 = .ok (.istore_n 2, 1) := by decide +kernel
theorem dX6_holds_11 : decode cX6_holds 11 = .ok (.iload_n 2, 1) := by decide +kernel
theorem dX6_holds_12 : decode cX6_holds 12 = .ok (.aload_n 0, 1) := by decide +kernel
theorem dX6_holds_13 : decode cX6_holds 13 = .ok (.getfield 40, 3) := by decide +kernel
theorem dX6_holds_16 : decode cX6_holds 16 = .ok (.if_icmp .ge 39, 3) := by decide +kernel
theorem dX6_holds_19 : decode cX6_holds 19 = .ok (.aload_n 0, 1) := by decide +kernel
theorem dX6_holds_20 : decode cX6_holds 20 = .ok (.aload_n 0, 1) := by decide +kernel
theorem dX6_holds_21 : decode cX6_holds 21 = .ok (.getfield 18, 3) := by decide +kernel
theorem dX6_holds_24 : decode cX6_holds 24 = .ok (.iload_n 2, 1) := by decide +kernel
theorem dX6_holds_25 : decode cX6_holds 25 = .ok (.iaload, 1) := by decide +kernel
theorem dX6_holds_26 : decode cX6_holds 26 = .ok (.invokevirtual 93, 3) := by decide +kernel
theorem dX6_holds_29 : decode cX6_holds 29 = .ok (.iload_n 1, 1) := by decide +kernel
theorem dX6_holds_30 : decode cX6_holds 30 = .ok (.iand, 1) := by decide +kernel
theorem dX6_holds_31 : decode cX6_holds 31 = .ok (.ifCond .eq 5, 3) := by decide +kernel
theorem dX6_holds_34 : decode cX6_holds 34 = .ok (.iconst 0, 1) := by decide +kernel
theorem dX6_holds_35 : decode cX6_holds 35 = .ok (.ireturn, 1) := by decide +kernel
theorem dX6_holds_36 : decode cX6_holds 36 = .ok (.iload_n 1, 1) := by decide +kernel
theorem dX6_holds_37 : decode cX6_holds 37 = .ok (.iconst 1, 1) := by decide +kernel
theorem dX6_holds_38 : decode cX6_holds 38 = .ok (.aload_n 0, 1) := by decide +kernel
theorem dX6_holds_39 : decode cX6_holds 39 = .ok (.getfield 18, 3) := by decide +kernel
theorem dX6_holds_42 : decode cX6_holds 42 = .ok (.iload_n 2, 1) := by decide +kernel
theorem dX6_holds_43 : decode cX6_holds 43 = .ok (.iaload, 1) := by decide +kernel
theorem dX6_holds_44 : decode cX6_holds 44 = .ok (.ishl, 1) := by decide +kernel
theorem dX6_holds_45 : decode cX6_holds 45 = .ok (.iconst (-1), 1) := by decide +kernel
theorem dX6_holds_46 : decode cX6_holds 46 = .ok (.ixor, 1) := by decide +kernel
theorem dX6_holds_47 : decode cX6_holds 47 = .ok (.iand, 1) := by decide +kernel
theorem dX6_holds_48 : decode cX6_holds 48 = .ok (.istore_n 1, 1) := by decide +kernel
theorem dX6_holds_49 : decode cX6_holds 49 = .ok (.iinc 2 1, 3) := by decide +kernel
theorem dX6_holds_52 : decode cX6_holds 52 = .ok (.goto (-41), 3) := by decide +kernel
theorem dX6_holds_55 : decode cX6_holds 55 = .ok (.iconst 1, 1) := by decide +kernel
theorem dX6_holds_56 : decode cX6_holds 56 = .ok (.ireturn, 1) := by decide +kernel
theorem dX7_init_0 : decode cX7_init 0 = .ok (.aload_n 0, 1) := by decide +kernel
theorem dX7_init_1 : decode cX7_init 1 = .ok (.invokespecial 3, 3) := by decide +kernel
theorem dX7_init_4 : decode cX7_init 4 = .ok (.aload_n 0, 1) := by decide +kernel
theorem dX7_init_5 : decode cX7_init 5 = .ok (.new 9, 3) := by decide +kernel
theorem dX7_init_8 : decode cX7_init 8 = .ok (.dup, 1) := by decide +kernel
theorem dX7_init_9 : decode cX7_init 9 = .ok (.invokespecial 11, 3) := by decide +kernel
theorem dX7_init_12 : decode cX7_init 12 = .ok (.putfield 12, 3) := by decide +kernel
theorem dX7_init_15 : decode cX7_init 15 = .ok (.aload_n 0, 1) := by decide +kernel
theorem dX7_init_16 : decode cX7_init 16 = .ok (.new 9, 3) := by decide +kernel
theorem dX7_init_19 : decode cX7_init 19 = .ok (.dup, 1) := by decide +kernel
theorem dX7_init_20 : decode cX7_init 20 = .ok (.invokespecial 11, 3) := by decide +kernel
theorem dX7_init_23 : decode cX7_init 23 = .ok (.putfield 16, 3) := by decide +kernel
theorem dX7_init_26 : decode cX7_init 26 = .ok (.aload_n 0, 1) := by decide +kernel
theorem dX7_init_27 : decode cX7_init 27 = .ok (.new 19, 3) := by decide +kernel
theorem dX7_init_30 : decode cX7_init 30 = .ok (.dup, 1) := by decide +kernel
theorem dX7_init_31 : decode cX7_init 31 = .ok (.invokespecial 21, 3) := by decide +kernel
theorem dX7_init_34 : decode cX7_init 34 = .ok (.putfield 22, 3) := by decide +kernel
theorem dX7_init_37 : decode cX7_init 37 = .ok (.aload_n 0, 1) := by decide +kernel
theorem dX7_init_38 : decode cX7_init 38 = .ok (.new 9, 3) := by decide +kernel
theorem dX7_init_41 : decode cX7_init 41 = .ok (.dup, 1) := by decide +kernel
theorem dX7_init_42 : decode cX7_init 42 = .ok (.invokespecial 11, 3) := by decide +kernel
theorem dX7_init_45 : decode cX7_init 45 = .ok (.putfield 26, 3) := by decide +kernel
theorem dX7_init_48 : decode cX7_init 48 = .ok (.aload_n 0, 1) := by decide +kernel
theorem dX7_init_49 : decode cX7_init 49 = .ok (.new 19, 3) := by decide +kernel
theorem dX7_init_52 : decode cX7_init 52 = .ok (.dup, 1) := by decide +kernel
theorem dX7_init_53 : decode cX7_init 53 = .ok (.invokespecial 21, 3) := by decide +kernel
theorem dX7_init_56 : decode cX7_init 56 = .ok (.putfield 29, 3) := by decide +kernel
theorem dX7_init_59 : decode cX7_init 59 = .ok (.aload_n 0, 1) := by decide +kernel
theorem dX7_init_60 : decode cX7_init 60 = .ok (.new 32, 3) := by decide +kernel
theorem dX7_init_63 : decode cX7_init 63 = .ok (.dup, 1) := by decide +kernel
theorem dX7_init_64 : decode cX7_init 64 = .ok (.invokespecial 34, 3) := by decide +kernel
theorem dX7_init_67 : decode cX7_init 67 = .ok (.putfield 35, 3) := by decide +kernel
theorem dX7_init_70 : decode cX7_init 70 = .ok (.aload_n 0, 1) := by decide +kernel
theorem dX7_init_71 : decode cX7_init 71 = .ok (.new 39, 3) := by decide +kernel
theorem dX7_init_74 : decode cX7_init 74 = .ok (.dup, 1) := by decide +kernel
theorem dX7_init_75 : decode cX7_init 75 = .ok (.bipush 64, 2) := by decide +kernel
theorem dX7_init_77 : decode cX7_init 77 = .ok (.invokespecial 41, 3) := by decide +kernel
theorem dX7_init_80 : decode cX7_init 80 = .ok (.putfield 44, 3) := by decide +kernel
theorem dX7_init_83 : decode cX7_init 83 = .ok (.aload_n 0, 1) := by decide +kernel
theorem dX7_init_84 : decode cX7_init 84 = .ok (.new 48, 3) := by decide +kernel
theorem dX7_init_87 : decode cX7_init 87 = .ok (.dup, 1) := by decide +kernel
theorem dX7_init_88 : decode cX7_init 88 = .ok (.invokespecial 50, 3) := by decide +kernel
theorem dX7_init_91 : decode cX7_init 91 = .ok (.putfield 51, 3) := by decide +kernel
theorem dX7_init_94 : decode cX7_init 94 = .ok (.aload_n 0, 1) := by decide +kernel
theorem dX7_init_95 : decode cX7_init 95 = .ok (.new 55, 3) := by decide +kernel
theorem dX7_init_98 : decode cX7_init 98 = .ok (.dup, 1) := by decide +kernel
theorem dX7_init_99 : decode cX7_init 99 = .ok (.invokespecial 57, 3) := by decide +kernel
theorem dX7_init_102 : decode cX7_init 102 = .ok (.putfield 58, 3) := by decide +kernel
theorem dX7_init_105 : decode cX7_init 105 = .ok (.aload_n 0, 1) := by decide +kernel
theorem dX7_init_106 : decode cX7_init 106 = .ok (.iconst 4, 1) := by decide +kernel
theorem dX7_init_107 : decode cX7_init 107 = .ok (.anewarray 62, 3) := by decide +kernel
theorem dX7_init_110 : decode cX7_init 110 = .ok (.putfield 64, 3) := by decide +kernel
theorem dX7_init_113 : decode cX7_init 113 = .ok (.iconst 0, 1) := by decide +kernel
theorem dX7_init_114 : decode cX7_init 114 = .ok (.istore_n 1, 1) := by decide +kernel
theorem dX7_init_115 : decode cX7_init 115 = .ok (.iload_n 1, 1) := by decide +kernel
theorem dX7_init_116 : decode cX7_init 116 = .ok (.iconst 4, 1) := by decide +kernel
theorem dX7_init_117 : decode cX7_init 117 = .ok (.if_icmp .ge 22, 3) := by decide +kernel
theorem dX7_init_120 : decode cX7_init 120 = .ok (.aload_n 0, 1) := by decide +kernel
theorem dX7_init_121 : decode cX7_init 121 = .ok (.getfield 64, 3) := by decide +kernel
theorem dX7_init_124 : decode cX7_init 124 = .ok (.iload_n 1, 1) := by decide +kernel
theorem dX7_init_125 : decode cX7_init 125 = .ok (.new 62, 3) := by decide +kernel
theorem dX7_init_128 : decode cX7_init 128 = .ok (.dup, 1) := by decide +kernel
theorem dX7_init_129 : decode cX7_init 129 = .ok (.invokespecial 68, 3) := by decide +kernel
theorem dX7_init_132 : decode cX7_init 132 = .ok (.aastore, 1) := by decide +kernel
theorem dX7_init_133 : decode cX7_init 133 = .ok (.iinc 1 1, 3) := by decide +kernel
theorem dX7_init_136 : decode cX7_init 136 = .ok (.goto (-21), 3) := by decide +kernel
theorem dX7_init_139 : decode cX7_init 139 = .ok (.return_, 1) := by decide +kernel
theorem dX7_book_0 : decode cX7_book 0 = .ok (.aload_n 0, 1) := by decide +kernel
theorem dX7_book_1 : decode cX7_book 1 = .ok (.getfield 16, 3) := by decide +kernel
theorem dX7_book_4 : decode cX7_book 4 = .ok (.aload_n 0, 1) := by decide +kernel
theorem dX7_book_5 : decode cX7_book 5 = .ok (.getfield 12, 3) := by decide +kernel
theorem dX7_book_8 : decode cX7_book 8 = .ok (.invokevirtual 69, 3) := by decide +kernel
theorem dX7_book_11 : decode cX7_book 11 = .ok (.aload_n 0, 1) := by decide +kernel
theorem dX7_book_12 : decode cX7_book 12 = .ok (.aload_n 0, 1) := by decide +kernel
theorem dX7_book_13 : decode cX7_book 13 = .ok (.getfield 12, 3) := by decide +kernel
theorem dX7_book_16 : decode cX7_book 16 = .ok (.iload_n 1, 1) := by decide +kernel
theorem dX7_book_17 : decode cX7_book 17 = .ok (.invokevirtual 73, 3) := by decide +kernel
theorem dX7_book_20 : decode cX7_book 20 = .ok (.invokevirtual 77, 3) := by decide +kernel
theorem dX7_book_23 : decode cX7_book 23 = .ok (.ireturn, 1) := by decide +kernel
theorem dX7_words_0 : decode cX7_words 0 = .ok (.aload_n 0, 1) := by decide +kernel
theorem dX7_words_1 : decode cX7_words 1 = .ok (.getfield 16, 3) := by decide +kernel
theorem dX7_words_4 : decode cX7_words 4 = .ok (.aload_n 0, 1) := by decide +kernel
theorem dX7_words_5 : decode cX7_words 5 = .ok (.getfield 12, 3) := by decide +kernel
theorem dX7_words_8 : decode cX7_words 8 = .ok (.invokevirtual 69, 3) := by decide +kernel
theorem dX7_words_11 : decode cX7_words 11 = .ok (.aload_n 0, 1) := by decide +kernel
theorem dX7_words_12 : decode cX7_words 12 = .ok (.aload_n 0, 1) := by decide +kernel
theorem dX7_words_13 : decode cX7_words 13 = .ok (.getfield 12, 3) := by decide +kernel
theorem dX7_words_16 : decode cX7_words 16 = .ok (.iload_n 1, 1) := by decide +kernel
theorem dX7_words_17 : decode cX7_words 17 = .ok (.iload_n 2, 1) := by decide +kernel
theorem dX7_words_18 : decode cX7_words 18 = .ok (.invokevirtual 80, 3) := by decide +kernel
theorem dX7_words_21 : decode cX7_words 21 = .ok (.invokevirtual 77, 3) := by decide +kernel
theorem dX7_words_24 : decode cX7_words 24 = .ok (.ireturn, 1) := by decide +kernel
theorem dX7_lose_0 : decode cX7_lose 0 = .ok (.aload_n 0, 1) := by decide +kernel
theorem dX7_lose_1 : decode cX7_lose 1 = .ok (.getfield 16, 3) := by decide +kernel
theorem dX7_lose_4 : decode cX7_lose 4 = .ok (.aload_n 0, 1) := by decide +kernel
theorem dX7_lose_5 : decode cX7_lose 5 = .ok (.getfield 12, 3) := by decide +kernel
theorem dX7_lose_8 : decode cX7_lose 8 = .ok (.invokevirtual 69, 3) := by decide +kernel
theorem dX7_lose_11 : decode cX7_lose 11 = .ok (.aload_n 0, 1) := by decide +kernel
theorem dX7_lose_12 : decode cX7_lose 12 = .ok (.aload_n 0, 1) := by decide +kernel
theorem dX7_lose_13 : decode cX7_lose 13 = .ok (.getfield 12, 3) := by decide +kernel
theorem dX7_lose_16 : decode cX7_lose 16 = .ok (.iload_n 1, 1) := by decide +kernel
theorem dX7_lose_17 : decode cX7_lose 17 = .ok (.invokevirtual 84, 3) := by decide +kernel
theorem dX7_lose_20 : decode cX7_lose 20 = .ok (.invokevirtual 77, 3) := by decide +kernel
theorem dX7_lose_23 : decode cX7_lose 23 = .ok (.ireturn, 1) := by decide +kernel
theorem dX7_ahead_0 : decode cX7_ahead 0 = .ok (.aload_n 0, 1) := by decide +kernel
theorem dX7_ahead_1 : decode cX7_ahead 1 = .ok (.getfield 16, 3) := by decide +kernel
theorem dX7_ahead_4 : decode cX7_ahead 4 = .ok (.aload_n 0, 1) := by decide +kernel
theorem dX7_ahead_5 : decode cX7_ahead 5 = .ok (.getfield 12, 3) := by decide +kernel
theorem dX7_ahead_8 : decode cX7_ahead 8 = .ok (.invokevirtual 69, 3) := by decide +kernel
theorem dX7_ahead_11 : decode cX7_ahead 11 = .ok (.aload_n 0, 1) := by decide +kernel
theorem dX7_ahead_12 : decode cX7_ahead 12 = .ok (.aload_n 0, 1) := by decide +kernel
theorem dX7_ahead_13 : decode cX7_ahead 13 = .ok (.getfield 12, 3) := by decide +kernel
theorem dX7_ahead_16 : decode cX7_ahead 16 = .ok (.iload_n 1, 1) := by decide +kernel
theorem dX7_ahead_17 : decode cX7_ahead 17 = .ok (.iload_n 2, 1) := by decide +kernel
theorem dX7_ahead_18 : decode cX7_ahead 18 = .ok (.invokevirtual 87, 3) := by decide +kernel
theorem dX7_ahead_21 : decode cX7_ahead 21 = .ok (.invokevirtual 77, 3) := by decide +kernel
theorem dX7_ahead_24 : decode cX7_ahead 24 = .ok (.ireturn, 1) := by decide +kernel
theorem dX7_prior_0 : decode cX7_prior 0 = .ok (.aload_n 0, 1) := by decide +kernel
theorem dX7_prior_1 : decode cX7_prior 1 = .ok (.getfield 16, 3) := by decide +kernel
theorem dX7_prior_4 : decode cX7_prior 4 = .ok (.aload_n 0, 1) := by decide +kernel
theorem dX7_prior_5 : decode cX7_prior 5 = .ok (.getfield 12, 3) := by decide +kernel
theorem dX7_prior_8 : decode cX7_prior 8 = .ok (.invokevirtual 69, 3) := by decide +kernel
theorem dX7_prior_11 : decode cX7_prior 11 = .ok (.aload_n 0, 1) := by decide +kernel
theorem dX7_prior_12 : decode cX7_prior 12 = .ok (.aload_n 0, 1) := by decide +kernel
theorem dX7_prior_13 : decode cX7_prior 13 = .ok (.getfield 12, 3) := by decide +kernel
theorem dX7_prior_16 : decode cX7_prior 16 = .ok (.iload_n 1, 1) := by decide +kernel
theorem dX7_prior_17 : decode cX7_prior 17 = .ok (.invokevirtual 90, 3) := by decide +kernel
theorem dX7_prior_20 : decode cX7_prior 20 = .ok (.invokevirtual 77, 3) := by decide +kernel
theorem dX7_prior_23 : decode cX7_prior 23 = .ok (.ireturn, 1) := by decide +kernel
theorem dX7_tell_0 : decode cX7_tell 0 = .ok (.aload_n 0, 1) := by decide +kernel
theorem dX7_tell_1 : decode cX7_tell 1 = .ok (.getfield 16, 3) := by decide +kernel
theorem dX7_tell_4 : decode cX7_tell 4 = .ok (.aload_n 0, 1) := by decide +kernel
theorem dX7_tell_5 : decode cX7_tell 5 = .ok (.getfield 12, 3) := by decide +kernel
theorem dX7_tell_8 : decode cX7_tell 8 = .ok (.invokevirtual 69, 3) := by decide +kernel
theorem dX7_tell_11 : decode cX7_tell 11 = .ok (.aload_n 0, 1) := by decide +kernel
theorem dX7_tell_12 : decode cX7_tell 12 = .ok (.aload_n 0, 1) := by decide +kernel
theorem dX7_tell_13 : decode cX7_tell 13 = .ok (.getfield 12, 3) := by decide +kernel
theorem dX7_tell_16 : decode cX7_tell 16 = .ok (.iload_n 1, 1) := by decide +kernel
theorem dX7_tell_17 : decode cX7_tell 17 = .ok (.iload_n 2, 1) := by decide +kernel
theorem dX7_tell_18 : decode cX7_tell 18 = .ok (.invokevirtual 93, 3) := by decide +kernel
theorem dX7_tell_21 : decode cX7_tell 21 = .ok (.invokevirtual 77, 3) := by decide +kernel
theorem dX7_tell_24 : decode cX7_tell 24 = .ok (.ireturn, 1) := by decide +kernel
theorem dX7_move_0 : decode cX7_move 0 = .ok (.aload_n 0, 1) := by decide +kernel
theorem dX7_move_1 : decode cX7_move 1 = .ok (.getfield 16, 3) := by decide +kernel
theorem dX7_move_4 : decode cX7_move 4 = .ok (.aload_n 0, 1) := by decide +kernel
theorem dX7_move_5 : decode cX7_move 5 = .ok (.getfield 12, 3) := by decide +kernel
theorem dX7_move_8 : decode cX7_move 8 = .ok (.invokevirtual 69, 3) := by decide +kernel
theorem dX7_move_11 : decode cX7_move 11 = .ok (.aload_n 0, 1) := by decide +kernel
theorem dX7_move_12 : decode cX7_move 12 = .ok (.aload_n 0, 1) := by decide +kernel
theorem dX7_move_13 : decode cX7_move 13 = .ok (.getfield 12, 3) := by decide +kernel
theorem dX7_move_16 : decode cX7_move 16 = .ok (.iload_n 1, 1) := by decide +kernel
theorem dX7_move_17 : decode cX7_move 17 = .ok (.iload_n 2, 1) := by decide +kernel
theorem dX7_move_18 : decode cX7_move 18 = .ok (.invokevirtual 96, 3) := by decide +kernel
theorem dX7_move_21 : decode cX7_move 21 = .ok (.invokevirtual 77, 3) := by decide +kernel
theorem dX7_move_24 : decode cX7_move 24 = .ok (.ireturn, 1) := by decide +kernel
theorem dX7_settle_0 : decode cX7_settle 0 = .ok (.iload_n 1, 1) := by decide +kernel
theorem dX7_settle_1 : decode cX7_settle 1 = .ok (.ifCond .lt 8, 3) := by decide +kernel
theorem dX7_settle_4 : decode cX7_settle 4 = .ok (.iload_n 1, 1) := by decide +kernel
theorem dX7_settle_5 : decode cX7_settle 5 = .ok (.iconst 1, 1) := by decide +kernel
theorem dX7_settle_6 : decode cX7_settle 6 = .ok (.if_icmp .le 5, 3) := by decide +kernel
theorem dX7_settle_9 : decode cX7_settle 9 = .ok (.iconst (-1), 1) := by decide +kernel
theorem dX7_settle_10 : decode cX7_settle 10 = .ok (.ireturn, 1) := by decide +kernel
theorem dX7_settle_11 : decode cX7_settle 11 = .ok (.aload_n 0, 1) := by decide +kernel
theorem dX7_settle_12 : decode cX7_settle 12 = .ok (.getfield 12, 3) := by decide +kernel
theorem dX7_settle_15 : decode cX7_settle 15 = .ok (.getfield 99, 3) := by decide +kernel
theorem dX7_settle_18 : decode cX7_settle 18 = .ok (.ifCond .ne 6, 3) := by decide +kernel
theorem dX7_settle_21 : decode cX7_settle 21 = .ok (.bipush (-2), 2) := by decide +kernel
theorem dX7_settle_23 : decode cX7_settle 23 = .ok (.ireturn, 1) := by decide +kernel
theorem dX7_settle_24 : decode cX7_settle 24 = .ok (.aload_n 0, 1) := by decide +kernel
theorem dX7_settle_25 : decode cX7_settle 25 = .ok (.iload_n 1, 1) := by decide +kernel
theorem dX7_settle_26 : decode cX7_settle 26 = .ok (.iconst 1, 1) := by decide +kernel
theorem dX7_settle_27 : decode cX7_settle 27 = .ok (.if_icmp .ne 7, 3) := by decide +kernel
theorem dX7_settle_30 : decode cX7_settle 30 = .ok (.iconst 1, 1) := by decide +kernel
theorem dX7_settle_31 : decode cX7_settle 31 = .ok (.goto 4, 3) := by decide +kernel
theorem dX7_settle_34 : decode cX7_settle 34 = .ok (.iconst 0, 1) := by decide +kernel
theorem dX7_settle_35 : decode cX7_settle 35 = .ok (.invokevirtual 103, 3) := by decide +kernel
theorem dX7_settle_38 : decode cX7_settle 38 = .ok (.aload_n 0, 1) := by decide +kernel
theorem dX7_settle_39 : decode cX7_settle 39 = .ok (.getfield 16, 3) := by decide +kernel
theorem dX7_settle_42 : decode cX7_settle 42 = .ok (.aload_n 0, 1) := by decide +kernel
theorem dX7_settle_43 : decode cX7_settle 43 = .ok (.getfield 12, 3) := by decide +kernel
theorem dX7_settle_46 : decode cX7_settle 46 = .ok (.invokevirtual 69, 3) := by decide +kernel
theorem dX7_settle_49 : decode cX7_settle 49 = .ok (.aload_n 0, 1) := by decide +kernel
theorem dX7_settle_50 : decode cX7_settle 50 = .ok (.aload_n 0, 1) := by decide +kernel
theorem dX7_settle_51 : decode cX7_settle 51 = .ok (.getfield 12, 3) := by decide +kernel
theorem dX7_settle_54 : decode cX7_settle 54 = .ok (.aload_n 0, 1) := by decide +kernel
theorem dX7_settle_55 : decode cX7_settle 55 = .ok (.getfield 58, 3) := by decide +kernel
theorem dX7_settle_58 : decode cX7_settle 58 = .ok (.getfield 107, 3) := by decide +kernel
theorem dX7_settle_61 : decode cX7_settle 61 = .ok (.invokevirtual 111, 3) := by decide +kernel
theorem dX7_settle_64 : decode cX7_settle 64 = .ok (.invokevirtual 77, 3) := by decide +kernel
theorem dX7_settle_67 : decode cX7_settle 67 = .ok (.ireturn, 1) := by decide +kernel
theorem dX7_place_0 : decode cX7_place 0 = .ok (.aload_n 0, 1) := by decide +kernel
theorem dX7_place_1 : decode cX7_place 1 = .ok (.getfield 12, 3) := by decide +kernel
theorem dX7_place_4 : decode cX7_place 4 = .ok (.iload_n 1, 1) := by decide +kernel
theorem dX7_place_5 : decode cX7_place 5 = .ok (.invokevirtual 115, 3) := by decide +kernel
theorem dX7_place_8 : decode cX7_place 8 = .ok (.ifCond .eq 13, 3) := by decide +kernel
theorem dX7_place_11 : decode cX7_place 11 = .ok (.iload_n 2, 1) := by decide +kernel
theorem dX7_place_12 : decode cX7_place 12 = .ok (.ifCond .lt 9, 3) := by decide +kernel
theorem dX7_place_15 : decode cX7_place 15 = .ok (.iload_n 2, 1) := by decide +kernel
theorem dX7_place_16 : decode cX7_place 16 = .ok (.bipush 6, 2) := by decide +kernel
theorem dX7_place_18 : decode cX7_place 18 = .ok (.if_icmp .le 5, 3) := by decide +kernel
theorem dX7_place_21 : decode cX7_place 21 = .ok (.iconst (-1), 1) := by decide +kernel
theorem dX7_place_22 : decode cX7_place 22 = .ok (.ireturn, 1) := by decide +kernel
theorem dX7_place_23 : decode cX7_place 23 = .ok (.aload_n 0, 1) := by decide +kernel
theorem dX7_place_24 : decode cX7_place 24 = .ok (.getfield 51, 3) := by decide +kernel
theorem dX7_place_27 : decode cX7_place 27 = .ok (.aload_n 0, 1) := by decide +kernel
theorem dX7_place_28 : decode cX7_place 28 = .ok (.getfield 12, 3) := by decide +kernel
theorem dX7_place_31 : decode cX7_place 31 = .ok (.invokevirtual 119, 3) := by decide +kernel
theorem dX7_place_34 : decode cX7_place 34 = .ok (.iload_n 2, 1) := by decide +kernel
theorem dX7_place_35 : decode cX7_place 35 = .ok (.tableswitch 106 0 5 #[37, 47, 60, 73, 86, 96], 37) := by decide +kernel
theorem dX7_place_72 : decode cX7_place 72 = .ok (.aload_n 0, 1) := by decide +kernel
theorem dX7_place_73 : decode cX7_place 73 = .ok (.getfield 12, 3) := by decide +kernel
theorem dX7_place_76 : decode cX7_place 76 = .ok (.getfield 122, 3) := by decide +kernel
theorem dX7_place_79 : decode cX7_place 79 = .ok (.iload_n 1, 1) := by decide +kernel
theorem dX7_place_80 : decode cX7_place 80 = .ok (.iaload, 1) := by decide +kernel
theorem dX7_place_81 : decode cX7_place 81 = .ok (.ireturn, 1) := by decide +kernel
theorem dX7_place_82 : decode cX7_place 82 = .ok (.aload_n 0, 1) := by decide +kernel
theorem dX7_place_83 : decode cX7_place 83 = .ok (.getfield 51, 3) := by decide +kernel
theorem dX7_place_86 : decode cX7_place 86 = .ok (.getfield 125, 3) := by decide +kernel
theorem dX7_place_89 : decode cX7_place 89 = .ok (.iload_n 1, 1) := by decide +kernel
theorem dX7_place_90 : decode cX7_place 90 = .ok (.iaload, 1) := by decide +kernel
theorem dX7_place_91 : decode cX7_place 91 = .ok (.invokestatic 128, 3) := by decide +kernel
theorem dX7_place_94 : decode cX7_place 94 = .ok (.ireturn, 1) := by decide +kernel
theorem dX7_place_95 : decode cX7_place 95 = .ok (.aload_n 0, 1) := by decide +kernel
theorem dX7_place_96 : decode cX7_place 96 = .ok (.getfield 51, 3) := by decide +kernel
theorem dX7_place_99 : decode cX7_place 99 = .ok (.getfield 133, 3) := by decide +kernel
theorem dX7_place_102 : decode cX7_place 102 = .ok (.iload_n 1, 1) := by decide +kernel
theorem dX7_place_103 : decode cX7_place 103 = .ok (.iaload, 1) := by decide +kernel
theorem dX7_place_104 : decode cX7_place 104 = .ok (.invokestatic 128, 3) := by decide +kernel
theorem dX7_place_107 : decode cX7_place 107 = .ok (.ireturn, 1) := by decide +kernel
theorem dX7_place_108 : decode cX7_place 108 = .ok (.aload_n 0, 1) := by decide +kernel
theorem dX7_place_109 : decode cX7_place 109 = .ok (.getfield 51, 3) := by decide +kernel
theorem dX7_place_112 : decode cX7_place 112 = .ok (.getfield 136, 3) := by decide +kernel
theorem dX7_place_115 : decode cX7_place 115 = .ok (.iload_n 1, 1) := by decide +kernel
theorem dX7_place_116 : decode cX7_place 116 = .ok (.iaload, 1) := by decide +kernel
theorem dX7_place_117 : decode cX7_place 117 = .ok (.invokestatic 128, 3) := by decide +kernel
theorem dX7_place_120 : decode cX7_place 120 = .ok (.ireturn, 1) := by decide +kernel
theorem dX7_place_121 : decode cX7_place 121 = .ok (.aload_n 0, 1) := by decide +kernel
theorem dX7_place_122 : decode cX7_place 122 = .ok (.getfield 51, 3) := by decide +kernel
theorem dX7_place_125 : decode cX7_place 125 = .ok (.getfield 125, 3) := by decide +kernel
theorem dX7_place_128 : decode cX7_place 128 = .ok (.iload_n 1, 1) := by decide +kernel
theorem dX7_place_129 : decode cX7_place 129 = .ok (.iaload, 1) := by decide +kernel
theorem dX7_place_130 : decode cX7_place 130 = .ok (.ireturn, 1) := by decide +kernel
theorem dX7_place_131 : decode cX7_place 131 = .ok (.aload_n 0, 1) := by decide +kernel
theorem dX7_place_132 : decode cX7_place 132 = .ok (.getfield 51, 3) := by decide +kernel
theorem dX7_place_135 : decode cX7_place 135 = .ok (.getfield 136, 3) := by decide +kernel
theorem dX7_place_138 : decode cX7_place 138 = .ok (.iload_n 1, 1) := by decide +kernel
theorem dX7_place_139 : decode cX7_place 139 = .ok (.iaload, 1) := by decide +kernel
theorem dX7_place_140 : decode cX7_place 140 = .ok (.ireturn, 1) := by decide +kernel
theorem dX7_place_141 : decode cX7_place 141 = .ok (.aload_n 0, 1) := by decide +kernel
theorem dX7_place_142 : decode cX7_place 142 = .ok (.getfield 51, 3) := by decide +kernel
theorem dX7_place_145 : decode cX7_place 145 = .ok (.iload_n 1, 1) := by decide +kernel
theorem dX7_place_146 : decode cX7_place 146 = .ok (.iconst 1, 1) := by decide +kernel
theorem dX7_place_147 : decode cX7_place 147 = .ok (.iadd, 1) := by decide +kernel
theorem dX7_place_148 : decode cX7_place 148 = .ok (.invokevirtual 139, 3) := by decide +kernel
theorem dX7_place_151 : decode cX7_place 151 = .ok (.ireturn, 1) := by decide +kernel
theorem dX7_word_0 : decode cX7_word 0 = .ok (.iload_n 1, 1) := by decide +kernel
theorem dX7_word_1 : decode cX7_word 1 = .ok (.ifCond .lt 18, 3) := by decide +kernel
theorem dX7_word_4 : decode cX7_word 4 = .ok (.iload_n 1, 1) := by decide +kernel
theorem dX7_word_5 : decode cX7_word 5 = .ok (.bipush 20, 2) := by decide +kernel
theorem dX7_word_7 : decode cX7_word 7 = .ok (.if_icmp .ge 12, 3) := by decide +kernel
theorem dX7_word_10 : decode cX7_word 10 = .ok (.iload_n 2, 1) := by decide +kernel
theorem dX7_word_11 : decode cX7_word 11 = .ok (.ifCond .lt 8, 3) := by decide +kernel
theorem dX7_word_14 : decode cX7_word 14 = .ok (.iload_n 2, 1) := by decide +kernel
theorem dX7_word_15 : decode cX7_word 15 = .ok (.iconst 4, 1) := by decide +kernel
theorem dX7_word_16 : decode cX7_word 16 = .ok (.if_icmp .le 5, 3) := by decide +kernel
theorem dX7_word_19 : decode cX7_word 19 = .ok (.iconst (-1), 1) := by decide +kernel
theorem dX7_word_20 : decode cX7_word 20 = .ok (.ireturn, 1) := by decide +kernel
theorem dX7_word_21 : decode cX7_word 21 = .ok (.aload_n 0, 1) := by decide +kernel
theorem dX7_word_22 : decode cX7_word 22 = .ok (.getfield 51, 3) := by decide +kernel
theorem dX7_word_25 : decode cX7_word 25 = .ok (.aload_n 0, 1) := by decide +kernel
theorem dX7_word_26 : decode cX7_word 26 = .ok (.getfield 12, 3) := by decide +kernel
theorem dX7_word_29 : decode cX7_word 29 = .ok (.invokevirtual 119, 3) := by decide +kernel
theorem dX7_word_32 : decode cX7_word 32 = .ok (.iload_n 2, 1) := by decide +kernel
theorem dX7_word_33 : decode cX7_word 33 = .ok (.tableswitch 79 0 3 #[31, 44, 53, 66], 31) := by decide +kernel
theorem dX7_word_64 : decode cX7_word 64 = .ok (.aload_n 0, 1) := by decide +kernel
theorem dX7_word_65 : decode cX7_word 65 = .ok (.aload_n 0, 1) := by decide +kernel
theorem dX7_word_66 : decode cX7_word 66 = .ok (.getfield 51, 3) := by decide +kernel
theorem dX7_word_69 : decode cX7_word 69 = .ok (.getfield 125, 3) := by decide +kernel
theorem dX7_word_72 : decode cX7_word 72 = .ok (.iload_n 1, 1) := by decide +kernel
theorem dX7_word_73 : decode cX7_word 73 = .ok (.invokevirtual 142, 3) := by decide +kernel
theorem dX7_word_76 : decode cX7_word 76 = .ok (.ireturn, 1) := by decide +kernel
theorem dX7_word_77 : decode cX7_word 77 = .ok (.aload_n 0, 1) := by decide +kernel
theorem dX7_word_78 : decode cX7_word 78 = .ok (.getfield 51, 3) := by decide +kernel
theorem dX7_word_81 : decode cX7_word 81 = .ok (.iload_n 1, 1) := by decide +kernel
theorem dX7_word_82 : decode cX7_word 82 = .ok (.invokevirtual 146, 3) := by decide +kernel
theorem dX7_word_85 : decode cX7_word 85 = .ok (.ireturn, 1) := by decide +kernel
theorem dX7_word_86 : decode cX7_word 86 = .ok (.aload_n 0, 1) := by decide +kernel
theorem dX7_word_87 : decode cX7_word 87 = .ok (.aload_n 0, 1) := by decide +kernel
theorem dX7_word_88 : decode cX7_word 88 = .ok (.getfield 51, 3) := by decide +kernel
theorem dX7_word_91 : decode cX7_word 91 = .ok (.getfield 125, 3) := by decide +kernel
theorem dX7_word_94 : decode cX7_word 94 = .ok (.iload_n 1, 1) := by decide +kernel
theorem dX7_word_95 : decode cX7_word 95 = .ok (.invokevirtual 149, 3) := by decide +kernel
theorem dX7_word_98 : decode cX7_word 98 = .ok (.ireturn, 1) := by decide +kernel
theorem dX7_word_99 : decode cX7_word 99 = .ok (.aload_n 0, 1) := by decide +kernel
theorem dX7_word_100 : decode cX7_word 100 = .ok (.aload_n 0, 1) := by decide +kernel
theorem dX7_word_101 : decode cX7_word 101 = .ok (.getfield 51, 3) := by decide +kernel
theorem dX7_word_104 : decode cX7_word 104 = .ok (.getfield 136, 3) := by decide +kernel
theorem dX7_word_107 : decode cX7_word 107 = .ok (.iload_n 1, 1) := by decide +kernel
theorem dX7_word_108 : decode cX7_word 108 = .ok (.invokevirtual 149, 3) := by decide +kernel
theorem dX7_word_111 : decode cX7_word 111 = .ok (.ireturn, 1) := by decide +kernel
theorem dX7_word_112 : decode cX7_word 112 = .ok (.aload_n 0, 1) := by decide +kernel
theorem dX7_word_113 : decode cX7_word 113 = .ok (.aload_n 0, 1) := by decide +kernel
theorem dX7_word_114 : decode cX7_word 114 = .ok (.getfield 12, 3) := by decide +kernel
theorem dX7_word_117 : decode cX7_word 117 = .ok (.getfield 152, 3) := by decide +kernel
theorem dX7_word_120 : decode cX7_word 120 = .ok (.iload_n 1, 1) := by decide +kernel
theorem dX7_word_121 : decode cX7_word 121 = .ok (.invokevirtual 149, 3) := by decide +kernel
theorem dX7_word_124 : decode cX7_word 124 = .ok (.ireturn, 1) := by decide +kernel
theorem dX7_told_0 : decode cX7_told 0 = .ok (.aload_n 0, 1) := by decide +kernel
theorem dX7_told_1 : decode cX7_told 1 = .ok (.getfield 12, 3) := by decide +kernel
theorem dX7_told_4 : decode cX7_told 4 = .ok (.iload_n 1, 1) := by decide +kernel
theorem dX7_told_5 : decode cX7_told 5 = .ok (.invokevirtual 115, 3) := by decide +kernel
theorem dX7_told_8 : decode cX7_told 8 = .ok (.ifCond .eq 12, 3) := by decide +kernel
theorem dX7_told_11 : decode cX7_told 11 = .ok (.iload_n 2, 1) := by decide +kernel
theorem dX7_told_12 : decode cX7_told 12 = .ok (.ifCond .lt 8, 3) := by decide +kernel
theorem dX7_told_15 : decode cX7_told 15 = .ok (.iload_n 2, 1) := by decide +kernel
theorem dX7_told_16 : decode cX7_told 16 = .ok (.iconst 3, 1) := by decide +kernel
theorem dX7_told_17 : decode cX7_told 17 = .ok (.if_icmp .le 5, 3) := by decide +kernel
theorem dX7_told_20 : decode cX7_told 20 = .ok (.iconst (-1), 1) := by decide +kernel
theorem dX7_told_21 : decode cX7_told 21 = .ok (.ireturn, 1) := by decide +kernel
theorem dX7_told_22 : decode cX7_told 22 = .ok (.iload_n 2, 1) := by decide +kernel
theorem dX7_told_23 : decode cX7_told 23 = .ok (.tableswitch 54 0 2 #[25, 35, 45], 25) := by decide +kernel
theorem dX7_told_48 : decode cX7_told 48 = .ok (.aload_n 0, 1) := by decide +kernel
theorem dX7_told_49 : decode cX7_told 49 = .ok (.getfield 12, 3) := by decide +kernel
theorem dX7_told_52 : decode cX7_told 52 = .ok (.getfield 152, 3) := by decide +kernel
theorem dX7_told_55 : decode cX7_told 55 = .ok (.iload_n 1, 1) := by decide +kernel
theorem dX7_told_56 : decode cX7_told 56 = .ok (.iaload, 1) := by decide +kernel
theorem dX7_told_57 : decode cX7_told 57 = .ok (.ireturn, 1) := by decide +kernel
theorem dX7_told_58 : decode cX7_told 58 = .ok (.aload_n 0, 1) := by decide +kernel
theorem dX7_told_59 : decode cX7_told 59 = .ok (.getfield 12, 3) := by decide +kernel
theorem dX7_told_62 : decode cX7_told 62 = .ok (.getfield 155, 3) := by decide +kernel
theorem dX7_told_65 : decode cX7_told 65 = .ok (.iload_n 1, 1) := by decide +kernel
theorem dX7_told_66 : decode cX7_told 66 = .ok (.iaload, 1) := by decide +kernel
theorem dX7_told_67 : decode cX7_told 67 = .ok (.ireturn, 1) := by decide +kernel
theorem dX7_told_68 : decode cX7_told 68 = .ok (.aload_n 0, 1) := by decide +kernel
theorem dX7_told_69 : decode cX7_told 69 = .ok (.getfield 12, 3) := by decide +kernel
theorem dX7_told_72 : decode cX7_told 72 = .ok (.iload_n 1, 1) := by decide +kernel
theorem dX7_told_73 : decode cX7_told 73 = .ok (.invokevirtual 158, 3) := by decide +kernel
theorem dX7_told_76 : decode cX7_told 76 = .ok (.ireturn, 1) := by decide +kernel
theorem dX7_told_77 : decode cX7_told 77 = .ok (.aload_n 0, 1) := by decide +kernel
theorem dX7_told_78 : decode cX7_told 78 = .ok (.getfield 12, 3) := by decide +kernel
theorem dX7_told_81 : decode cX7_told 81 = .ok (.iload_n 1, 1) := by decide +kernel
theorem dX7_told_82 : decode cX7_told 82 = .ok (.invokevirtual 161, 3) := by decide +kernel
theorem dX7_told_85 : decode cX7_told 85 = .ok (.ireturn, 1) := by decide +kernel
theorem dX7_count_0 : decode cX7_count 0 = .ok (.iload_n 1, 1) := by decide +kernel
theorem dX7_count_1 : decode cX7_count 1 = .ok (.tableswitch 122 0 10 #[59, 67, 75, 83, 91, 99, 122, 122, 122, 122, 114], 59) := by decide +kernel
theorem dX7_count_60 : decode cX7_count 60 = .ok (.aload_n 0, 1) := by decide +kernel
theorem dX7_count_61 : decode cX7_count 61 = .ok (.getfield 12, 3) := by decide +kernel
theorem dX7_count_64 : decode cX7_count 64 = .ok (.getfield 99, 3) := by decide +kernel
theorem dX7_count_67 : decode cX7_count 67 = .ok (.ireturn, 1) := by decide +kernel
theorem dX7_count_68 : decode cX7_count 68 = .ok (.aload_n 0, 1) := by decide +kernel
theorem dX7_count_69 : decode cX7_count 69 = .ok (.getfield 12, 3) := by decide +kernel
theorem dX7_count_72 : decode cX7_count 72 = .ok (.getfield 164, 3) := by decide +kernel
theorem dX7_count_75 : decode cX7_count 75 = .ok (.ireturn, 1) := by decide +kernel
theorem dX7_count_76 : decode cX7_count 76 = .ok (.aload_n 0, 1) := by decide +kernel
theorem dX7_count_77 : decode cX7_count 77 = .ok (.getfield 12, 3) := by decide +kernel
theorem dX7_count_80 : decode cX7_count 80 = .ok (.getfield 167, 3) := by decide +kernel
theorem dX7_count_83 : decode cX7_count 83 = .ok (.ireturn, 1) := by decide +kernel
theorem dX7_count_84 : decode cX7_count 84 = .ok (.aload_n 0, 1) := by decide +kernel
theorem dX7_count_85 : decode cX7_count 85 = .ok (.getfield 12, 3) := by decide +kernel
theorem dX7_count_88 : decode cX7_count 88 = .ok (.getfield 170, 3) := by decide +kernel
theorem dX7_count_91 : decode cX7_count 91 = .ok (.ireturn, 1) := by decide +kernel
theorem dX7_count_92 : decode cX7_count 92 = .ok (.aload_n 0, 1) := by decide +kernel
theorem dX7_count_93 : decode cX7_count 93 = .ok (.getfield 12, 3) := by decide +kernel
theorem dX7_count_96 : decode cX7_count 96 = .ok (.getfield 173, 3) := by decide +kernel
theorem dX7_count_99 : decode cX7_count 99 = .ok (.ireturn, 1) := by decide +kernel
theorem dX7_count_100 : decode cX7_count 100 = .ok (.aload_n 0, 1) := by decide +kernel
theorem dX7_count_101 : decode cX7_count 101 = .ok (.getfield 12, 3) := by decide +kernel
theorem dX7_count_104 : decode cX7_count 104 = .ok (.aload_n 0, 1) := by decide +kernel
theorem dX7_count_105 : decode cX7_count 105 = .ok (.getfield 12, 3) := by decide +kernel
theorem dX7_count_108 : decode cX7_count 108 = .ok (.getfield 122, 3) := by decide +kernel
theorem dX7_count_111 : decode cX7_count 111 = .ok (.invokevirtual 176, 3) := by decide +kernel
theorem dX7_count_114 : decode cX7_count 114 = .ok (.ireturn, 1) := by decide +kernel
theorem dX7_count_115 : decode cX7_count 115 = .ok (.aload_n 0, 1) := by decide +kernel
theorem dX7_count_116 : decode cX7_count 116 = .ok (.getfield 22, 3) := by decide +kernel
theorem dX7_count_119 : decode cX7_count 119 = .ok (.getfield 179, 3) := by decide +kernel
theorem dX7_count_122 : decode cX7_count 122 = .ok (.ireturn, 1) := by decide +kernel
theorem dX7_count_123 : decode cX7_count 123 = .ok (.iload_n 1, 1) := by decide +kernel
theorem dX7_count_124 : decode cX7_count 124 = .ok (.ifCond .lt 9, 3) := by decide +kernel
theorem dX7_count_127 : decode cX7_count 127 = .ok (.iload_n 1, 1) := by decide +kernel
theorem dX7_count_128 : decode cX7_count 128 = .ok (.bipush 10, 2) := by decide +kernel
theorem dX7_count_130 : decode cX7_count 130 = .ok (.if_icmp .le 7, 3) := by decide +kernel
theorem dX7_count_133 : decode cX7_count 133 = .ok (.iconst (-1), 1) := by decide +kernel
theorem dX7_count_134 : decode cX7_count 134 = .ok (.goto 8, 3) := by decide +kernel
theorem dX7_count_137 : decode cX7_count 137 = .ok (.aload_n 0, 1) := by decide +kernel
theorem dX7_count_138 : decode cX7_count 138 = .ok (.iload_n 1, 1) := by decide +kernel
theorem dX7_count_139 : decode cX7_count 139 = .ok (.invokevirtual 182, 3) := by decide +kernel
theorem dX7_count_142 : decode cX7_count 142 = .ok (.ireturn, 1) := by decide +kernel
theorem dX7_best_0 : decode cX7_best 0 = .ok (.iload_n 1, 1) := by decide +kernel
theorem dX7_best_1 : decode cX7_best 1 = .ok (.ifCond .lt 8, 3) := by decide +kernel
theorem dX7_best_4 : decode cX7_best 4 = .ok (.iload_n 1, 1) := by decide +kernel
theorem dX7_best_5 : decode cX7_best 5 = .ok (.iconst 5, 1) := by decide +kernel
theorem dX7_best_6 : decode cX7_best 6 = .ok (.if_icmp .le 5, 3) := by decide +kernel
theorem dX7_best_9 : decode cX7_best 9 = .ok (.iconst (-1), 1) := by decide +kernel
theorem dX7_best_10 : decode cX7_best 10 = .ok (.ireturn, 1) := by decide +kernel
theorem dX7_best_11 : decode cX7_best 11 = .ok (.aload_n 0, 1) := by decide +kernel
theorem dX7_best_12 : decode cX7_best 12 = .ok (.iload_n 1, 1) := by decide +kernel
theorem dX7_best_13 : decode cX7_best 13 = .ok (.iconst 2, 1) := by decide +kernel
theorem dX7_best_14 : decode cX7_best 14 = .ok (.if_icmp .le 7, 3) := by decide +kernel
theorem dX7_best_17 : decode cX7_best 17 = .ok (.iconst 1, 1) := by decide +kernel
theorem dX7_best_18 : decode cX7_best 18 = .ok (.goto 4, 3) := by decide +kernel
theorem dX7_best_21 : decode cX7_best 21 = .ok (.iconst 0, 1) := by decide +kernel
theorem dX7_best_22 : decode cX7_best 22 = .ok (.invokevirtual 103, 3) := by decide +kernel
theorem dX7_best_25 : decode cX7_best 25 = .ok (.iload_n 1, 1) := by decide +kernel
theorem dX7_best_26 : decode cX7_best 26 = .ok (.iconst 3, 1) := by decide +kernel
theorem dX7_best_27 : decode cX7_best 27 = .ok (.irem, 1) := by decide +kernel
theorem dX7_best_28 : decode cX7_best 28 = .ok (.lookupswitch 51 #[(0, 28), (1, 43)], 28) := by decide +kernel
theorem dX7_best_56 : decode cX7_best 56 = .ok (.aload_n 0, 1) := by decide +kernel
theorem dX7_best_57 : decode cX7_best 57 = .ok (.getfield 12, 3) := by decide +kernel
theorem dX7_best_60 : decode cX7_best 60 = .ok (.aload_n 0, 1) := by decide +kernel
theorem dX7_best_61 : decode cX7_best 61 = .ok (.getfield 58, 3) := by decide +kernel
theorem dX7_best_64 : decode cX7_best 64 = .ok (.getfield 107, 3) := by decide +kernel
theorem dX7_best_67 : decode cX7_best 67 = .ok (.invokevirtual 176, 3) := by decide +kernel
theorem dX7_best_70 : decode cX7_best 70 = .ok (.ireturn, 1) := by decide +kernel
theorem dX7_best_71 : decode cX7_best 71 = .ok (.aload_n 0, 1) := by decide +kernel
theorem dX7_best_72 : decode cX7_best 72 = .ok (.getfield 58, 3) := by decide +kernel
theorem dX7_best_75 : decode cX7_best 75 = .ok (.getfield 185, 3) := by decide +kernel
theorem dX7_best_78 : decode cX7_best 78 = .ok (.ireturn, 1) := by decide +kernel
theorem dX7_best_79 : decode cX7_best 79 = .ok (.aload_n 0, 1) := by decide +kernel
theorem dX7_best_80 : decode cX7_best 80 = .ok (.getfield 58, 3) := by decide +kernel
theorem dX7_best_83 : decode cX7_best 83 = .ok (.getfield 188, 3) := by decide +kernel
end
section
theorem dX7_best_86 : decode cX7_best 86 = .ok (.ireturn, 1) := by decide +kernel
theorem dX7_many_0 : decode cX7_many 0 = .ok (.iload_n 1, 1) := by decide +kernel
theorem dX7_many_1 : decode cX7_many 1 = .ok (.ifCond .lt 8, 3) := by decide +kernel
theorem dX7_many_4 : decode cX7_many 4 = .ok (.iload_n 1, 1) := by decide +kernel
theorem dX7_many_5 : decode cX7_many 5 = .ok (.iconst 1, 1) := by decide +kernel
theorem dX7_many_6 : decode cX7_many 6 = .ok (.if_icmp .le 5, 3) := by decide +kernel
theorem dX7_many_9 : decode cX7_many 9 = .ok (.iconst (-1), 1) := by decide +kernel
theorem dX7_many_10 : decode cX7_many 10 = .ok (.ireturn, 1) := by decide +kernel
theorem dX7_many_11 : decode cX7_many 11 = .ok (.aload_n 0, 1) := by decide +kernel
theorem dX7_many_12 : decode cX7_many 12 = .ok (.getfield 58, 3) := by decide +kernel
theorem dX7_many_15 : decode cX7_many 15 = .ok (.aload_n 0, 1) := by decide +kernel
theorem dX7_many_16 : decode cX7_many 16 = .ok (.getfield 12, 3) := by decide +kernel
theorem dX7_many_19 : decode cX7_many 19 = .ok (.invokevirtual 191, 3) := by decide +kernel
theorem dX7_many_22 : decode cX7_many 22 = .ok (.iload_n 1, 1) := by decide +kernel
theorem dX7_many_23 : decode cX7_many 23 = .ok (.iconst 1, 1) := by decide +kernel
theorem dX7_many_24 : decode cX7_many 24 = .ok (.if_icmp .ne 17, 3) := by decide +kernel
theorem dX7_many_27 : decode cX7_many 27 = .ok (.aload_n 0, 1) := by decide +kernel
theorem dX7_many_28 : decode cX7_many 28 = .ok (.getfield 58, 3) := by decide +kernel
theorem dX7_many_31 : decode cX7_many 31 = .ok (.aload_n 0, 1) := by decide +kernel
theorem dX7_many_32 : decode cX7_many 32 = .ok (.getfield 12, 3) := by decide +kernel
theorem dX7_many_35 : decode cX7_many 35 = .ok (.getfield 170, 3) := by decide +kernel
theorem dX7_many_38 : decode cX7_many 38 = .ok (.invokevirtual 194, 3) := by decide +kernel
theorem dX7_many_41 : decode cX7_many 41 = .ok (.aload_n 0, 1) := by decide +kernel
theorem dX7_many_42 : decode cX7_many 42 = .ok (.getfield 58, 3) := by decide +kernel
theorem dX7_many_45 : decode cX7_many 45 = .ok (.invokevirtual 197, 3) := by decide +kernel
theorem dX7_many_48 : decode cX7_many 48 = .ok (.aload_n 0, 1) := by decide +kernel
theorem dX7_many_49 : decode cX7_many 49 = .ok (.getfield 58, 3) := by decide +kernel
theorem dX7_many_52 : decode cX7_many 52 = .ok (.getfield 200, 3) := by decide +kernel
theorem dX7_many_55 : decode cX7_many 55 = .ok (.ireturn, 1) := by decide +kernel
theorem dX7_fit_0 : decode cX7_fit 0 = .ok (.iload_n 1, 1) := by decide +kernel
theorem dX7_fit_1 : decode cX7_fit 1 = .ok (.ifCond .ge 5, 3) := by decide +kernel
theorem dX7_fit_4 : decode cX7_fit 4 = .ok (.iconst (-1), 1) := by decide +kernel
theorem dX7_fit_5 : decode cX7_fit 5 = .ok (.ireturn, 1) := by decide +kernel
theorem dX7_fit_6 : decode cX7_fit 6 = .ok (.aload_n 0, 1) := by decide +kernel
theorem dX7_fit_7 : decode cX7_fit 7 = .ok (.getfield 58, 3) := by decide +kernel
theorem dX7_fit_10 : decode cX7_fit 10 = .ok (.aload_n 0, 1) := by decide +kernel
theorem dX7_fit_11 : decode cX7_fit 11 = .ok (.getfield 12, 3) := by decide +kernel
theorem dX7_fit_14 : decode cX7_fit 14 = .ok (.invokevirtual 191, 3) := by decide +kernel
theorem dX7_fit_17 : decode cX7_fit 17 = .ok (.aload_n 0, 1) := by decide +kernel
theorem dX7_fit_18 : decode cX7_fit 18 = .ok (.getfield 58, 3) := by decide +kernel
theorem dX7_fit_21 : decode cX7_fit 21 = .ok (.aload_n 0, 1) := by decide +kernel
theorem dX7_fit_22 : decode cX7_fit 22 = .ok (.getfield 12, 3) := by decide +kernel
theorem dX7_fit_25 : decode cX7_fit 25 = .ok (.getfield 170, 3) := by decide +kernel
theorem dX7_fit_28 : decode cX7_fit 28 = .ok (.invokevirtual 194, 3) := by decide +kernel
theorem dX7_fit_31 : decode cX7_fit 31 = .ok (.aload_n 0, 1) := by decide +kernel
theorem dX7_fit_32 : decode cX7_fit 32 = .ok (.getfield 58, 3) := by decide +kernel
theorem dX7_fit_35 : decode cX7_fit 35 = .ok (.iload_n 1, 1) := by decide +kernel
theorem dX7_fit_36 : decode cX7_fit 36 = .ok (.putfield 203, 3) := by decide +kernel
theorem dX7_fit_39 : decode cX7_fit 39 = .ok (.aload_n 0, 1) := by decide +kernel
theorem dX7_fit_40 : decode cX7_fit 40 = .ok (.getfield 58, 3) := by decide +kernel
theorem dX7_fit_43 : decode cX7_fit 43 = .ok (.invokevirtual 197, 3) := by decide +kernel
theorem dX7_fit_46 : decode cX7_fit 46 = .ok (.aload_n 0, 1) := by decide +kernel
theorem dX7_fit_47 : decode cX7_fit 47 = .ok (.getfield 58, 3) := by decide +kernel
theorem dX7_fit_50 : decode cX7_fit 50 = .ok (.getfield 200, 3) := by decide +kernel
theorem dX7_fit_53 : decode cX7_fit 53 = .ok (.iload_n 1, 1) := by decide +kernel
theorem dX7_fit_54 : decode cX7_fit 54 = .ok (.if_icmp .le 20, 3) := by decide +kernel
theorem dX7_fit_57 : decode cX7_fit 57 = .ok (.aload_n 0, 1) := by decide +kernel
theorem dX7_fit_58 : decode cX7_fit 58 = .ok (.getfield 12, 3) := by decide +kernel
theorem dX7_fit_61 : decode cX7_fit 61 = .ok (.aload_n 0, 1) := by decide +kernel
theorem dX7_fit_62 : decode cX7_fit 62 = .ok (.getfield 58, 3) := by decide +kernel
theorem dX7_fit_65 : decode cX7_fit 65 = .ok (.getfield 107, 3) := by decide +kernel
theorem dX7_fit_68 : decode cX7_fit 68 = .ok (.invokevirtual 176, 3) := by decide +kernel
theorem dX7_fit_71 : decode cX7_fit 71 = .ok (.goto 5, 3) := by decide +kernel
theorem dX7_fit_74 : decode cX7_fit 74 = .ok (.bipush (-4), 2) := by decide +kernel
theorem dX7_fit_76 : decode cX7_fit 76 = .ok (.ireturn, 1) := by decide +kernel
theorem dX7_kept_0 : decode cX7_kept 0 = .ok (.iload_n 1, 1) := by decide +kernel
theorem dX7_kept_1 : decode cX7_kept 1 = .ok (.ifCond .lt 28, 3) := by decide +kernel
theorem dX7_kept_4 : decode cX7_kept 4 = .ok (.iload_n 1, 1) := by decide +kernel
theorem dX7_kept_5 : decode cX7_kept 5 = .ok (.bipush 20, 2) := by decide +kernel
theorem dX7_kept_7 : decode cX7_kept 7 = .ok (.if_icmp .ge 22, 3) := by decide +kernel
theorem dX7_kept_10 : decode cX7_kept 10 = .ok (.iload_n 2, 1) := by decide +kernel
theorem dX7_kept_11 : decode cX7_kept 11 = .ok (.ifCond .lt 18, 3) := by decide +kernel
theorem dX7_kept_14 : decode cX7_kept 14 = .ok (.iload_n 2, 1) := by decide +kernel
theorem dX7_kept_15 : decode cX7_kept 15 = .ok (.bipush 10, 2) := by decide +kernel
theorem dX7_kept_17 : decode cX7_kept 17 = .ok (.if_icmp .gt 12, 3) := by decide +kernel
theorem dX7_kept_20 : decode cX7_kept 20 = .ok (.iload_n 3, 1) := by decide +kernel
theorem dX7_kept_21 : decode cX7_kept 21 = .ok (.ifCond .lt 8, 3) := by decide +kernel
theorem dX7_kept_24 : decode cX7_kept 24 = .ok (.iload_n 3, 1) := by decide +kernel
theorem dX7_kept_25 : decode cX7_kept 25 = .ok (.iconst 1, 1) := by decide +kernel
theorem dX7_kept_26 : decode cX7_kept 26 = .ok (.if_icmp .le 5, 3) := by decide +kernel
theorem dX7_kept_29 : decode cX7_kept 29 = .ok (.iconst (-1), 1) := by decide +kernel
theorem dX7_kept_30 : decode cX7_kept 30 = .ok (.ireturn, 1) := by decide +kernel
theorem dX7_kept_31 : decode cX7_kept 31 = .ok (.aload_n 0, 1) := by decide +kernel
theorem dX7_kept_32 : decode cX7_kept 32 = .ok (.iload_n 1, 1) := by decide +kernel
theorem dX7_kept_33 : decode cX7_kept 33 = .ok (.invokevirtual 206, 3) := by decide +kernel
theorem dX7_kept_36 : decode cX7_kept 36 = .ok (.istore 4, 2) := by decide +kernel
theorem dX7_kept_38 : decode cX7_kept 38 = .ok (.aload_n 0, 1) := by decide +kernel
theorem dX7_kept_39 : decode cX7_kept 39 = .ok (.iload 4, 2) := by decide +kernel
theorem dX7_kept_41 : decode cX7_kept 41 = .ok (.iload_n 2, 1) := by decide +kernel
theorem dX7_kept_42 : decode cX7_kept 42 = .ok (.invokevirtual 209, 3) := by decide +kernel
theorem dX7_kept_45 : decode cX7_kept 45 = .ok (.istore 5, 2) := by decide +kernel
theorem dX7_kept_47 : decode cX7_kept 47 = .ok (.bipush 10, 2) := by decide +kernel
theorem dX7_kept_49 : decode cX7_kept 49 = .ok (.iload 4, 2) := by decide +kernel
theorem dX7_kept_51 : decode cX7_kept 51 = .ok (.invokestatic 128, 3) := by decide +kernel
theorem dX7_kept_54 : decode cX7_kept 54 = .ok (.invokestatic 212, 3) := by decide +kernel
theorem dX7_kept_57 : decode cX7_kept 57 = .ok (.istore 6, 2) := by decide +kernel
theorem dX7_kept_59 : decode cX7_kept 59 = .ok (.iload 5, 2) := by decide +kernel
theorem dX7_kept_61 : decode cX7_kept 61 = .ok (.iload 6, 2) := by decide +kernel
theorem dX7_kept_63 : decode cX7_kept 63 = .ok (.invokestatic 215, 3) := by decide +kernel
theorem dX7_kept_66 : decode cX7_kept 66 = .ok (.istore 7, 2) := by decide +kernel
theorem dX7_kept_68 : decode cX7_kept 68 = .ok (.iload 7, 2) := by decide +kernel
theorem dX7_kept_70 : decode cX7_kept 70 = .ok (.ifCond .ne 5, 3) := by decide +kernel
theorem dX7_kept_73 : decode cX7_kept 73 = .ok (.iconst (-1), 1) := by decide +kernel
theorem dX7_kept_74 : decode cX7_kept 74 = .ok (.ireturn, 1) := by decide +kernel
theorem dX7_kept_75 : decode cX7_kept 75 = .ok (.iload_n 3, 1) := by decide +kernel
theorem dX7_kept_76 : decode cX7_kept 76 = .ok (.ifCond .ne 8, 3) := by decide +kernel
theorem dX7_kept_79 : decode cX7_kept 79 = .ok (.iload 5, 2) := by decide +kernel
theorem dX7_kept_81 : decode cX7_kept 81 = .ok (.goto 5, 3) := by decide +kernel
theorem dX7_kept_84 : decode cX7_kept 84 = .ok (.iload 6, 2) := by decide +kernel
theorem dX7_kept_86 : decode cX7_kept 86 = .ok (.iload 7, 2) := by decide +kernel
theorem dX7_kept_88 : decode cX7_kept 88 = .ok (.idiv, 1) := by decide +kernel
theorem dX7_kept_89 : decode cX7_kept 89 = .ok (.ireturn, 1) := by decide +kernel
theorem dX7_letter_0 : decode cX7_letter 0 = .ok (.iload_n 1, 1) := by decide +kernel
theorem dX7_letter_1 : decode cX7_letter 1 = .ok (.ifCond .ge 5, 3) := by decide +kernel
theorem dX7_letter_4 : decode cX7_letter 4 = .ok (.iconst (-1), 1) := by decide +kernel
theorem dX7_letter_5 : decode cX7_letter 5 = .ok (.ireturn, 1) := by decide +kernel
theorem dX7_letter_6 : decode cX7_letter 6 = .ok (.aload_n 0, 1) := by decide +kernel
theorem dX7_letter_7 : decode cX7_letter 7 = .ok (.invokevirtual 218, 3) := by decide +kernel
theorem dX7_letter_10 : decode cX7_letter 10 = .ok (.iload_n 1, 1) := by decide +kernel
theorem dX7_letter_11 : decode cX7_letter 11 = .ok (.aload_n 0, 1) := by decide +kernel
theorem dX7_letter_12 : decode cX7_letter 12 = .ok (.getfield 44, 3) := by decide +kernel
theorem dX7_letter_15 : decode cX7_letter 15 = .ok (.getfield 221, 3) := by decide +kernel
theorem dX7_letter_18 : decode cX7_letter 18 = .ok (.if_icmp .ge 14, 3) := by decide +kernel
theorem dX7_letter_21 : decode cX7_letter 21 = .ok (.aload_n 0, 1) := by decide +kernel
theorem dX7_letter_22 : decode cX7_letter 22 = .ok (.getfield 44, 3) := by decide +kernel
theorem dX7_letter_25 : decode cX7_letter 25 = .ok (.iload_n 1, 1) := by decide +kernel
theorem dX7_letter_26 : decode cX7_letter 26 = .ok (.invokevirtual 222, 3) := by decide +kernel
theorem dX7_letter_29 : decode cX7_letter 29 = .ok (.goto 5, 3) := by decide +kernel
theorem dX7_letter_32 : decode cX7_letter 32 = .ok (.bipush (-4), 2) := by decide +kernel
theorem dX7_letter_34 : decode cX7_letter 34 = .ok (.ireturn, 1) := by decide +kernel
theorem dX7_type_0 : decode cX7_type 0 = .ok (.iload_n 1, 1) := by decide +kernel
theorem dX7_type_1 : decode cX7_type 1 = .ok (.bipush 32, 2) := by decide +kernel
theorem dX7_type_3 : decode cX7_type 3 = .ok (.if_icmp .lt 9, 3) := by decide +kernel
theorem dX7_type_6 : decode cX7_type 6 = .ok (.iload_n 1, 1) := by decide +kernel
theorem dX7_type_7 : decode cX7_type 7 = .ok (.bipush 126, 2) := by decide +kernel
theorem dX7_type_9 : decode cX7_type 9 = .ok (.if_icmp .le 5, 3) := by decide +kernel
theorem dX7_type_12 : decode cX7_type 12 = .ok (.iconst (-1), 1) := by decide +kernel
theorem dX7_type_13 : decode cX7_type 13 = .ok (.ireturn, 1) := by decide +kernel
theorem dX7_type_14 : decode cX7_type 14 = .ok (.aload_n 0, 1) := by decide +kernel
theorem dX7_type_15 : decode cX7_type 15 = .ok (.getfield 35, 3) := by decide +kernel
theorem dX7_type_18 : decode cX7_type 18 = .ok (.getfield 226, 3) := by decide +kernel
theorem dX7_type_21 : decode cX7_type 21 = .ok (.iload_n 1, 1) := by decide +kernel
theorem dX7_type_22 : decode cX7_type 22 = .ok (.i2c, 1) := by decide +kernel
theorem dX7_type_23 : decode cX7_type 23 = .ok (.invokevirtual 229, 3) := by decide +kernel
theorem dX7_type_26 : decode cX7_type 26 = .ok (.ifCond .eq 16, 3) := by decide +kernel
theorem dX7_type_29 : decode cX7_type 29 = .ok (.aload_n 0, 1) := by decide +kernel
theorem dX7_type_30 : decode cX7_type 30 = .ok (.getfield 35, 3) := by decide +kernel
theorem dX7_type_33 : decode cX7_type 33 = .ok (.getfield 226, 3) := by decide +kernel
theorem dX7_type_36 : decode cX7_type 36 = .ok (.getfield 221, 3) := by decide +kernel
theorem dX7_type_39 : decode cX7_type 39 = .ok (.goto 5, 3) := by decide +kernel
theorem dX7_type_42 : decode cX7_type 42 = .ok (.bipush (-3), 2) := by decide +kernel
theorem dX7_type_44 : decode cX7_type 44 = .ok (.ireturn, 1) := by decide +kernel
theorem dX7_read_0 : decode cX7_read 0 = .ok (.aload_n 0, 1) := by decide +kernel
theorem dX7_read_1 : decode cX7_read 1 = .ok (.getfield 35, 3) := by decide +kernel
theorem dX7_read_4 : decode cX7_read 4 = .ok (.aload_n 0, 1) := by decide +kernel
theorem dX7_read_5 : decode cX7_read 5 = .ok (.getfield 12, 3) := by decide +kernel
theorem dX7_read_8 : decode cX7_read 8 = .ok (.invokevirtual 233, 3) := by decide +kernel
theorem dX7_read_11 : decode cX7_read 11 = .ok (.istore_n 1, 1) := by decide +kernel
theorem dX7_read_12 : decode cX7_read 12 = .ok (.aload_n 0, 1) := by decide +kernel
theorem dX7_read_13 : decode cX7_read 13 = .ok (.getfield 35, 3) := by decide +kernel
theorem dX7_read_16 : decode cX7_read 16 = .ok (.getfield 226, 3) := by decide +kernel
theorem dX7_read_19 : decode cX7_read 19 = .ok (.iconst 0, 1) := by decide +kernel
theorem dX7_read_20 : decode cX7_read 20 = .ok (.putfield 221, 3) := by decide +kernel
theorem dX7_read_23 : decode cX7_read 23 = .ok (.iload_n 1, 1) := by decide +kernel
theorem dX7_read_24 : decode cX7_read 24 = .ok (.ifCond .ne 14, 3) := by decide +kernel
theorem dX7_read_27 : decode cX7_read 27 = .ok (.bipush (-20), 2) := by decide +kernel
theorem dX7_read_29 : decode cX7_read 29 = .ok (.aload_n 0, 1) := by decide +kernel
theorem dX7_read_30 : decode cX7_read 30 = .ok (.getfield 35, 3) := by decide +kernel
theorem dX7_read_33 : decode cX7_read 33 = .ok (.getfield 237, 3) := by decide +kernel
theorem dX7_read_36 : decode cX7_read 36 = .ok (.isub, 1) := by decide +kernel
theorem dX7_read_37 : decode cX7_read 37 = .ok (.ireturn, 1) := by decide +kernel
theorem dX7_read_38 : decode cX7_read 38 = .ok (.aload_n 0, 1) := by decide +kernel
theorem dX7_read_39 : decode cX7_read 39 = .ok (.getfield 22, 3) := by decide +kernel
theorem dX7_read_42 : decode cX7_read 42 = .ok (.aload_n 0, 1) := by decide +kernel
theorem dX7_read_43 : decode cX7_read 43 = .ok (.getfield 12, 3) := by decide +kernel
theorem dX7_read_46 : decode cX7_read 46 = .ok (.invokevirtual 239, 3) := by decide +kernel
theorem dX7_read_49 : decode cX7_read 49 = .ok (.aload_n 0, 1) := by decide +kernel
theorem dX7_read_50 : decode cX7_read 50 = .ok (.getfield 12, 3) := by decide +kernel
theorem dX7_read_53 : decode cX7_read 53 = .ok (.aload_n 0, 1) := by decide +kernel
theorem dX7_read_54 : decode cX7_read 54 = .ok (.getfield 35, 3) := by decide +kernel
theorem dX7_read_57 : decode cX7_read 57 = .ok (.getfield 242, 3) := by decide +kernel
theorem dX7_read_60 : decode cX7_read 60 = .ok (.invokevirtual 69, 3) := by decide +kernel
theorem dX7_read_63 : decode cX7_read 63 = .ok (.aload_n 0, 1) := by decide +kernel
theorem dX7_read_64 : decode cX7_read 64 = .ok (.getfield 12, 3) := by decide +kernel
theorem dX7_read_67 : decode cX7_read 67 = .ok (.getfield 99, 3) := by decide +kernel
theorem dX7_read_70 : decode cX7_read 70 = .ok (.ireturn, 1) := by decide +kernel
theorem dX7_drift_0 : decode cX7_drift 0 = .ok (.iload_n 1, 1) := by decide +kernel
theorem dX7_drift_1 : decode cX7_drift 1 = .ok (.iconst 1, 1) := by decide +kernel
theorem dX7_drift_2 : decode cX7_drift 2 = .ok (.if_icmp .lt 9, 3) := by decide +kernel
theorem dX7_drift_5 : decode cX7_drift 5 = .ok (.iload_n 1, 1) := by decide +kernel
theorem dX7_drift_6 : decode cX7_drift 6 = .ok (.bipush 40, 2) := by decide +kernel
theorem dX7_drift_8 : decode cX7_drift 8 = .ok (.if_icmp .le 5, 3) := by decide +kernel
theorem dX7_drift_11 : decode cX7_drift 11 = .ok (.iconst (-1), 1) := by decide +kernel
theorem dX7_drift_12 : decode cX7_drift 12 = .ok (.ireturn, 1) := by decide +kernel
theorem dX7_drift_13 : decode cX7_drift 13 = .ok (.iconst 0, 1) := by decide +kernel
theorem dX7_drift_14 : decode cX7_drift 14 = .ok (.istore_n 2, 1) := by decide +kernel
theorem dX7_drift_15 : decode cX7_drift 15 = .ok (.iload_n 2, 1) := by decide +kernel
theorem dX7_drift_16 : decode cX7_drift 16 = .ok (.iload_n 1, 1) := by decide +kernel
theorem dX7_drift_17 : decode cX7_drift 17 = .ok (.if_icmp .ge 24, 3) := by decide +kernel
theorem dX7_drift_20 : decode cX7_drift 20 = .ok (.aload_n 0, 1) := by decide +kernel
theorem dX7_drift_21 : decode cX7_drift 21 = .ok (.getfield 22, 3) := by decide +kernel
theorem dX7_drift_24 : decode cX7_drift 24 = .ok (.aload_n 0, 1) := by decide +kernel
theorem dX7_drift_25 : decode cX7_drift 25 = .ok (.getfield 12, 3) := by decide +kernel
theorem dX7_drift_28 : decode cX7_drift 28 = .ok (.invokevirtual 239, 3) := by decide +kernel
theorem dX7_drift_31 : decode cX7_drift 31 = .ok (.aload_n 0, 1) := by decide +kernel
theorem dX7_drift_32 : decode cX7_drift 32 = .ok (.invokevirtual 245, 3) := by decide +kernel
theorem dX7_drift_35 : decode cX7_drift 35 = .ok (.iinc 2 1, 3) := by decide +kernel
theorem dX7_drift_38 : decode cX7_drift 38 = .ok (.goto (-23), 3) := by decide +kernel
theorem dX7_drift_41 : decode cX7_drift 41 = .ok (.aload_n 0, 1) := by decide +kernel
theorem dX7_drift_42 : decode cX7_drift 42 = .ok (.getfield 12, 3) := by decide +kernel
theorem dX7_drift_45 : decode cX7_drift 45 = .ok (.getfield 99, 3) := by decide +kernel
theorem dX7_drift_48 : decode cX7_drift 48 = .ok (.ireturn, 1) := by decide +kernel
theorem dX7_undo_0 : decode cX7_undo 0 = .ok (.aload_n 0, 1) := by decide +kernel
theorem dX7_undo_1 : decode cX7_undo 1 = .ok (.getfield 22, 3) := by decide +kernel
theorem dX7_undo_4 : decode cX7_undo 4 = .ok (.aload_n 0, 1) := by decide +kernel
theorem dX7_undo_5 : decode cX7_undo 5 = .ok (.getfield 12, 3) := by decide +kernel
theorem dX7_undo_8 : decode cX7_undo 8 = .ok (.invokevirtual 248, 3) := by decide +kernel
theorem dX7_undo_11 : decode cX7_undo 11 = .ok (.ifCond .eq 13, 3) := by decide +kernel
theorem dX7_undo_14 : decode cX7_undo 14 = .ok (.aload_n 0, 1) := by decide +kernel
theorem dX7_undo_15 : decode cX7_undo 15 = .ok (.getfield 22, 3) := by decide +kernel
theorem dX7_undo_18 : decode cX7_undo 18 = .ok (.getfield 179, 3) := by decide +kernel
theorem dX7_undo_21 : decode cX7_undo 21 = .ok (.goto 5, 3) := by decide +kernel
theorem dX7_undo_24 : decode cX7_undo 24 = .ok (.bipush (-4), 2) := by decide +kernel
theorem dX7_undo_26 : decode cX7_undo 26 = .ok (.ireturn, 1) := by decide +kernel
theorem dX7_seed_0 : decode cX7_seed 0 = .ok (.iload_n 1, 1) := by decide +kernel
theorem dX7_seed_1 : decode cX7_seed 1 = .ok (.ifCond .ge 5, 3) := by decide +kernel
theorem dX7_seed_4 : decode cX7_seed 4 = .ok (.iconst (-1), 1) := by decide +kernel
theorem dX7_seed_5 : decode cX7_seed 5 = .ok (.ireturn, 1) := by decide +kernel
theorem dX7_seed_6 : decode cX7_seed 6 = .ok (.aload_n 0, 1) := by decide +kernel
theorem dX7_seed_7 : decode cX7_seed 7 = .ok (.getfield 12, 3) := by decide +kernel
theorem dX7_seed_10 : decode cX7_seed 10 = .ok (.getfield 251, 3) := by decide +kernel
theorem dX7_seed_13 : decode cX7_seed 13 = .ok (.istore_n 2, 1) := by decide +kernel
theorem dX7_seed_14 : decode cX7_seed 14 = .ok (.aload_n 0, 1) := by decide +kernel
theorem dX7_seed_15 : decode cX7_seed 15 = .ok (.getfield 12, 3) := by decide +kernel
theorem dX7_seed_18 : decode cX7_seed 18 = .ok (.iload_n 1, 1) := by decide +kernel
theorem dX7_seed_19 : decode cX7_seed 19 = .ok (.putfield 251, 3) := by decide +kernel
theorem dX7_seed_22 : decode cX7_seed 22 = .ok (.iload_n 2, 1) := by decide +kernel
theorem dX7_seed_23 : decode cX7_seed 23 = .ok (.ireturn, 1) := by decide +kernel
theorem dX7_image_0 : decode cX7_image 0 = .ok (.aload_n 0, 1) := by decide +kernel
theorem dX7_image_1 : decode cX7_image 1 = .ok (.getfield 26, 3) := by decide +kernel
theorem dX7_image_4 : decode cX7_image 4 = .ok (.aload_n 0, 1) := by decide +kernel
theorem dX7_image_5 : decode cX7_image 5 = .ok (.getfield 12, 3) := by decide +kernel
theorem dX7_image_8 : decode cX7_image 8 = .ok (.invokevirtual 69, 3) := by decide +kernel
theorem dX7_image_11 : decode cX7_image 11 = .ok (.aload_n 0, 1) := by decide +kernel
theorem dX7_image_12 : decode cX7_image 12 = .ok (.getfield 29, 3) := by decide +kernel
theorem dX7_image_15 : decode cX7_image 15 = .ok (.aload_n 0, 1) := by decide +kernel
theorem dX7_image_16 : decode cX7_image 16 = .ok (.getfield 22, 3) := by decide +kernel
theorem dX7_image_19 : decode cX7_image 19 = .ok (.invokevirtual 254, 3) := by decide +kernel
theorem dX7_image_22 : decode cX7_image 22 = .ok (.aload_n 0, 1) := by decide +kernel
theorem dX7_image_23 : decode cX7_image 23 = .ok (.iconst 1, 1) := by decide +kernel
theorem dX7_image_24 : decode cX7_image 24 = .ok (.putfield 257, 3) := by decide +kernel
theorem dX7_image_27 : decode cX7_image 27 = .ok (.iconst 1, 1) := by decide +kernel
theorem dX7_image_28 : decode cX7_image 28 = .ok (.ireturn, 1) := by decide +kernel
theorem dX7_restore_0 : decode cX7_restore 0 = .ok (.aload_n 0, 1) := by decide +kernel
theorem dX7_restore_1 : decode cX7_restore 1 = .ok (.getfield 257, 3) := by decide +kernel
theorem dX7_restore_4 : decode cX7_restore 4 = .ok (.ifCond .ne 6, 3) := by decide +kernel
theorem dX7_restore_7 : decode cX7_restore 7 = .ok (.bipush (-4), 2) := by decide +kernel
theorem dX7_restore_9 : decode cX7_restore 9 = .ok (.ireturn, 1) := by decide +kernel
theorem dX7_restore_10 : decode cX7_restore 10 = .ok (.aload_n 0, 1) := by decide +kernel
theorem dX7_restore_11 : decode cX7_restore 11 = .ok (.getfield 12, 3) := by decide +kernel
theorem dX7_restore_14 : decode cX7_restore 14 = .ok (.aload_n 0, 1) := by decide +kernel
theorem dX7_restore_15 : decode cX7_restore 15 = .ok (.getfield 26, 3) := by decide +kernel
theorem dX7_restore_18 : decode cX7_restore 18 = .ok (.invokevirtual 69, 3) := by decide +kernel
theorem dX7_restore_21 : decode cX7_restore 21 = .ok (.aload_n 0, 1) := by decide +kernel
theorem dX7_restore_22 : decode cX7_restore 22 = .ok (.getfield 22, 3) := by decide +kernel
theorem dX7_restore_25 : decode cX7_restore 25 = .ok (.aload_n 0, 1) := by decide +kernel
theorem dX7_restore_26 : decode cX7_restore 26 = .ok (.getfield 29, 3) := by decide +kernel
theorem dX7_restore_29 : decode cX7_restore 29 = .ok (.invokevirtual 254, 3) := by decide +kernel
theorem dX7_restore_32 : decode cX7_restore 32 = .ok (.iconst 1, 1) := by decide +kernel
theorem dX7_restore_33 : decode cX7_restore 33 = .ok (.ireturn, 1) := by decide +kernel
theorem dX7_seen_0 : decode cX7_seen 0 = .ok (.aload_n 0, 1) := by decide +kernel
theorem dX7_seen_1 : decode cX7_seen 1 = .ok (.iload_n 1, 1) := by decide +kernel
theorem dX7_seen_2 : decode cX7_seen 2 = .ok (.iload_n 2, 1) := by decide +kernel
theorem dX7_seen_3 : decode cX7_seen 3 = .ok (.iload_n 3, 1) := by decide +kernel
theorem dX7_seen_4 : decode cX7_seen 4 = .ok (.aload_n 0, 1) := by decide +kernel
theorem dX7_seen_5 : decode cX7_seen 5 = .ok (.getfield 12, 3) := by decide +kernel
theorem dX7_seen_8 : decode cX7_seen 8 = .ok (.getfield 99, 3) := by decide +kernel
theorem dX7_seen_11 : decode cX7_seen 11 = .ok (.invokevirtual 261, 3) := by decide +kernel
theorem dX7_seen_14 : decode cX7_seen 14 = .ok (.istore 4, 2) := by decide +kernel
theorem dX7_seen_16 : decode cX7_seen 16 = .ok (.iload 4, 2) := by decide +kernel
theorem dX7_seen_18 : decode cX7_seen 18 = .ok (.ifCond .eq 6, 3) := by decide +kernel
theorem dX7_seen_21 : decode cX7_seen 21 = .ok (.iload 4, 2) := by decide +kernel
theorem dX7_seen_23 : decode cX7_seen 23 = .ok (.ireturn, 1) := by decide +kernel
theorem dX7_seen_24 : decode cX7_seen 24 = .ok (.aload_n 0, 1) := by decide +kernel
theorem dX7_seen_25 : decode cX7_seen 25 = .ok (.getfield 12, 3) := by decide +kernel
theorem dX7_seen_28 : decode cX7_seen 28 = .ok (.getfield 99, 3) := by decide +kernel
theorem dX7_seen_31 : decode cX7_seen 31 = .ok (.ifCond .ne 6, 3) := by decide +kernel
theorem dX7_seen_34 : decode cX7_seen 34 = .ok (.bipush (-2), 2) := by decide +kernel
theorem dX7_seen_36 : decode cX7_seen 36 = .ok (.ireturn, 1) := by decide +kernel
theorem dX7_seen_37 : decode cX7_seen 37 = .ok (.aload_n 0, 1) := by decide +kernel
theorem dX7_seen_38 : decode cX7_seen 38 = .ok (.getfield 58, 3) := by decide +kernel
theorem dX7_seen_41 : decode cX7_seen 41 = .ok (.aload_n 0, 1) := by decide +kernel
theorem dX7_seen_42 : decode cX7_seen 42 = .ok (.getfield 12, 3) := by decide +kernel
theorem dX7_seen_45 : decode cX7_seen 45 = .ok (.invokevirtual 191, 3) := by decide +kernel
theorem dX7_seen_48 : decode cX7_seen 48 = .ok (.aload_n 0, 1) := by decide +kernel
theorem dX7_seen_49 : decode cX7_seen 49 = .ok (.getfield 58, 3) := by decide +kernel
theorem dX7_seen_52 : decode cX7_seen 52 = .ok (.invokevirtual 265, 3) := by decide +kernel
theorem dX7_seen_55 : decode cX7_seen 55 = .ok (.iconst 0, 1) := by decide +kernel
theorem dX7_seen_56 : decode cX7_seen 56 = .ok (.istore 5, 2) := by decide +kernel
theorem dX7_seen_58 : decode cX7_seen 58 = .ok (.iload 5, 2) := by decide +kernel
theorem dX7_seen_60 : decode cX7_seen 60 = .ok (.aload_n 0, 1) := by decide +kernel
theorem dX7_seen_61 : decode cX7_seen 61 = .ok (.getfield 12, 3) := by decide +kernel
theorem dX7_seen_64 : decode cX7_seen 64 = .ok (.getfield 99, 3) := by decide +kernel
theorem dX7_seen_67 : decode cX7_seen 67 = .ok (.if_icmp .ge 56, 3) := by decide +kernel
theorem dX7_seen_70 : decode cX7_seen 70 = .ok (.aload_n 0, 1) := by decide +kernel
theorem dX7_seen_71 : decode cX7_seen 71 = .ok (.getfield 64, 3) := by decide +kernel
theorem dX7_seen_74 : decode cX7_seen 74 = .ok (.iload_n 1, 1) := by decide +kernel
theorem dX7_seen_75 : decode cX7_seen 75 = .ok (.aaload, 1) := by decide +kernel
theorem dX7_seen_76 : decode cX7_seen 76 = .ok (.getfield 268, 3) := by decide +kernel
theorem dX7_seen_79 : decode cX7_seen 79 = .ok (.iload_n 3, 1) := by decide +kernel
theorem dX7_seen_80 : decode cX7_seen 80 = .ok (.iload 5, 2) := by decide +kernel
theorem dX7_seen_82 : decode cX7_seen 82 = .ok (.iadd, 1) := by decide +kernel
theorem dX7_seen_83 : decode cX7_seen 83 = .ok (.laload, 1) := by decide +kernel
theorem dX7_seen_84 : decode cX7_seen 84 = .ok (.lstore 6, 2) := by decide +kernel
theorem dX7_seen_86 : decode cX7_seen 86 = .ok (.lload 6, 2) := by decide +kernel
theorem dX7_seen_88 : decode cX7_seen 88 = .ok (.lconst 0, 1) := by decide +kernel
theorem dX7_seen_89 : decode cX7_seen 89 = .ok (.lcmp, 1) := by decide +kernel
theorem dX7_seen_90 : decode cX7_seen 90 = .ok (.ifCond .lt 12, 3) := by decide +kernel
theorem dX7_seen_93 : decode cX7_seen 93 = .ok (.lload 6, 2) := by decide +kernel
theorem dX7_seen_95 : decode cX7_seen 95 = .ok (.ldc2_w 272, 3) := by decide +kernel
theorem dX7_seen_98 : decode cX7_seen 98 = .ok (.lcmp, 1) := by decide +kernel
theorem dX7_seen_99 : decode cX7_seen 99 = .ok (.ifCond .le 6, 3) := by decide +kernel
theorem dX7_seen_102 : decode cX7_seen 102 = .ok (.bipush (-2), 2) := by decide +kernel
theorem dX7_seen_104 : decode cX7_seen 104 = .ok (.ireturn, 1) := by decide +kernel
theorem dX7_seen_105 : decode cX7_seen 105 = .ok (.aload_n 0, 1) := by decide +kernel
theorem dX7_seen_106 : decode cX7_seen 106 = .ok (.getfield 58, 3) := by decide +kernel
theorem dX7_seen_109 : decode cX7_seen 109 = .ok (.iload 5, 2) := by decide +kernel
theorem dX7_seen_111 : decode cX7_seen 111 = .ok (.lload 6, 2) := by decide +kernel
theorem dX7_seen_113 : decode cX7_seen 113 = .ok (.l2i, 1) := by decide +kernel
theorem dX7_seen_114 : decode cX7_seen 114 = .ok (.invokevirtual 274, 3) := by decide +kernel
theorem dX7_seen_117 : decode cX7_seen 117 = .ok (.iinc 5 1, 3) := by decide +kernel
theorem dX7_seen_120 : decode cX7_seen 120 = .ok (.goto (-62), 3) := by decide +kernel
theorem dX7_seen_123 : decode cX7_seen 123 = .ok (.aload_n 0, 1) := by decide +kernel
theorem dX7_seen_124 : decode cX7_seen 124 = .ok (.getfield 58, 3) := by decide +kernel
theorem dX7_seen_127 : decode cX7_seen 127 = .ok (.invokevirtual 197, 3) := by decide +kernel
theorem dX7_seen_130 : decode cX7_seen 130 = .ok (.aload_n 0, 1) := by decide +kernel
theorem dX7_seen_131 : decode cX7_seen 131 = .ok (.getfield 58, 3) := by decide +kernel
theorem dX7_seen_134 : decode cX7_seen 134 = .ok (.getfield 200, 3) := by decide +kernel
theorem dX7_seen_137 : decode cX7_seen 137 = .ok (.ireturn, 1) := by decide +kernel
theorem dX7_film_0 : decode cX7_film 0 = .ok (.aload_n 0, 1) := by decide +kernel
theorem dX7_film_1 : decode cX7_film 1 = .ok (.iload_n 1, 1) := by decide +kernel
theorem dX7_film_2 : decode cX7_film 2 = .ok (.iload_n 2, 1) := by decide +kernel
theorem dX7_film_3 : decode cX7_film 3 = .ok (.iload_n 3, 1) := by decide +kernel
theorem dX7_film_4 : decode cX7_film 4 = .ok (.aload_n 0, 1) := by decide +kernel
theorem dX7_film_5 : decode cX7_film 5 = .ok (.getfield 12, 3) := by decide +kernel
theorem dX7_film_8 : decode cX7_film 8 = .ok (.getfield 99, 3) := by decide +kernel
theorem dX7_film_11 : decode cX7_film 11 = .ok (.invokevirtual 261, 3) := by decide +kernel
theorem dX7_film_14 : decode cX7_film 14 = .ok (.istore 4, 2) := by decide +kernel
theorem dX7_film_16 : decode cX7_film 16 = .ok (.iload 4, 2) := by decide +kernel
theorem dX7_film_18 : decode cX7_film 18 = .ok (.ifCond .eq 6, 3) := by decide +kernel
theorem dX7_film_21 : decode cX7_film 21 = .ok (.iload 4, 2) := by decide +kernel
theorem dX7_film_23 : decode cX7_film 23 = .ok (.ireturn, 1) := by decide +kernel
theorem dX7_film_24 : decode cX7_film 24 = .ok (.aload_n 0, 1) := by decide +kernel
theorem dX7_film_25 : decode cX7_film 25 = .ok (.getfield 51, 3) := by decide +kernel
theorem dX7_film_28 : decode cX7_film 28 = .ok (.aload_n 0, 1) := by decide +kernel
theorem dX7_film_29 : decode cX7_film 29 = .ok (.getfield 12, 3) := by decide +kernel
theorem dX7_film_32 : decode cX7_film 32 = .ok (.invokevirtual 119, 3) := by decide +kernel
theorem dX7_film_35 : decode cX7_film 35 = .ok (.iconst 0, 1) := by decide +kernel
theorem dX7_film_36 : decode cX7_film 36 = .ok (.istore 5, 2) := by decide +kernel
theorem dX7_film_38 : decode cX7_film 38 = .ok (.iload 5, 2) := by decide +kernel
theorem dX7_film_40 : decode cX7_film 40 = .ok (.aload_n 0, 1) := by decide +kernel
theorem dX7_film_41 : decode cX7_film 41 = .ok (.getfield 12, 3) := by decide +kernel
theorem dX7_film_44 : decode cX7_film 44 = .ok (.getfield 99, 3) := by decide +kernel
theorem dX7_film_47 : decode cX7_film 47 = .ok (.if_icmp .ge 36, 3) := by decide +kernel
theorem dX7_film_50 : decode cX7_film 50 = .ok (.aload_n 0, 1) := by decide +kernel
theorem dX7_film_51 : decode cX7_film 51 = .ok (.getfield 64, 3) := by decide +kernel
theorem dX7_film_54 : decode cX7_film 54 = .ok (.iload_n 1, 1) := by decide +kernel
theorem dX7_film_55 : decode cX7_film 55 = .ok (.aaload, 1) := by decide +kernel
theorem dX7_film_56 : decode cX7_film 56 = .ok (.iload_n 3, 1) := by decide +kernel
theorem dX7_film_57 : decode cX7_film 57 = .ok (.iload 5, 2) := by decide +kernel
theorem dX7_film_59 : decode cX7_film 59 = .ok (.iadd, 1) := by decide +kernel
theorem dX7_film_60 : decode cX7_film 60 = .ok (.aload_n 0, 1) := by decide +kernel
theorem dX7_film_61 : decode cX7_film 61 = .ok (.getfield 51, 3) := by decide +kernel
theorem dX7_film_64 : decode cX7_film 64 = .ok (.getfield 125, 3) := by decide +kernel
theorem dX7_film_67 : decode cX7_film 67 = .ok (.iload 5, 2) := by decide +kernel
theorem dX7_film_69 : decode cX7_film 69 = .ok (.iaload, 1) := by decide +kernel
theorem dX7_film_70 : decode cX7_film 70 = .ok (.invokestatic 128, 3) := by decide +kernel
theorem dX7_film_73 : decode cX7_film 73 = .ok (.i2l, 1) := by decide +kernel
theorem dX7_film_74 : decode cX7_film 74 = .ok (.invokevirtual 278, 3) := by decide +kernel
theorem dX7_film_77 : decode cX7_film 77 = .ok (.iinc 5 1, 3) := by decide +kernel
theorem dX7_film_80 : decode cX7_film 80 = .ok (.goto (-42), 3) := by decide +kernel
theorem dX7_film_83 : decode cX7_film 83 = .ok (.aload_n 0, 1) := by decide +kernel
theorem dX7_film_84 : decode cX7_film 84 = .ok (.getfield 12, 3) := by decide +kernel
theorem dX7_film_87 : decode cX7_film 87 = .ok (.getfield 99, 3) := by decide +kernel
theorem dX7_film_90 : decode cX7_film 90 = .ok (.ireturn, 1) := by decide +kernel
theorem dX7_sheet_0 : decode cX7_sheet 0 = .ok (.iload_n 1, 1) := by decide +kernel
theorem dX7_sheet_1 : decode cX7_sheet 1 = .ok (.invokestatic 282, 3) := by decide +kernel
theorem dX7_sheet_4 : decode cX7_sheet 4 = .ok (.ifCond .eq 16, 3) := by decide +kernel
theorem dX7_sheet_7 : decode cX7_sheet 7 = .ok (.iload_n 2, 1) := by decide +kernel
theorem dX7_sheet_8 : decode cX7_sheet 8 = .ok (.invokestatic 285, 3) := by decide +kernel
theorem dX7_sheet_11 : decode cX7_sheet 11 = .ok (.ifCond .eq 9, 3) := by decide +kernel
theorem dX7_sheet_14 : decode cX7_sheet 14 = .ok (.iload_n 3, 1) := by decide +kernel
theorem dX7_sheet_15 : decode cX7_sheet 15 = .ok (.bipush 24, 2) := by decide +kernel
theorem dX7_sheet_17 : decode cX7_sheet 17 = .ok (.if_icmp .le 5, 3) := by decide +kernel
theorem dX7_sheet_20 : decode cX7_sheet 20 = .ok (.iconst (-1), 1) := by decide +kernel
theorem dX7_sheet_21 : decode cX7_sheet 21 = .ok (.ireturn, 1) := by decide +kernel
theorem dX7_sheet_22 : decode cX7_sheet 22 = .ok (.iload_n 3, 1) := by decide +kernel
theorem dX7_sheet_23 : decode cX7_sheet 23 = .ok (.ifCond .ge 6, 3) := by decide +kernel
theorem dX7_sheet_26 : decode cX7_sheet 26 = .ok (.bipush (-14), 2) := by decide +kernel
theorem dX7_sheet_28 : decode cX7_sheet 28 = .ok (.ireturn, 1) := by decide +kernel
theorem dX7_sheet_29 : decode cX7_sheet 29 = .ok (.aload_n 0, 1) := by decide +kernel
theorem dX7_sheet_30 : decode cX7_sheet 30 = .ok (.getfield 64, 3) := by decide +kernel
theorem dX7_sheet_33 : decode cX7_sheet 33 = .ok (.iload_n 1, 1) := by decide +kernel
theorem dX7_sheet_34 : decode cX7_sheet 34 = .ok (.aaload, 1) := by decide +kernel
theorem dX7_sheet_35 : decode cX7_sheet 35 = .ok (.iload_n 2, 1) := by decide +kernel
theorem dX7_sheet_36 : decode cX7_sheet 36 = .ok (.iload_n 3, 1) := by decide +kernel
theorem dX7_sheet_37 : decode cX7_sheet 37 = .ok (.invokevirtual 288, 3) := by decide +kernel
theorem dX7_sheet_40 : decode cX7_sheet 40 = .ok (.iload_n 3, 1) := by decide +kernel
theorem dX7_sheet_41 : decode cX7_sheet 41 = .ok (.ireturn, 1) := by decide +kernel
theorem dX7_drop_0 : decode cX7_drop 0 = .ok (.iload_n 1, 1) := by decide +kernel
theorem dX7_drop_1 : decode cX7_drop 1 = .ok (.invokestatic 282, 3) := by decide +kernel
theorem dX7_drop_4 : decode cX7_drop 4 = .ok (.ifCond .ne 5, 3) := by decide +kernel
theorem dX7_drop_7 : decode cX7_drop 7 = .ok (.iconst (-1), 1) := by decide +kernel
theorem dX7_drop_8 : decode cX7_drop 8 = .ok (.ireturn, 1) := by decide +kernel
theorem dX7_drop_9 : decode cX7_drop 9 = .ok (.aload_n 0, 1) := by decide +kernel
theorem dX7_drop_10 : decode cX7_drop 10 = .ok (.getfield 64, 3) := by decide +kernel
theorem dX7_drop_13 : decode cX7_drop 13 = .ok (.iload_n 1, 1) := by decide +kernel
theorem dX7_drop_14 : decode cX7_drop 14 = .ok (.aaload, 1) := by decide +kernel
theorem dX7_drop_15 : decode cX7_drop 15 = .ok (.getfield 291, 3) := by decide +kernel
theorem dX7_drop_18 : decode cX7_drop 18 = .ok (.iconst (-1), 1) := by decide +kernel
theorem dX7_drop_19 : decode cX7_drop 19 = .ok (.if_icmp .ne 6, 3) := by decide +kernel
theorem dX7_drop_22 : decode cX7_drop 22 = .ok (.bipush (-11), 2) := by decide +kernel
theorem dX7_drop_24 : decode cX7_drop 24 = .ok (.ireturn, 1) := by decide +kernel
theorem dX7_drop_25 : decode cX7_drop 25 = .ok (.aload_n 0, 1) := by decide +kernel
theorem dX7_drop_26 : decode cX7_drop 26 = .ok (.getfield 64, 3) := by decide +kernel
theorem dX7_drop_29 : decode cX7_drop 29 = .ok (.iload_n 1, 1) := by decide +kernel
theorem dX7_drop_30 : decode cX7_drop 30 = .ok (.aaload, 1) := by decide +kernel
theorem dX7_drop_31 : decode cX7_drop 31 = .ok (.getfield 294, 3) := by decide +kernel
theorem dX7_drop_34 : decode cX7_drop 34 = .ok (.istore_n 2, 1) := by decide +kernel
theorem dX7_drop_35 : decode cX7_drop 35 = .ok (.aload_n 0, 1) := by decide +kernel
theorem dX7_drop_36 : decode cX7_drop 36 = .ok (.getfield 64, 3) := by decide +kernel
theorem dX7_drop_39 : decode cX7_drop 39 = .ok (.iload_n 1, 1) := by decide +kernel
theorem dX7_drop_40 : decode cX7_drop 40 = .ok (.aaload, 1) := by decide +kernel
theorem dX7_drop_41 : decode cX7_drop 41 = .ok (.iconst (-1), 1) := by decide +kernel
theorem dX7_drop_42 : decode cX7_drop 42 = .ok (.iconst 0, 1) := by decide +kernel
theorem dX7_drop_43 : decode cX7_drop 43 = .ok (.invokevirtual 288, 3) := by decide +kernel
theorem dX7_drop_46 : decode cX7_drop 46 = .ok (.iload_n 2, 1) := by decide +kernel
theorem dX7_drop_47 : decode cX7_drop 47 = .ok (.ireturn, 1) := by decide +kernel
theorem dX7_item_0 : decode cX7_item 0 = .ok (.aload_n 0, 1) := by decide +kernel
theorem dX7_item_1 : decode cX7_item 1 = .ok (.iload_n 1, 1) := by decide +kernel
theorem dX7_item_2 : decode cX7_item 2 = .ok (.iload_n 2, 1) := by decide +kernel
theorem dX7_item_3 : decode cX7_item 3 = .ok (.iload_n 3, 1) := by decide +kernel
theorem dX7_item_4 : decode cX7_item 4 = .ok (.iconst 1, 1) := by decide +kernel
theorem dX7_item_5 : decode cX7_item 5 = .ok (.invokevirtual 261, 3) := by decide +kernel
theorem dX7_item_8 : decode cX7_item 8 = .ok (.istore 6, 2) := by decide +kernel
theorem dX7_item_10 : decode cX7_item 10 = .ok (.iload 6, 2) := by decide +kernel
theorem dX7_item_12 : decode cX7_item 12 = .ok (.ifCond .eq 6, 3) := by decide +kernel
theorem dX7_item_15 : decode cX7_item 15 = .ok (.iload 6, 2) := by decide +kernel
theorem dX7_item_17 : decode cX7_item 17 = .ok (.ireturn, 1) := by decide +kernel
theorem dX7_item_18 : decode cX7_item 18 = .ok (.aload_n 0, 1) := by decide +kernel
theorem dX7_item_19 : decode cX7_item 19 = .ok (.getfield 64, 3) := by decide +kernel
theorem dX7_item_22 : decode cX7_item 22 = .ok (.iload_n 1, 1) := by decide +kernel
theorem dX7_item_23 : decode cX7_item 23 = .ok (.aaload, 1) := by decide +kernel
theorem dX7_item_24 : decode cX7_item 24 = .ok (.iload_n 3, 1) := by decide +kernel
theorem dX7_item_25 : decode cX7_item 25 = .ok (.lload 4, 2) := by decide +kernel
theorem dX7_item_27 : decode cX7_item 27 = .ok (.invokevirtual 278, 3) := by decide +kernel
theorem dX7_item_30 : decode cX7_item 30 = .ok (.iconst 1, 1) := by decide +kernel
theorem dX7_item_31 : decode cX7_item 31 = .ok (.ireturn, 1) := by decide +kernel
theorem dX7_copy_0 : decode cX7_copy 0 = .ok (.iload_n 1, 1) := by decide +kernel
theorem dX7_copy_1 : decode cX7_copy 1 = .ok (.invokestatic 282, 3) := by decide +kernel
theorem dX7_copy_4 : decode cX7_copy 4 = .ok (.ifCond .eq 10, 3) := by decide +kernel
theorem dX7_copy_7 : decode cX7_copy 7 = .ok (.iload_n 3, 1) := by decide +kernel
theorem dX7_copy_8 : decode cX7_copy 8 = .ok (.invokestatic 282, 3) := by decide +kernel
theorem dX7_copy_11 : decode cX7_copy 11 = .ok (.ifCond .ne 5, 3) := by decide +kernel
theorem dX7_copy_14 : decode cX7_copy 14 = .ok (.iconst (-1), 1) := by decide +kernel
theorem dX7_copy_15 : decode cX7_copy 15 = .ok (.ireturn, 1) := by decide +kernel
theorem dX7_copy_16 : decode cX7_copy 16 = .ok (.aload_n 0, 1) := by decide +kernel
theorem dX7_copy_17 : decode cX7_copy 17 = .ok (.getfield 64, 3) := by decide +kernel
theorem dX7_copy_20 : decode cX7_copy 20 = .ok (.iload_n 1, 1) := by decide +kernel
theorem dX7_copy_21 : decode cX7_copy 21 = .ok (.aaload, 1) := by decide +kernel
theorem dX7_copy_22 : decode cX7_copy 22 = .ok (.astore 6, 2) := by decide +kernel
theorem dX7_copy_24 : decode cX7_copy 24 = .ok (.aload_n 0, 1) := by decide +kernel
theorem dX7_copy_25 : decode cX7_copy 25 = .ok (.getfield 64, 3) := by decide +kernel
theorem dX7_copy_28 : decode cX7_copy 28 = .ok (.iload_n 3, 1) := by decide +kernel
theorem dX7_copy_29 : decode cX7_copy 29 = .ok (.aaload, 1) := by decide +kernel
theorem dX7_copy_30 : decode cX7_copy 30 = .ok (.astore 7, 2) := by decide +kernel
theorem dX7_copy_32 : decode cX7_copy 32 = .ok (.aload 6, 2) := by decide +kernel
theorem dX7_copy_34 : decode cX7_copy 34 = .ok (.getfield 291, 3) := by decide +kernel
theorem dX7_copy_37 : decode cX7_copy 37 = .ok (.iconst (-1), 1) := by decide +kernel
theorem dX7_copy_38 : decode cX7_copy 38 = .ok (.if_icmp .eq 12, 3) := by decide +kernel
theorem dX7_copy_41 : decode cX7_copy 41 = .ok (.aload 7, 2) := by decide +kernel
theorem dX7_copy_43 : decode cX7_copy 43 = .ok (.getfield 291, 3) := by decide +kernel
theorem dX7_copy_46 : decode cX7_copy 46 = .ok (.iconst (-1), 1) := by decide +kernel
theorem dX7_copy_47 : decode cX7_copy 47 = .ok (.if_icmp .ne 6, 3) := by decide +kernel
theorem dX7_copy_50 : decode cX7_copy 50 = .ok (.bipush (-11), 2) := by decide +kernel
theorem dX7_copy_52 : decode cX7_copy 52 = .ok (.ireturn, 1) := by decide +kernel
theorem dX7_copy_53 : decode cX7_copy 53 = .ok (.aload 6, 2) := by decide +kernel
theorem dX7_copy_55 : decode cX7_copy 55 = .ok (.getfield 291, 3) := by decide +kernel
theorem dX7_copy_58 : decode cX7_copy 58 = .ok (.aload 7, 2) := by decide +kernel
theorem dX7_copy_60 : decode cX7_copy 60 = .ok (.getfield 291, 3) := by decide +kernel
theorem dX7_copy_63 : decode cX7_copy 63 = .ok (.if_icmp .eq 6, 3) := by decide +kernel
theorem dX7_copy_66 : decode cX7_copy 66 = .ok (.bipush (-12), 2) := by decide +kernel
theorem dX7_copy_68 : decode cX7_copy 68 = .ok (.ireturn, 1) := by decide +kernel
theorem dX7_copy_69 : decode cX7_copy 69 = .ok (.aload 6, 2) := by decide +kernel
theorem dX7_copy_71 : decode cX7_copy 71 = .ok (.iload_n 2, 1) := by decide +kernel
theorem dX7_copy_72 : decode cX7_copy 72 = .ok (.iload 5, 2) := by decide +kernel
theorem dX7_copy_74 : decode cX7_copy 74 = .ok (.invokevirtual 295, 3) := by decide +kernel
theorem dX7_copy_77 : decode cX7_copy 77 = .ok (.ifCond .eq 15, 3) := by decide +kernel
theorem dX7_copy_80 : decode cX7_copy 80 = .ok (.aload 7, 2) := by decide +kernel
theorem dX7_copy_82 : decode cX7_copy 82 = .ok (.iload 4, 2) := by decide +kernel
theorem dX7_copy_84 : decode cX7_copy 84 = .ok (.iload 5, 2) := by decide +kernel
theorem dX7_copy_86 : decode cX7_copy 86 = .ok (.invokevirtual 295, 3) := by decide +kernel
theorem dX7_copy_89 : decode cX7_copy 89 = .ok (.ifCond .ne 6, 3) := by decide +kernel
theorem dX7_copy_92 : decode cX7_copy 92 = .ok (.bipush (-13), 2) := by decide +kernel
theorem dX7_copy_94 : decode cX7_copy 94 = .ok (.ireturn, 1) := by decide +kernel
theorem dX7_copy_95 : decode cX7_copy 95 = .ok (.aload 6, 2) := by decide +kernel
theorem dX7_copy_97 : decode cX7_copy 97 = .ok (.getfield 268, 3) := by decide +kernel
theorem dX7_copy_100 : decode cX7_copy 100 = .ok (.iload_n 2, 1) := by decide +kernel
theorem dX7_copy_101 : decode cX7_copy 101 = .ok (.aload 7, 2) := by decide +kernel
theorem dX7_copy_103 : decode cX7_copy 103 = .ok (.getfield 268, 3) := by decide +kernel
theorem dX7_copy_106 : decode cX7_copy 106 = .ok (.iload 4, 2) := by decide +kernel
theorem dX7_copy_108 : decode cX7_copy 108 = .ok (.iload 5, 2) := by decide +kernel
theorem dX7_copy_110 : decode cX7_copy 110 = .ok (.invokestatic 299, 3) := by decide +kernel
theorem dX7_copy_113 : decode cX7_copy 113 = .ok (.iload 5, 2) := by decide +kernel
theorem dX7_copy_115 : decode cX7_copy 115 = .ok (.ireturn, 1) := by decide +kernel
theorem dX7_remembered_0 : decode cX7_remembered 0 = .ok (.iload_n 1, 1) := by decide +kernel
theorem dX7_remembered_1 : decode cX7_remembered 1 = .ok (.ifCond .lt 14, 3) := by decide +kernel
theorem dX7_remembered_4 : decode cX7_remembered 4 = .ok (.aload_n 0, 1) := by decide +kernel
theorem dX7_remembered_5 : decode cX7_remembered 5 = .ok (.getfield 22, 3) := by decide +kernel
theorem dX7_remembered_8 : decode cX7_remembered 8 = .ok (.aload_n 0, 1) := by decide +kernel
theorem dX7_remembered_9 : decode cX7_remembered 9 = .ok (.getfield 16, 3) := by decide +kernel
theorem dX7_remembered_12 : decode cX7_remembered 12 = .ok (.invokevirtual 239, 3) := by decide +kernel
theorem dX7_remembered_15 : decode cX7_remembered 15 = .ok (.iload_n 1, 1) := by decide +kernel
theorem dX7_remembered_16 : decode cX7_remembered 16 = .ok (.ireturn, 1) := by decide +kernel
theorem dX7_takeTurn_0 : decode cX7_takeTurn 0 = .ok (.aload_n 0, 1) := by decide +kernel
theorem dX7_takeTurn_1 : decode cX7_takeTurn 1 = .ok (.getfield 12, 3) := by decide +kernel
theorem dX7_takeTurn_4 : decode cX7_takeTurn 4 = .ok (.invokevirtual 305, 3) := by decide +kernel
theorem dX7_takeTurn_7 : decode cX7_takeTurn 7 = .ok (.aload_n 0, 1) := by decide +kernel
theorem dX7_takeTurn_8 : decode cX7_takeTurn 8 = .ok (.getfield 12, 3) := by decide +kernel
theorem dX7_takeTurn_11 : decode cX7_takeTurn 11 = .ok (.getfield 251, 3) := by decide +kernel
theorem dX7_takeTurn_14 : decode cX7_takeTurn 14 = .ok (.ldc_w 308, 3) := by decide +kernel
theorem dX7_takeTurn_17 : decode cX7_takeTurn 17 = .ok (.idiv, 1) := by decide +kernel
theorem dX7_takeTurn_18 : decode cX7_takeTurn 18 = .ok (.istore_n 1, 1) := by decide +kernel
theorem dX7_takeTurn_19 : decode cX7_takeTurn 19 = .ok (.aload_n 0, 1) := by decide +kernel
theorem dX7_takeTurn_20 : decode cX7_takeTurn 20 = .ok (.getfield 12, 3) := by decide +kernel
theorem dX7_takeTurn_23 : decode cX7_takeTurn 23 = .ok (.invokevirtual 305, 3) := by decide +kernel
theorem dX7_takeTurn_26 : decode cX7_takeTurn 26 = .ok (.aload_n 0, 1) := by decide +kernel
theorem dX7_takeTurn_27 : decode cX7_takeTurn 27 = .ok (.getfield 12, 3) := by decide +kernel
theorem dX7_takeTurn_30 : decode cX7_takeTurn 30 = .ok (.getfield 251, 3) := by decide +kernel
theorem dX7_takeTurn_33 : decode cX7_takeTurn 33 = .ok (.sipush 2048, 3) := by decide +kernel
theorem dX7_takeTurn_36 : decode cX7_takeTurn 36 = .ok (.idiv, 1) := by decide +kernel
theorem dX7_takeTurn_37 : decode cX7_takeTurn 37 = .ok (.ldc_w 309, 3) := by decide +kernel
theorem dX7_takeTurn_40 : decode cX7_takeTurn 40 = .ok (.irem, 1) := by decide +kernel
theorem dX7_takeTurn_41 : decode cX7_takeTurn 41 = .ok (.istore_n 2, 1) := by decide +kernel
theorem dX7_takeTurn_42 : decode cX7_takeTurn 42 = .ok (.iload_n 1, 1) := by decide +kernel
theorem dX7_takeTurn_43 : decode cX7_takeTurn 43 = .ok (.bipush 8, 2) := by decide +kernel
theorem dX7_takeTurn_45 : decode cX7_takeTurn 45 = .ok (.idiv, 1) := by decide +kernel
theorem dX7_takeTurn_46 : decode cX7_takeTurn 46 = .ok (.bipush 7, 2) := by decide +kernel
theorem dX7_takeTurn_48 : decode cX7_takeTurn 48 = .ok (.irem, 1) := by decide +kernel
theorem dX7_takeTurn_49 : decode cX7_takeTurn 49 = .ok (.istore_n 3, 1) := by decide +kernel
theorem dX7_takeTurn_50 : decode cX7_takeTurn 50 = .ok (.iload_n 1, 1) := by decide +kernel
theorem dX7_takeTurn_51 : decode cX7_takeTurn 51 = .ok (.bipush 64, 2) := by decide +kernel
theorem dX7_takeTurn_53 : decode cX7_takeTurn 53 = .ok (.idiv, 1) := by decide +kernel
theorem dX7_takeTurn_54 : decode cX7_takeTurn 54 = .ok (.bipush 7, 2) := by decide +kernel
theorem dX7_takeTurn_56 : decode cX7_takeTurn 56 = .ok (.irem, 1) := by decide +kernel
theorem dX7_takeTurn_57 : decode cX7_takeTurn 57 = .ok (.istore 4, 2) := by decide +kernel
theorem dX7_takeTurn_59 : decode cX7_takeTurn 59 = .ok (.iload_n 1, 1) := by decide +kernel
theorem dX7_takeTurn_60 : decode cX7_takeTurn 60 = .ok (.bipush 8, 2) := by decide +kernel
theorem dX7_takeTurn_62 : decode cX7_takeTurn 62 = .ok (.irem, 1) := by decide +kernel
theorem dX7_takeTurn_63 : decode cX7_takeTurn 63 = .ok (.tableswitch 114 0 6 #[41, 41, 53, 66, 80, 80, 94], 41) := by decide +kernel
theorem dX7_takeTurn_104 : decode cX7_takeTurn 104 = .ok (.aload_n 0, 1) := by decide +kernel
theorem dX7_takeTurn_105 : decode cX7_takeTurn 105 = .ok (.getfield 12, 3) := by decide +kernel
theorem dX7_takeTurn_108 : decode cX7_takeTurn 108 = .ok (.iload_n 2, 1) := by decide +kernel
theorem dX7_takeTurn_109 : decode cX7_takeTurn 109 = .ok (.invokevirtual 73, 3) := by decide +kernel
theorem dX7_takeTurn_112 : decode cX7_takeTurn 112 = .ok (.pop, 1) := by decide +kernel
theorem dX7_takeTurn_113 : decode cX7_takeTurn 113 = .ok (.goto 79, 3) := by decide +kernel
theorem dX7_takeTurn_116 : decode cX7_takeTurn 116 = .ok (.aload_n 0, 1) := by decide +kernel
theorem dX7_takeTurn_117 : decode cX7_takeTurn 117 = .ok (.getfield 12, 3) := by decide +kernel
theorem dX7_takeTurn_120 : decode cX7_takeTurn 120 = .ok (.iload_n 3, 1) := by decide +kernel
theorem dX7_takeTurn_121 : decode cX7_takeTurn 121 = .ok (.iload_n 2, 1) := by decide +kernel
theorem dX7_takeTurn_122 : decode cX7_takeTurn 122 = .ok (.invokevirtual 80, 3) := by decide +kernel
theorem dX7_takeTurn_125 : decode cX7_takeTurn 125 = .ok (.pop, 1) := by decide +kernel
theorem dX7_takeTurn_126 : decode cX7_takeTurn 126 = .ok (.goto 66, 3) := by decide +kernel
theorem dX7_takeTurn_129 : decode cX7_takeTurn 129 = .ok (.aload_n 0, 1) := by decide +kernel
theorem dX7_takeTurn_130 : decode cX7_takeTurn 130 = .ok (.getfield 12, 3) := by decide +kernel
theorem dX7_takeTurn_133 : decode cX7_takeTurn 133 = .ok (.iload_n 3, 1) := by decide +kernel
theorem dX7_takeTurn_134 : decode cX7_takeTurn 134 = .ok (.iload 4, 2) := by decide +kernel
theorem dX7_takeTurn_136 : decode cX7_takeTurn 136 = .ok (.invokevirtual 87, 3) := by decide +kernel
theorem dX7_takeTurn_139 : decode cX7_takeTurn 139 = .ok (.pop, 1) := by decide +kernel
theorem dX7_takeTurn_140 : decode cX7_takeTurn 140 = .ok (.goto 52, 3) := by decide +kernel
theorem dX7_takeTurn_143 : decode cX7_takeTurn 143 = .ok (.aload_n 0, 1) := by decide +kernel
theorem dX7_takeTurn_144 : decode cX7_takeTurn 144 = .ok (.getfield 12, 3) := by decide +kernel
theorem dX7_takeTurn_147 : decode cX7_takeTurn 147 = .ok (.iload_n 3, 1) := by decide +kernel
theorem dX7_takeTurn_148 : decode cX7_takeTurn 148 = .ok (.iload 4, 2) := by decide +kernel
theorem dX7_takeTurn_150 : decode cX7_takeTurn 150 = .ok (.invokevirtual 96, 3) := by decide +kernel
theorem dX7_takeTurn_153 : decode cX7_takeTurn 153 = .ok (.pop, 1) := by decide +kernel
theorem dX7_takeTurn_154 : decode cX7_takeTurn 154 = .ok (.goto 38, 3) := by decide +kernel
theorem dX7_takeTurn_157 : decode cX7_takeTurn 157 = .ok (.aload_n 0, 1) := by decide +kernel
theorem dX7_takeTurn_158 : decode cX7_takeTurn 158 = .ok (.getfield 12, 3) := by decide +kernel
theorem dX7_takeTurn_161 : decode cX7_takeTurn 161 = .ok (.iconst 0, 1) := by decide +kernel
theorem dX7_takeTurn_162 : decode cX7_takeTurn 162 = .ok (.iload_n 1, 1) := by decide +kernel
theorem dX7_takeTurn_163 : decode cX7_takeTurn 163 = .ok (.bipush 8, 2) := by decide +kernel
theorem dX7_takeTurn_165 : decode cX7_takeTurn 165 = .ok (.idiv, 1) := by decide +kernel
theorem dX7_takeTurn_166 : decode cX7_takeTurn 166 = .ok (.iconst 4, 1) := by decide +kernel
theorem dX7_takeTurn_167 : decode cX7_takeTurn 167 = .ok (.irem, 1) := by decide +kernel
theorem dX7_takeTurn_168 : decode cX7_takeTurn 168 = .ok (.iconst 1, 1) := by decide +kernel
theorem dX7_takeTurn_169 : decode cX7_takeTurn 169 = .ok (.iadd, 1) := by decide +kernel
theorem dX7_takeTurn_170 : decode cX7_takeTurn 170 = .ok (.invokevirtual 93, 3) := by decide +kernel
theorem dX7_takeTurn_173 : decode cX7_takeTurn 173 = .ok (.pop, 1) := by decide +kernel
theorem dX7_takeTurn_174 : decode cX7_takeTurn 174 = .ok (.goto 18, 3) := by decide +kernel
theorem dX7_takeTurn_177 : decode cX7_takeTurn 177 = .ok (.aload_n 0, 1) := by decide +kernel
theorem dX7_takeTurn_178 : decode cX7_takeTurn 178 = .ok (.getfield 12, 3) := by decide +kernel
theorem dX7_takeTurn_181 : decode cX7_takeTurn 181 = .ok (.iconst 2, 1) := by decide +kernel
theorem dX7_takeTurn_182 : decode cX7_takeTurn 182 = .ok (.iload_n 1, 1) := by decide +kernel
theorem dX7_takeTurn_183 : decode cX7_takeTurn 183 = .ok (.bipush 8, 2) := by decide +kernel
theorem dX7_takeTurn_185 : decode cX7_takeTurn 185 = .ok (.idiv, 1) := by decide +kernel
theorem dX7_takeTurn_186 : decode cX7_takeTurn 186 = .ok (.iconst 3, 1) := by decide +kernel
theorem dX7_takeTurn_187 : decode cX7_takeTurn 187 = .ok (.irem, 1) := by decide +kernel
theorem dX7_takeTurn_188 : decode cX7_takeTurn 188 = .ok (.invokevirtual 93, 3) := by decide +kernel
theorem dX7_takeTurn_191 : decode cX7_takeTurn 191 = .ok (.pop, 1) := by decide +kernel
theorem dX7_takeTurn_192 : decode cX7_takeTurn 192 = .ok (.return_, 1) := by decide +kernel
theorem dX7_seekBestOrGrown_0 : decode cX7_seekBestOrGrown 0 = .ok (.aload_n 0, 1) := by decide +kernel
theorem dX7_seekBestOrGrown_1 : decode cX7_seekBestOrGrown 1 = .ok (.getfield 58, 3) := by decide +kernel
theorem dX7_seekBestOrGrown_4 : decode cX7_seekBestOrGrown 4 = .ok (.aload_n 0, 1) := by decide +kernel
theorem dX7_seekBestOrGrown_5 : decode cX7_seekBestOrGrown 5 = .ok (.getfield 12, 3) := by decide +kernel
theorem dX7_seekBestOrGrown_8 : decode cX7_seekBestOrGrown 8 = .ok (.invokevirtual 191, 3) := by decide +kernel
theorem dX7_seekBestOrGrown_11 : decode cX7_seekBestOrGrown 11 = .ok (.iload_n 1, 1) := by decide +kernel
theorem dX7_seekBestOrGrown_12 : decode cX7_seekBestOrGrown 12 = .ok (.ifCond .eq 13, 3) := by decide +kernel
theorem dX7_seekBestOrGrown_15 : decode cX7_seekBestOrGrown 15 = .ok (.aload_n 0, 1) := by decide +kernel
theorem dX7_seekBestOrGrown_16 : decode cX7_seekBestOrGrown 16 = .ok (.getfield 58, 3) := by decide +kernel
theorem dX7_seekBestOrGrown_19 : decode cX7_seekBestOrGrown 19 = .ok (.invokevirtual 310, 3) := by decide +kernel
theorem dX7_seekBestOrGrown_22 : decode cX7_seekBestOrGrown 22 = .ok (.goto 10, 3) := by decide +kernel
theorem dX7_seekBestOrGrown_25 : decode cX7_seekBestOrGrown 25 = .ok (.aload_n 0, 1) := by decide +kernel
theorem dX7_seekBestOrGrown_26 : decode cX7_seekBestOrGrown 26 = .ok (.getfield 58, 3) := by decide +kernel
theorem dX7_seekBestOrGrown_29 : decode cX7_seekBestOrGrown 29 = .ok (.invokevirtual 313, 3) := by decide +kernel
theorem dX7_seekBestOrGrown_32 : decode cX7_seekBestOrGrown 32 = .ok (.return_, 1) := by decide +kernel
theorem dX7_countOfReading_0 : decode cX7_countOfReading 0 = .ok (.aload_n 0, 1) := by decide +kernel
theorem dX7_countOfReading_1 : decode cX7_countOfReading 1 = .ok (.getfield 51, 3) := by decide +kernel
theorem dX7_countOfReading_4 : decode cX7_countOfReading 4 = .ok (.aload_n 0, 1) := by decide +kernel
theorem dX7_countOfReading_5 : decode cX7_countOfReading 5 = .ok (.getfield 12, 3) := by decide +kernel
theorem dX7_countOfReading_8 : decode cX7_countOfReading 8 = .ok (.invokevirtual 119, 3) := by decide +kernel
theorem dX7_countOfReading_11 : decode cX7_countOfReading 11 = .ok (.aload_n 0, 1) := by decide +kernel
theorem dX7_countOfReading_12 : decode cX7_countOfReading 12 = .ok (.getfield 12, 3) := by decide +kernel
theorem dX7_countOfReading_15 : decode cX7_countOfReading 15 = .ok (.invokevirtual 316, 3) := by decide +kernel
theorem dX7_countOfReading_18 : decode cX7_countOfReading 18 = .ok (.ifCond .eq 24, 3) := by decide +kernel
theorem dX7_countOfReading_21 : decode cX7_countOfReading 21 = .ok (.aload_n 0, 1) := by decide +kernel
theorem dX7_countOfReading_22 : decode cX7_countOfReading 22 = .ok (.getfield 51, 3) := by decide +kernel
theorem dX7_countOfReading_25 : decode cX7_countOfReading 25 = .ok (.invokevirtual 320, 3) := by decide +kernel
theorem dX7_countOfReading_28 : decode cX7_countOfReading 28 = .ok (.aload_n 0, 1) := by decide +kernel
theorem dX7_countOfReading_29 : decode cX7_countOfReading 29 = .ok (.getfield 12, 3) := by decide +kernel
theorem dX7_countOfReading_32 : decode cX7_countOfReading 32 = .ok (.getfield 170, 3) := by decide +kernel
theorem dX7_countOfReading_35 : decode cX7_countOfReading 35 = .ok (.if_icmp .gt 7, 3) := by decide +kernel
theorem dX7_countOfReading_38 : decode cX7_countOfReading 38 = .ok (.iconst 1, 1) := by decide +kernel
theorem dX7_countOfReading_39 : decode cX7_countOfReading 39 = .ok (.goto 4, 3) := by decide +kernel
theorem dX7_countOfReading_42 : decode cX7_countOfReading 42 = .ok (.iconst 0, 1) := by decide +kernel
theorem dX7_countOfReading_43 : decode cX7_countOfReading 43 = .ok (.istore_n 2, 1) := by decide +kernel
theorem dX7_countOfReading_44 : decode cX7_countOfReading 44 = .ok (.iload_n 1, 1) := by decide +kernel
theorem dX7_countOfReading_45 : decode cX7_countOfReading 45 = .ok (.tableswitch 59 6 8 #[27, 35, 43], 27) := by decide +kernel
theorem dX7_countOfReading_72 : decode cX7_countOfReading 72 = .ok (.aload_n 0, 1) := by decide +kernel
theorem dX7_countOfReading_73 : decode cX7_countOfReading 73 = .ok (.getfield 51, 3) := by decide +kernel
theorem dX7_countOfReading_76 : decode cX7_countOfReading 76 = .ok (.invokevirtual 320, 3) := by decide +kernel
theorem dX7_countOfReading_79 : decode cX7_countOfReading 79 = .ok (.ireturn, 1) := by decide +kernel
theorem dX7_countOfReading_80 : decode cX7_countOfReading 80 = .ok (.aload_n 0, 1) := by decide +kernel
theorem dX7_countOfReading_81 : decode cX7_countOfReading 81 = .ok (.getfield 51, 3) := by decide +kernel
theorem dX7_countOfReading_84 : decode cX7_countOfReading 84 = .ok (.invokevirtual 323, 3) := by decide +kernel
theorem dX7_countOfReading_87 : decode cX7_countOfReading 87 = .ok (.ireturn, 1) := by decide +kernel
theorem dX7_countOfReading_88 : decode cX7_countOfReading 88 = .ok (.aload_n 0, 1) := by decide +kernel
theorem dX7_countOfReading_89 : decode cX7_countOfReading 89 = .ok (.getfield 12, 3) := by decide +kernel
theorem dX7_countOfReading_92 : decode cX7_countOfReading 92 = .ok (.invokevirtual 316, 3) := by decide +kernel
theorem dX7_countOfReading_95 : decode cX7_countOfReading 95 = .ok (.ifCond .eq 7, 3) := by decide +kernel
theorem dX7_countOfReading_98 : decode cX7_countOfReading 98 = .ok (.iconst 1, 1) := by decide +kernel
theorem dX7_countOfReading_99 : decode cX7_countOfReading 99 = .ok (.goto 4, 3) := by decide +kernel
theorem dX7_countOfReading_102 : decode cX7_countOfReading 102 = .ok (.iconst 0, 1) := by decide +kernel
theorem dX7_countOfReading_103 : decode cX7_countOfReading 103 = .ok (.ireturn, 1) := by decide +kernel
theorem dX7_countOfReading_104 : decode cX7_countOfReading 104 = .ok (.iload_n 2, 1) := by decide +kernel
theorem dX7_countOfReading_105 : decode cX7_countOfReading 105 = .ok (.ifCond .eq 7, 3) := by decide +kernel
theorem dX7_countOfReading_108 : decode cX7_countOfReading 108 = .ok (.iconst 1, 1) := by decide +kernel
theorem dX7_countOfReading_109 : decode cX7_countOfReading 109 = .ok (.goto 4, 3) := by decide +kernel
theorem dX7_countOfReading_112 : decode cX7_countOfReading 112 = .ok (.iconst 0, 1) := by decide +kernel
theorem dX7_countOfReading_113 : decode cX7_countOfReading 113 = .ok (.ireturn, 1) := by decide +kernel
theorem dX7_firstWith_0 : decode cX7_firstWith 0 = .ok (.iconst 0, 1) := by decide +kernel
theorem dX7_firstWith_1 : decode cX7_firstWith 1 = .ok (.istore_n 3, 1) := by decide +kernel
theorem dX7_firstWith_2 : decode cX7_firstWith 2 = .ok (.iload_n 3, 1) := by decide +kernel
theorem dX7_firstWith_3 : decode cX7_firstWith 3 = .ok (.aload_n 0, 1) := by decide +kernel
theorem dX7_firstWith_4 : decode cX7_firstWith 4 = .ok (.getfield 12, 3) := by decide +kernel
theorem dX7_firstWith_7 : decode cX7_firstWith 7 = .ok (.getfield 99, 3) := by decide +kernel
theorem dX7_firstWith_10 : decode cX7_firstWith 10 = .ok (.if_icmp .ge 21, 3) := by decide +kernel
theorem dX7_firstWith_13 : decode cX7_firstWith 13 = .ok (.aload_n 1, 1) := by decide +kernel
theorem dX7_firstWith_14 : decode cX7_firstWith 14 = .ok (.iload_n 3, 1) := by decide +kernel
theorem dX7_firstWith_15 : decode cX7_firstWith 15 = .ok (.iaload, 1) := by decide +kernel
theorem dX7_firstWith_16 : decode cX7_firstWith 16 = .ok (.iload_n 2, 1) := by decide +kernel
theorem dX7_firstWith_17 : decode cX7_firstWith 17 = .ok (.invokestatic 325, 3) := by decide +kernel
theorem dX7_firstWith_20 : decode cX7_firstWith 20 = .ok (.ifCond .eq 5, 3) := by decide +kernel
theorem dX7_firstWith_23 : decode cX7_firstWith 23 = .ok (.iload_n 3, 1) := by decide +kernel
theorem dX7_firstWith_24 : decode cX7_firstWith 24 = .ok (.ireturn, 1) := by decide +kernel
theorem dX7_firstWith_25 : decode cX7_firstWith 25 = .ok (.iinc 3 1, 3) := by decide +kernel
theorem dX7_firstWith_28 : decode cX7_firstWith 28 = .ok (.goto (-26), 3) := by decide +kernel
theorem dX7_firstWith_31 : decode cX7_firstWith 31 = .ok (.bipush (-4), 2) := by decide +kernel
theorem dX7_firstWith_33 : decode cX7_firstWith 33 = .ok (.ireturn, 1) := by decide +kernel
theorem dX7_howManyWith_0 : decode cX7_howManyWith 0 = .ok (.iconst 0, 1) := by decide +kernel
theorem dX7_howManyWith_1 : decode cX7_howManyWith 1 = .ok (.istore_n 3, 1) := by decide +kernel
theorem dX7_howManyWith_2 : decode cX7_howManyWith 2 = .ok (.iconst 0, 1) := by decide +kernel
theorem dX7_howManyWith_3 : decode cX7_howManyWith 3 = .ok (.istore 4, 2) := by decide +kernel
theorem dX7_howManyWith_5 : decode cX7_howManyWith 5 = .ok (.iload 4, 2) := by decide +kernel
theorem dX7_howManyWith_7 : decode cX7_howManyWith 7 = .ok (.aload_n 0, 1) := by decide +kernel
theorem dX7_howManyWith_8 : decode cX7_howManyWith 8 = .ok (.getfield 12, 3) := by decide +kernel
theorem dX7_howManyWith_11 : decode cX7_howManyWith 11 = .ok (.getfield 99, 3) := by decide +kernel
theorem dX7_howManyWith_14 : decode cX7_howManyWith 14 = .ok (.if_icmp .ge 23, 3) := by decide +kernel
theorem dX7_howManyWith_17 : decode cX7_howManyWith 17 = .ok (.aload_n 1, 1) := by decide +kernel
theorem dX7_howManyWith_18 : decode cX7_howManyWith 18 = .ok (.iload 4, 2) := by decide +kernel
theorem dX7_howManyWith_20 : decode cX7_howManyWith 20 = .ok (.iaload, 1) := by decide +kernel
theorem dX7_howManyWith_21 : decode cX7_howManyWith 21 = .ok (.iload_n 2, 1) := by decide +kernel
theorem dX7_howManyWith_22 : decode cX7_howManyWith 22 = .ok (.invokestatic 325, 3) := by decide +kernel
theorem dX7_howManyWith_25 : decode cX7_howManyWith 25 = .ok (.ifCond .eq 6, 3) := by decide +kernel
theorem dX7_howManyWith_28 : decode cX7_howManyWith 28 = .ok (.iinc 3 1, 3) := by decide +kernel
theorem dX7_howManyWith_31 : decode cX7_howManyWith 31 = .ok (.iinc 4 1, 3) := by decide +kernel
theorem dX7_howManyWith_34 : decode cX7_howManyWith 34 = .ok (.goto (-29), 3) := by decide +kernel
theorem dX7_howManyWith_37 : decode cX7_howManyWith 37 = .ok (.iload_n 3, 1) := by decide +kernel
theorem dX7_howManyWith_38 : decode cX7_howManyWith 38 = .ok (.ireturn, 1) := by decide +kernel
theorem dX7_placesWith_0 : decode cX7_placesWith 0 = .ok (.iconst 0, 1) := by decide +kernel
theorem dX7_placesWith_1 : decode cX7_placesWith 1 = .ok (.istore_n 2, 1) := by decide +kernel
theorem dX7_placesWith_2 : decode cX7_placesWith 2 = .ok (.iconst 0, 1) := by decide +kernel
theorem dX7_placesWith_3 : decode cX7_placesWith 3 = .ok (.istore_n 3, 1) := by decide +kernel
theorem dX7_placesWith_4 : decode cX7_placesWith 4 = .ok (.iload_n 3, 1) := by decide +kernel
theorem dX7_placesWith_5 : decode cX7_placesWith 5 = .ok (.aload_n 0, 1) := by decide +kernel
theorem dX7_placesWith_6 : decode cX7_placesWith 6 = .ok (.getfield 12, 3) := by decide +kernel
theorem dX7_placesWith_9 : decode cX7_placesWith 9 = .ok (.getfield 99, 3) := by decide +kernel
theorem dX7_placesWith_12 : decode cX7_placesWith 12 = .ok (.if_icmp .ge 38, 3) := by decide +kernel
theorem dX7_placesWith_15 : decode cX7_placesWith 15 = .ok (.aload_n 0, 1) := by decide +kernel
theorem dX7_placesWith_16 : decode cX7_placesWith 16 = .ok (.getfield 12, 3) := by decide +kernel
theorem dX7_placesWith_19 : decode cX7_placesWith 19 = .ok (.aload_n 0, 1) := by decide +kernel
theorem dX7_placesWith_20 : decode cX7_placesWith 20 = .ok (.getfield 12, 3) := by decide +kernel
theorem dX7_placesWith_23 : decode cX7_placesWith 23 = .ok (.getfield 122, 3) := by decide +kernel
theorem dX7_placesWith_26 : decode cX7_placesWith 26 = .ok (.iload_n 3, 1) := by decide +kernel
theorem dX7_placesWith_27 : decode cX7_placesWith 27 = .ok (.iaload, 1) := by decide +kernel
theorem dX7_placesWith_28 : decode cX7_placesWith 28 = .ok (.invokevirtual 328, 3) := by decide +kernel
theorem dX7_placesWith_31 : decode cX7_placesWith 31 = .ok (.iload_n 1, 1) := by decide +kernel
theorem dX7_placesWith_32 : decode cX7_placesWith 32 = .ok (.invokestatic 325, 3) := by decide +kernel
theorem dX7_placesWith_35 : decode cX7_placesWith 35 = .ok (.ifCond .eq 9, 3) := by decide +kernel
theorem dX7_placesWith_38 : decode cX7_placesWith 38 = .ok (.iload_n 2, 1) := by decide +kernel
theorem dX7_placesWith_39 : decode cX7_placesWith 39 = .ok (.iconst 1, 1) := by decide +kernel
theorem dX7_placesWith_40 : decode cX7_placesWith 40 = .ok (.iload_n 3, 1) := by decide +kernel
theorem dX7_placesWith_41 : decode cX7_placesWith 41 = .ok (.ishl, 1) := by decide +kernel
theorem dX7_placesWith_42 : decode cX7_placesWith 42 = .ok (.ior, 1) := by decide +kernel
theorem dX7_placesWith_43 : decode cX7_placesWith 43 = .ok (.istore_n 2, 1) := by decide +kernel
theorem dX7_placesWith_44 : decode cX7_placesWith 44 = .ok (.iinc 3 1, 3) := by decide +kernel
theorem dX7_placesWith_47 : decode cX7_placesWith 47 = .ok (.goto (-43), 3) := by decide +kernel
theorem dX7_placesWith_50 : decode cX7_placesWith 50 = .ok (.iload_n 2, 1) := by decide +kernel
theorem dX7_placesWith_51 : decode cX7_placesWith 51 = .ok (.ireturn, 1) := by decide +kernel
theorem dX7_waysToKeep_0 : decode cX7_waysToKeep 0 = .ok (.aload_n 0, 1) := by decide +kernel
theorem dX7_waysToKeep_1 : decode cX7_waysToKeep 1 = .ok (.getfield 51, 3) := by decide +kernel
theorem dX7_waysToKeep_4 : decode cX7_waysToKeep 4 = .ok (.aload_n 0, 1) := by decide +kernel
theorem dX7_waysToKeep_5 : decode cX7_waysToKeep 5 = .ok (.getfield 12, 3) := by decide +kernel
theorem dX7_waysToKeep_8 : decode cX7_waysToKeep 8 = .ok (.invokevirtual 331, 3) := by decide +kernel
theorem dX7_waysToKeep_11 : decode cX7_waysToKeep 11 = .ok (.iconst 0, 1) := by decide +kernel
theorem dX7_waysToKeep_12 : decode cX7_waysToKeep 12 = .ok (.istore_n 3, 1) := by decide +kernel
theorem dX7_waysToKeep_13 : decode cX7_waysToKeep 13 = .ok (.iconst 0, 1) := by decide +kernel
theorem dX7_waysToKeep_14 : decode cX7_waysToKeep 14 = .ok (.istore 4, 2) := by decide +kernel
theorem dX7_waysToKeep_16 : decode cX7_waysToKeep 16 = .ok (.iload 4, 2) := by decide +kernel
theorem dX7_waysToKeep_18 : decode cX7_waysToKeep 18 = .ok (.iconst 1, 1) := by decide +kernel
theorem dX7_waysToKeep_19 : decode cX7_waysToKeep 19 = .ok (.aload_n 0, 1) := by decide +kernel
theorem dX7_waysToKeep_20 : decode cX7_waysToKeep 20 = .ok (.getfield 12, 3) := by decide +kernel
theorem dX7_waysToKeep_23 : decode cX7_waysToKeep 23 = .ok (.getfield 99, 3) := by decide +kernel
theorem dX7_waysToKeep_26 : decode cX7_waysToKeep 26 = .ok (.ishl, 1) := by decide +kernel
theorem dX7_waysToKeep_27 : decode cX7_waysToKeep 27 = .ok (.if_icmp .ge 65, 3) := by decide +kernel
theorem dX7_waysToKeep_30 : decode cX7_waysToKeep 30 = .ok (.iload 4, 2) := by decide +kernel
theorem dX7_waysToKeep_32 : decode cX7_waysToKeep 32 = .ok (.iload_n 1, 1) := by decide +kernel
theorem dX7_waysToKeep_33 : decode cX7_waysToKeep 33 = .ok (.iconst (-1), 1) := by decide +kernel
theorem dX7_waysToKeep_34 : decode cX7_waysToKeep 34 = .ok (.ixor, 1) := by decide +kernel
theorem dX7_waysToKeep_35 : decode cX7_waysToKeep 35 = .ok (.iand, 1) := by decide +kernel
theorem dX7_waysToKeep_36 : decode cX7_waysToKeep 36 = .ok (.ifCond .ne 50, 3) := by decide +kernel
theorem dX7_waysToKeep_39 : decode cX7_waysToKeep 39 = .ok (.aload_n 0, 1) := by decide +kernel
theorem dX7_waysToKeep_40 : decode cX7_waysToKeep 40 = .ok (.getfield 51, 3) := by decide +kernel
theorem dX7_waysToKeep_43 : decode cX7_waysToKeep 43 = .ok (.iload 4, 2) := by decide +kernel
theorem dX7_waysToKeep_45 : decode cX7_waysToKeep 45 = .ok (.invokevirtual 334, 3) := by decide +kernel
theorem dX7_waysToKeep_48 : decode cX7_waysToKeep 48 = .ok (.ifCond .eq 38, 3) := by decide +kernel
theorem dX7_waysToKeep_51 : decode cX7_waysToKeep 51 = .ok (.iload 4, 2) := by decide +kernel
theorem dX7_waysToKeep_53 : decode cX7_waysToKeep 53 = .ok (.invokestatic 128, 3) := by decide +kernel
theorem dX7_waysToKeep_56 : decode cX7_waysToKeep 56 = .ok (.istore 5, 2) := by decide +kernel
theorem dX7_waysToKeep_58 : decode cX7_waysToKeep 58 = .ok (.iload_n 1, 1) := by decide +kernel
theorem dX7_waysToKeep_59 : decode cX7_waysToKeep 59 = .ok (.invokestatic 128, 3) := by decide +kernel
theorem dX7_waysToKeep_62 : decode cX7_waysToKeep 62 = .ok (.iload 5, 2) := by decide +kernel
theorem dX7_waysToKeep_64 : decode cX7_waysToKeep 64 = .ok (.isub, 1) := by decide +kernel
theorem dX7_waysToKeep_65 : decode cX7_waysToKeep 65 = .ok (.istore 6, 2) := by decide +kernel
theorem dX7_waysToKeep_67 : decode cX7_waysToKeep 67 = .ok (.iload_n 3, 1) := by decide +kernel
theorem dX7_waysToKeep_68 : decode cX7_waysToKeep 68 = .ok (.bipush 10, 2) := by decide +kernel
theorem dX7_waysToKeep_70 : decode cX7_waysToKeep 70 = .ok (.iload_n 2, 1) := by decide +kernel
theorem dX7_waysToKeep_71 : decode cX7_waysToKeep 71 = .ok (.isub, 1) := by decide +kernel
theorem dX7_waysToKeep_72 : decode cX7_waysToKeep 72 = .ok (.iload 5, 2) := by decide +kernel
theorem dX7_waysToKeep_74 : decode cX7_waysToKeep 74 = .ok (.invokestatic 212, 3) := by decide +kernel
theorem dX7_waysToKeep_77 : decode cX7_waysToKeep 77 = .ok (.iload_n 2, 1) := by decide +kernel
theorem dX7_waysToKeep_78 : decode cX7_waysToKeep 78 = .ok (.iload 6, 2) := by decide +kernel
theorem dX7_waysToKeep_80 : decode cX7_waysToKeep 80 = .ok (.invokestatic 212, 3) := by decide +kernel
theorem dX7_waysToKeep_83 : decode cX7_waysToKeep 83 = .ok (.imul, 1) := by decide +kernel
theorem dX7_waysToKeep_84 : decode cX7_waysToKeep 84 = .ok (.iadd, 1) := by decide +kernel
theorem dX7_waysToKeep_85 : decode cX7_waysToKeep 85 = .ok (.istore_n 3, 1) := by decide +kernel
theorem dX7_waysToKeep_86 : decode cX7_waysToKeep 86 = .ok (.iinc 4 1, 3) := by decide +kernel
theorem dX7_waysToKeep_89 : decode cX7_waysToKeep 89 = .ok (.goto (-73), 3) := by decide +kernel
theorem dX7_waysToKeep_92 : decode cX7_waysToKeep 92 = .ok (.iload_n 3, 1) := by decide +kernel
theorem dX7_waysToKeep_93 : decode cX7_waysToKeep 93 = .ok (.ireturn, 1) := by decide +kernel
theorem dX7_writeNote_0 : decode cX7_writeNote 0 = .ok (.aload_n 0, 1) := by decide +kernel
theorem dX7_writeNote_1 : decode cX7_writeNote 1 = .ok (.getfield 44, 3) := by decide +kernel
theorem dX7_writeNote_4 : decode cX7_writeNote 4 = .ok (.iconst 0, 1) := by decide +kernel
theorem dX7_writeNote_5 : decode cX7_writeNote 5 = .ok (.putfield 221, 3) := by decide +kernel
theorem dX7_writeNote_8 : decode cX7_writeNote 8 = .ok (.aload_n 0, 1) := by decide +kernel
theorem dX7_writeNote_9 : decode cX7_writeNote 9 = .ok (.getfield 12, 3) := by decide +kernel
theorem dX7_writeNote_12 : decode cX7_writeNote 12 = .ok (.getfield 99, 3) := by decide +kernel
theorem dX7_writeNote_15 : decode cX7_writeNote 15 = .ok (.ifCond .ne 36, 3) := by decide +kernel
theorem dX7_writeNote_18 : decode cX7_writeNote 18 = .ok (.iconst 0, 1) := by decide +kernel
theorem dX7_writeNote_19 : decode cX7_writeNote 19 = .ok (.istore_n 1, 1) := by decide +kernel
theorem dX7_writeNote_20 : decode cX7_writeNote 20 = .ok (.iload_n 1, 1) := by decide +kernel
theorem dX7_writeNote_21 : decode cX7_writeNote 21 = .ok (.ldc_w 337, 3) := by decide +kernel
theorem dX7_writeNote_24 : decode cX7_writeNote 24 = .ok (.invokevirtual 339, 3) := by decide +kernel
theorem dX7_writeNote_27 : decode cX7_writeNote 27 = .ok (.if_icmp .ge 24, 3) := by decide +kernel
theorem dX7_writeNote_30 : decode cX7_writeNote 30 = .ok (.aload_n 0, 1) := by decide +kernel
theorem dX7_writeNote_31 : decode cX7_writeNote 31 = .ok (.getfield 44, 3) := by decide +kernel
theorem dX7_writeNote_34 : decode cX7_writeNote 34 = .ok (.ldc_w 337, 3) := by decide +kernel
theorem dX7_writeNote_37 : decode cX7_writeNote 37 = .ok (.iload_n 1, 1) := by decide +kernel
theorem dX7_writeNote_38 : decode cX7_writeNote 38 = .ok (.invokevirtual 344, 3) := by decide +kernel
theorem dX7_writeNote_41 : decode cX7_writeNote 41 = .ok (.invokevirtual 229, 3) := by decide +kernel
theorem dX7_writeNote_44 : decode cX7_writeNote 44 = .ok (.pop, 1) := by decide +kernel
theorem dX7_writeNote_45 : decode cX7_writeNote 45 = .ok (.iinc 1 1, 3) := by decide +kernel
theorem dX7_writeNote_48 : decode cX7_writeNote 48 = .ok (.goto (-28), 3) := by decide +kernel
theorem dX7_writeNote_51 : decode cX7_writeNote 51 = .ok (.aload_n 0, 1) := by decide +kernel
theorem dX7_writeNote_52 : decode cX7_writeNote 52 = .ok (.getfield 51, 3) := by decide +kernel
theorem dX7_writeNote_55 : decode cX7_writeNote 55 = .ok (.aload_n 0, 1) := by decide +kernel
theorem dX7_writeNote_56 : decode cX7_writeNote 56 = .ok (.getfield 12, 3) := by decide +kernel
theorem dX7_writeNote_59 : decode cX7_writeNote 59 = .ok (.invokevirtual 119, 3) := by decide +kernel
theorem dX7_writeNote_62 : decode cX7_writeNote 62 = .ok (.iconst 0, 1) := by decide +kernel
theorem dX7_writeNote_63 : decode cX7_writeNote 63 = .ok (.istore_n 1, 1) := by decide +kernel
theorem dX7_writeNote_64 : decode cX7_writeNote 64 = .ok (.iload_n 1, 1) := by decide +kernel
theorem dX7_writeNote_65 : decode cX7_writeNote 65 = .ok (.aload_n 0, 1) := by decide +kernel
theorem dX7_writeNote_66 : decode cX7_writeNote 66 = .ok (.getfield 12, 3) := by decide +kernel
theorem dX7_writeNote_69 : decode cX7_writeNote 69 = .ok (.getfield 99, 3) := by decide +kernel
theorem dX7_writeNote_72 : decode cX7_writeNote 72 = .ok (.if_icmp .ge 109, 3) := by decide +kernel
theorem dX7_writeNote_75 : decode cX7_writeNote 75 = .ok (.iload_n 1, 1) := by decide +kernel
theorem dX7_writeNote_76 : decode cX7_writeNote 76 = .ok (.ifCond .le 13, 3) := by decide +kernel
theorem dX7_writeNote_79 : decode cX7_writeNote 79 = .ok (.aload_n 0, 1) := by decide +kernel
theorem dX7_writeNote_80 : decode cX7_writeNote 80 = .ok (.getfield 44, 3) := by decide +kernel
theorem dX7_writeNote_83 : decode cX7_writeNote 83 = .ok (.bipush 32, 2) := by decide +kernel
theorem dX7_writeNote_85 : decode cX7_writeNote 85 = .ok (.invokevirtual 229, 3) := by decide +kernel
theorem dX7_writeNote_88 : decode cX7_writeNote 88 = .ok (.pop, 1) := by decide +kernel
theorem dX7_writeNote_89 : decode cX7_writeNote 89 = .ok (.aload_n 0, 1) := by decide +kernel
theorem dX7_writeNote_90 : decode cX7_writeNote 90 = .ok (.getfield 44, 3) := by decide +kernel
theorem dX7_writeNote_93 : decode cX7_writeNote 93 = .ok (.aload_n 0, 1) := by decide +kernel
theorem dX7_writeNote_94 : decode cX7_writeNote 94 = .ok (.getfield 12, 3) := by decide +kernel
theorem dX7_writeNote_97 : decode cX7_writeNote 97 = .ok (.getfield 122, 3) := by decide +kernel
theorem dX7_writeNote_100 : decode cX7_writeNote 100 = .ok (.iload_n 1, 1) := by decide +kernel
theorem dX7_writeNote_101 : decode cX7_writeNote 101 = .ok (.iaload, 1) := by decide +kernel
theorem dX7_writeNote_102 : decode cX7_writeNote 102 = .ok (.invokevirtual 347, 3) := by decide +kernel
theorem dX7_writeNote_105 : decode cX7_writeNote 105 = .ok (.aload_n 0, 1) := by decide +kernel
theorem dX7_writeNote_106 : decode cX7_writeNote 106 = .ok (.getfield 44, 3) := by decide +kernel
theorem dX7_writeNote_109 : decode cX7_writeNote 109 = .ok (.bipush 43, 2) := by decide +kernel
theorem dX7_writeNote_111 : decode cX7_writeNote 111 = .ok (.invokevirtual 229, 3) := by decide +kernel
theorem dX7_writeNote_114 : decode cX7_writeNote 114 = .ok (.pop, 1) := by decide +kernel
theorem dX7_writeNote_115 : decode cX7_writeNote 115 = .ok (.aload_n 0, 1) := by decide +kernel
theorem dX7_writeNote_116 : decode cX7_writeNote 116 = .ok (.getfield 44, 3) := by decide +kernel
theorem dX7_writeNote_119 : decode cX7_writeNote 119 = .ok (.aload_n 0, 1) := by decide +kernel
theorem dX7_writeNote_120 : decode cX7_writeNote 120 = .ok (.getfield 51, 3) := by decide +kernel
theorem dX7_writeNote_123 : decode cX7_writeNote 123 = .ok (.getfield 125, 3) := by decide +kernel
theorem dX7_writeNote_126 : decode cX7_writeNote 126 = .ok (.iload_n 1, 1) := by decide +kernel
theorem dX7_writeNote_127 : decode cX7_writeNote 127 = .ok (.iaload, 1) := by decide +kernel
theorem dX7_writeNote_128 : decode cX7_writeNote 128 = .ok (.invokestatic 128, 3) := by decide +kernel
theorem dX7_writeNote_131 : decode cX7_writeNote 131 = .ok (.invokevirtual 347, 3) := by decide +kernel
theorem dX7_writeNote_134 : decode cX7_writeNote 134 = .ok (.aload_n 0, 1) := by decide +kernel
theorem dX7_writeNote_135 : decode cX7_writeNote 135 = .ok (.getfield 51, 3) := by decide +kernel
theorem dX7_writeNote_138 : decode cX7_writeNote 138 = .ok (.getfield 136, 3) := by decide +kernel
theorem dX7_writeNote_141 : decode cX7_writeNote 141 = .ok (.iload_n 1, 1) := by decide +kernel
theorem dX7_writeNote_142 : decode cX7_writeNote 142 = .ok (.iaload, 1) := by decide +kernel
theorem dX7_writeNote_143 : decode cX7_writeNote 143 = .ok (.ifCond .eq 32, 3) := by decide +kernel
theorem dX7_writeNote_146 : decode cX7_writeNote 146 = .ok (.aload_n 0, 1) := by decide +kernel
theorem dX7_writeNote_147 : decode cX7_writeNote 147 = .ok (.getfield 44, 3) := by decide +kernel
theorem dX7_writeNote_150 : decode cX7_writeNote 150 = .ok (.bipush 45, 2) := by decide +kernel
theorem dX7_writeNote_152 : decode cX7_writeNote 152 = .ok (.invokevirtual 229, 3) := by decide +kernel
theorem dX7_writeNote_155 : decode cX7_writeNote 155 = .ok (.pop, 1) := by decide +kernel
theorem dX7_writeNote_156 : decode cX7_writeNote 156 = .ok (.aload_n 0, 1) := by decide +kernel
theorem dX7_writeNote_157 : decode cX7_writeNote 157 = .ok (.getfield 44, 3) := by decide +kernel
theorem dX7_writeNote_160 : decode cX7_writeNote 160 = .ok (.aload_n 0, 1) := by decide +kernel
theorem dX7_writeNote_161 : decode cX7_writeNote 161 = .ok (.getfield 51, 3) := by decide +kernel
theorem dX7_writeNote_164 : decode cX7_writeNote 164 = .ok (.getfield 136, 3) := by decide +kernel
theorem dX7_writeNote_167 : decode cX7_writeNote 167 = .ok (.iload_n 1, 1) := by decide +kernel
theorem dX7_writeNote_168 : decode cX7_writeNote 168 = .ok (.iaload, 1) := by decide +kernel
theorem dX7_writeNote_169 : decode cX7_writeNote 169 = .ok (.invokestatic 128, 3) := by decide +kernel
theorem dX7_writeNote_172 : decode cX7_writeNote 172 = .ok (.invokevirtual 347, 3) := by decide +kernel
theorem dX7_writeNote_175 : decode cX7_writeNote 175 = .ok (.iinc 1 1, 3) := by decide +kernel
theorem dX7_writeNote_178 : decode cX7_writeNote 178 = .ok (.goto (-114), 3) := by decide +kernel
theorem dX7_writeNote_181 : decode cX7_writeNote 181 = .ok (.return_, 1) := by decide +kernel
theorem dX7_faultOfRow_0 : decode cX7_faultOfRow 0 = .ok (.iload_n 1, 1) := by decide +kernel
theorem dX7_faultOfRow_1 : decode cX7_faultOfRow 1 = .ok (.invokestatic 282, 3) := by decide +kernel
theorem dX7_faultOfRow_4 : decode cX7_faultOfRow 4 = .ok (.ifCond .eq 10, 3) := by decide +kernel
theorem dX7_faultOfRow_7 : decode cX7_faultOfRow 7 = .ok (.iload_n 2, 1) := by decide +kernel
theorem dX7_faultOfRow_8 : decode cX7_faultOfRow 8 = .ok (.invokestatic 285, 3) := by decide +kernel
theorem dX7_faultOfRow_11 : decode cX7_faultOfRow 11 = .ok (.ifCond .ne 5, 3) := by decide +kernel
theorem dX7_faultOfRow_14 : decode cX7_faultOfRow 14 = .ok (.iconst (-1), 1) := by decide +kernel
theorem dX7_faultOfRow_15 : decode cX7_faultOfRow 15 = .ok (.ireturn, 1) := by decide +kernel
theorem dX7_faultOfRow_16 : decode cX7_faultOfRow 16 = .ok (.aload_n 0, 1) := by decide +kernel
theorem dX7_faultOfRow_17 : decode cX7_faultOfRow 17 = .ok (.getfield 64, 3) := by decide +kernel
theorem dX7_faultOfRow_20 : decode cX7_faultOfRow 20 = .ok (.iload_n 1, 1) := by decide +kernel
theorem dX7_faultOfRow_21 : decode cX7_faultOfRow 21 = .ok (.aaload, 1) := by decide +kernel
theorem dX7_faultOfRow_22 : decode cX7_faultOfRow 22 = .ok (.getfield 291, 3) := by decide +kernel
theorem dX7_faultOfRow_25 : decode cX7_faultOfRow 25 = .ok (.iconst (-1), 1) := by decide +kernel
theorem dX7_faultOfRow_26 : decode cX7_faultOfRow 26 = .ok (.if_icmp .ne 6, 3) := by decide +kernel
theorem dX7_faultOfRow_29 : decode cX7_faultOfRow 29 = .ok (.bipush (-11), 2) := by decide +kernel
theorem dX7_faultOfRow_31 : decode cX7_faultOfRow 31 = .ok (.ireturn, 1) := by decide +kernel
theorem dX7_faultOfRow_32 : decode cX7_faultOfRow 32 = .ok (.aload_n 0, 1) := by decide +kernel
theorem dX7_faultOfRow_33 : decode cX7_faultOfRow 33 = .ok (.getfield 64, 3) := by decide +kernel
theorem dX7_faultOfRow_36 : decode cX7_faultOfRow 36 = .ok (.iload_n 1, 1) := by decide +kernel
theorem dX7_faultOfRow_37 : decode cX7_faultOfRow 37 = .ok (.aaload, 1) := by decide +kernel
theorem dX7_faultOfRow_38 : decode cX7_faultOfRow 38 = .ok (.getfield 291, 3) := by decide +kernel
theorem dX7_faultOfRow_41 : decode cX7_faultOfRow 41 = .ok (.iload_n 2, 1) := by decide +kernel
theorem dX7_faultOfRow_42 : decode cX7_faultOfRow 42 = .ok (.if_icmp .eq 6, 3) := by decide +kernel
theorem dX7_faultOfRow_45 : decode cX7_faultOfRow 45 = .ok (.bipush (-12), 2) := by decide +kernel
theorem dX7_faultOfRow_47 : decode cX7_faultOfRow 47 = .ok (.ireturn, 1) := by decide +kernel
theorem dX7_faultOfRow_48 : decode cX7_faultOfRow 48 = .ok (.aload_n 0, 1) := by decide +kernel
theorem dX7_faultOfRow_49 : decode cX7_faultOfRow 49 = .ok (.getfield 64, 3) := by decide +kernel
theorem dX7_faultOfRow_52 : decode cX7_faultOfRow 52 = .ok (.iload_n 1, 1) := by decide +kernel
theorem dX7_faultOfRow_53 : decode cX7_faultOfRow 53 = .ok (.aaload, 1) := by decide +kernel
theorem dX7_faultOfRow_54 : decode cX7_faultOfRow 54 = .ok (.iload_n 3, 1) := by decide +kernel
theorem dX7_faultOfRow_55 : decode cX7_faultOfRow 55 = .ok (.iload 4, 2) := by decide +kernel
theorem dX7_faultOfRow_57 : decode cX7_faultOfRow 57 = .ok (.invokevirtual 295, 3) := by decide +kernel
theorem dX7_faultOfRow_60 : decode cX7_faultOfRow 60 = .ok (.ifCond .eq 7, 3) := by decide +kernel
theorem dX7_faultOfRow_63 : decode cX7_faultOfRow 63 = .ok (.iconst 0, 1) := by decide +kernel
theorem dX7_faultOfRow_64 : decode cX7_faultOfRow 64 = .ok (.goto 5, 3) := by decide +kernel
theorem dX7_faultOfRow_67 : decode cX7_faultOfRow 67 = .ok (.bipush (-13), 2) := by decide +kernel
theorem dX7_faultOfRow_69 : decode cX7_faultOfRow 69 = .ok (.ireturn, 1) := by decide +kernel
theorem dX7_isSheet_0 : decode cX7_isSheet 0 = .ok (.iload_n 0, 1) := by decide +kernel
theorem dX7_isSheet_1 : decode cX7_isSheet 1 = .ok (.ifCond .lt 12, 3) := by decide +kernel
theorem dX7_isSheet_4 : decode cX7_isSheet 4 = .ok (.iload_n 0, 1) := by decide +kernel
theorem dX7_isSheet_5 : decode cX7_isSheet 5 = .ok (.iconst 4, 1) := by decide +kernel
theorem dX7_isSheet_6 : decode cX7_isSheet 6 = .ok (.if_icmp .ge 7, 3) := by decide +kernel
theorem dX7_isSheet_9 : decode cX7_isSheet 9 = .ok (.iconst 1, 1) := by decide +kernel
theorem dX7_isSheet_10 : decode cX7_isSheet 10 = .ok (.goto 4, 3) := by decide +kernel
theorem dX7_isSheet_13 : decode cX7_isSheet 13 = .ok (.iconst 0, 1) := by decide +kernel
theorem dX7_isSheet_14 : decode cX7_isSheet 14 = .ok (.ireturn, 1) := by decide +kernel
theorem dX7_isLane_0 : decode cX7_isLane 0 = .ok (.iload_n 0, 1) := by decide +kernel
theorem dX7_isLane_1 : decode cX7_isLane 1 = .ok (.ifCond .lt 12, 3) := by decide +kernel
theorem dX7_isLane_4 : decode cX7_isLane 4 = .ok (.iload_n 0, 1) := by decide +kernel
theorem dX7_isLane_5 : decode cX7_isLane 5 = .ok (.iconst 4, 1) := by decide +kernel
theorem dX7_isLane_6 : decode cX7_isLane 6 = .ok (.if_icmp .ge 7, 3) := by decide +kernel
theorem dX7_isLane_9 : decode cX7_isLane 9 = .ok (.iconst 1, 1) := by decide +kernel
theorem dX7_isLane_10 : decode cX7_isLane 10 = .ok (.goto 4, 3) := by decide +kernel
theorem dX7_isLane_13 : decode cX7_isLane 13 = .ok (.iconst 0, 1) := by decide +kernel
theorem dX7_isLane_14 : decode cX7_isLane 14 = .ok (.ireturn, 1) := by decide +kernel
theorem dX7_hasBit_0 : decode cX7_hasBit 0 = .ok (.iload_n 0, 1) := by decide +kernel
theorem dX7_hasBit_1 : decode cX7_hasBit 1 = .ok (.iload_n 1, 1) := by decide +kernel
theorem dX7_hasBit_2 : decode cX7_hasBit 2 = .ok (.ishr, 1) := by decide +kernel
theorem dX7_hasBit_3 : decode cX7_hasBit 3 = .ok (.iconst 1, 1) := by decide +kernel
theorem dX7_hasBit_4 : decode cX7_hasBit 4 = .ok (.iand, 1) := by decide +kernel
theorem dX7_hasBit_5 : decode cX7_hasBit 5 = .ok (.ifCond .eq 7, 3) := by decide +kernel
theorem dX7_hasBit_8 : decode cX7_hasBit 8 = .ok (.iconst 1, 1) := by decide +kernel
theorem dX7_hasBit_9 : decode cX7_hasBit 9 = .ok (.goto 4, 3) := by decide +kernel
theorem dX7_hasBit_12 : decode cX7_hasBit 12 = .ok (.iconst 0, 1) := by decide +kernel
theorem dX7_hasBit_13 : decode cX7_hasBit 13 = .ok (.ireturn, 1) := by decide +kernel
theorem dX7_power_0 : decode cX7_power 0 = .ok (.iconst 1, 1) := by decide +kernel
theorem dX7_power_1 : decode cX7_power 1 = .ok (.istore_n 2, 1) := by decide +kernel
theorem dX7_power_2 : decode cX7_power 2 = .ok (.iconst 0, 1) := by decide +kernel
theorem dX7_power_3 : decode cX7_power 3 = .ok (.istore_n 3, 1) := by decide +kernel
theorem dX7_power_4 : decode cX7_power 4 = .ok (.iload_n 3, 1) := by decide +kernel
theorem dX7_power_5 : decode cX7_power 5 = .ok (.iload_n 1, 1) := by decide +kernel
theorem dX7_power_6 : decode cX7_power 6 = .ok (.if_icmp .ge 13, 3) := by decide +kernel
theorem dX7_power_9 : decode cX7_power 9 = .ok (.iload_n 2, 1) := by decide +kernel
theorem dX7_power_10 : decode cX7_power 10 = .ok (.iload_n 0, 1) := by decide +kernel
theorem dX7_power_11 : decode cX7_power 11 = .ok (.imul, 1) := by decide +kernel
theorem dX7_power_12 : decode cX7_power 12 = .ok (.istore_n 2, 1) := by decide +kernel
theorem dX7_power_13 : decode cX7_power 13 = .ok (.iinc 3 1, 3) := by decide +kernel
theorem dX7_power_16 : decode cX7_power 16 = .ok (.goto (-12), 3) := by decide +kernel
theorem dX7_power_19 : decode cX7_power 19 = .ok (.iload_n 2, 1) := by decide +kernel
theorem dX7_power_20 : decode cX7_power 20 = .ok (.ireturn, 1) := by decide +kernel
theorem dX7_greatestDivisor_0 : decode cX7_greatestDivisor 0 = .ok (.iload_n 0, 1) := by decide +kernel
theorem dX7_greatestDivisor_1 : decode cX7_greatestDivisor 1 = .ok (.istore_n 2, 1) := by decide +kernel
theorem dX7_greatestDivisor_2 : decode cX7_greatestDivisor 2 = .ok (.iload_n 1, 1) := by decide +kernel
theorem dX7_greatestDivisor_3 : decode cX7_greatestDivisor 3 = .ok (.istore_n 3, 1) := by decide +kernel
theorem dX7_greatestDivisor_4 : decode cX7_greatestDivisor 4 = .ok (.iconst 0, 1) := by decide +kernel
theorem dX7_greatestDivisor_5 : decode cX7_greatestDivisor 5 = .ok (.istore 4, 2) := by decide +kernel
theorem dX7_greatestDivisor_7 : decode cX7_greatestDivisor 7 = .ok (.iload 4, 2) := by decide +kernel
theorem dX7_greatestDivisor_9 : decode cX7_greatestDivisor 9 = .ok (.bipush 64, 2) := by decide +kernel
theorem dX7_greatestDivisor_11 : decode cX7_greatestDivisor 11 = .ok (.if_icmp .ge 23, 3) := by decide +kernel
theorem dX7_greatestDivisor_14 : decode cX7_greatestDivisor 14 = .ok (.iload_n 3, 1) := by decide +kernel
theorem dX7_greatestDivisor_15 : decode cX7_greatestDivisor 15 = .ok (.ifCond .eq 19, 3) := by decide +kernel
theorem dX7_greatestDivisor_18 : decode cX7_greatestDivisor 18 = .ok (.iload_n 2, 1) := by decide +kernel
theorem dX7_greatestDivisor_19 : decode cX7_greatestDivisor 19 = .ok (.iload_n 3, 1) := by decide +kernel
theorem dX7_greatestDivisor_20 : decode cX7_greatestDivisor 20 = .ok (.irem, 1) := by decide +kernel
theorem dX7_greatestDivisor_21 : decode cX7_greatestDivisor 21 = .ok (.istore 5, 2) := by decide +kernel
theorem dX7_greatestDivisor_23 : decode cX7_greatestDivisor 23 = .ok (.iload_n 3, 1) := by decide +kernel
theorem dX7_greatestDivisor_24 : decode cX7_greatestDivisor 24 = .ok (.istore_n 2, 1) := by decide +kernel
theorem dX7_greatestDivisor_25 : decode cX7_greatestDivisor 25 = .ok (.iload 5, 2) := by decide +kernel
theorem dX7_greatestDivisor_27 : decode cX7_greatestDivisor 27 = .ok (.istore_n 3, 1) := by decide +kernel
theorem dX7_greatestDivisor_28 : decode cX7_greatestDivisor 28 = .ok (.iinc 4 1, 3) := by decide +kernel
theorem dX7_greatestDivisor_31 : decode cX7_greatestDivisor 31 = .ok (.goto (-24), 3) := by decide +kernel
theorem dX7_greatestDivisor_34 : decode cX7_greatestDivisor 34 = .ok (.iload_n 2, 1) := by decide +kernel
theorem dX7_greatestDivisor_35 : decode cX7_greatestDivisor 35 = .ok (.ireturn, 1) := by decide +kernel
theorem dX8_init_0 : decode cX8_init 0 = .ok (.aload_n 0, 1) := by decide +kernel
theorem dX8_init_1 : decode cX8_init 1 = .ok (.invokespecial 1, 3) := by decide +kernel
theorem dX8_init_4 : decode cX8_init 4 = .ok (.aload_n 0, 1) := by decide +kernel
theorem dX8_init_5 : decode cX8_init 5 = .ok (.bipush 27, 2) := by decide +kernel
theorem dX8_init_7 : decode cX8_init 7 = .ok (.newarray .int, 2) := by decide +kernel
theorem dX8_init_9 : decode cX8_init 9 = .ok (.putfield 7, 3) := by decide +kernel
theorem dX8_init_12 : decode cX8_init 12 = .ok (.aload_n 0, 1) := by decide +kernel
theorem dX8_init_13 : decode cX8_init 13 = .ok (.sipush 162, 3) := by decide +kernel
theorem dX8_init_16 : decode cX8_init 16 = .ok (.newarray .int, 2) := by decide +kernel
theorem dX8_init_18 : decode cX8_init 18 = .ok (.putfield 13, 3) := by decide +kernel
theorem dX8_init_21 : decode cX8_init 21 = .ok (.aload_n 0, 1) := by decide +kernel
theorem dX8_init_22 : decode cX8_init 22 = .ok (.bipush 27, 2) := by decide +kernel
theorem dX8_init_24 : decode cX8_init 24 = .ok (.newarray .int, 2) := by decide +kernel
theorem dX8_init_26 : decode cX8_init 26 = .ok (.putfield 16, 3) := by decide +kernel
theorem dX8_init_29 : decode cX8_init 29 = .ok (.aload_n 0, 1) := by decide +kernel
theorem dX8_init_30 : decode cX8_init 30 = .ok (.sipush 162, 3) := by decide +kernel
theorem dX8_init_33 : decode cX8_init 33 = .ok (.newarray .int, 2) := by decide +kernel
theorem dX8_init_35 : decode cX8_init 35 = .ok (.putfield 19, 3) := by decide +kernel
theorem dX8_init_38 : decode cX8_init 38 = .ok (.aload_n 0, 1) := by decide +kernel
theorem dX8_init_39 : decode cX8_init 39 = .ok (.iconst (-1), 1) := by decide +kernel
theorem dX8_init_40 : decode cX8_init 40 = .ok (.putfield 22, 3) := by decide +kernel
theorem dX8_init_43 : decode cX8_init 43 = .ok (.aload_n 0, 1) := by decide +kernel
theorem dX8_init_44 : decode cX8_init 44 = .ok (.bipush 90, 2) := by decide +kernel
theorem dX8_init_46 : decode cX8_init 46 = .ok (.newarray .int, 2) := by decide +kernel
theorem dX8_init_48 : decode cX8_init 48 = .ok (.putfield 26, 3) := by decide +kernel
theorem dX8_init_51 : decode cX8_init 51 = .ok (.aload_n 0, 1) := by decide +kernel
theorem dX8_init_52 : decode cX8_init 52 = .ok (.iconst 4, 1) := by decide +kernel
theorem dX8_init_53 : decode cX8_init 53 = .ok (.newarray .int, 2) := by decide +kernel
theorem dX8_init_55 : decode cX8_init 55 = .ok (.putfield 29, 3) := by decide +kernel
theorem dX8_init_58 : decode cX8_init 58 = .ok (.aload_n 0, 1) := by decide +kernel
theorem dX8_init_59 : decode cX8_init 59 = .ok (.iconst 4, 1) := by decide +kernel
theorem dX8_init_60 : decode cX8_init 60 = .ok (.newarray .int, 2) := by decide +kernel
theorem dX8_init_62 : decode cX8_init 62 = .ok (.putfield 32, 3) := by decide +kernel
theorem dX8_init_65 : decode cX8_init 65 = .ok (.aload_n 0, 1) := by decide +kernel
theorem dX8_init_66 : decode cX8_init 66 = .ok (.bipush 96, 2) := by decide +kernel
theorem dX8_init_68 : decode cX8_init 68 = .ok (.newarray .long, 2) := by decide +kernel
theorem dX8_init_70 : decode cX8_init 70 = .ok (.putfield 35, 3) := by decide +kernel
theorem dX8_init_73 : decode cX8_init 73 = .ok (.aload_n 0, 1) := by decide +kernel
theorem dX8_init_74 : decode cX8_init 74 = .ok (.bipush 24, 2) := by decide +kernel
theorem dX8_init_76 : decode cX8_init 76 = .ok (.newarray .long, 2) := by decide +kernel
theorem dX8_init_78 : decode cX8_init 78 = .ok (.putfield 39, 3) := by decide +kernel
theorem dX8_init_81 : decode cX8_init 81 = .ok (.aload_n 0, 1) := by decide +kernel
theorem dX8_init_82 : decode cX8_init 82 = .ok (.bipush 7, 2) := by decide +kernel
theorem dX8_init_84 : decode cX8_init 84 = .ok (.newarray .int, 2) := by decide +kernel
theorem dX8_init_86 : decode cX8_init 86 = .ok (.putfield 42, 3) := by decide +kernel
theorem dX8_init_89 : decode cX8_init 89 = .ok (.aload_n 0, 1) := by decide +kernel
theorem dX8_init_90 : decode cX8_init 90 = .ok (.bipush 20, 2) := by decide +kernel
theorem dX8_init_92 : decode cX8_init 92 = .ok (.newarray .int, 2) := by decide +kernel
theorem dX8_init_94 : decode cX8_init 94 = .ok (.putfield 45, 3) := by decide +kernel
theorem dX8_init_97 : decode cX8_init 97 = .ok (.aload_n 0, 1) := by decide +kernel
theorem dX8_init_98 : decode cX8_init 98 = .ok (.bipush 20, 2) := by decide +kernel
theorem dX8_init_100 : decode cX8_init 100 = .ok (.newarray .int, 2) := by decide +kernel
theorem dX8_init_102 : decode cX8_init 102 = .ok (.putfield 48, 3) := by decide +kernel
theorem dX8_init_105 : decode cX8_init 105 = .ok (.aload_n 0, 1) := by decide +kernel
theorem dX8_init_106 : decode cX8_init 106 = .ok (.bipush 7, 2) := by decide +kernel
theorem dX8_init_108 : decode cX8_init 108 = .ok (.newarray .int, 2) := by decide +kernel
theorem dX8_init_110 : decode cX8_init 110 = .ok (.putfield 51, 3) := by decide +kernel
theorem dX8_init_113 : decode cX8_init 113 = .ok (.aload_n 0, 1) := by decide +kernel
theorem dX8_init_114 : decode cX8_init 114 = .ok (.bipush 7, 2) := by decide +kernel
theorem dX8_init_116 : decode cX8_init 116 = .ok (.newarray .int, 2) := by decide +kernel
theorem dX8_init_118 : decode cX8_init 118 = .ok (.putfield 54, 3) := by decide +kernel
theorem dX8_init_121 : decode cX8_init 121 = .ok (.aload_n 0, 1) := by decide +kernel
theorem dX8_init_122 : decode cX8_init 122 = .ok (.bipush 7, 2) := by decide +kernel
theorem dX8_init_124 : decode cX8_init 124 = .ok (.newarray .int, 2) := by decide +kernel
theorem dX8_init_126 : decode cX8_init 126 = .ok (.putfield 57, 3) := by decide +kernel
theorem dX8_init_129 : decode cX8_init 129 = .ok (.aload_n 0, 1) := by decide +kernel
theorem dX8_init_130 : decode cX8_init 130 = .ok (.bipush 7, 2) := by decide +kernel
theorem dX8_init_132 : decode cX8_init 132 = .ok (.newarray .int, 2) := by decide +kernel
theorem dX8_init_134 : decode cX8_init 134 = .ok (.putfield 60, 3) := by decide +kernel
theorem dX8_init_137 : decode cX8_init 137 = .ok (.aload_n 0, 1) := by decide +kernel
theorem dX8_init_138 : decode cX8_init 138 = .ok (.bipush 64, 2) := by decide +kernel
theorem dX8_init_140 : decode cX8_init 140 = .ok (.newarray .int, 2) := by decide +kernel
theorem dX8_init_142 : decode cX8_init 142 = .ok (.putfield 63, 3) := by decide +kernel
theorem dX8_init_145 : decode cX8_init 145 = .ok (.aload_n 0, 1) := by decide +kernel
theorem dX8_init_146 : decode cX8_init 146 = .ok (.bipush 27, 2) := by decide +kernel
theorem dX8_init_148 : decode cX8_init 148 = .ok (.newarray .int, 2) := by decide +kernel
theorem dX8_init_150 : decode cX8_init 150 = .ok (.putfield 66, 3) := by decide +kernel
theorem dX8_init_153 : decode cX8_init 153 = .ok (.aload_n 0, 1) := by decide +kernel
theorem dX8_init_154 : decode cX8_init 154 = .ok (.getfield 7, 3) := by decide +kernel
theorem dX8_init_157 : decode cX8_init 157 = .ok (.iconst 2, 1) := by decide +kernel
theorem dX8_init_158 : decode cX8_init 158 = .ok (.iconst 2, 1) := by decide +kernel
theorem dX8_init_159 : decode cX8_init 159 = .ok (.iastore, 1) := by decide +kernel
theorem dX8_init_160 : decode cX8_init 160 = .ok (.aload_n 0, 1) := by decide +kernel
theorem dX8_init_161 : decode cX8_init 161 = .ok (.getfield 7, 3) := by decide +kernel
theorem dX8_init_164 : decode cX8_init 164 = .ok (.iconst 3, 1) := by decide +kernel
theorem dX8_init_165 : decode cX8_init 165 = .ok (.iconst 5, 1) := by decide +kernel
theorem dX8_init_166 : decode cX8_init 166 = .ok (.iastore, 1) := by decide +kernel
theorem dX8_init_167 : decode cX8_init 167 = .ok (.aload_n 0, 1) := by decide +kernel
theorem dX8_init_168 : decode cX8_init 168 = .ok (.getfield 7, 3) := by decide +kernel
theorem dX8_init_171 : decode cX8_init 171 = .ok (.iconst 5, 1) := by decide +kernel
theorem dX8_init_172 : decode cX8_init 172 = .ok (.iconst 1, 1) := by decide +kernel
theorem dX8_init_173 : decode cX8_init 173 = .ok (.iastore, 1) := by decide +kernel
theorem dX8_init_174 : decode cX8_init 174 = .ok (.iconst 0, 1) := by decide +kernel
theorem dX8_init_175 : decode cX8_init 175 = .ok (.istore_n 1, 1) := by decide +kernel
theorem dX8_init_176 : decode cX8_init 176 = .ok (.iload_n 1, 1) := by decide +kernel
theorem dX8_init_177 : decode cX8_init 177 = .ok (.iconst 4, 1) := by decide +kernel
theorem dX8_init_178 : decode cX8_init 178 = .ok (.if_icmp .ge 16, 3) := by decide +kernel
theorem dX8_init_181 : decode cX8_init 181 = .ok (.aload_n 0, 1) := by decide +kernel
theorem dX8_init_182 : decode cX8_init 182 = .ok (.getfield 29, 3) := by decide +kernel
theorem dX8_init_185 : decode cX8_init 185 = .ok (.iload_n 1, 1) := by decide +kernel
theorem dX8_init_186 : decode cX8_init 186 = .ok (.iconst (-1), 1) := by decide +kernel
theorem dX8_init_187 : decode cX8_init 187 = .ok (.iastore, 1) := by decide +kernel
theorem dX8_init_188 : decode cX8_init 188 = .ok (.iinc 1 1, 3) := by decide +kernel
theorem dX8_init_191 : decode cX8_init 191 = .ok (.goto (-15), 3) := by decide +kernel
theorem dX8_init_194 : decode cX8_init 194 = .ok (.return_, 1) := by decide +kernel
theorem dX8_in_0 : decode cX8_in 0 = .ok (.lload_n 0, 1) := by decide +kernel
theorem dX8_in_1 : decode cX8_in 1 = .ok (.lload_n 2, 1) := by decide +kernel
theorem dX8_in_2 : decode cX8_in 2 = .ok (.lcmp, 1) := by decide +kernel
theorem dX8_in_3 : decode cX8_in 3 = .ok (.ifCond .lt 14, 3) := by decide +kernel
theorem dX8_in_6 : decode cX8_in 6 = .ok (.lload_n 0, 1) := by decide +kernel
theorem dX8_in_7 : decode cX8_in 7 = .ok (.lload 4, 2) := by decide +kernel
theorem dX8_in_9 : decode cX8_in 9 = .ok (.lcmp, 1) := by decide +kernel
theorem dX8_in_10 : decode cX8_in 10 = .ok (.ifCond .gt 7, 3) := by decide +kernel
theorem dX8_in_13 : decode cX8_in 13 = .ok (.iconst 1, 1) := by decide +kernel
theorem dX8_in_14 : decode cX8_in 14 = .ok (.goto 4, 3) := by decide +kernel
theorem dX8_in_17 : decode cX8_in 17 = .ok (.iconst 0, 1) := by decide +kernel
theorem dX8_in_18 : decode cX8_in 18 = .ok (.ireturn, 1) := by decide +kernel
theorem dX8_has_0 : decode cX8_has 0 = .ok (.iload_n 0, 1) := by decide +kernel
theorem dX8_has_1 : decode cX8_has 1 = .ok (.iload_n 1, 1) := by decide +kernel
theorem dX8_has_2 : decode cX8_has 2 = .ok (.ishr, 1) := by decide +kernel
theorem dX8_has_3 : decode cX8_has 3 = .ok (.iconst 1, 1) := by decide +kernel
theorem dX8_has_4 : decode cX8_has 4 = .ok (.iand, 1) := by decide +kernel
theorem dX8_has_5 : decode cX8_has 5 = .ok (.iconst 1, 1) := by decide +kernel
theorem dX8_has_6 : decode cX8_has 6 = .ok (.if_icmp .ne 7, 3) := by decide +kernel
theorem dX8_has_9 : decode cX8_has 9 = .ok (.iconst 1, 1) := by decide +kernel
theorem dX8_has_10 : decode cX8_has 10 = .ok (.goto 4, 3) := by decide +kernel
theorem dX8_has_13 : decode cX8_has 13 = .ok (.iconst 0, 1) := by decide +kernel
theorem dX8_has_14 : decode cX8_has 14 = .ok (.ireturn, 1) := by decide +kernel
theorem dX8_sizeOf_0 : decode cX8_sizeOf 0 = .ok (.iconst 0, 1) := by decide +kernel
theorem dX8_sizeOf_1 : decode cX8_sizeOf 1 = .ok (.istore_n 1, 1) := by decide +kernel
theorem dX8_sizeOf_2 : decode cX8_sizeOf 2 = .ok (.iload_n 0, 1) := by decide +kernel
theorem dX8_sizeOf_3 : decode cX8_sizeOf 3 = .ok (.istore_n 2, 1) := by decide +kernel
theorem dX8_sizeOf_4 : decode cX8_sizeOf 4 = .ok (.iload_n 2, 1) := by decide +kernel
theorem dX8_sizeOf_5 : decode cX8_sizeOf 5 = .ok (.ifCond .eq 15, 3) := by decide +kernel
theorem dX8_sizeOf_8 : decode cX8_sizeOf 8 = .ok (.iinc 1 1, 3) := by decide +kernel
theorem dX8_sizeOf_11 : decode cX8_sizeOf 11 = .ok (.iload_n 2, 1) := by decide +kernel
theorem dX8_sizeOf_12 : decode cX8_sizeOf 12 = .ok (.iload_n 2, 1) := by decide +kernel
theorem dX8_sizeOf_13 : decode cX8_sizeOf 13 = .ok (.iconst 1, 1) := by decide +kernel
theorem dX8_sizeOf_14 : decode cX8_sizeOf 14 = .ok (.isub, 1) := by decide +kernel
theorem dX8_sizeOf_15 : decode cX8_sizeOf 15 = .ok (.iand, 1) := by decide +kernel
theorem dX8_sizeOf_16 : decode cX8_sizeOf 16 = .ok (.istore_n 2, 1) := by decide +kernel
theorem dX8_sizeOf_17 : decode cX8_sizeOf 17 = .ok (.goto (-13), 3) := by decide +kernel
theorem dX8_sizeOf_20 : decode cX8_sizeOf 20 = .ok (.iload_n 1, 1) := by decide +kernel
theorem dX8_sizeOf_21 : decode cX8_sizeOf 21 = .ok (.ireturn, 1) := by decide +kernel
theorem dX8_isSet_0 : decode cX8_isSet 0 = .ok (.iload_n 0, 1) := by decide +kernel
theorem dX8_isSet_1 : decode cX8_isSet 1 = .ok (.i2l, 1) := by decide +kernel
theorem dX8_isSet_2 : decode cX8_isSet 2 = .ok (.lconst 0, 1) := by decide +kernel
theorem dX8_isSet_3 : decode cX8_isSet 3 = .ok (.ldc2_w 69, 3) := by decide +kernel
theorem dX8_isSet_6 : decode cX8_isSet 6 = .ok (.invokestatic 71, 3) := by decide +kernel
theorem dX8_isSet_9 : decode cX8_isSet 9 = .ok (.ireturn, 1) := by decide +kernel
theorem dX8_isBook_0 : decode cX8_isBook 0 = .ok (.iload_n 1, 1) := by decide +kernel
theorem dX8_isBook_1 : decode cX8_isBook 1 = .ok (.i2l, 1) := by decide +kernel
theorem dX8_isBook_2 : decode cX8_isBook 2 = .ok (.lconst 0, 1) := by decide +kernel
theorem dX8_isBook_3 : decode cX8_isBook 3 = .ok (.aload_n 0, 1) := by decide +kernel
theorem dX8_isBook_4 : decode cX8_isBook 4 = .ok (.getfield 7, 3) := by decide +kernel
theorem dX8_isBook_7 : decode cX8_isBook 7 = .ok (.iconst 0, 1) := by decide +kernel
theorem dX8_isBook_8 : decode cX8_isBook 8 = .ok (.iaload, 1) := by decide +kernel
theorem dX8_isBook_9 : decode cX8_isBook 9 = .ok (.iconst 1, 1) := by decide +kernel
theorem dX8_isBook_10 : decode cX8_isBook 10 = .ok (.isub, 1) := by decide +kernel
theorem dX8_isBook_11 : decode cX8_isBook 11 = .ok (.i2l, 1) := by decide +kernel
theorem dX8_isBook_12 : decode cX8_isBook 12 = .ok (.invokestatic 71, 3) := by decide +kernel
theorem dX8_isBook_15 : decode cX8_isBook 15 = .ok (.ireturn, 1) := by decide +kernel
theorem dX8_lasts_0 : decode cX8_lasts 0 = .ok (.aload_n 0, 1) := by decide +kernel
theorem dX8_lasts_1 : decode cX8_lasts 1 = .ok (.getfield 7, 3) := by decide +kernel
theorem dX8_lasts_4 : decode cX8_lasts 4 = .ok (.iconst 2, 1) := by decide +kernel
theorem dX8_lasts_5 : decode cX8_lasts 5 = .ok (.iaload, 1) := by decide +kernel
theorem dX8_lasts_6 : decode cX8_lasts 6 = .ok (.istore_n 2, 1) := by decide +kernel
theorem dX8_lasts_7 : decode cX8_lasts 7 = .ok (.aload_n 0, 1) := by decide +kernel
theorem dX8_lasts_8 : decode cX8_lasts 8 = .ok (.getfield 7, 3) := by decide +kernel
theorem dX8_lasts_11 : decode cX8_lasts 11 = .ok (.iconst 4, 1) := by decide +kernel
theorem dX8_lasts_12 : decode cX8_lasts 12 = .ok (.iaload, 1) := by decide +kernel
theorem dX8_lasts_13 : decode cX8_lasts 13 = .ok (.iconst 1, 1) := by decide +kernel
theorem dX8_lasts_14 : decode cX8_lasts 14 = .ok (.if_icmp .ne 7, 3) := by decide +kernel
theorem dX8_lasts_17 : decode cX8_lasts 17 = .ok (.iload_n 2, 1) := by decide +kernel
theorem dX8_lasts_18 : decode cX8_lasts 18 = .ok (.iload_n 1, 1) := by decide +kernel
theorem dX8_lasts_19 : decode cX8_lasts 19 = .ok (.imul, 1) := by decide +kernel
theorem dX8_lasts_20 : decode cX8_lasts 20 = .ok (.istore_n 2, 1) := by decide +kernel
theorem dX8_lasts_21 : decode cX8_lasts 21 = .ok (.iconst 1, 1) := by decide +kernel
theorem dX8_lasts_22 : decode cX8_lasts 22 = .ok (.istore_n 3, 1) := by decide +kernel
theorem dX8_lasts_23 : decode cX8_lasts 23 = .ok (.iload_n 3, 1) := by decide +kernel
theorem dX8_lasts_24 : decode cX8_lasts 24 = .ok (.iload_n 1, 1) := by decide +kernel
theorem dX8_lasts_25 : decode cX8_lasts 25 = .ok (.if_icmp .ge 23, 3) := by decide +kernel
theorem dX8_lasts_28 : decode cX8_lasts 28 = .ok (.aload_n 0, 1) := by decide +kernel
theorem dX8_lasts_29 : decode cX8_lasts 29 = .ok (.getfield 7, 3) := by decide +kernel
theorem dX8_lasts_32 : decode cX8_lasts 32 = .ok (.iconst 4, 1) := by decide +kernel
theorem dX8_lasts_33 : decode cX8_lasts 33 = .ok (.iaload, 1) := by decide +kernel
theorem dX8_lasts_34 : decode cX8_lasts 34 = .ok (.iconst 2, 1) := by decide +kernel
theorem dX8_lasts_35 : decode cX8_lasts 35 = .ok (.if_icmp .ne 13, 3) := by decide +kernel
theorem dX8_lasts_38 : decode cX8_lasts 38 = .ok (.iload_n 2, 1) := by decide +kernel
theorem dX8_lasts_39 : decode cX8_lasts 39 = .ok (.iconst 2, 1) := by decide +kernel
theorem dX8_lasts_40 : decode cX8_lasts 40 = .ok (.imul, 1) := by decide +kernel
theorem dX8_lasts_41 : decode cX8_lasts 41 = .ok (.istore_n 2, 1) := by decide +kernel
theorem dX8_lasts_42 : decode cX8_lasts 42 = .ok (.iinc 3 1, 3) := by decide +kernel
theorem dX8_lasts_45 : decode cX8_lasts 45 = .ok (.goto (-22), 3) := by decide +kernel
theorem dX8_lasts_48 : decode cX8_lasts 48 = .ok (.iload_n 2, 1) := by decide +kernel
theorem dX8_lasts_49 : decode cX8_lasts 49 = .ok (.ireturn, 1) := by decide +kernel
theorem dX8_begins_0 : decode cX8_begins 0 = .ok (.iconst 0, 1) := by decide +kernel
theorem dX8_begins_1 : decode cX8_begins 1 = .ok (.istore_n 1, 1) := by decide +kernel
theorem dX8_begins_2 : decode cX8_begins 2 = .ok (.iload_n 1, 1) := by decide +kernel
theorem dX8_begins_3 : decode cX8_begins 3 = .ok (.bipush 20, 2) := by decide +kernel
theorem dX8_begins_5 : decode cX8_begins 5 = .ok (.if_icmp .ge 16, 3) := by decide +kernel
theorem dX8_begins_8 : decode cX8_begins 8 = .ok (.aload_n 0, 1) := by decide +kernel
theorem dX8_begins_9 : decode cX8_begins 9 = .ok (.getfield 45, 3) := by decide +kernel
theorem dX8_begins_12 : decode cX8_begins 12 = .ok (.iload_n 1, 1) := by decide +kernel
theorem dX8_begins_13 : decode cX8_begins 13 = .ok (.iconst 0, 1) := by decide +kernel
theorem dX8_begins_14 : decode cX8_begins 14 = .ok (.iastore, 1) := by decide +kernel
theorem dX8_begins_15 : decode cX8_begins 15 = .ok (.iinc 1 1, 3) := by decide +kernel
theorem dX8_begins_18 : decode cX8_begins 18 = .ok (.goto (-16), 3) := by decide +kernel
theorem dX8_begins_21 : decode cX8_begins 21 = .ok (.return_, 1) := by decide +kernel
theorem dX8_reads_0 : decode cX8_reads 0 = .ok (.aload_n 0, 1) := by decide +kernel
theorem dX8_reads_1 : decode cX8_reads 1 = .ok (.getfield 51, 3) := by decide +kernel
theorem dX8_reads_4 : decode cX8_reads 4 = .ok (.iload_n 1, 1) := by decide +kernel
theorem dX8_reads_5 : decode cX8_reads 5 = .ok (.iconst 0, 1) := by decide +kernel
theorem dX8_reads_6 : decode cX8_reads 6 = .ok (.iastore, 1) := by decide +kernel
theorem dX8_reads_7 : decode cX8_reads 7 = .ok (.aload_n 0, 1) := by decide +kernel
theorem dX8_reads_8 : decode cX8_reads 8 = .ok (.getfield 54, 3) := by decide +kernel
theorem dX8_reads_11 : decode cX8_reads 11 = .ok (.iload_n 1, 1) := by decide +kernel
theorem dX8_reads_12 : decode cX8_reads 12 = .ok (.iconst 0, 1) := by decide +kernel
theorem dX8_reads_13 : decode cX8_reads 13 = .ok (.iastore, 1) := by decide +kernel
theorem dX8_reads_14 : decode cX8_reads 14 = .ok (.aload_n 0, 1) := by decide +kernel
theorem dX8_reads_15 : decode cX8_reads 15 = .ok (.getfield 57, 3) := by decide +kernel
theorem dX8_reads_18 : decode cX8_reads 18 = .ok (.iload_n 1, 1) := by decide +kernel
theorem dX8_reads_19 : decode cX8_reads 19 = .ok (.iconst 0, 1) := by decide +kernel
theorem dX8_reads_20 : decode cX8_reads 20 = .ok (.iastore, 1) := by decide +kernel
theorem dX8_reads_21 : decode cX8_reads 21 = .ok (.aload_n 0, 1) := by decide +kernel
theorem dX8_reads_22 : decode cX8_reads 22 = .ok (.getfield 60, 3) := by decide +kernel
theorem dX8_reads_25 : decode cX8_reads 25 = .ok (.iload_n 1, 1) := by decide +kernel
theorem dX8_reads_26 : decode cX8_reads 26 = .ok (.iconst 0, 1) := by decide +kernel
theorem dX8_reads_27 : decode cX8_reads 27 = .ok (.iastore, 1) := by decide +kernel
theorem dX8_reads_28 : decode cX8_reads 28 = .ok (.iconst 0, 1) := by decide +kernel
theorem dX8_reads_29 : decode cX8_reads 29 = .ok (.istore_n 3, 1) := by decide +kernel
theorem dX8_reads_30 : decode cX8_reads 30 = .ok (.iload_n 3, 1) := by decide +kernel
theorem dX8_reads_31 : decode cX8_reads 31 = .ok (.bipush 20, 2) := by decide +kernel
theorem dX8_reads_33 : decode cX8_reads 33 = .ok (.if_icmp .ge 187, 3) := by decide +kernel
theorem dX8_reads_36 : decode cX8_reads 36 = .ok (.iload_n 2, 1) := by decide +kernel
theorem dX8_reads_37 : decode cX8_reads 37 = .ok (.aload_n 0, 1) := by decide +kernel
theorem dX8_reads_38 : decode cX8_reads 38 = .ok (.getfield 7, 3) := by decide +kernel
theorem dX8_reads_41 : decode cX8_reads 41 = .ok (.iconst 1, 1) := by decide +kernel
theorem dX8_reads_42 : decode cX8_reads 42 = .ok (.iaload, 1) := by decide +kernel
theorem dX8_reads_43 : decode cX8_reads 43 = .ok (.iconst (-1), 1) := by decide +kernel
theorem dX8_reads_44 : decode cX8_reads 44 = .ok (.ixor, 1) := by decide +kernel
theorem dX8_reads_45 : decode cX8_reads 45 = .ok (.iand, 1) := by decide +kernel
theorem dX8_reads_46 : decode cX8_reads 46 = .ok (.iload_n 3, 1) := by decide +kernel
theorem dX8_reads_47 : decode cX8_reads 47 = .ok (.invokestatic 75, 3) := by decide +kernel
theorem dX8_reads_50 : decode cX8_reads 50 = .ok (.ifCond .eq 90, 3) := by decide +kernel
theorem dX8_reads_53 : decode cX8_reads 53 = .ok (.aload_n 0, 1) := by decide +kernel
theorem dX8_reads_54 : decode cX8_reads 54 = .ok (.getfield 51, 3) := by decide +kernel
theorem dX8_reads_57 : decode cX8_reads 57 = .ok (.iload_n 1, 1) := by decide +kernel
theorem dX8_reads_58 : decode cX8_reads 58 = .ok (.dup2, 1) := by decide +kernel
theorem dX8_reads_59 : decode cX8_reads 59 = .ok (.iaload, 1) := by decide +kernel
theorem dX8_reads_60 : decode cX8_reads 60 = .ok (.aload_n 0, 1) := by decide +kernel
theorem dX8_reads_61 : decode cX8_reads 61 = .ok (.getfield 45, 3) := by decide +kernel
theorem dX8_reads_64 : decode cX8_reads 64 = .ok (.iload_n 3, 1) := by decide +kernel
theorem dX8_reads_65 : decode cX8_reads 65 = .ok (.iaload, 1) := by decide +kernel
theorem dX8_reads_66 : decode cX8_reads 66 = .ok (.ifCond .ne 9, 3) := by decide +kernel
theorem dX8_reads_69 : decode cX8_reads 69 = .ok (.iconst 1, 1) := by decide +kernel
theorem dX8_reads_70 : decode cX8_reads 70 = .ok (.iload_n 3, 1) := by decide +kernel
theorem dX8_reads_71 : decode cX8_reads 71 = .ok (.ishl, 1) := by decide +kernel
theorem dX8_reads_72 : decode cX8_reads 72 = .ok (.goto 4, 3) := by decide +kernel
theorem dX8_reads_75 : decode cX8_reads 75 = .ok (.iconst 0, 1) := by decide +kernel
theorem dX8_reads_76 : decode cX8_reads 76 = .ok (.ior, 1) := by decide +kernel
theorem dX8_reads_77 : decode cX8_reads 77 = .ok (.iastore, 1) := by decide +kernel
theorem dX8_reads_78 : decode cX8_reads 78 = .ok (.aload_n 0, 1) := by decide +kernel
theorem dX8_reads_79 : decode cX8_reads 79 = .ok (.getfield 54, 3) := by decide +kernel
theorem dX8_reads_82 : decode cX8_reads 82 = .ok (.iload_n 1, 1) := by decide +kernel
theorem dX8_reads_83 : decode cX8_reads 83 = .ok (.dup2, 1) := by decide +kernel
theorem dX8_reads_84 : decode cX8_reads 84 = .ok (.iaload, 1) := by decide +kernel
theorem dX8_reads_85 : decode cX8_reads 85 = .ok (.aload_n 0, 1) := by decide +kernel
theorem dX8_reads_86 : decode cX8_reads 86 = .ok (.getfield 45, 3) := by decide +kernel
theorem dX8_reads_89 : decode cX8_reads 89 = .ok (.iload_n 3, 1) := by decide +kernel
theorem dX8_reads_90 : decode cX8_reads 90 = .ok (.iaload, 1) := by decide +kernel
theorem dX8_reads_91 : decode cX8_reads 91 = .ok (.ifCond .le 9, 3) := by decide +kernel
theorem dX8_reads_94 : decode cX8_reads 94 = .ok (.iconst 1, 1) := by decide +kernel
theorem dX8_reads_95 : decode cX8_reads 95 = .ok (.iload_n 3, 1) := by decide +kernel
theorem dX8_reads_96 : decode cX8_reads 96 = .ok (.ishl, 1) := by decide +kernel
theorem dX8_reads_97 : decode cX8_reads 97 = .ok (.goto 4, 3) := by decide +kernel
theorem dX8_reads_100 : decode cX8_reads 100 = .ok (.iconst 0, 1) := by decide +kernel
theorem dX8_reads_101 : decode cX8_reads 101 = .ok (.ior, 1) := by decide +kernel
theorem dX8_reads_102 : decode cX8_reads 102 = .ok (.iastore, 1) := by decide +kernel
theorem dX8_reads_103 : decode cX8_reads 103 = .ok (.aload_n 0, 1) := by decide +kernel
theorem dX8_reads_104 : decode cX8_reads 104 = .ok (.getfield 45, 3) := by decide +kernel
theorem dX8_reads_107 : decode cX8_reads 107 = .ok (.iload_n 3, 1) := by decide +kernel
theorem dX8_reads_108 : decode cX8_reads 108 = .ok (.aload_n 0, 1) := by decide +kernel
theorem dX8_reads_109 : decode cX8_reads 109 = .ok (.getfield 45, 3) := by decide +kernel
theorem dX8_reads_112 : decode cX8_reads 112 = .ok (.iload_n 3, 1) := by decide +kernel
theorem dX8_reads_113 : decode cX8_reads 113 = .ok (.iaload, 1) := by decide +kernel
theorem dX8_reads_114 : decode cX8_reads 114 = .ok (.bipush 9, 2) := by decide +kernel
theorem dX8_reads_116 : decode cX8_reads 116 = .ok (.if_icmp .ne 8, 3) := by decide +kernel
theorem dX8_reads_119 : decode cX8_reads 119 = .ok (.bipush 9, 2) := by decide +kernel
theorem dX8_reads_121 : decode cX8_reads 121 = .ok (.goto 11, 3) := by decide +kernel
theorem dX8_reads_124 : decode cX8_reads 124 = .ok (.aload_n 0, 1) := by decide +kernel
theorem dX8_reads_125 : decode cX8_reads 125 = .ok (.getfield 45, 3) := by decide +kernel
theorem dX8_reads_128 : decode cX8_reads 128 = .ok (.iload_n 3, 1) := by decide +kernel
theorem dX8_reads_129 : decode cX8_reads 129 = .ok (.iaload, 1) := by decide +kernel
theorem dX8_reads_130 : decode cX8_reads 130 = .ok (.iconst 1, 1) := by decide +kernel
theorem dX8_reads_131 : decode cX8_reads 131 = .ok (.iadd, 1) := by decide +kernel
theorem dX8_reads_132 : decode cX8_reads 132 = .ok (.iastore, 1) := by decide +kernel
theorem dX8_reads_133 : decode cX8_reads 133 = .ok (.aload_n 0, 1) := by decide +kernel
theorem dX8_reads_134 : decode cX8_reads 134 = .ok (.getfield 48, 3) := by decide +kernel
theorem dX8_reads_137 : decode cX8_reads 137 = .ok (.iload_n 3, 1) := by decide +kernel
theorem dX8_reads_138 : decode cX8_reads 138 = .ok (.iload_n 1, 1) := by decide +kernel
theorem dX8_reads_139 : decode cX8_reads 139 = .ok (.iastore, 1) := by decide +kernel
theorem dX8_reads_140 : decode cX8_reads 140 = .ok (.aload_n 0, 1) := by decide +kernel
theorem dX8_reads_141 : decode cX8_reads 141 = .ok (.getfield 45, 3) := by decide +kernel
theorem dX8_reads_144 : decode cX8_reads 144 = .ok (.iload_n 3, 1) := by decide +kernel
theorem dX8_reads_145 : decode cX8_reads 145 = .ok (.iaload, 1) := by decide +kernel
theorem dX8_reads_146 : decode cX8_reads 146 = .ok (.ifCond .le 43, 3) := by decide +kernel
theorem dX8_reads_149 : decode cX8_reads 149 = .ok (.iload_n 1, 1) := by decide +kernel
theorem dX8_reads_150 : decode cX8_reads 150 = .ok (.aload_n 0, 1) := by decide +kernel
theorem dX8_reads_151 : decode cX8_reads 151 = .ok (.getfield 48, 3) := by decide +kernel
theorem dX8_reads_154 : decode cX8_reads 154 = .ok (.iload_n 3, 1) := by decide +kernel
theorem dX8_reads_155 : decode cX8_reads 155 = .ok (.iaload, 1) := by decide +kernel
theorem dX8_reads_156 : decode cX8_reads 156 = .ok (.isub, 1) := by decide +kernel
theorem dX8_reads_157 : decode cX8_reads 157 = .ok (.aload_n 0, 1) := by decide +kernel
theorem dX8_reads_158 : decode cX8_reads 158 = .ok (.aload_n 0, 1) := by decide +kernel
theorem dX8_reads_159 : decode cX8_reads 159 = .ok (.getfield 45, 3) := by decide +kernel
theorem dX8_reads_162 : decode cX8_reads 162 = .ok (.iload_n 3, 1) := by decide +kernel
theorem dX8_reads_163 : decode cX8_reads 163 = .ok (.iaload, 1) := by decide +kernel
theorem dX8_reads_164 : decode cX8_reads 164 = .ok (.invokevirtual 79, 3) := by decide +kernel
end
section
theorem dX8_reads_167 : decode cX8_reads 167 = .ok (.if_icmp .lt 22, 3) := by decide +kernel
theorem dX8_reads_170 : decode cX8_reads 170 = .ok (.aload_n 0, 1) := by decide +kernel
theorem dX8_reads_171 : decode cX8_reads 171 = .ok (.getfield 57, 3) := by decide +kernel
theorem dX8_reads_174 : decode cX8_reads 174 = .ok (.iload_n 1, 1) := by decide +kernel
theorem dX8_reads_175 : decode cX8_reads 175 = .ok (.dup2, 1) := by decide +kernel
theorem dX8_reads_176 : decode cX8_reads 176 = .ok (.iaload, 1) := by decide +kernel
theorem dX8_reads_177 : decode cX8_reads 177 = .ok (.iconst 1, 1) := by decide +kernel
theorem dX8_reads_178 : decode cX8_reads 178 = .ok (.iload_n 3, 1) := by decide +kernel
theorem dX8_reads_179 : decode cX8_reads 179 = .ok (.ishl, 1) := by decide +kernel
theorem dX8_reads_180 : decode cX8_reads 180 = .ok (.ior, 1) := by decide +kernel
theorem dX8_reads_181 : decode cX8_reads 181 = .ok (.iastore, 1) := by decide +kernel
theorem dX8_reads_182 : decode cX8_reads 182 = .ok (.aload_n 0, 1) := by decide +kernel
theorem dX8_reads_183 : decode cX8_reads 183 = .ok (.getfield 45, 3) := by decide +kernel
theorem dX8_reads_186 : decode cX8_reads 186 = .ok (.iload_n 3, 1) := by decide +kernel
theorem dX8_reads_187 : decode cX8_reads 187 = .ok (.iconst 0, 1) := by decide +kernel
theorem dX8_reads_188 : decode cX8_reads 188 = .ok (.iastore, 1) := by decide +kernel
theorem dX8_reads_189 : decode cX8_reads 189 = .ok (.aload_n 0, 1) := by decide +kernel
theorem dX8_reads_190 : decode cX8_reads 190 = .ok (.getfield 60, 3) := by decide +kernel
theorem dX8_reads_193 : decode cX8_reads 193 = .ok (.iload_n 1, 1) := by decide +kernel
theorem dX8_reads_194 : decode cX8_reads 194 = .ok (.dup2, 1) := by decide +kernel
theorem dX8_reads_195 : decode cX8_reads 195 = .ok (.iaload, 1) := by decide +kernel
theorem dX8_reads_196 : decode cX8_reads 196 = .ok (.aload_n 0, 1) := by decide +kernel
theorem dX8_reads_197 : decode cX8_reads 197 = .ok (.getfield 45, 3) := by decide +kernel
theorem dX8_reads_200 : decode cX8_reads 200 = .ok (.iload_n 3, 1) := by decide +kernel
theorem dX8_reads_201 : decode cX8_reads 201 = .ok (.iaload, 1) := by decide +kernel
theorem dX8_reads_202 : decode cX8_reads 202 = .ok (.ifCond .le 9, 3) := by decide +kernel
theorem dX8_reads_205 : decode cX8_reads 205 = .ok (.iconst 1, 1) := by decide +kernel
theorem dX8_reads_206 : decode cX8_reads 206 = .ok (.iload_n 3, 1) := by decide +kernel
theorem dX8_reads_207 : decode cX8_reads 207 = .ok (.ishl, 1) := by decide +kernel
theorem dX8_reads_208 : decode cX8_reads 208 = .ok (.goto 4, 3) := by decide +kernel
theorem dX8_reads_211 : decode cX8_reads 211 = .ok (.iconst 0, 1) := by decide +kernel
theorem dX8_reads_212 : decode cX8_reads 212 = .ok (.ior, 1) := by decide +kernel
theorem dX8_reads_213 : decode cX8_reads 213 = .ok (.iastore, 1) := by decide +kernel
theorem dX8_reads_214 : decode cX8_reads 214 = .ok (.iinc 3 1, 3) := by decide +kernel
theorem dX8_reads_217 : decode cX8_reads 217 = .ok (.goto (-187), 3) := by decide +kernel
theorem dX8_reads_220 : decode cX8_reads 220 = .ok (.return_, 1) := by decide +kernel
theorem dX8_wordsAt_0 : decode cX8_wordsAt 0 = .ok (.aload_n 0, 1) := by decide +kernel
theorem dX8_wordsAt_1 : decode cX8_wordsAt 1 = .ok (.getfield 7, 3) := by decide +kernel
theorem dX8_wordsAt_4 : decode cX8_wordsAt 4 = .ok (.bipush 13, 2) := by decide +kernel
theorem dX8_wordsAt_6 : decode cX8_wordsAt 6 = .ok (.aload_n 0, 1) := by decide +kernel
theorem dX8_wordsAt_7 : decode cX8_wordsAt 7 = .ok (.getfield 42, 3) := by decide +kernel
theorem dX8_wordsAt_10 : decode cX8_wordsAt 10 = .ok (.iload_n 1, 1) := by decide +kernel
theorem dX8_wordsAt_11 : decode cX8_wordsAt 11 = .ok (.iaload, 1) := by decide +kernel
theorem dX8_wordsAt_12 : decode cX8_wordsAt 12 = .ok (.iadd, 1) := by decide +kernel
theorem dX8_wordsAt_13 : decode cX8_wordsAt 13 = .ok (.iaload, 1) := by decide +kernel
theorem dX8_wordsAt_14 : decode cX8_wordsAt 14 = .ok (.ireturn, 1) := by decide +kernel
theorem dX8_readsOrder_0 : decode cX8_readsOrder 0 = .ok (.aload_n 0, 1) := by decide +kernel
theorem dX8_readsOrder_1 : decode cX8_readsOrder 1 = .ok (.invokevirtual 83, 3) := by decide +kernel
theorem dX8_readsOrder_4 : decode cX8_readsOrder 4 = .ok (.iconst 0, 1) := by decide +kernel
theorem dX8_readsOrder_5 : decode cX8_readsOrder 5 = .ok (.istore_n 1, 1) := by decide +kernel
theorem dX8_readsOrder_6 : decode cX8_readsOrder 6 = .ok (.iload_n 1, 1) := by decide +kernel
theorem dX8_readsOrder_7 : decode cX8_readsOrder 7 = .ok (.aload_n 0, 1) := by decide +kernel
theorem dX8_readsOrder_8 : decode cX8_readsOrder 8 = .ok (.getfield 7, 3) := by decide +kernel
theorem dX8_readsOrder_11 : decode cX8_readsOrder 11 = .ok (.iconst 0, 1) := by decide +kernel
theorem dX8_readsOrder_12 : decode cX8_readsOrder 12 = .ok (.iaload, 1) := by decide +kernel
theorem dX8_readsOrder_13 : decode cX8_readsOrder 13 = .ok (.if_icmp .ge 19, 3) := by decide +kernel
theorem dX8_readsOrder_16 : decode cX8_readsOrder 16 = .ok (.aload_n 0, 1) := by decide +kernel
theorem dX8_readsOrder_17 : decode cX8_readsOrder 17 = .ok (.iload_n 1, 1) := by decide +kernel
theorem dX8_readsOrder_18 : decode cX8_readsOrder 18 = .ok (.aload_n 0, 1) := by decide +kernel
theorem dX8_readsOrder_19 : decode cX8_readsOrder 19 = .ok (.iload_n 1, 1) := by decide +kernel
theorem dX8_readsOrder_20 : decode cX8_readsOrder 20 = .ok (.invokevirtual 86, 3) := by decide +kernel
theorem dX8_readsOrder_23 : decode cX8_readsOrder 23 = .ok (.invokevirtual 89, 3) := by decide +kernel
theorem dX8_readsOrder_26 : decode cX8_readsOrder 26 = .ok (.iinc 1 1, 3) := by decide +kernel
theorem dX8_readsOrder_29 : decode cX8_readsOrder 29 = .ok (.goto (-23), 3) := by decide +kernel
theorem dX8_readsOrder_32 : decode cX8_readsOrder 32 = .ok (.return_, 1) := by decide +kernel
theorem dX8_peak_0 : decode cX8_peak 0 = .ok (.iconst 0, 1) := by decide +kernel
theorem dX8_peak_1 : decode cX8_peak 1 = .ok (.istore_n 1, 1) := by decide +kernel
theorem dX8_peak_2 : decode cX8_peak 2 = .ok (.iconst 0, 1) := by decide +kernel
theorem dX8_peak_3 : decode cX8_peak 3 = .ok (.istore_n 2, 1) := by decide +kernel
theorem dX8_peak_4 : decode cX8_peak 4 = .ok (.iload_n 2, 1) := by decide +kernel
theorem dX8_peak_5 : decode cX8_peak 5 = .ok (.aload_n 0, 1) := by decide +kernel
theorem dX8_peak_6 : decode cX8_peak 6 = .ok (.getfield 7, 3) := by decide +kernel
theorem dX8_peak_9 : decode cX8_peak 9 = .ok (.iconst 0, 1) := by decide +kernel
theorem dX8_peak_10 : decode cX8_peak 10 = .ok (.iaload, 1) := by decide +kernel
theorem dX8_peak_11 : decode cX8_peak 11 = .ok (.if_icmp .ge 36, 3) := by decide +kernel
theorem dX8_peak_14 : decode cX8_peak 14 = .ok (.aload_n 0, 1) := by decide +kernel
theorem dX8_peak_15 : decode cX8_peak 15 = .ok (.getfield 51, 3) := by decide +kernel
theorem dX8_peak_18 : decode cX8_peak 18 = .ok (.iload_n 2, 1) := by decide +kernel
theorem dX8_peak_19 : decode cX8_peak 19 = .ok (.iaload, 1) := by decide +kernel
theorem dX8_peak_20 : decode cX8_peak 20 = .ok (.invokestatic 93, 3) := by decide +kernel
theorem dX8_peak_23 : decode cX8_peak 23 = .ok (.iload_n 1, 1) := by decide +kernel
theorem dX8_peak_24 : decode cX8_peak 24 = .ok (.if_icmp .le 15, 3) := by decide +kernel
theorem dX8_peak_27 : decode cX8_peak 27 = .ok (.aload_n 0, 1) := by decide +kernel
theorem dX8_peak_28 : decode cX8_peak 28 = .ok (.getfield 51, 3) := by decide +kernel
theorem dX8_peak_31 : decode cX8_peak 31 = .ok (.iload_n 2, 1) := by decide +kernel
theorem dX8_peak_32 : decode cX8_peak 32 = .ok (.iaload, 1) := by decide +kernel
theorem dX8_peak_33 : decode cX8_peak 33 = .ok (.invokestatic 93, 3) := by decide +kernel
theorem dX8_peak_36 : decode cX8_peak 36 = .ok (.goto 4, 3) := by decide +kernel
theorem dX8_peak_39 : decode cX8_peak 39 = .ok (.iload_n 1, 1) := by decide +kernel
theorem dX8_peak_40 : decode cX8_peak 40 = .ok (.istore_n 1, 1) := by decide +kernel
theorem dX8_peak_41 : decode cX8_peak 41 = .ok (.iinc 2 1, 3) := by decide +kernel
theorem dX8_peak_44 : decode cX8_peak 44 = .ok (.goto (-40), 3) := by decide +kernel
theorem dX8_peak_47 : decode cX8_peak 47 = .ok (.iload_n 1, 1) := by decide +kernel
theorem dX8_peak_48 : decode cX8_peak 48 = .ok (.ireturn, 1) := by decide +kernel
theorem dX8_loss_0 : decode cX8_loss 0 = .ok (.iconst 0, 1) := by decide +kernel
theorem dX8_loss_1 : decode cX8_loss 1 = .ok (.istore_n 1, 1) := by decide +kernel
theorem dX8_loss_2 : decode cX8_loss 2 = .ok (.iconst 0, 1) := by decide +kernel
theorem dX8_loss_3 : decode cX8_loss 3 = .ok (.istore_n 2, 1) := by decide +kernel
theorem dX8_loss_4 : decode cX8_loss 4 = .ok (.iload_n 2, 1) := by decide +kernel
theorem dX8_loss_5 : decode cX8_loss 5 = .ok (.aload_n 0, 1) := by decide +kernel
theorem dX8_loss_6 : decode cX8_loss 6 = .ok (.getfield 7, 3) := by decide +kernel
theorem dX8_loss_9 : decode cX8_loss 9 = .ok (.iconst 0, 1) := by decide +kernel
theorem dX8_loss_10 : decode cX8_loss 10 = .ok (.iaload, 1) := by decide +kernel
theorem dX8_loss_11 : decode cX8_loss 11 = .ok (.if_icmp .ge 21, 3) := by decide +kernel
theorem dX8_loss_14 : decode cX8_loss 14 = .ok (.iload_n 1, 1) := by decide +kernel
theorem dX8_loss_15 : decode cX8_loss 15 = .ok (.aload_n 0, 1) := by decide +kernel
theorem dX8_loss_16 : decode cX8_loss 16 = .ok (.getfield 57, 3) := by decide +kernel
theorem dX8_loss_19 : decode cX8_loss 19 = .ok (.iload_n 2, 1) := by decide +kernel
theorem dX8_loss_20 : decode cX8_loss 20 = .ok (.iaload, 1) := by decide +kernel
theorem dX8_loss_21 : decode cX8_loss 21 = .ok (.invokestatic 93, 3) := by decide +kernel
theorem dX8_loss_24 : decode cX8_loss 24 = .ok (.iadd, 1) := by decide +kernel
theorem dX8_loss_25 : decode cX8_loss 25 = .ok (.istore_n 1, 1) := by decide +kernel
theorem dX8_loss_26 : decode cX8_loss 26 = .ok (.iinc 2 1, 3) := by decide +kernel
theorem dX8_loss_29 : decode cX8_loss 29 = .ok (.goto (-25), 3) := by decide +kernel
theorem dX8_loss_32 : decode cX8_loss 32 = .ok (.iload_n 1, 1) := by decide +kernel
theorem dX8_loss_33 : decode cX8_loss 33 = .ok (.ireturn, 1) := by decide +kernel
theorem dX8_isHolding_0 : decode cX8_isHolding 0 = .ok (.iconst 0, 1) := by decide +kernel
theorem dX8_isHolding_1 : decode cX8_isHolding 1 = .ok (.istore_n 1, 1) := by decide +kernel
theorem dX8_isHolding_2 : decode cX8_isHolding 2 = .ok (.iconst 1, 1) := by decide +kernel
theorem dX8_isHolding_3 : decode cX8_isHolding 3 = .ok (.istore_n 2, 1) := by decide +kernel
theorem dX8_isHolding_4 : decode cX8_isHolding 4 = .ok (.iconst 0, 1) := by decide +kernel
theorem dX8_isHolding_5 : decode cX8_isHolding 5 = .ok (.istore_n 3, 1) := by decide +kernel
theorem dX8_isHolding_6 : decode cX8_isHolding 6 = .ok (.iload_n 3, 1) := by decide +kernel
theorem dX8_isHolding_7 : decode cX8_isHolding 7 = .ok (.aload_n 0, 1) := by decide +kernel
theorem dX8_isHolding_8 : decode cX8_isHolding 8 = .ok (.getfield 7, 3) := by decide +kernel
theorem dX8_isHolding_11 : decode cX8_isHolding 11 = .ok (.iconst 0, 1) := by decide +kernel
theorem dX8_isHolding_12 : decode cX8_isHolding 12 = .ok (.iaload, 1) := by decide +kernel
theorem dX8_isHolding_13 : decode cX8_isHolding 13 = .ok (.if_icmp .ge 49, 3) := by decide +kernel
theorem dX8_isHolding_16 : decode cX8_isHolding 16 = .ok (.iload_n 2, 1) := by decide +kernel
theorem dX8_isHolding_17 : decode cX8_isHolding 17 = .ok (.ifCond .eq 26, 3) := by decide +kernel
theorem dX8_isHolding_20 : decode cX8_isHolding 20 = .ok (.aload_n 0, 1) := by decide +kernel
theorem dX8_isHolding_21 : decode cX8_isHolding 21 = .ok (.getfield 7, 3) := by decide +kernel
theorem dX8_isHolding_24 : decode cX8_isHolding 24 = .ok (.bipush 20, 2) := by decide +kernel
theorem dX8_isHolding_26 : decode cX8_isHolding 26 = .ok (.aload_n 0, 1) := by decide +kernel
theorem dX8_isHolding_27 : decode cX8_isHolding 27 = .ok (.getfield 42, 3) := by decide +kernel
theorem dX8_isHolding_30 : decode cX8_isHolding 30 = .ok (.iload_n 3, 1) := by decide +kernel
theorem dX8_isHolding_31 : decode cX8_isHolding 31 = .ok (.iaload, 1) := by decide +kernel
theorem dX8_isHolding_32 : decode cX8_isHolding 32 = .ok (.iadd, 1) := by decide +kernel
theorem dX8_isHolding_33 : decode cX8_isHolding 33 = .ok (.iaload, 1) := by decide +kernel
theorem dX8_isHolding_34 : decode cX8_isHolding 34 = .ok (.iload_n 1, 1) := by decide +kernel
theorem dX8_isHolding_35 : decode cX8_isHolding 35 = .ok (.iand, 1) := by decide +kernel
theorem dX8_isHolding_36 : decode cX8_isHolding 36 = .ok (.ifCond .ne 7, 3) := by decide +kernel
theorem dX8_isHolding_39 : decode cX8_isHolding 39 = .ok (.iconst 1, 1) := by decide +kernel
theorem dX8_isHolding_40 : decode cX8_isHolding 40 = .ok (.goto 4, 3) := by decide +kernel
theorem dX8_isHolding_43 : decode cX8_isHolding 43 = .ok (.iconst 0, 1) := by decide +kernel
theorem dX8_isHolding_44 : decode cX8_isHolding 44 = .ok (.istore_n 2, 1) := by decide +kernel
theorem dX8_isHolding_45 : decode cX8_isHolding 45 = .ok (.iload_n 1, 1) := by decide +kernel
theorem dX8_isHolding_46 : decode cX8_isHolding 46 = .ok (.iconst 1, 1) := by decide +kernel
theorem dX8_isHolding_47 : decode cX8_isHolding 47 = .ok (.aload_n 0, 1) := by decide +kernel
theorem dX8_isHolding_48 : decode cX8_isHolding 48 = .ok (.getfield 42, 3) := by decide +kernel
theorem dX8_isHolding_51 : decode cX8_isHolding 51 = .ok (.iload_n 3, 1) := by decide +kernel
theorem dX8_isHolding_52 : decode cX8_isHolding 52 = .ok (.iaload, 1) := by decide +kernel
theorem dX8_isHolding_53 : decode cX8_isHolding 53 = .ok (.ishl, 1) := by decide +kernel
theorem dX8_isHolding_54 : decode cX8_isHolding 54 = .ok (.ior, 1) := by decide +kernel
theorem dX8_isHolding_55 : decode cX8_isHolding 55 = .ok (.istore_n 1, 1) := by decide +kernel
theorem dX8_isHolding_56 : decode cX8_isHolding 56 = .ok (.iinc 3 1, 3) := by decide +kernel
theorem dX8_isHolding_59 : decode cX8_isHolding 59 = .ok (.goto (-53), 3) := by decide +kernel
theorem dX8_isHolding_62 : decode cX8_isHolding 62 = .ok (.iload_n 2, 1) := by decide +kernel
theorem dX8_isHolding_63 : decode cX8_isHolding 63 = .ok (.ireturn, 1) := by decide +kernel
theorem dX8_number_0 : decode cX8_number 0 = .ok (.iconst 0, 1) := by decide +kernel
theorem dX8_number_1 : decode cX8_number 1 = .ok (.istore_n 1, 1) := by decide +kernel
theorem dX8_number_2 : decode cX8_number 2 = .ok (.iconst 0, 1) := by decide +kernel
theorem dX8_number_3 : decode cX8_number 3 = .ok (.istore_n 2, 1) := by decide +kernel
theorem dX8_number_4 : decode cX8_number 4 = .ok (.iload_n 2, 1) := by decide +kernel
theorem dX8_number_5 : decode cX8_number 5 = .ok (.aload_n 0, 1) := by decide +kernel
theorem dX8_number_6 : decode cX8_number 6 = .ok (.getfield 7, 3) := by decide +kernel
theorem dX8_number_9 : decode cX8_number 9 = .ok (.iconst 0, 1) := by decide +kernel
theorem dX8_number_10 : decode cX8_number 10 = .ok (.iaload, 1) := by decide +kernel
theorem dX8_number_11 : decode cX8_number 11 = .ok (.if_icmp .ge 21, 3) := by decide +kernel
theorem dX8_number_14 : decode cX8_number 14 = .ok (.bipush 10, 2) := by decide +kernel
theorem dX8_number_16 : decode cX8_number 16 = .ok (.iload_n 1, 1) := by decide +kernel
theorem dX8_number_17 : decode cX8_number 17 = .ok (.imul, 1) := by decide +kernel
theorem dX8_number_18 : decode cX8_number 18 = .ok (.aload_n 0, 1) := by decide +kernel
theorem dX8_number_19 : decode cX8_number 19 = .ok (.getfield 42, 3) := by decide +kernel
theorem dX8_number_22 : decode cX8_number 22 = .ok (.iload_n 2, 1) := by decide +kernel
theorem dX8_number_23 : decode cX8_number 23 = .ok (.iaload, 1) := by decide +kernel
theorem dX8_number_24 : decode cX8_number 24 = .ok (.iadd, 1) := by decide +kernel
theorem dX8_number_25 : decode cX8_number 25 = .ok (.istore_n 1, 1) := by decide +kernel
theorem dX8_number_26 : decode cX8_number 26 = .ok (.iinc 2 1, 3) := by decide +kernel
theorem dX8_number_29 : decode cX8_number 29 = .ok (.goto (-25), 3) := by decide +kernel
theorem dX8_number_32 : decode cX8_number 32 = .ok (.iload_n 1, 1) := by decide +kernel
theorem dX8_number_33 : decode cX8_number 33 = .ok (.ireturn, 1) := by decide +kernel
theorem dX8_takesOrder_0 : decode cX8_takesOrder 0 = .ok (.iconst 0, 1) := by decide +kernel
theorem dX8_takesOrder_1 : decode cX8_takesOrder 1 = .ok (.istore_n 1, 1) := by decide +kernel
theorem dX8_takesOrder_2 : decode cX8_takesOrder 2 = .ok (.iload_n 1, 1) := by decide +kernel
theorem dX8_takesOrder_3 : decode cX8_takesOrder 3 = .ok (.bipush 7, 2) := by decide +kernel
theorem dX8_takesOrder_5 : decode cX8_takesOrder 5 = .ok (.if_icmp .ge 24, 3) := by decide +kernel
theorem dX8_takesOrder_8 : decode cX8_takesOrder 8 = .ok (.aload_n 0, 1) := by decide +kernel
theorem dX8_takesOrder_9 : decode cX8_takesOrder 9 = .ok (.getfield 42, 3) := by decide +kernel
theorem dX8_takesOrder_12 : decode cX8_takesOrder 12 = .ok (.iload_n 1, 1) := by decide +kernel
theorem dX8_takesOrder_13 : decode cX8_takesOrder 13 = .ok (.aload_n 0, 1) := by decide +kernel
theorem dX8_takesOrder_14 : decode cX8_takesOrder 14 = .ok (.getfield 7, 3) := by decide +kernel
theorem dX8_takesOrder_17 : decode cX8_takesOrder 17 = .ok (.bipush 6, 2) := by decide +kernel
theorem dX8_takesOrder_19 : decode cX8_takesOrder 19 = .ok (.iload_n 1, 1) := by decide +kernel
theorem dX8_takesOrder_20 : decode cX8_takesOrder 20 = .ok (.iadd, 1) := by decide +kernel
theorem dX8_takesOrder_21 : decode cX8_takesOrder 21 = .ok (.iaload, 1) := by decide +kernel
theorem dX8_takesOrder_22 : decode cX8_takesOrder 22 = .ok (.iastore, 1) := by decide +kernel
theorem dX8_takesOrder_23 : decode cX8_takesOrder 23 = .ok (.iinc 1 1, 3) := by decide +kernel
theorem dX8_takesOrder_26 : decode cX8_takesOrder 26 = .ok (.goto (-24), 3) := by decide +kernel
theorem dX8_takesOrder_29 : decode cX8_takesOrder 29 = .ok (.return_, 1) := by decide +kernel
theorem dX8_firstOrder_0 : decode cX8_firstOrder 0 = .ok (.iconst 0, 1) := by decide +kernel
theorem dX8_firstOrder_1 : decode cX8_firstOrder 1 = .ok (.istore_n 1, 1) := by decide +kernel
theorem dX8_firstOrder_2 : decode cX8_firstOrder 2 = .ok (.iload_n 1, 1) := by decide +kernel
theorem dX8_firstOrder_3 : decode cX8_firstOrder 3 = .ok (.bipush 7, 2) := by decide +kernel
theorem dX8_firstOrder_5 : decode cX8_firstOrder 5 = .ok (.if_icmp .ge 16, 3) := by decide +kernel
theorem dX8_firstOrder_8 : decode cX8_firstOrder 8 = .ok (.aload_n 0, 1) := by decide +kernel
theorem dX8_firstOrder_9 : decode cX8_firstOrder 9 = .ok (.getfield 42, 3) := by decide +kernel
theorem dX8_firstOrder_12 : decode cX8_firstOrder 12 = .ok (.iload_n 1, 1) := by decide +kernel
theorem dX8_firstOrder_13 : decode cX8_firstOrder 13 = .ok (.iload_n 1, 1) := by decide +kernel
theorem dX8_firstOrder_14 : decode cX8_firstOrder 14 = .ok (.iastore, 1) := by decide +kernel
theorem dX8_firstOrder_15 : decode cX8_firstOrder 15 = .ok (.iinc 1 1, 3) := by decide +kernel
theorem dX8_firstOrder_18 : decode cX8_firstOrder 18 = .ok (.goto (-16), 3) := by decide +kernel
theorem dX8_firstOrder_21 : decode cX8_firstOrder 21 = .ok (.return_, 1) := by decide +kernel
theorem dX8_nextOrder_0 : decode cX8_nextOrder 0 = .ok (.aload_n 0, 1) := by decide +kernel
theorem dX8_nextOrder_1 : decode cX8_nextOrder 1 = .ok (.getfield 7, 3) := by decide +kernel
theorem dX8_nextOrder_4 : decode cX8_nextOrder 4 = .ok (.iconst 0, 1) := by decide +kernel
theorem dX8_nextOrder_5 : decode cX8_nextOrder 5 = .ok (.iaload, 1) := by decide +kernel
theorem dX8_nextOrder_6 : decode cX8_nextOrder 6 = .ok (.iconst 2, 1) := by decide +kernel
theorem dX8_nextOrder_7 : decode cX8_nextOrder 7 = .ok (.isub, 1) := by decide +kernel
theorem dX8_nextOrder_8 : decode cX8_nextOrder 8 = .ok (.istore_n 1, 1) := by decide +kernel
theorem dX8_nextOrder_9 : decode cX8_nextOrder 9 = .ok (.iload_n 1, 1) := by decide +kernel
theorem dX8_nextOrder_10 : decode cX8_nextOrder 10 = .ok (.ifCond .lt 26, 3) := by decide +kernel
theorem dX8_nextOrder_13 : decode cX8_nextOrder 13 = .ok (.aload_n 0, 1) := by decide +kernel
theorem dX8_nextOrder_14 : decode cX8_nextOrder 14 = .ok (.getfield 42, 3) := by decide +kernel
theorem dX8_nextOrder_17 : decode cX8_nextOrder 17 = .ok (.iload_n 1, 1) := by decide +kernel
theorem dX8_nextOrder_18 : decode cX8_nextOrder 18 = .ok (.iaload, 1) := by decide +kernel
theorem dX8_nextOrder_19 : decode cX8_nextOrder 19 = .ok (.aload_n 0, 1) := by decide +kernel
theorem dX8_nextOrder_20 : decode cX8_nextOrder 20 = .ok (.getfield 42, 3) := by decide +kernel
theorem dX8_nextOrder_23 : decode cX8_nextOrder 23 = .ok (.iload_n 1, 1) := by decide +kernel
theorem dX8_nextOrder_24 : decode cX8_nextOrder 24 = .ok (.iconst 1, 1) := by decide +kernel
theorem dX8_nextOrder_25 : decode cX8_nextOrder 25 = .ok (.iadd, 1) := by decide +kernel
theorem dX8_nextOrder_26 : decode cX8_nextOrder 26 = .ok (.iaload, 1) := by decide +kernel
theorem dX8_nextOrder_27 : decode cX8_nextOrder 27 = .ok (.if_icmp .le 9, 3) := by decide +kernel
theorem dX8_nextOrder_30 : decode cX8_nextOrder 30 = .ok (.iinc 1 (-1), 3) := by decide +kernel
theorem dX8_nextOrder_33 : decode cX8_nextOrder 33 = .ok (.goto (-24), 3) := by decide +kernel
theorem dX8_nextOrder_36 : decode cX8_nextOrder 36 = .ok (.iload_n 1, 1) := by decide +kernel
theorem dX8_nextOrder_37 : decode cX8_nextOrder 37 = .ok (.ifCond .ge 5, 3) := by decide +kernel
theorem dX8_nextOrder_40 : decode cX8_nextOrder 40 = .ok (.iconst 0, 1) := by decide +kernel
theorem dX8_nextOrder_41 : decode cX8_nextOrder 41 = .ok (.ireturn, 1) := by decide +kernel
theorem dX8_nextOrder_42 : decode cX8_nextOrder 42 = .ok (.aload_n 0, 1) := by decide +kernel
theorem dX8_nextOrder_43 : decode cX8_nextOrder 43 = .ok (.getfield 7, 3) := by decide +kernel
theorem dX8_nextOrder_46 : decode cX8_nextOrder 46 = .ok (.iconst 0, 1) := by decide +kernel
theorem dX8_nextOrder_47 : decode cX8_nextOrder 47 = .ok (.iaload, 1) := by decide +kernel
theorem dX8_nextOrder_48 : decode cX8_nextOrder 48 = .ok (.iconst 1, 1) := by decide +kernel
theorem dX8_nextOrder_49 : decode cX8_nextOrder 49 = .ok (.isub, 1) := by decide +kernel
theorem dX8_nextOrder_50 : decode cX8_nextOrder 50 = .ok (.istore_n 2, 1) := by decide +kernel
theorem dX8_nextOrder_51 : decode cX8_nextOrder 51 = .ok (.aload_n 0, 1) := by decide +kernel
theorem dX8_nextOrder_52 : decode cX8_nextOrder 52 = .ok (.getfield 42, 3) := by decide +kernel
theorem dX8_nextOrder_55 : decode cX8_nextOrder 55 = .ok (.iload_n 2, 1) := by decide +kernel
theorem dX8_nextOrder_56 : decode cX8_nextOrder 56 = .ok (.iaload, 1) := by decide +kernel
theorem dX8_nextOrder_57 : decode cX8_nextOrder 57 = .ok (.aload_n 0, 1) := by decide +kernel
theorem dX8_nextOrder_58 : decode cX8_nextOrder 58 = .ok (.getfield 42, 3) := by decide +kernel
theorem dX8_nextOrder_61 : decode cX8_nextOrder 61 = .ok (.iload_n 1, 1) := by decide +kernel
theorem dX8_nextOrder_62 : decode cX8_nextOrder 62 = .ok (.iaload, 1) := by decide +kernel
theorem dX8_nextOrder_63 : decode cX8_nextOrder 63 = .ok (.if_icmp .ge 9, 3) := by decide +kernel
theorem dX8_nextOrder_66 : decode cX8_nextOrder 66 = .ok (.iinc 2 (-1), 3) := by decide +kernel
theorem dX8_nextOrder_69 : decode cX8_nextOrder 69 = .ok (.goto (-18), 3) := by decide +kernel
theorem dX8_nextOrder_72 : decode cX8_nextOrder 72 = .ok (.aload_n 0, 1) := by decide +kernel
theorem dX8_nextOrder_73 : decode cX8_nextOrder 73 = .ok (.getfield 42, 3) := by decide +kernel
theorem dX8_nextOrder_76 : decode cX8_nextOrder 76 = .ok (.iload_n 1, 1) := by decide +kernel
theorem dX8_nextOrder_77 : decode cX8_nextOrder 77 = .ok (.iaload, 1) := by decide +kernel
theorem dX8_nextOrder_78 : decode cX8_nextOrder 78 = .ok (.istore_n 3, 1) := by decide +kernel
theorem dX8_nextOrder_79 : decode cX8_nextOrder 79 = .ok (.aload_n 0, 1) := by decide +kernel
theorem dX8_nextOrder_80 : decode cX8_nextOrder 80 = .ok (.getfield 42, 3) := by decide +kernel
theorem dX8_nextOrder_83 : decode cX8_nextOrder 83 = .ok (.iload_n 1, 1) := by decide +kernel
theorem dX8_nextOrder_84 : decode cX8_nextOrder 84 = .ok (.aload_n 0, 1) := by decide +kernel
theorem dX8_nextOrder_85 : decode cX8_nextOrder 85 = .ok (.getfield 42, 3) := by decide +kernel
theorem dX8_nextOrder_88 : decode cX8_nextOrder 88 = .ok (.iload_n 2, 1) := by decide +kernel
theorem dX8_nextOrder_89 : decode cX8_nextOrder 89 = .ok (.iaload, 1) := by decide +kernel
theorem dX8_nextOrder_90 : decode cX8_nextOrder 90 = .ok (.iastore, 1) := by decide +kernel
theorem dX8_nextOrder_91 : decode cX8_nextOrder 91 = .ok (.aload_n 0, 1) := by decide +kernel
theorem dX8_nextOrder_92 : decode cX8_nextOrder 92 = .ok (.getfield 42, 3) := by decide +kernel
theorem dX8_nextOrder_95 : decode cX8_nextOrder 95 = .ok (.iload_n 2, 1) := by decide +kernel
theorem dX8_nextOrder_96 : decode cX8_nextOrder 96 = .ok (.iload_n 3, 1) := by decide +kernel
theorem dX8_nextOrder_97 : decode cX8_nextOrder 97 = .ok (.iastore, 1) := by decide +kernel
theorem dX8_nextOrder_98 : decode cX8_nextOrder 98 = .ok (.iload_n 1, 1) := by decide +kernel
theorem dX8_nextOrder_99 : decode cX8_nextOrder 99 = .ok (.iconst 1, 1) := by decide +kernel
theorem dX8_nextOrder_100 : decode cX8_nextOrder 100 = .ok (.iadd, 1) := by decide +kernel
theorem dX8_nextOrder_101 : decode cX8_nextOrder 101 = .ok (.istore 4, 2) := by decide +kernel
theorem dX8_nextOrder_103 : decode cX8_nextOrder 103 = .ok (.aload_n 0, 1) := by decide +kernel
theorem dX8_nextOrder_104 : decode cX8_nextOrder 104 = .ok (.getfield 7, 3) := by decide +kernel
theorem dX8_nextOrder_107 : decode cX8_nextOrder 107 = .ok (.iconst 0, 1) := by decide +kernel
theorem dX8_nextOrder_108 : decode cX8_nextOrder 108 = .ok (.iaload, 1) := by decide +kernel
theorem dX8_nextOrder_109 : decode cX8_nextOrder 109 = .ok (.iconst 1, 1) := by decide +kernel
theorem dX8_nextOrder_110 : decode cX8_nextOrder 110 = .ok (.isub, 1) := by decide +kernel
theorem dX8_nextOrder_111 : decode cX8_nextOrder 111 = .ok (.istore 5, 2) := by decide +kernel
theorem dX8_nextOrder_113 : decode cX8_nextOrder 113 = .ok (.iload 4, 2) := by decide +kernel
theorem dX8_nextOrder_115 : decode cX8_nextOrder 115 = .ok (.iload 5, 2) := by decide +kernel
theorem dX8_nextOrder_117 : decode cX8_nextOrder 117 = .ok (.if_icmp .ge 44, 3) := by decide +kernel
theorem dX8_nextOrder_120 : decode cX8_nextOrder 120 = .ok (.aload_n 0, 1) := by decide +kernel
theorem dX8_nextOrder_121 : decode cX8_nextOrder 121 = .ok (.getfield 42, 3) := by decide +kernel
theorem dX8_nextOrder_124 : decode cX8_nextOrder 124 = .ok (.iload 4, 2) := by decide +kernel
theorem dX8_nextOrder_126 : decode cX8_nextOrder 126 = .ok (.iaload, 1) := by decide +kernel
theorem dX8_nextOrder_127 : decode cX8_nextOrder 127 = .ok (.istore 6, 2) := by decide +kernel
theorem dX8_nextOrder_129 : decode cX8_nextOrder 129 = .ok (.aload_n 0, 1) := by decide +kernel
theorem dX8_nextOrder_130 : decode cX8_nextOrder 130 = .ok (.getfield 42, 3) := by decide +kernel
theorem dX8_nextOrder_133 : decode cX8_nextOrder 133 = .ok (.iload 4, 2) := by decide +kernel
theorem dX8_nextOrder_135 : decode cX8_nextOrder 135 = .ok (.aload_n 0, 1) := by decide +kernel
theorem dX8_nextOrder_136 : decode cX8_nextOrder 136 = .ok (.getfield 42, 3) := by decide +kernel
theorem dX8_nextOrder_139 : decode cX8_nextOrder 139 = .ok (.iload 5, 2) := by decide +kernel
theorem dX8_nextOrder_141 : decode cX8_nextOrder 141 = .ok (.iaload, 1) := by decide +kernel
theorem dX8_nextOrder_142 : decode cX8_nextOrder 142 = .ok (.iastore, 1) := by decide +kernel
theorem dX8_nextOrder_143 : decode cX8_nextOrder 143 = .ok (.aload_n 0, 1) := by decide +kernel
theorem dX8_nextOrder_144 : decode cX8_nextOrder 144 = .ok (.getfield 42, 3) := by decide +kernel
theorem dX8_nextOrder_147 : decode cX8_nextOrder 147 = .ok (.iload 5, 2) := by decide +kernel
theorem dX8_nextOrder_149 : decode cX8_nextOrder 149 = .ok (.iload 6, 2) := by decide +kernel
theorem dX8_nextOrder_151 : decode cX8_nextOrder 151 = .ok (.iastore, 1) := by decide +kernel
theorem dX8_nextOrder_152 : decode cX8_nextOrder 152 = .ok (.iinc 4 1, 3) := by decide +kernel
theorem dX8_nextOrder_155 : decode cX8_nextOrder 155 = .ok (.iinc 5 (-1), 3) := by decide +kernel
theorem dX8_nextOrder_158 : decode cX8_nextOrder 158 = .ok (.goto (-45), 3) := by decide +kernel
theorem dX8_nextOrder_161 : decode cX8_nextOrder 161 = .ok (.iconst 1, 1) := by decide +kernel
theorem dX8_nextOrder_162 : decode cX8_nextOrder 162 = .ok (.ireturn, 1) := by decide +kernel
theorem dX8_place_0 : decode cX8_place 0 = .ok (.iload_n 1, 1) := by decide +kernel
theorem dX8_place_1 : decode cX8_place 1 = .ok (.i2l, 1) := by decide +kernel
theorem dX8_place_2 : decode cX8_place 2 = .ok (.lconst 0, 1) := by decide +kernel
theorem dX8_place_3 : decode cX8_place 3 = .ok (.aload_n 0, 1) := by decide +kernel
theorem dX8_place_4 : decode cX8_place 4 = .ok (.getfield 7, 3) := by decide +kernel
theorem dX8_place_7 : decode cX8_place 7 = .ok (.iconst 0, 1) := by decide +kernel
theorem dX8_place_8 : decode cX8_place 8 = .ok (.iaload, 1) := by decide +kernel
theorem dX8_place_9 : decode cX8_place 9 = .ok (.iconst 1, 1) := by decide +kernel
theorem dX8_place_10 : decode cX8_place 10 = .ok (.isub, 1) := by decide +kernel
theorem dX8_place_11 : decode cX8_place 11 = .ok (.i2l, 1) := by decide +kernel
theorem dX8_place_12 : decode cX8_place 12 = .ok (.invokestatic 71, 3) := by decide +kernel
theorem dX8_place_15 : decode cX8_place 15 = .ok (.ifCond .ne 5, 3) := by decide +kernel
theorem dX8_place_18 : decode cX8_place 18 = .ok (.iconst (-1), 1) := by decide +kernel
theorem dX8_place_19 : decode cX8_place 19 = .ok (.ireturn, 1) := by decide +kernel
theorem dX8_place_20 : decode cX8_place 20 = .ok (.aload_n 0, 1) := by decide +kernel
theorem dX8_place_21 : decode cX8_place 21 = .ok (.invokevirtual 96, 3) := by decide +kernel
theorem dX8_place_24 : decode cX8_place 24 = .ok (.aload_n 0, 1) := by decide +kernel
theorem dX8_place_25 : decode cX8_place 25 = .ok (.invokevirtual 99, 3) := by decide +kernel
theorem dX8_place_28 : decode cX8_place 28 = .ok (.iload_n 2, 1) := by decide +kernel
theorem dX8_place_29 : decode cX8_place 29 = .ok (.tableswitch 101 0 6 #[43, 50, 60, 70, 80, 87, 94], 43) := by decide +kernel
theorem dX8_place_72 : decode cX8_place 72 = .ok (.aload_n 0, 1) := by decide +kernel
theorem dX8_place_73 : decode cX8_place 73 = .ok (.getfield 42, 3) := by decide +kernel
theorem dX8_place_76 : decode cX8_place 76 = .ok (.iload_n 1, 1) := by decide +kernel
theorem dX8_place_77 : decode cX8_place 77 = .ok (.iaload, 1) := by decide +kernel
theorem dX8_place_78 : decode cX8_place 78 = .ok (.ireturn, 1) := by decide +kernel
theorem dX8_place_79 : decode cX8_place 79 = .ok (.aload_n 0, 1) := by decide +kernel
theorem dX8_place_80 : decode cX8_place 80 = .ok (.getfield 51, 3) := by decide +kernel
theorem dX8_place_83 : decode cX8_place 83 = .ok (.iload_n 1, 1) := by decide +kernel
theorem dX8_place_84 : decode cX8_place 84 = .ok (.iaload, 1) := by decide +kernel
theorem dX8_place_85 : decode cX8_place 85 = .ok (.invokestatic 93, 3) := by decide +kernel
theorem dX8_place_88 : decode cX8_place 88 = .ok (.ireturn, 1) := by decide +kernel
theorem dX8_place_89 : decode cX8_place 89 = .ok (.aload_n 0, 1) := by decide +kernel
theorem dX8_place_90 : decode cX8_place 90 = .ok (.getfield 54, 3) := by decide +kernel
theorem dX8_place_93 : decode cX8_place 93 = .ok (.iload_n 1, 1) := by decide +kernel
theorem dX8_place_94 : decode cX8_place 94 = .ok (.iaload, 1) := by decide +kernel
theorem dX8_place_95 : decode cX8_place 95 = .ok (.invokestatic 93, 3) := by decide +kernel
theorem dX8_place_98 : decode cX8_place 98 = .ok (.ireturn, 1) := by decide +kernel
theorem dX8_place_99 : decode cX8_place 99 = .ok (.aload_n 0, 1) := by decide +kernel
theorem dX8_place_100 : decode cX8_place 100 = .ok (.getfield 57, 3) := by decide +kernel
theorem dX8_place_103 : decode cX8_place 103 = .ok (.iload_n 1, 1) := by decide +kernel
theorem dX8_place_104 : decode cX8_place 104 = .ok (.iaload, 1) := by decide +kernel
theorem dX8_place_105 : decode cX8_place 105 = .ok (.invokestatic 93, 3) := by decide +kernel
theorem dX8_place_108 : decode cX8_place 108 = .ok (.ireturn, 1) := by decide +kernel
theorem dX8_place_109 : decode cX8_place 109 = .ok (.aload_n 0, 1) := by decide +kernel
theorem dX8_place_110 : decode cX8_place 110 = .ok (.getfield 51, 3) := by decide +kernel
theorem dX8_place_113 : decode cX8_place 113 = .ok (.iload_n 1, 1) := by decide +kernel
theorem dX8_place_114 : decode cX8_place 114 = .ok (.iaload, 1) := by decide +kernel
theorem dX8_place_115 : decode cX8_place 115 = .ok (.ireturn, 1) := by decide +kernel
theorem dX8_place_116 : decode cX8_place 116 = .ok (.aload_n 0, 1) := by decide +kernel
theorem dX8_place_117 : decode cX8_place 117 = .ok (.getfield 57, 3) := by decide +kernel
theorem dX8_place_120 : decode cX8_place 120 = .ok (.iload_n 1, 1) := by decide +kernel
theorem dX8_place_121 : decode cX8_place 121 = .ok (.iaload, 1) := by decide +kernel
theorem dX8_place_122 : decode cX8_place 122 = .ok (.ireturn, 1) := by decide +kernel
theorem dX8_place_123 : decode cX8_place 123 = .ok (.aload_n 0, 1) := by decide +kernel
theorem dX8_place_124 : decode cX8_place 124 = .ok (.getfield 60, 3) := by decide +kernel
theorem dX8_place_127 : decode cX8_place 127 = .ok (.iload_n 1, 1) := by decide +kernel
theorem dX8_place_128 : decode cX8_place 128 = .ok (.iaload, 1) := by decide +kernel
theorem dX8_place_129 : decode cX8_place 129 = .ok (.ireturn, 1) := by decide +kernel
theorem dX8_place_130 : decode cX8_place 130 = .ok (.iconst (-1), 1) := by decide +kernel
theorem dX8_place_131 : decode cX8_place 131 = .ok (.ireturn, 1) := by decide +kernel
theorem dX8_word_0 : decode cX8_word 0 = .ok (.iload_n 1, 1) := by decide +kernel
theorem dX8_word_1 : decode cX8_word 1 = .ok (.i2l, 1) := by decide +kernel
theorem dX8_word_2 : decode cX8_word 2 = .ok (.lconst 0, 1) := by decide +kernel
theorem dX8_word_3 : decode cX8_word 3 = .ok (.ldc2_w 102, 3) := by decide +kernel
theorem dX8_word_6 : decode cX8_word 6 = .ok (.invokestatic 71, 3) := by decide +kernel
theorem dX8_word_9 : decode cX8_word 9 = .ok (.ifCond .ne 5, 3) := by decide +kernel
theorem dX8_word_12 : decode cX8_word 12 = .ok (.iconst (-1), 1) := by decide +kernel
theorem dX8_word_13 : decode cX8_word 13 = .ok (.ireturn, 1) := by decide +kernel
theorem dX8_word_14 : decode cX8_word 14 = .ok (.aload_n 0, 1) := by decide +kernel
theorem dX8_word_15 : decode cX8_word 15 = .ok (.invokevirtual 96, 3) := by decide +kernel
theorem dX8_word_18 : decode cX8_word 18 = .ok (.aload_n 0, 1) := by decide +kernel
theorem dX8_word_19 : decode cX8_word 19 = .ok (.invokevirtual 99, 3) := by decide +kernel
theorem dX8_word_22 : decode cX8_word 22 = .ok (.bipush (-4), 2) := by decide +kernel
theorem dX8_word_24 : decode cX8_word 24 = .ok (.istore_n 3, 1) := by decide +kernel
theorem dX8_word_25 : decode cX8_word 25 = .ok (.iconst 0, 1) := by decide +kernel
theorem dX8_word_26 : decode cX8_word 26 = .ok (.istore 4, 2) := by decide +kernel
theorem dX8_word_28 : decode cX8_word 28 = .ok (.iconst 0, 1) := by decide +kernel
theorem dX8_word_29 : decode cX8_word 29 = .ok (.istore 5, 2) := by decide +kernel
theorem dX8_word_31 : decode cX8_word 31 = .ok (.iconst 0, 1) := by decide +kernel
theorem dX8_word_32 : decode cX8_word 32 = .ok (.istore 6, 2) := by decide +kernel
theorem dX8_word_34 : decode cX8_word 34 = .ok (.aload_n 0, 1) := by decide +kernel
theorem dX8_word_35 : decode cX8_word 35 = .ok (.getfield 7, 3) := by decide +kernel
theorem dX8_word_38 : decode cX8_word 38 = .ok (.iconst 0, 1) := by decide +kernel
theorem dX8_word_39 : decode cX8_word 39 = .ok (.iaload, 1) := by decide +kernel
theorem dX8_word_40 : decode cX8_word 40 = .ok (.iconst 1, 1) := by decide +kernel
theorem dX8_word_41 : decode cX8_word 41 = .ok (.isub, 1) := by decide +kernel
theorem dX8_word_42 : decode cX8_word 42 = .ok (.istore 7, 2) := by decide +kernel
theorem dX8_word_44 : decode cX8_word 44 = .ok (.iload 7, 2) := by decide +kernel
theorem dX8_word_46 : decode cX8_word 46 = .ok (.ifCond .lt 105, 3) := by decide +kernel
theorem dX8_word_49 : decode cX8_word 49 = .ok (.aload_n 0, 1) := by decide +kernel
theorem dX8_word_50 : decode cX8_word 50 = .ok (.getfield 51, 3) := by decide +kernel
theorem dX8_word_53 : decode cX8_word 53 = .ok (.iload 7, 2) := by decide +kernel
theorem dX8_word_55 : decode cX8_word 55 = .ok (.iaload, 1) := by decide +kernel
theorem dX8_word_56 : decode cX8_word 56 = .ok (.iload_n 1, 1) := by decide +kernel
theorem dX8_word_57 : decode cX8_word 57 = .ok (.invokestatic 75, 3) := by decide +kernel
theorem dX8_word_60 : decode cX8_word 60 = .ok (.ifCond .eq 8, 3) := by decide +kernel
theorem dX8_word_63 : decode cX8_word 63 = .ok (.iload 7, 2) := by decide +kernel
theorem dX8_word_65 : decode cX8_word 65 = .ok (.goto 4, 3) := by decide +kernel
theorem dX8_word_68 : decode cX8_word 68 = .ok (.iload_n 3, 1) := by decide +kernel
theorem dX8_word_69 : decode cX8_word 69 = .ok (.istore_n 3, 1) := by decide +kernel
theorem dX8_word_70 : decode cX8_word 70 = .ok (.iload 4, 2) := by decide +kernel
theorem dX8_word_72 : decode cX8_word 72 = .ok (.aload_n 0, 1) := by decide +kernel
theorem dX8_word_73 : decode cX8_word 73 = .ok (.getfield 51, 3) := by decide +kernel
theorem dX8_word_76 : decode cX8_word 76 = .ok (.iload 7, 2) := by decide +kernel
theorem dX8_word_78 : decode cX8_word 78 = .ok (.iaload, 1) := by decide +kernel
theorem dX8_word_79 : decode cX8_word 79 = .ok (.iload_n 1, 1) := by decide +kernel
theorem dX8_word_80 : decode cX8_word 80 = .ok (.invokestatic 75, 3) := by decide +kernel
theorem dX8_word_83 : decode cX8_word 83 = .ok (.ifCond .eq 7, 3) := by decide +kernel
theorem dX8_word_86 : decode cX8_word 86 = .ok (.iconst 1, 1) := by decide +kernel
theorem dX8_word_87 : decode cX8_word 87 = .ok (.goto 4, 3) := by decide +kernel
theorem dX8_word_90 : decode cX8_word 90 = .ok (.iconst 0, 1) := by decide +kernel
theorem dX8_word_91 : decode cX8_word 91 = .ok (.iadd, 1) := by decide +kernel
theorem dX8_word_92 : decode cX8_word 92 = .ok (.istore 4, 2) := by decide +kernel
theorem dX8_word_94 : decode cX8_word 94 = .ok (.iload 5, 2) := by decide +kernel
theorem dX8_word_96 : decode cX8_word 96 = .ok (.aload_n 0, 1) := by decide +kernel
theorem dX8_word_97 : decode cX8_word 97 = .ok (.getfield 57, 3) := by decide +kernel
theorem dX8_word_100 : decode cX8_word 100 = .ok (.iload 7, 2) := by decide +kernel
theorem dX8_word_102 : decode cX8_word 102 = .ok (.iaload, 1) := by decide +kernel
theorem dX8_word_103 : decode cX8_word 103 = .ok (.iload_n 1, 1) := by decide +kernel
theorem dX8_word_104 : decode cX8_word 104 = .ok (.invokestatic 75, 3) := by decide +kernel
theorem dX8_word_107 : decode cX8_word 107 = .ok (.ifCond .eq 7, 3) := by decide +kernel
theorem dX8_word_110 : decode cX8_word 110 = .ok (.iconst 1, 1) := by decide +kernel
theorem dX8_word_111 : decode cX8_word 111 = .ok (.goto 4, 3) := by decide +kernel
theorem dX8_word_114 : decode cX8_word 114 = .ok (.iconst 0, 1) := by decide +kernel
theorem dX8_word_115 : decode cX8_word 115 = .ok (.iadd, 1) := by decide +kernel
theorem dX8_word_116 : decode cX8_word 116 = .ok (.istore 5, 2) := by decide +kernel
theorem dX8_word_118 : decode cX8_word 118 = .ok (.iload 6, 2) := by decide +kernel
theorem dX8_word_120 : decode cX8_word 120 = .ok (.aload_n 0, 1) := by decide +kernel
theorem dX8_word_121 : decode cX8_word 121 = .ok (.getfield 7, 3) := by decide +kernel
theorem dX8_word_124 : decode cX8_word 124 = .ok (.bipush 13, 2) := by decide +kernel
theorem dX8_word_126 : decode cX8_word 126 = .ok (.iload 7, 2) := by decide +kernel
theorem dX8_word_128 : decode cX8_word 128 = .ok (.iadd, 1) := by decide +kernel
theorem dX8_word_129 : decode cX8_word 129 = .ok (.iaload, 1) := by decide +kernel
theorem dX8_word_130 : decode cX8_word 130 = .ok (.iload_n 1, 1) := by decide +kernel
theorem dX8_word_131 : decode cX8_word 131 = .ok (.invokestatic 75, 3) := by decide +kernel
theorem dX8_word_134 : decode cX8_word 134 = .ok (.ifCond .eq 7, 3) := by decide +kernel
theorem dX8_word_137 : decode cX8_word 137 = .ok (.iconst 1, 1) := by decide +kernel
theorem dX8_word_138 : decode cX8_word 138 = .ok (.goto 4, 3) := by decide +kernel
theorem dX8_word_141 : decode cX8_word 141 = .ok (.iconst 0, 1) := by decide +kernel
theorem dX8_word_142 : decode cX8_word 142 = .ok (.iadd, 1) := by decide +kernel
theorem dX8_word_143 : decode cX8_word 143 = .ok (.istore 6, 2) := by decide +kernel
theorem dX8_word_145 : decode cX8_word 145 = .ok (.iinc 7 (-1), 3) := by decide +kernel
theorem dX8_word_148 : decode cX8_word 148 = .ok (.goto (-104), 3) := by decide +kernel
theorem dX8_word_151 : decode cX8_word 151 = .ok (.iload_n 2, 1) := by decide +kernel
theorem dX8_word_152 : decode cX8_word 152 = .ok (.tableswitch 54 0 4 #[36, 38, 45, 48, 51], 36) := by decide +kernel
theorem dX8_word_188 : decode cX8_word 188 = .ok (.iload_n 3, 1) := by decide +kernel
theorem dX8_word_189 : decode cX8_word 189 = .ok (.ireturn, 1) := by decide +kernel
theorem dX8_word_190 : decode cX8_word 190 = .ok (.aload_n 0, 1) := by decide +kernel
theorem dX8_word_191 : decode cX8_word 191 = .ok (.getfield 45, 3) := by decide +kernel
theorem dX8_word_194 : decode cX8_word 194 = .ok (.iload_n 1, 1) := by decide +kernel
theorem dX8_word_195 : decode cX8_word 195 = .ok (.iaload, 1) := by decide +kernel
theorem dX8_word_196 : decode cX8_word 196 = .ok (.ireturn, 1) := by decide +kernel
theorem dX8_word_197 : decode cX8_word 197 = .ok (.iload 4, 2) := by decide +kernel
theorem dX8_word_199 : decode cX8_word 199 = .ok (.ireturn, 1) := by decide +kernel
theorem dX8_word_200 : decode cX8_word 200 = .ok (.iload 5, 2) := by decide +kernel
theorem dX8_word_202 : decode cX8_word 202 = .ok (.ireturn, 1) := by decide +kernel
theorem dX8_word_203 : decode cX8_word 203 = .ok (.iload 6, 2) := by decide +kernel
theorem dX8_word_205 : decode cX8_word 205 = .ok (.ireturn, 1) := by decide +kernel
theorem dX8_word_206 : decode cX8_word 206 = .ok (.iconst (-1), 1) := by decide +kernel
theorem dX8_word_207 : decode cX8_word 207 = .ok (.ireturn, 1) := by decide +kernel
theorem dX8_aheadOf_0 : decode cX8_aheadOf 0 = .ok (.iconst 0, 1) := by decide +kernel
theorem dX8_aheadOf_1 : decode cX8_aheadOf 1 = .ok (.istore_n 2, 1) := by decide +kernel
theorem dX8_aheadOf_2 : decode cX8_aheadOf 2 = .ok (.iconst 0, 1) := by decide +kernel
theorem dX8_aheadOf_3 : decode cX8_aheadOf 3 = .ok (.istore_n 3, 1) := by decide +kernel
theorem dX8_aheadOf_4 : decode cX8_aheadOf 4 = .ok (.iload_n 3, 1) := by decide +kernel
theorem dX8_aheadOf_5 : decode cX8_aheadOf 5 = .ok (.aload_n 0, 1) := by decide +kernel
theorem dX8_aheadOf_6 : decode cX8_aheadOf 6 = .ok (.getfield 7, 3) := by decide +kernel
theorem dX8_aheadOf_9 : decode cX8_aheadOf 9 = .ok (.iconst 0, 1) := by decide +kernel
theorem dX8_aheadOf_10 : decode cX8_aheadOf 10 = .ok (.iaload, 1) := by decide +kernel
theorem dX8_aheadOf_11 : decode cX8_aheadOf 11 = .ok (.if_icmp .ge 35, 3) := by decide +kernel
theorem dX8_aheadOf_14 : decode cX8_aheadOf 14 = .ok (.iload_n 2, 1) := by decide +kernel
theorem dX8_aheadOf_15 : decode cX8_aheadOf 15 = .ok (.aload_n 0, 1) := by decide +kernel
theorem dX8_aheadOf_16 : decode cX8_aheadOf 16 = .ok (.getfield 7, 3) := by decide +kernel
theorem dX8_aheadOf_19 : decode cX8_aheadOf 19 = .ok (.bipush 20, 2) := by decide +kernel
theorem dX8_aheadOf_21 : decode cX8_aheadOf 21 = .ok (.iload_n 3, 1) := by decide +kernel
theorem dX8_aheadOf_22 : decode cX8_aheadOf 22 = .ok (.iadd, 1) := by decide +kernel
theorem dX8_aheadOf_23 : decode cX8_aheadOf 23 = .ok (.iaload, 1) := by decide +kernel
theorem dX8_aheadOf_24 : decode cX8_aheadOf 24 = .ok (.iload_n 1, 1) := by decide +kernel
theorem dX8_aheadOf_25 : decode cX8_aheadOf 25 = .ok (.invokestatic 75, 3) := by decide +kernel
theorem dX8_aheadOf_28 : decode cX8_aheadOf 28 = .ok (.ifCond .eq 9, 3) := by decide +kernel
theorem dX8_aheadOf_31 : decode cX8_aheadOf 31 = .ok (.iconst 1, 1) := by decide +kernel
theorem dX8_aheadOf_32 : decode cX8_aheadOf 32 = .ok (.iload_n 3, 1) := by decide +kernel
theorem dX8_aheadOf_33 : decode cX8_aheadOf 33 = .ok (.ishl, 1) := by decide +kernel
theorem dX8_aheadOf_34 : decode cX8_aheadOf 34 = .ok (.goto 4, 3) := by decide +kernel
theorem dX8_aheadOf_37 : decode cX8_aheadOf 37 = .ok (.iconst 0, 1) := by decide +kernel
theorem dX8_aheadOf_38 : decode cX8_aheadOf 38 = .ok (.ior, 1) := by decide +kernel
theorem dX8_aheadOf_39 : decode cX8_aheadOf 39 = .ok (.istore_n 2, 1) := by decide +kernel
theorem dX8_aheadOf_40 : decode cX8_aheadOf 40 = .ok (.iinc 3 1, 3) := by decide +kernel
theorem dX8_aheadOf_43 : decode cX8_aheadOf 43 = .ok (.goto (-39), 3) := by decide +kernel
theorem dX8_aheadOf_46 : decode cX8_aheadOf 46 = .ok (.iload_n 2, 1) := by decide +kernel
theorem dX8_aheadOf_47 : decode cX8_aheadOf 47 = .ok (.ireturn, 1) := by decide +kernel
theorem dX8_placeOf_0 : decode cX8_placeOf 0 = .ok (.iconst 0, 1) := by decide +kernel
theorem dX8_placeOf_1 : decode cX8_placeOf 1 = .ok (.istore_n 2, 1) := by decide +kernel
theorem dX8_placeOf_2 : decode cX8_placeOf 2 = .ok (.aload_n 0, 1) := by decide +kernel
theorem dX8_placeOf_3 : decode cX8_placeOf 3 = .ok (.getfield 7, 3) := by decide +kernel
theorem dX8_placeOf_6 : decode cX8_placeOf 6 = .ok (.bipush 6, 2) := by decide +kernel
theorem dX8_placeOf_8 : decode cX8_placeOf 8 = .ok (.iload_n 2, 1) := by decide +kernel
theorem dX8_placeOf_9 : decode cX8_placeOf 9 = .ok (.iadd, 1) := by decide +kernel
theorem dX8_placeOf_10 : decode cX8_placeOf 10 = .ok (.iaload, 1) := by decide +kernel
theorem dX8_placeOf_11 : decode cX8_placeOf 11 = .ok (.iload_n 1, 1) := by decide +kernel
theorem dX8_placeOf_12 : decode cX8_placeOf 12 = .ok (.if_icmp .eq 9, 3) := by decide +kernel
theorem dX8_placeOf_15 : decode cX8_placeOf 15 = .ok (.iinc 2 1, 3) := by decide +kernel
theorem dX8_placeOf_18 : decode cX8_placeOf 18 = .ok (.goto (-16), 3) := by decide +kernel
theorem dX8_placeOf_21 : decode cX8_placeOf 21 = .ok (.iload_n 2, 1) := by decide +kernel
theorem dX8_placeOf_22 : decode cX8_placeOf 22 = .ok (.ireturn, 1) := by decide +kernel
theorem dX8_told_0 : decode cX8_told 0 = .ok (.aload_n 0, 1) := by decide +kernel
theorem dX8_told_1 : decode cX8_told 1 = .ok (.iload_n 1, 1) := by decide +kernel
theorem dX8_told_2 : decode cX8_told 2 = .ok (.invokevirtual 104, 3) := by decide +kernel
theorem dX8_told_5 : decode cX8_told 5 = .ok (.ifCond .ne 5, 3) := by decide +kernel
theorem dX8_told_8 : decode cX8_told 8 = .ok (.iconst (-1), 1) := by decide +kernel
theorem dX8_told_9 : decode cX8_told 9 = .ok (.ireturn, 1) := by decide +kernel
theorem dX8_told_10 : decode cX8_told 10 = .ok (.iload_n 2, 1) := by decide +kernel
theorem dX8_told_11 : decode cX8_told 11 = .ok (.tableswitch 61 0 3 #[29, 39, 49, 55], 29) := by decide +kernel
theorem dX8_told_40 : decode cX8_told 40 = .ok (.aload_n 0, 1) := by decide +kernel
theorem dX8_told_41 : decode cX8_told 41 = .ok (.getfield 7, 3) := by decide +kernel
theorem dX8_told_44 : decode cX8_told 44 = .ok (.bipush 13, 2) := by decide +kernel
theorem dX8_told_46 : decode cX8_told 46 = .ok (.iload_n 1, 1) := by decide +kernel
theorem dX8_told_47 : decode cX8_told 47 = .ok (.iadd, 1) := by decide +kernel
theorem dX8_told_48 : decode cX8_told 48 = .ok (.iaload, 1) := by decide +kernel
theorem dX8_told_49 : decode cX8_told 49 = .ok (.ireturn, 1) := by decide +kernel
theorem dX8_told_50 : decode cX8_told 50 = .ok (.aload_n 0, 1) := by decide +kernel
theorem dX8_told_51 : decode cX8_told 51 = .ok (.getfield 7, 3) := by decide +kernel
theorem dX8_told_54 : decode cX8_told 54 = .ok (.bipush 20, 2) := by decide +kernel
theorem dX8_told_56 : decode cX8_told 56 = .ok (.iload_n 1, 1) := by decide +kernel
theorem dX8_told_57 : decode cX8_told 57 = .ok (.iadd, 1) := by decide +kernel
theorem dX8_told_58 : decode cX8_told 58 = .ok (.iaload, 1) := by decide +kernel
theorem dX8_told_59 : decode cX8_told 59 = .ok (.ireturn, 1) := by decide +kernel
theorem dX8_told_60 : decode cX8_told 60 = .ok (.aload_n 0, 1) := by decide +kernel
theorem dX8_told_61 : decode cX8_told 61 = .ok (.iload_n 1, 1) := by decide +kernel
theorem dX8_told_62 : decode cX8_told 62 = .ok (.invokevirtual 108, 3) := by decide +kernel
theorem dX8_told_65 : decode cX8_told 65 = .ok (.ireturn, 1) := by decide +kernel
theorem dX8_told_66 : decode cX8_told 66 = .ok (.aload_n 0, 1) := by decide +kernel
theorem dX8_told_67 : decode cX8_told 67 = .ok (.iload_n 1, 1) := by decide +kernel
theorem dX8_told_68 : decode cX8_told 68 = .ok (.invokevirtual 111, 3) := by decide +kernel
theorem dX8_told_71 : decode cX8_told 71 = .ok (.ireturn, 1) := by decide +kernel
theorem dX8_told_72 : decode cX8_told 72 = .ok (.iconst (-1), 1) := by decide +kernel
theorem dX8_told_73 : decode cX8_told 73 = .ok (.ireturn, 1) := by decide +kernel
theorem dX8_count_0 : decode cX8_count 0 = .ok (.aload_n 0, 1) := by decide +kernel
theorem dX8_count_1 : decode cX8_count 1 = .ok (.invokevirtual 96, 3) := by decide +kernel
theorem dX8_count_4 : decode cX8_count 4 = .ok (.aload_n 0, 1) := by decide +kernel
theorem dX8_count_5 : decode cX8_count 5 = .ok (.invokevirtual 99, 3) := by decide +kernel
theorem dX8_count_8 : decode cX8_count 8 = .ok (.iload_n 1, 1) := by decide +kernel
theorem dX8_count_9 : decode cX8_count 9 = .ok (.tableswitch 125 0 10 #[59, 59, 59, 59, 59, 66, 71, 76, 81, 94, 120], 59) := by decide +kernel
theorem dX8_count_68 : decode cX8_count 68 = .ok (.aload_n 0, 1) := by decide +kernel
theorem dX8_count_69 : decode cX8_count 69 = .ok (.getfield 7, 3) := by decide +kernel
theorem dX8_count_72 : decode cX8_count 72 = .ok (.iload_n 1, 1) := by decide +kernel
theorem dX8_count_73 : decode cX8_count 73 = .ok (.iaload, 1) := by decide +kernel
theorem dX8_count_74 : decode cX8_count 74 = .ok (.ireturn, 1) := by decide +kernel
theorem dX8_count_75 : decode cX8_count 75 = .ok (.aload_n 0, 1) := by decide +kernel
theorem dX8_count_76 : decode cX8_count 76 = .ok (.invokevirtual 114, 3) := by decide +kernel
theorem dX8_count_79 : decode cX8_count 79 = .ok (.ireturn, 1) := by decide +kernel
theorem dX8_count_80 : decode cX8_count 80 = .ok (.aload_n 0, 1) := by decide +kernel
theorem dX8_count_81 : decode cX8_count 81 = .ok (.invokevirtual 118, 3) := by decide +kernel
theorem dX8_count_84 : decode cX8_count 84 = .ok (.ireturn, 1) := by decide +kernel
theorem dX8_count_85 : decode cX8_count 85 = .ok (.aload_n 0, 1) := by decide +kernel
theorem dX8_count_86 : decode cX8_count 86 = .ok (.invokevirtual 121, 3) := by decide +kernel
theorem dX8_count_89 : decode cX8_count 89 = .ok (.ireturn, 1) := by decide +kernel
theorem dX8_count_90 : decode cX8_count 90 = .ok (.aload_n 0, 1) := by decide +kernel
theorem dX8_count_91 : decode cX8_count 91 = .ok (.invokevirtual 124, 3) := by decide +kernel
theorem dX8_count_94 : decode cX8_count 94 = .ok (.ifCond .eq 7, 3) := by decide +kernel
theorem dX8_count_97 : decode cX8_count 97 = .ok (.iconst 1, 1) := by decide +kernel
theorem dX8_count_98 : decode cX8_count 98 = .ok (.goto 4, 3) := by decide +kernel
theorem dX8_count_101 : decode cX8_count 101 = .ok (.iconst 0, 1) := by decide +kernel
theorem dX8_count_102 : decode cX8_count 102 = .ok (.ireturn, 1) := by decide +kernel
theorem dX8_count_103 : decode cX8_count 103 = .ok (.aload_n 0, 1) := by decide +kernel
theorem dX8_count_104 : decode cX8_count 104 = .ok (.invokevirtual 124, 3) := by decide +kernel
theorem dX8_count_107 : decode cX8_count 107 = .ok (.ifCond .eq 20, 3) := by decide +kernel
theorem dX8_count_110 : decode cX8_count 110 = .ok (.aload_n 0, 1) := by decide +kernel
theorem dX8_count_111 : decode cX8_count 111 = .ok (.invokevirtual 118, 3) := by decide +kernel
theorem dX8_count_114 : decode cX8_count 114 = .ok (.aload_n 0, 1) := by decide +kernel
theorem dX8_count_115 : decode cX8_count 115 = .ok (.getfield 7, 3) := by decide +kernel
theorem dX8_count_118 : decode cX8_count 118 = .ok (.iconst 3, 1) := by decide +kernel
theorem dX8_count_119 : decode cX8_count 119 = .ok (.iaload, 1) := by decide +kernel
theorem dX8_count_120 : decode cX8_count 120 = .ok (.if_icmp .gt 7, 3) := by decide +kernel
theorem dX8_count_123 : decode cX8_count 123 = .ok (.iconst 1, 1) := by decide +kernel
theorem dX8_count_124 : decode cX8_count 124 = .ok (.goto 4, 3) := by decide +kernel
theorem dX8_count_127 : decode cX8_count 127 = .ok (.iconst 0, 1) := by decide +kernel
theorem dX8_count_128 : decode cX8_count 128 = .ok (.ireturn, 1) := by decide +kernel
theorem dX8_count_129 : decode cX8_count 129 = .ok (.aload_n 0, 1) := by decide +kernel
theorem dX8_count_130 : decode cX8_count 130 = .ok (.getfield 128, 3) := by decide +kernel
theorem dX8_count_133 : decode cX8_count 133 = .ok (.ireturn, 1) := by decide +kernel
theorem dX8_count_134 : decode cX8_count 134 = .ok (.iconst (-1), 1) := by decide +kernel
theorem dX8_count_135 : decode cX8_count 135 = .ok (.ireturn, 1) := by decide +kernel
theorem dX8_laysBest_0 : decode cX8_laysBest 0 = .ok (.aload_n 0, 1) := by decide +kernel
theorem dX8_laysBest_1 : decode cX8_laysBest 1 = .ok (.bipush (-4), 2) := by decide +kernel
theorem dX8_laysBest_3 : decode cX8_laysBest 3 = .ok (.putfield 131, 3) := by decide +kernel
theorem dX8_laysBest_6 : decode cX8_laysBest 6 = .ok (.aload_n 0, 1) := by decide +kernel
theorem dX8_laysBest_7 : decode cX8_laysBest 7 = .ok (.invokevirtual 134, 3) := by decide +kernel
theorem dX8_laysBest_10 : decode cX8_laysBest 10 = .ok (.iconst 1, 1) := by decide +kernel
theorem dX8_laysBest_11 : decode cX8_laysBest 11 = .ok (.istore_n 1, 1) := by decide +kernel
theorem dX8_laysBest_12 : decode cX8_laysBest 12 = .ok (.iload_n 1, 1) := by decide +kernel
theorem dX8_laysBest_13 : decode cX8_laysBest 13 = .ok (.ifCond .eq 81, 3) := by decide +kernel
theorem dX8_laysBest_16 : decode cX8_laysBest 16 = .ok (.aload_n 0, 1) := by decide +kernel
theorem dX8_laysBest_17 : decode cX8_laysBest 17 = .ok (.invokevirtual 124, 3) := by decide +kernel
theorem dX8_laysBest_20 : decode cX8_laysBest 20 = .ok (.ifCond .eq 66, 3) := by decide +kernel
theorem dX8_laysBest_23 : decode cX8_laysBest 23 = .ok (.aload_n 0, 1) := by decide +kernel
theorem dX8_laysBest_24 : decode cX8_laysBest 24 = .ok (.invokevirtual 99, 3) := by decide +kernel
theorem dX8_laysBest_27 : decode cX8_laysBest 27 = .ok (.aload_n 0, 1) := by decide +kernel
theorem dX8_laysBest_28 : decode cX8_laysBest 28 = .ok (.invokevirtual 118, 3) := by decide +kernel
theorem dX8_laysBest_31 : decode cX8_laysBest 31 = .ok (.istore_n 2, 1) := by decide +kernel
theorem dX8_laysBest_32 : decode cX8_laysBest 32 = .ok (.aload_n 0, 1) := by decide +kernel
theorem dX8_laysBest_33 : decode cX8_laysBest 33 = .ok (.invokevirtual 121, 3) := by decide +kernel
theorem dX8_laysBest_36 : decode cX8_laysBest 36 = .ok (.istore_n 3, 1) := by decide +kernel
theorem dX8_laysBest_37 : decode cX8_laysBest 37 = .ok (.aload_n 0, 1) := by decide +kernel
theorem dX8_laysBest_38 : decode cX8_laysBest 38 = .ok (.getfield 131, 3) := by decide +kernel
theorem dX8_laysBest_41 : decode cX8_laysBest 41 = .ok (.ifCond .lt 27, 3) := by decide +kernel
theorem dX8_laysBest_44 : decode cX8_laysBest 44 = .ok (.iload_n 2, 1) := by decide +kernel
theorem dX8_laysBest_45 : decode cX8_laysBest 45 = .ok (.aload_n 0, 1) := by decide +kernel
theorem dX8_laysBest_46 : decode cX8_laysBest 46 = .ok (.getfield 137, 3) := by decide +kernel
theorem dX8_laysBest_49 : decode cX8_laysBest 49 = .ok (.if_icmp .lt 19, 3) := by decide +kernel
theorem dX8_laysBest_52 : decode cX8_laysBest 52 = .ok (.iload_n 2, 1) := by decide +kernel
theorem dX8_laysBest_53 : decode cX8_laysBest 53 = .ok (.aload_n 0, 1) := by decide +kernel
theorem dX8_laysBest_54 : decode cX8_laysBest 54 = .ok (.getfield 137, 3) := by decide +kernel
theorem dX8_laysBest_57 : decode cX8_laysBest 57 = .ok (.if_icmp .ne 29, 3) := by decide +kernel
theorem dX8_laysBest_60 : decode cX8_laysBest 60 = .ok (.iload_n 3, 1) := by decide +kernel
theorem dX8_laysBest_61 : decode cX8_laysBest 61 = .ok (.aload_n 0, 1) := by decide +kernel
theorem dX8_laysBest_62 : decode cX8_laysBest 62 = .ok (.getfield 140, 3) := by decide +kernel
theorem dX8_laysBest_65 : decode cX8_laysBest 65 = .ok (.if_icmp .ge 21, 3) := by decide +kernel
theorem dX8_laysBest_68 : decode cX8_laysBest 68 = .ok (.aload_n 0, 1) := by decide +kernel
theorem dX8_laysBest_69 : decode cX8_laysBest 69 = .ok (.aload_n 0, 1) := by decide +kernel
theorem dX8_laysBest_70 : decode cX8_laysBest 70 = .ok (.invokevirtual 114, 3) := by decide +kernel
theorem dX8_laysBest_73 : decode cX8_laysBest 73 = .ok (.putfield 131, 3) := by decide +kernel
theorem dX8_laysBest_76 : decode cX8_laysBest 76 = .ok (.aload_n 0, 1) := by decide +kernel
theorem dX8_laysBest_77 : decode cX8_laysBest 77 = .ok (.iload_n 2, 1) := by decide +kernel
theorem dX8_laysBest_78 : decode cX8_laysBest 78 = .ok (.putfield 137, 3) := by decide +kernel
theorem dX8_laysBest_81 : decode cX8_laysBest 81 = .ok (.aload_n 0, 1) := by decide +kernel
theorem dX8_laysBest_82 : decode cX8_laysBest 82 = .ok (.iload_n 3, 1) := by decide +kernel
theorem dX8_laysBest_83 : decode cX8_laysBest 83 = .ok (.putfield 140, 3) := by decide +kernel
theorem dX8_laysBest_86 : decode cX8_laysBest 86 = .ok (.aload_n 0, 1) := by decide +kernel
theorem dX8_laysBest_87 : decode cX8_laysBest 87 = .ok (.invokevirtual 143, 3) := by decide +kernel
theorem dX8_laysBest_90 : decode cX8_laysBest 90 = .ok (.istore_n 1, 1) := by decide +kernel
theorem dX8_laysBest_91 : decode cX8_laysBest 91 = .ok (.goto (-79), 3) := by decide +kernel
theorem dX8_laysBest_94 : decode cX8_laysBest 94 = .ok (.return_, 1) := by decide +kernel
theorem dX8_grows_0 : decode cX8_grows 0 = .ok (.iconst 1, 1) := by decide +kernel
theorem dX8_grows_1 : decode cX8_grows 1 = .ok (.aload_n 0, 1) := by decide +kernel
theorem dX8_grows_2 : decode cX8_grows 2 = .ok (.getfield 7, 3) := by decide +kernel
theorem dX8_grows_5 : decode cX8_grows 5 = .ok (.iconst 0, 1) := by decide +kernel
theorem dX8_grows_6 : decode cX8_grows 6 = .ok (.iaload, 1) := by decide +kernel
theorem dX8_grows_7 : decode cX8_grows 7 = .ok (.ishl, 1) := by decide +kernel
theorem dX8_grows_8 : decode cX8_grows 8 = .ok (.iconst 1, 1) := by decide +kernel
theorem dX8_grows_9 : decode cX8_grows 9 = .ok (.isub, 1) := by decide +kernel
theorem dX8_grows_10 : decode cX8_grows 10 = .ok (.istore_n 1, 1) := by decide +kernel
theorem dX8_grows_11 : decode cX8_grows 11 = .ok (.aload_n 0, 1) := by decide +kernel
theorem dX8_grows_12 : decode cX8_grows 12 = .ok (.invokevirtual 83, 3) := by decide +kernel
theorem dX8_grows_15 : decode cX8_grows 15 = .ok (.iconst 0, 1) := by decide +kernel
theorem dX8_grows_16 : decode cX8_grows 16 = .ok (.istore_n 2, 1) := by decide +kernel
theorem dX8_grows_17 : decode cX8_grows 17 = .ok (.iload_n 2, 1) := by decide +kernel
theorem dX8_grows_18 : decode cX8_grows 18 = .ok (.aload_n 0, 1) := by decide +kernel
theorem dX8_grows_19 : decode cX8_grows 19 = .ok (.getfield 7, 3) := by decide +kernel
theorem dX8_grows_22 : decode cX8_grows 22 = .ok (.iconst 0, 1) := by decide +kernel
theorem dX8_grows_23 : decode cX8_grows 23 = .ok (.iaload, 1) := by decide +kernel
theorem dX8_grows_24 : decode cX8_grows 24 = .ok (.if_icmp .ge 217, 3) := by decide +kernel
theorem dX8_grows_27 : decode cX8_grows 27 = .ok (.bipush (-4), 2) := by decide +kernel
theorem dX8_grows_29 : decode cX8_grows 29 = .ok (.istore_n 3, 1) := by decide +kernel
theorem dX8_grows_30 : decode cX8_grows 30 = .ok (.iconst 0, 1) := by decide +kernel
theorem dX8_grows_31 : decode cX8_grows 31 = .ok (.istore 4, 2) := by decide +kernel
theorem dX8_grows_33 : decode cX8_grows 33 = .ok (.iconst 0, 1) := by decide +kernel
theorem dX8_grows_34 : decode cX8_grows 34 = .ok (.istore 5, 2) := by decide +kernel
theorem dX8_grows_36 : decode cX8_grows 36 = .ok (.iconst 0, 1) := by decide +kernel
theorem dX8_grows_37 : decode cX8_grows 37 = .ok (.istore 6, 2) := by decide +kernel
theorem dX8_grows_39 : decode cX8_grows 39 = .ok (.iload 6, 2) := by decide +kernel
theorem dX8_grows_41 : decode cX8_grows 41 = .ok (.aload_n 0, 1) := by decide +kernel
theorem dX8_grows_42 : decode cX8_grows 42 = .ok (.getfield 7, 3) := by decide +kernel
theorem dX8_grows_45 : decode cX8_grows 45 = .ok (.iconst 0, 1) := by decide +kernel
theorem dX8_grows_46 : decode cX8_grows 46 = .ok (.iaload, 1) := by decide +kernel
theorem dX8_grows_47 : decode cX8_grows 47 = .ok (.if_icmp .ge 163, 3) := by decide +kernel
theorem dX8_grows_50 : decode cX8_grows 50 = .ok (.iload_n 1, 1) := by decide +kernel
theorem dX8_grows_51 : decode cX8_grows 51 = .ok (.iload 6, 2) := by decide +kernel
theorem dX8_grows_53 : decode cX8_grows 53 = .ok (.invokestatic 75, 3) := by decide +kernel
theorem dX8_grows_56 : decode cX8_grows 56 = .ok (.ifCond .eq 148, 3) := by decide +kernel
theorem dX8_grows_59 : decode cX8_grows 59 = .ok (.aload_n 0, 1) := by decide +kernel
theorem dX8_grows_60 : decode cX8_grows 60 = .ok (.iload 6, 2) := by decide +kernel
theorem dX8_grows_62 : decode cX8_grows 62 = .ok (.invokevirtual 108, 3) := by decide +kernel
theorem dX8_grows_65 : decode cX8_grows 65 = .ok (.iload_n 1, 1) := by decide +kernel
theorem dX8_grows_66 : decode cX8_grows 66 = .ok (.iand, 1) := by decide +kernel
theorem dX8_grows_67 : decode cX8_grows 67 = .ok (.ifCond .ne 137, 3) := by decide +kernel
theorem dX8_grows_70 : decode cX8_grows 70 = .ok (.iconst 0, 1) := by decide +kernel
theorem dX8_grows_71 : decode cX8_grows 71 = .ok (.istore 7, 2) := by decide +kernel
theorem dX8_grows_73 : decode cX8_grows 73 = .ok (.iconst 0, 1) := by decide +kernel
theorem dX8_grows_74 : decode cX8_grows 74 = .ok (.istore 8, 2) := by decide +kernel
theorem dX8_grows_76 : decode cX8_grows 76 = .ok (.iconst 0, 1) := by decide +kernel
theorem dX8_grows_77 : decode cX8_grows 77 = .ok (.istore 9, 2) := by decide +kernel
theorem dX8_grows_79 : decode cX8_grows 79 = .ok (.iload 9, 2) := by decide +kernel
theorem dX8_grows_81 : decode cX8_grows 81 = .ok (.bipush 20, 2) := by decide +kernel
theorem dX8_grows_83 : decode cX8_grows 83 = .ok (.if_icmp .ge 85, 3) := by decide +kernel
theorem dX8_grows_86 : decode cX8_grows 86 = .ok (.aload_n 0, 1) := by decide +kernel
theorem dX8_grows_87 : decode cX8_grows 87 = .ok (.getfield 7, 3) := by decide +kernel
theorem dX8_grows_90 : decode cX8_grows 90 = .ok (.bipush 13, 2) := by decide +kernel
theorem dX8_grows_92 : decode cX8_grows 92 = .ok (.iload 6, 2) := by decide +kernel
theorem dX8_grows_94 : decode cX8_grows 94 = .ok (.iadd, 1) := by decide +kernel
theorem dX8_grows_95 : decode cX8_grows 95 = .ok (.iaload, 1) := by decide +kernel
theorem dX8_grows_96 : decode cX8_grows 96 = .ok (.aload_n 0, 1) := by decide +kernel
theorem dX8_grows_97 : decode cX8_grows 97 = .ok (.getfield 7, 3) := by decide +kernel
theorem dX8_grows_100 : decode cX8_grows 100 = .ok (.iconst 1, 1) := by decide +kernel
theorem dX8_grows_101 : decode cX8_grows 101 = .ok (.iaload, 1) := by decide +kernel
theorem dX8_grows_102 : decode cX8_grows 102 = .ok (.iconst (-1), 1) := by decide +kernel
theorem dX8_grows_103 : decode cX8_grows 103 = .ok (.ixor, 1) := by decide +kernel
theorem dX8_grows_104 : decode cX8_grows 104 = .ok (.iand, 1) := by decide +kernel
theorem dX8_grows_105 : decode cX8_grows 105 = .ok (.iload 9, 2) := by decide +kernel
theorem dX8_grows_107 : decode cX8_grows 107 = .ok (.invokestatic 75, 3) := by decide +kernel
theorem dX8_grows_110 : decode cX8_grows 110 = .ok (.istore 10, 2) := by decide +kernel
theorem dX8_grows_112 : decode cX8_grows 112 = .ok (.iload 7, 2) := by decide +kernel
theorem dX8_grows_114 : decode cX8_grows 114 = .ok (.iload 10, 2) := by decide +kernel
theorem dX8_grows_116 : decode cX8_grows 116 = .ok (.ifCond .eq 17, 3) := by decide +kernel
theorem dX8_grows_119 : decode cX8_grows 119 = .ok (.aload_n 0, 1) := by decide +kernel
theorem dX8_grows_120 : decode cX8_grows 120 = .ok (.getfield 45, 3) := by decide +kernel
theorem dX8_grows_123 : decode cX8_grows 123 = .ok (.iload 9, 2) := by decide +kernel
theorem dX8_grows_125 : decode cX8_grows 125 = .ok (.iaload, 1) := by decide +kernel
theorem dX8_grows_126 : decode cX8_grows 126 = .ok (.ifCond .ne 7, 3) := by decide +kernel
theorem dX8_grows_129 : decode cX8_grows 129 = .ok (.iconst 1, 1) := by decide +kernel
theorem dX8_grows_130 : decode cX8_grows 130 = .ok (.goto 4, 3) := by decide +kernel
theorem dX8_grows_133 : decode cX8_grows 133 = .ok (.iconst 0, 1) := by decide +kernel
theorem dX8_grows_134 : decode cX8_grows 134 = .ok (.iadd, 1) := by decide +kernel
theorem dX8_grows_135 : decode cX8_grows 135 = .ok (.istore 7, 2) := by decide +kernel
theorem dX8_grows_137 : decode cX8_grows 137 = .ok (.iload 8, 2) := by decide +kernel
theorem dX8_grows_139 : decode cX8_grows 139 = .ok (.iload 10, 2) := by decide +kernel
theorem dX8_grows_141 : decode cX8_grows 141 = .ok (.ifCond .eq 17, 3) := by decide +kernel
theorem dX8_grows_144 : decode cX8_grows 144 = .ok (.aload_n 0, 1) := by decide +kernel
theorem dX8_grows_145 : decode cX8_grows 145 = .ok (.getfield 45, 3) := by decide +kernel
theorem dX8_grows_148 : decode cX8_grows 148 = .ok (.iload 9, 2) := by decide +kernel
theorem dX8_grows_150 : decode cX8_grows 150 = .ok (.iaload, 1) := by decide +kernel
theorem dX8_grows_151 : decode cX8_grows 151 = .ok (.ifCond .le 7, 3) := by decide +kernel
theorem dX8_grows_154 : decode cX8_grows 154 = .ok (.iconst 1, 1) := by decide +kernel
theorem dX8_grows_155 : decode cX8_grows 155 = .ok (.goto 4, 3) := by decide +kernel
theorem dX8_grows_158 : decode cX8_grows 158 = .ok (.iconst 0, 1) := by decide +kernel
theorem dX8_grows_159 : decode cX8_grows 159 = .ok (.iadd, 1) := by decide +kernel
theorem dX8_grows_160 : decode cX8_grows 160 = .ok (.istore 8, 2) := by decide +kernel
theorem dX8_grows_162 : decode cX8_grows 162 = .ok (.iinc 9 1, 3) := by decide +kernel
theorem dX8_grows_165 : decode cX8_grows 165 = .ok (.goto (-86), 3) := by decide +kernel
theorem dX8_grows_168 : decode cX8_grows 168 = .ok (.iload_n 3, 1) := by decide +kernel
theorem dX8_grows_169 : decode cX8_grows 169 = .ok (.ifCond .lt 24, 3) := by decide +kernel
theorem dX8_grows_172 : decode cX8_grows 172 = .ok (.iload 7, 2) := by decide +kernel
theorem dX8_grows_174 : decode cX8_grows 174 = .ok (.iload 4, 2) := by decide +kernel
theorem dX8_grows_176 : decode cX8_grows 176 = .ok (.if_icmp .lt 17, 3) := by decide +kernel
theorem dX8_grows_179 : decode cX8_grows 179 = .ok (.iload 7, 2) := by decide +kernel
theorem dX8_grows_181 : decode cX8_grows 181 = .ok (.iload 4, 2) := by decide +kernel
theorem dX8_grows_183 : decode cX8_grows 183 = .ok (.if_icmp .ne 21, 3) := by decide +kernel
theorem dX8_grows_186 : decode cX8_grows 186 = .ok (.iload 8, 2) := by decide +kernel
theorem dX8_grows_188 : decode cX8_grows 188 = .ok (.iload 5, 2) := by decide +kernel
theorem dX8_grows_190 : decode cX8_grows 190 = .ok (.if_icmp .le 14, 3) := by decide +kernel
theorem dX8_grows_193 : decode cX8_grows 193 = .ok (.iload 6, 2) := by decide +kernel
theorem dX8_grows_195 : decode cX8_grows 195 = .ok (.istore_n 3, 1) := by decide +kernel
theorem dX8_grows_196 : decode cX8_grows 196 = .ok (.iload 7, 2) := by decide +kernel
theorem dX8_grows_198 : decode cX8_grows 198 = .ok (.istore 4, 2) := by decide +kernel
theorem dX8_grows_200 : decode cX8_grows 200 = .ok (.iload 8, 2) := by decide +kernel
theorem dX8_grows_202 : decode cX8_grows 202 = .ok (.istore 5, 2) := by decide +kernel
theorem dX8_grows_204 : decode cX8_grows 204 = .ok (.iinc 6 1, 3) := by decide +kernel
theorem dX8_grows_207 : decode cX8_grows 207 = .ok (.goto (-168), 3) := by decide +kernel
theorem dX8_grows_210 : decode cX8_grows 210 = .ok (.aload_n 0, 1) := by decide +kernel
theorem dX8_grows_211 : decode cX8_grows 211 = .ok (.getfield 42, 3) := by decide +kernel
theorem dX8_grows_214 : decode cX8_grows 214 = .ok (.iload_n 2, 1) := by decide +kernel
theorem dX8_grows_215 : decode cX8_grows 215 = .ok (.iload_n 3, 1) := by decide +kernel
theorem dX8_grows_216 : decode cX8_grows 216 = .ok (.iastore, 1) := by decide +kernel
theorem dX8_grows_217 : decode cX8_grows 217 = .ok (.iload_n 1, 1) := by decide +kernel
theorem dX8_grows_218 : decode cX8_grows 218 = .ok (.iconst 1, 1) := by decide +kernel
theorem dX8_grows_219 : decode cX8_grows 219 = .ok (.iload_n 3, 1) := by decide +kernel
theorem dX8_grows_220 : decode cX8_grows 220 = .ok (.ishl, 1) := by decide +kernel
theorem dX8_grows_221 : decode cX8_grows 221 = .ok (.iconst (-1), 1) := by decide +kernel
theorem dX8_grows_222 : decode cX8_grows 222 = .ok (.ixor, 1) := by decide +kernel
theorem dX8_grows_223 : decode cX8_grows 223 = .ok (.iand, 1) := by decide +kernel
theorem dX8_grows_224 : decode cX8_grows 224 = .ok (.istore_n 1, 1) := by decide +kernel
theorem dX8_grows_225 : decode cX8_grows 225 = .ok (.aload_n 0, 1) := by decide +kernel
theorem dX8_grows_226 : decode cX8_grows 226 = .ok (.iload_n 2, 1) := by decide +kernel
theorem dX8_grows_227 : decode cX8_grows 227 = .ok (.aload_n 0, 1) := by decide +kernel
theorem dX8_grows_228 : decode cX8_grows 228 = .ok (.iload_n 2, 1) := by decide +kernel
theorem dX8_grows_229 : decode cX8_grows 229 = .ok (.invokevirtual 86, 3) := by decide +kernel
theorem dX8_grows_232 : decode cX8_grows 232 = .ok (.invokevirtual 89, 3) := by decide +kernel
theorem dX8_grows_235 : decode cX8_grows 235 = .ok (.iinc 2 1, 3) := by decide +kernel
theorem dX8_grows_238 : decode cX8_grows 238 = .ok (.goto (-221), 3) := by decide +kernel
theorem dX8_grows_241 : decode cX8_grows 241 = .ok (.return_, 1) := by decide +kernel
theorem dX8_best_0 : decode cX8_best 0 = .ok (.iload_n 1, 1) := by decide +kernel
theorem dX8_best_1 : decode cX8_best 1 = .ok (.i2l, 1) := by decide +kernel
theorem dX8_best_2 : decode cX8_best 2 = .ok (.lconst 0, 1) := by decide +kernel
theorem dX8_best_3 : decode cX8_best 3 = .ok (.ldc2_w 146, 3) := by decide +kernel
theorem dX8_best_6 : decode cX8_best 6 = .ok (.invokestatic 71, 3) := by decide +kernel
theorem dX8_best_9 : decode cX8_best 9 = .ok (.ifCond .ne 5, 3) := by decide +kernel
theorem dX8_best_12 : decode cX8_best 12 = .ok (.iconst (-1), 1) := by decide +kernel
theorem dX8_best_13 : decode cX8_best 13 = .ok (.ireturn, 1) := by decide +kernel
theorem dX8_best_14 : decode cX8_best 14 = .ok (.iload_n 1, 1) := by decide +kernel
theorem dX8_best_15 : decode cX8_best 15 = .ok (.iconst 3, 1) := by decide +kernel
theorem dX8_best_16 : decode cX8_best 16 = .ok (.if_icmp .ge 35, 3) := by decide +kernel
theorem dX8_best_19 : decode cX8_best 19 = .ok (.aload_n 0, 1) := by decide +kernel
theorem dX8_best_20 : decode cX8_best 20 = .ok (.invokevirtual 148, 3) := by decide +kernel
theorem dX8_best_23 : decode cX8_best 23 = .ok (.iload_n 1, 1) := by decide +kernel
theorem dX8_best_24 : decode cX8_best 24 = .ok (.ifCond .ne 10, 3) := by decide +kernel
theorem dX8_best_27 : decode cX8_best 27 = .ok (.aload_n 0, 1) := by decide +kernel
theorem dX8_best_28 : decode cX8_best 28 = .ok (.getfield 131, 3) := by decide +kernel
theorem dX8_best_31 : decode cX8_best 31 = .ok (.goto 19, 3) := by decide +kernel
theorem dX8_best_34 : decode cX8_best 34 = .ok (.iload_n 1, 1) := by decide +kernel
theorem dX8_best_35 : decode cX8_best 35 = .ok (.iconst 1, 1) := by decide +kernel
theorem dX8_best_36 : decode cX8_best 36 = .ok (.if_icmp .ne 10, 3) := by decide +kernel
theorem dX8_best_39 : decode cX8_best 39 = .ok (.aload_n 0, 1) := by decide +kernel
theorem dX8_best_40 : decode cX8_best 40 = .ok (.getfield 137, 3) := by decide +kernel
theorem dX8_best_43 : decode cX8_best 43 = .ok (.goto 7, 3) := by decide +kernel
theorem dX8_best_46 : decode cX8_best 46 = .ok (.aload_n 0, 1) := by decide +kernel
theorem dX8_best_47 : decode cX8_best 47 = .ok (.getfield 140, 3) := by decide +kernel
theorem dX8_best_50 : decode cX8_best 50 = .ok (.ireturn, 1) := by decide +kernel
theorem dX8_best_51 : decode cX8_best 51 = .ok (.aload_n 0, 1) := by decide +kernel
theorem dX8_best_52 : decode cX8_best 52 = .ok (.invokevirtual 151, 3) := by decide +kernel
theorem dX8_best_55 : decode cX8_best 55 = .ok (.iload_n 1, 1) := by decide +kernel
theorem dX8_best_56 : decode cX8_best 56 = .ok (.iconst 3, 1) := by decide +kernel
theorem dX8_best_57 : decode cX8_best 57 = .ok (.if_icmp .ne 10, 3) := by decide +kernel
theorem dX8_best_60 : decode cX8_best 60 = .ok (.aload_n 0, 1) := by decide +kernel
theorem dX8_best_61 : decode cX8_best 61 = .ok (.invokevirtual 114, 3) := by decide +kernel
theorem dX8_best_64 : decode cX8_best 64 = .ok (.goto 19, 3) := by decide +kernel
theorem dX8_best_67 : decode cX8_best 67 = .ok (.iload_n 1, 1) := by decide +kernel
theorem dX8_best_68 : decode cX8_best 68 = .ok (.iconst 4, 1) := by decide +kernel
theorem dX8_best_69 : decode cX8_best 69 = .ok (.if_icmp .ne 10, 3) := by decide +kernel
theorem dX8_best_72 : decode cX8_best 72 = .ok (.aload_n 0, 1) := by decide +kernel
theorem dX8_best_73 : decode cX8_best 73 = .ok (.invokevirtual 118, 3) := by decide +kernel
theorem dX8_best_76 : decode cX8_best 76 = .ok (.goto 7, 3) := by decide +kernel
theorem dX8_best_79 : decode cX8_best 79 = .ok (.aload_n 0, 1) := by decide +kernel
theorem dX8_best_80 : decode cX8_best 80 = .ok (.invokevirtual 121, 3) := by decide +kernel
theorem dX8_best_83 : decode cX8_best 83 = .ok (.ireturn, 1) := by decide +kernel
theorem dX8_many_0 : decode cX8_many 0 = .ok (.iload_n 1, 1) := by decide +kernel
theorem dX8_many_1 : decode cX8_many 1 = .ok (.i2l, 1) := by decide +kernel
theorem dX8_many_2 : decode cX8_many 2 = .ok (.lconst 0, 1) := by decide +kernel
theorem dX8_many_3 : decode cX8_many 3 = .ok (.lconst 1, 1) := by decide +kernel
theorem dX8_many_4 : decode cX8_many 4 = .ok (.invokestatic 71, 3) := by decide +kernel
theorem dX8_many_7 : decode cX8_many 7 = .ok (.ifCond .ne 5, 3) := by decide +kernel
theorem dX8_many_10 : decode cX8_many 10 = .ok (.iconst (-1), 1) := by decide +kernel
theorem dX8_many_11 : decode cX8_many 11 = .ok (.ireturn, 1) := by decide +kernel
theorem dX8_many_12 : decode cX8_many 12 = .ok (.iconst 0, 1) := by decide +kernel
theorem dX8_many_13 : decode cX8_many 13 = .ok (.istore_n 2, 1) := by decide +kernel
theorem dX8_many_14 : decode cX8_many 14 = .ok (.aload_n 0, 1) := by decide +kernel
theorem dX8_many_15 : decode cX8_many 15 = .ok (.invokevirtual 134, 3) := by decide +kernel
theorem dX8_many_18 : decode cX8_many 18 = .ok (.iconst 1, 1) := by decide +kernel
theorem dX8_many_19 : decode cX8_many 19 = .ok (.istore_n 3, 1) := by decide +kernel
theorem dX8_many_20 : decode cX8_many 20 = .ok (.iload_n 3, 1) := by decide +kernel
theorem dX8_many_21 : decode cX8_many 21 = .ok (.ifCond .eq 64, 3) := by decide +kernel
theorem dX8_many_24 : decode cX8_many 24 = .ok (.aload_n 0, 1) := by decide +kernel
theorem dX8_many_25 : decode cX8_many 25 = .ok (.invokevirtual 124, 3) := by decide +kernel
theorem dX8_many_28 : decode cX8_many 28 = .ok (.istore 4, 2) := by decide +kernel
theorem dX8_many_30 : decode cX8_many 30 = .ok (.iload 4, 2) := by decide +kernel
theorem dX8_many_32 : decode cX8_many 32 = .ok (.ifCond .eq 32, 3) := by decide +kernel
theorem dX8_many_35 : decode cX8_many 35 = .ok (.iload_n 1, 1) := by decide +kernel
theorem dX8_many_36 : decode cX8_many 36 = .ok (.iconst 1, 1) := by decide +kernel
theorem dX8_many_37 : decode cX8_many 37 = .ok (.if_icmp .ne 27, 3) := by decide +kernel
theorem dX8_many_40 : decode cX8_many 40 = .ok (.aload_n 0, 1) := by decide +kernel
theorem dX8_many_41 : decode cX8_many 41 = .ok (.invokevirtual 99, 3) := by decide +kernel
theorem dX8_many_44 : decode cX8_many 44 = .ok (.aload_n 0, 1) := by decide +kernel
theorem dX8_many_45 : decode cX8_many 45 = .ok (.invokevirtual 118, 3) := by decide +kernel
theorem dX8_many_48 : decode cX8_many 48 = .ok (.aload_n 0, 1) := by decide +kernel
theorem dX8_many_49 : decode cX8_many 49 = .ok (.getfield 7, 3) := by decide +kernel
theorem dX8_many_52 : decode cX8_many 52 = .ok (.iconst 3, 1) := by decide +kernel
theorem dX8_many_53 : decode cX8_many 53 = .ok (.iaload, 1) := by decide +kernel
theorem dX8_many_54 : decode cX8_many 54 = .ok (.if_icmp .gt 7, 3) := by decide +kernel
theorem dX8_many_57 : decode cX8_many 57 = .ok (.iconst 1, 1) := by decide +kernel
theorem dX8_many_58 : decode cX8_many 58 = .ok (.goto 4, 3) := by decide +kernel
theorem dX8_many_61 : decode cX8_many 61 = .ok (.iconst 0, 1) := by decide +kernel
theorem dX8_many_62 : decode cX8_many 62 = .ok (.istore 4, 2) := by decide +kernel
theorem dX8_many_64 : decode cX8_many 64 = .ok (.iload_n 2, 1) := by decide +kernel
theorem dX8_many_65 : decode cX8_many 65 = .ok (.iload 4, 2) := by decide +kernel
theorem dX8_many_67 : decode cX8_many 67 = .ok (.ifCond .eq 7, 3) := by decide +kernel
theorem dX8_many_70 : decode cX8_many 70 = .ok (.iconst 1, 1) := by decide +kernel
theorem dX8_many_71 : decode cX8_many 71 = .ok (.goto 4, 3) := by decide +kernel
theorem dX8_many_74 : decode cX8_many 74 = .ok (.iconst 0, 1) := by decide +kernel
theorem dX8_many_75 : decode cX8_many 75 = .ok (.iadd, 1) := by decide +kernel
theorem dX8_many_76 : decode cX8_many 76 = .ok (.istore_n 2, 1) := by decide +kernel
theorem dX8_many_77 : decode cX8_many 77 = .ok (.aload_n 0, 1) := by decide +kernel
theorem dX8_many_78 : decode cX8_many 78 = .ok (.invokevirtual 143, 3) := by decide +kernel
theorem dX8_many_81 : decode cX8_many 81 = .ok (.istore_n 3, 1) := by decide +kernel
theorem dX8_many_82 : decode cX8_many 82 = .ok (.goto (-62), 3) := by decide +kernel
theorem dX8_many_85 : decode cX8_many 85 = .ok (.iload_n 2, 1) := by decide +kernel
theorem dX8_many_86 : decode cX8_many 86 = .ok (.ireturn, 1) := by decide +kernel
theorem dX8_fit_0 : decode cX8_fit 0 = .ok (.iload_n 1, 1) := by decide +kernel
theorem dX8_fit_1 : decode cX8_fit 1 = .ok (.ifCond .ge 5, 3) := by decide +kernel
theorem dX8_fit_4 : decode cX8_fit 4 = .ok (.iconst (-1), 1) := by decide +kernel
theorem dX8_fit_5 : decode cX8_fit 5 = .ok (.ireturn, 1) := by decide +kernel
theorem dX8_fit_6 : decode cX8_fit 6 = .ok (.iload_n 1, 1) := by decide +kernel
theorem dX8_fit_7 : decode cX8_fit 7 = .ok (.istore_n 2, 1) := by decide +kernel
theorem dX8_fit_8 : decode cX8_fit 8 = .ok (.aload_n 0, 1) := by decide +kernel
theorem dX8_fit_9 : decode cX8_fit 9 = .ok (.invokevirtual 134, 3) := by decide +kernel
theorem dX8_fit_12 : decode cX8_fit 12 = .ok (.iconst 1, 1) := by decide +kernel
theorem dX8_fit_13 : decode cX8_fit 13 = .ok (.istore_n 3, 1) := by decide +kernel
theorem dX8_fit_14 : decode cX8_fit 14 = .ok (.iload_n 3, 1) := by decide +kernel
theorem dX8_fit_15 : decode cX8_fit 15 = .ok (.ifCond .eq 47, 3) := by decide +kernel
theorem dX8_fit_18 : decode cX8_fit 18 = .ok (.aload_n 0, 1) := by decide +kernel
theorem dX8_fit_19 : decode cX8_fit 19 = .ok (.invokevirtual 124, 3) := by decide +kernel
theorem dX8_fit_22 : decode cX8_fit 22 = .ok (.ifCond .eq 32, 3) := by decide +kernel
theorem dX8_fit_25 : decode cX8_fit 25 = .ok (.aload_n 0, 1) := by decide +kernel
theorem dX8_fit_26 : decode cX8_fit 26 = .ok (.invokevirtual 99, 3) := by decide +kernel
theorem dX8_fit_29 : decode cX8_fit 29 = .ok (.aload_n 0, 1) := by decide +kernel
theorem dX8_fit_30 : decode cX8_fit 30 = .ok (.invokevirtual 118, 3) := by decide +kernel
theorem dX8_fit_33 : decode cX8_fit 33 = .ok (.aload_n 0, 1) := by decide +kernel
theorem dX8_fit_34 : decode cX8_fit 34 = .ok (.getfield 7, 3) := by decide +kernel
theorem dX8_fit_37 : decode cX8_fit 37 = .ok (.iconst 3, 1) := by decide +kernel
theorem dX8_fit_38 : decode cX8_fit 38 = .ok (.iaload, 1) := by decide +kernel
theorem dX8_fit_39 : decode cX8_fit 39 = .ok (.if_icmp .gt 15, 3) := by decide +kernel
theorem dX8_fit_42 : decode cX8_fit 42 = .ok (.iload_n 2, 1) := by decide +kernel
theorem dX8_fit_43 : decode cX8_fit 43 = .ok (.ifCond .ne 8, 3) := by decide +kernel
theorem dX8_fit_46 : decode cX8_fit 46 = .ok (.aload_n 0, 1) := by decide +kernel
theorem dX8_fit_47 : decode cX8_fit 47 = .ok (.invokevirtual 114, 3) := by decide +kernel
theorem dX8_fit_50 : decode cX8_fit 50 = .ok (.ireturn, 1) := by decide +kernel
theorem dX8_fit_51 : decode cX8_fit 51 = .ok (.iinc 2 (-1), 3) := by decide +kernel
theorem dX8_fit_54 : decode cX8_fit 54 = .ok (.aload_n 0, 1) := by decide +kernel
theorem dX8_fit_55 : decode cX8_fit 55 = .ok (.invokevirtual 143, 3) := by decide +kernel
theorem dX8_fit_58 : decode cX8_fit 58 = .ok (.istore_n 3, 1) := by decide +kernel
theorem dX8_fit_59 : decode cX8_fit 59 = .ok (.goto (-45), 3) := by decide +kernel
theorem dX8_fit_62 : decode cX8_fit 62 = .ok (.bipush (-4), 2) := by decide +kernel
theorem dX8_fit_64 : decode cX8_fit 64 = .ok (.ireturn, 1) := by decide +kernel
theorem dX8_kept_0 : decode cX8_kept 0 = .ok (.iload_n 1, 1) := by decide +kernel
theorem dX8_kept_1 : decode cX8_kept 1 = .ok (.i2l, 1) := by decide +kernel
theorem dX8_kept_2 : decode cX8_kept 2 = .ok (.lconst 0, 1) := by decide +kernel
theorem dX8_kept_3 : decode cX8_kept 3 = .ok (.ldc2_w 102, 3) := by decide +kernel
theorem dX8_kept_6 : decode cX8_kept 6 = .ok (.invokestatic 71, 3) := by decide +kernel
theorem dX8_kept_9 : decode cX8_kept 9 = .ok (.ifCond .eq 25, 3) := by decide +kernel
theorem dX8_kept_12 : decode cX8_kept 12 = .ok (.iload_n 2, 1) := by decide +kernel
theorem dX8_kept_13 : decode cX8_kept 13 = .ok (.i2l, 1) := by decide +kernel
theorem dX8_kept_14 : decode cX8_kept 14 = .ok (.lconst 0, 1) := by decide +kernel
theorem dX8_kept_15 : decode cX8_kept 15 = .ok (.ldc2_w 154, 3) := by decide +kernel
theorem dX8_kept_18 : decode cX8_kept 18 = .ok (.invokestatic 71, 3) := by decide +kernel
theorem dX8_kept_21 : decode cX8_kept 21 = .ok (.ifCond .eq 13, 3) := by decide +kernel
theorem dX8_kept_24 : decode cX8_kept 24 = .ok (.iload_n 3, 1) := by decide +kernel
theorem dX8_kept_25 : decode cX8_kept 25 = .ok (.i2l, 1) := by decide +kernel
theorem dX8_kept_26 : decode cX8_kept 26 = .ok (.lconst 0, 1) := by decide +kernel
theorem dX8_kept_27 : decode cX8_kept 27 = .ok (.lconst 1, 1) := by decide +kernel
theorem dX8_kept_28 : decode cX8_kept 28 = .ok (.invokestatic 71, 3) := by decide +kernel
theorem dX8_kept_31 : decode cX8_kept 31 = .ok (.ifCond .ne 5, 3) := by decide +kernel
theorem dX8_kept_34 : decode cX8_kept 34 = .ok (.iconst (-1), 1) := by decide +kernel
theorem dX8_kept_35 : decode cX8_kept 35 = .ok (.ireturn, 1) := by decide +kernel
theorem dX8_kept_36 : decode cX8_kept 36 = .ok (.aload_n 0, 1) := by decide +kernel
theorem dX8_kept_37 : decode cX8_kept 37 = .ok (.invokevirtual 96, 3) := by decide +kernel
theorem dX8_kept_40 : decode cX8_kept 40 = .ok (.iconst 0, 1) := by decide +kernel
theorem dX8_kept_41 : decode cX8_kept 41 = .ok (.istore 4, 2) := by decide +kernel
theorem dX8_kept_43 : decode cX8_kept 43 = .ok (.iconst 1, 1) := by decide +kernel
theorem dX8_kept_44 : decode cX8_kept 44 = .ok (.istore 5, 2) := by decide +kernel
theorem dX8_kept_46 : decode cX8_kept 46 = .ok (.iconst 0, 1) := by decide +kernel
theorem dX8_kept_47 : decode cX8_kept 47 = .ok (.istore 6, 2) := by decide +kernel
theorem dX8_kept_49 : decode cX8_kept 49 = .ok (.iload 6, 2) := by decide +kernel
theorem dX8_kept_51 : decode cX8_kept 51 = .ok (.aload_n 0, 1) := by decide +kernel
theorem dX8_kept_52 : decode cX8_kept 52 = .ok (.getfield 7, 3) := by decide +kernel
theorem dX8_kept_55 : decode cX8_kept 55 = .ok (.iconst 0, 1) := by decide +kernel
theorem dX8_kept_56 : decode cX8_kept 56 = .ok (.iaload, 1) := by decide +kernel
theorem dX8_kept_57 : decode cX8_kept 57 = .ok (.if_icmp .ge 16, 3) := by decide +kernel
theorem dX8_kept_60 : decode cX8_kept 60 = .ok (.iload 5, 2) := by decide +kernel
theorem dX8_kept_62 : decode cX8_kept 62 = .ok (.bipush 10, 2) := by decide +kernel
theorem dX8_kept_64 : decode cX8_kept 64 = .ok (.imul, 1) := by decide +kernel
theorem dX8_kept_65 : decode cX8_kept 65 = .ok (.istore 5, 2) := by decide +kernel
theorem dX8_kept_67 : decode cX8_kept 67 = .ok (.iinc 6 1, 3) := by decide +kernel
theorem dX8_kept_70 : decode cX8_kept 70 = .ok (.goto (-21), 3) := by decide +kernel
theorem dX8_kept_73 : decode cX8_kept 73 = .ok (.iconst 0, 1) := by decide +kernel
theorem dX8_kept_74 : decode cX8_kept 74 = .ok (.istore 6, 2) := by decide +kernel
theorem dX8_kept_76 : decode cX8_kept 76 = .ok (.iload 6, 2) := by decide +kernel
theorem dX8_kept_78 : decode cX8_kept 78 = .ok (.iconst 1, 1) := by decide +kernel
theorem dX8_kept_79 : decode cX8_kept 79 = .ok (.aload_n 0, 1) := by decide +kernel
theorem dX8_kept_80 : decode cX8_kept 80 = .ok (.getfield 7, 3) := by decide +kernel
theorem dX8_kept_83 : decode cX8_kept 83 = .ok (.iconst 0, 1) := by decide +kernel
theorem dX8_kept_84 : decode cX8_kept 84 = .ok (.iaload, 1) := by decide +kernel
theorem dX8_kept_85 : decode cX8_kept 85 = .ok (.ishl, 1) := by decide +kernel
theorem dX8_kept_86 : decode cX8_kept 86 = .ok (.if_icmp .ge 109, 3) := by decide +kernel
theorem dX8_kept_89 : decode cX8_kept 89 = .ok (.iconst 1, 1) := by decide +kernel
theorem dX8_kept_90 : decode cX8_kept 90 = .ok (.istore 7, 2) := by decide +kernel
theorem dX8_kept_92 : decode cX8_kept 92 = .ok (.aload_n 0, 1) := by decide +kernel
theorem dX8_kept_93 : decode cX8_kept 93 = .ok (.invokevirtual 83, 3) := by decide +kernel
theorem dX8_kept_96 : decode cX8_kept 96 = .ok (.iconst 0, 1) := by decide +kernel
theorem dX8_kept_97 : decode cX8_kept 97 = .ok (.istore 8, 2) := by decide +kernel
theorem dX8_kept_99 : decode cX8_kept 99 = .ok (.iload 8, 2) := by decide +kernel
theorem dX8_kept_101 : decode cX8_kept 101 = .ok (.aload_n 0, 1) := by decide +kernel
theorem dX8_kept_102 : decode cX8_kept 102 = .ok (.getfield 7, 3) := by decide +kernel
theorem dX8_kept_105 : decode cX8_kept 105 = .ok (.iconst 0, 1) := by decide +kernel
theorem dX8_kept_106 : decode cX8_kept 106 = .ok (.iaload, 1) := by decide +kernel
theorem dX8_kept_107 : decode cX8_kept 107 = .ok (.if_icmp .ge 62, 3) := by decide +kernel
theorem dX8_kept_110 : decode cX8_kept 110 = .ok (.iload 7, 2) := by decide +kernel
theorem dX8_kept_112 : decode cX8_kept 112 = .ok (.iload 6, 2) := by decide +kernel
theorem dX8_kept_114 : decode cX8_kept 114 = .ok (.iload 8, 2) := by decide +kernel
theorem dX8_kept_116 : decode cX8_kept 116 = .ok (.invokestatic 75, 3) := by decide +kernel
theorem dX8_kept_119 : decode cX8_kept 119 = .ok (.ifCond .eq 10, 3) := by decide +kernel
theorem dX8_kept_122 : decode cX8_kept 122 = .ok (.bipush 10, 2) := by decide +kernel
theorem dX8_kept_124 : decode cX8_kept 124 = .ok (.iload_n 2, 1) := by decide +kernel
theorem dX8_kept_125 : decode cX8_kept 125 = .ok (.isub, 1) := by decide +kernel
theorem dX8_kept_126 : decode cX8_kept 126 = .ok (.goto 4, 3) := by decide +kernel
theorem dX8_kept_129 : decode cX8_kept 129 = .ok (.iload_n 2, 1) := by decide +kernel
theorem dX8_kept_130 : decode cX8_kept 130 = .ok (.imul, 1) := by decide +kernel
theorem dX8_kept_131 : decode cX8_kept 131 = .ok (.istore 7, 2) := by decide +kernel
theorem dX8_kept_133 : decode cX8_kept 133 = .ok (.aload_n 0, 1) := by decide +kernel
theorem dX8_kept_134 : decode cX8_kept 134 = .ok (.iload 8, 2) := by decide +kernel
theorem dX8_kept_136 : decode cX8_kept 136 = .ok (.iload 6, 2) := by decide +kernel
theorem dX8_kept_138 : decode cX8_kept 138 = .ok (.iload 8, 2) := by decide +kernel
theorem dX8_kept_140 : decode cX8_kept 140 = .ok (.invokestatic 75, 3) := by decide +kernel
theorem dX8_kept_143 : decode cX8_kept 143 = .ok (.ifCond .eq 16, 3) := by decide +kernel
theorem dX8_kept_146 : decode cX8_kept 146 = .ok (.aload_n 0, 1) := by decide +kernel
theorem dX8_kept_147 : decode cX8_kept 147 = .ok (.iload 8, 2) := by decide +kernel
theorem dX8_kept_149 : decode cX8_kept 149 = .ok (.invokevirtual 86, 3) := by decide +kernel
theorem dX8_kept_152 : decode cX8_kept 152 = .ok (.iconst 1, 1) := by decide +kernel
theorem dX8_kept_153 : decode cX8_kept 153 = .ok (.iload_n 1, 1) := by decide +kernel
theorem dX8_kept_154 : decode cX8_kept 154 = .ok (.ishl, 1) := by decide +kernel
theorem dX8_kept_155 : decode cX8_kept 155 = .ok (.iand, 1) := by decide +kernel
theorem dX8_kept_156 : decode cX8_kept 156 = .ok (.goto 4, 3) := by decide +kernel
theorem dX8_kept_159 : decode cX8_kept 159 = .ok (.iconst 0, 1) := by decide +kernel
theorem dX8_kept_160 : decode cX8_kept 160 = .ok (.invokevirtual 89, 3) := by decide +kernel
theorem dX8_kept_163 : decode cX8_kept 163 = .ok (.iinc 8 1, 3) := by decide +kernel
theorem dX8_kept_166 : decode cX8_kept 166 = .ok (.goto (-67), 3) := by decide +kernel
theorem dX8_kept_169 : decode cX8_kept 169 = .ok (.iload 4, 2) := by decide +kernel
theorem dX8_kept_171 : decode cX8_kept 171 = .ok (.aload_n 0, 1) := by decide +kernel
theorem dX8_kept_172 : decode cX8_kept 172 = .ok (.getfield 45, 3) := by decide +kernel
theorem dX8_kept_175 : decode cX8_kept 175 = .ok (.iload_n 1, 1) := by decide +kernel
theorem dX8_kept_176 : decode cX8_kept 176 = .ok (.iaload, 1) := by decide +kernel
theorem dX8_kept_177 : decode cX8_kept 177 = .ok (.ifCond .le 8, 3) := by decide +kernel
theorem dX8_kept_180 : decode cX8_kept 180 = .ok (.iload 7, 2) := by decide +kernel
theorem dX8_kept_182 : decode cX8_kept 182 = .ok (.goto 4, 3) := by decide +kernel
theorem dX8_kept_185 : decode cX8_kept 185 = .ok (.iconst 0, 1) := by decide +kernel
theorem dX8_kept_186 : decode cX8_kept 186 = .ok (.iadd, 1) := by decide +kernel
theorem dX8_kept_187 : decode cX8_kept 187 = .ok (.istore 4, 2) := by decide +kernel
theorem dX8_kept_189 : decode cX8_kept 189 = .ok (.iinc 6 1, 3) := by decide +kernel
theorem dX8_kept_192 : decode cX8_kept 192 = .ok (.goto (-116), 3) := by decide +kernel
theorem dX8_kept_195 : decode cX8_kept 195 = .ok (.iload 4, 2) := by decide +kernel
theorem dX8_kept_197 : decode cX8_kept 197 = .ok (.istore 6, 2) := by decide +kernel
theorem dX8_kept_199 : decode cX8_kept 199 = .ok (.iload 5, 2) := by decide +kernel
theorem dX8_kept_201 : decode cX8_kept 201 = .ok (.istore 7, 2) := by decide +kernel
theorem dX8_kept_203 : decode cX8_kept 203 = .ok (.iload 7, 2) := by decide +kernel
theorem dX8_kept_205 : decode cX8_kept 205 = .ok (.ifCond .eq 21, 3) := by decide +kernel
theorem dX8_kept_208 : decode cX8_kept 208 = .ok (.iload 6, 2) := by decide +kernel
theorem dX8_kept_210 : decode cX8_kept 210 = .ok (.iload 7, 2) := by decide +kernel
theorem dX8_kept_212 : decode cX8_kept 212 = .ok (.irem, 1) := by decide +kernel
theorem dX8_kept_213 : decode cX8_kept 213 = .ok (.istore 8, 2) := by decide +kernel
theorem dX8_kept_215 : decode cX8_kept 215 = .ok (.iload 7, 2) := by decide +kernel
theorem dX8_kept_217 : decode cX8_kept 217 = .ok (.istore 6, 2) := by decide +kernel
theorem dX8_kept_219 : decode cX8_kept 219 = .ok (.iload 8, 2) := by decide +kernel
theorem dX8_kept_221 : decode cX8_kept 221 = .ok (.istore 7, 2) := by decide +kernel
theorem dX8_kept_223 : decode cX8_kept 223 = .ok (.goto (-20), 3) := by decide +kernel
theorem dX8_kept_226 : decode cX8_kept 226 = .ok (.iload_n 3, 1) := by decide +kernel
theorem dX8_kept_227 : decode cX8_kept 227 = .ok (.ifCond .ne 11, 3) := by decide +kernel
theorem dX8_kept_230 : decode cX8_kept 230 = .ok (.iload 4, 2) := by decide +kernel
theorem dX8_kept_232 : decode cX8_kept 232 = .ok (.iload 6, 2) := by decide +kernel
theorem dX8_kept_234 : decode cX8_kept 234 = .ok (.idiv, 1) := by decide +kernel
theorem dX8_kept_235 : decode cX8_kept 235 = .ok (.goto 8, 3) := by decide +kernel
theorem dX8_kept_238 : decode cX8_kept 238 = .ok (.iload 5, 2) := by decide +kernel
theorem dX8_kept_240 : decode cX8_kept 240 = .ok (.iload 6, 2) := by decide +kernel
theorem dX8_kept_242 : decode cX8_kept 242 = .ok (.idiv, 1) := by decide +kernel
theorem dX8_kept_243 : decode cX8_kept 243 = .ok (.ireturn, 1) := by decide +kernel
theorem dX8_writes_0 : decode cX8_writes 0 = .ok (.aload_n 0, 1) := by decide +kernel
theorem dX8_writes_1 : decode cX8_writes 1 = .ok (.getfield 63, 3) := by decide +kernel
theorem dX8_writes_4 : decode cX8_writes 4 = .ok (.aload_n 0, 1) := by decide +kernel
theorem dX8_writes_5 : decode cX8_writes 5 = .ok (.getfield 156, 3) := by decide +kernel
theorem dX8_writes_8 : decode cX8_writes 8 = .ok (.iload_n 1, 1) := by decide +kernel
theorem dX8_writes_9 : decode cX8_writes 9 = .ok (.iastore, 1) := by decide +kernel
theorem dX8_writes_10 : decode cX8_writes 10 = .ok (.aload_n 0, 1) := by decide +kernel
theorem dX8_writes_11 : decode cX8_writes 11 = .ok (.dup, 1) := by decide +kernel
theorem dX8_writes_12 : decode cX8_writes 12 = .ok (.getfield 156, 3) := by decide +kernel
theorem dX8_writes_15 : decode cX8_writes 15 = .ok (.iconst 1, 1) := by decide +kernel
theorem dX8_writes_16 : decode cX8_writes 16 = .ok (.iadd, 1) := by decide +kernel
theorem dX8_writes_17 : decode cX8_writes 17 = .ok (.putfield 156, 3) := by decide +kernel
theorem dX8_writes_20 : decode cX8_writes 20 = .ok (.return_, 1) := by decide +kernel
theorem dX8_writesNumber_0 : decode cX8_writesNumber 0 = .ok (.iload_n 1, 1) := by decide +kernel
theorem dX8_writesNumber_1 : decode cX8_writesNumber 1 = .ok (.bipush 9, 2) := by decide +kernel
theorem dX8_writesNumber_3 : decode cX8_writesNumber 3 = .ok (.if_icmp .le 14, 3) := by decide +kernel
theorem dX8_writesNumber_6 : decode cX8_writesNumber 6 = .ok (.aload_n 0, 1) := by decide +kernel
theorem dX8_writesNumber_7 : decode cX8_writesNumber 7 = .ok (.bipush 48, 2) := by decide +kernel
theorem dX8_writesNumber_9 : decode cX8_writesNumber 9 = .ok (.iload_n 1, 1) := by decide +kernel
theorem dX8_writesNumber_10 : decode cX8_writesNumber 10 = .ok (.bipush 10, 2) := by decide +kernel
theorem dX8_writesNumber_12 : decode cX8_writesNumber 12 = .ok (.idiv, 1) := by decide +kernel
theorem dX8_writesNumber_13 : decode cX8_writesNumber 13 = .ok (.iadd, 1) := by decide +kernel
theorem dX8_writesNumber_14 : decode cX8_writesNumber 14 = .ok (.invokevirtual 159, 3) := by decide +kernel
theorem dX8_writesNumber_17 : decode cX8_writesNumber 17 = .ok (.aload_n 0, 1) := by decide +kernel
theorem dX8_writesNumber_18 : decode cX8_writesNumber 18 = .ok (.bipush 48, 2) := by decide +kernel
theorem dX8_writesNumber_20 : decode cX8_writesNumber 20 = .ok (.iload_n 1, 1) := by decide +kernel
theorem dX8_writesNumber_21 : decode cX8_writesNumber 21 = .ok (.bipush 10, 2) := by decide +kernel
theorem dX8_writesNumber_23 : decode cX8_writesNumber 23 = .ok (.irem, 1) := by decide +kernel
theorem dX8_writesNumber_24 : decode cX8_writesNumber 24 = .ok (.iadd, 1) := by decide +kernel
theorem dX8_writesNumber_25 : decode cX8_writesNumber 25 = .ok (.invokevirtual 159, 3) := by decide +kernel
theorem dX8_writesNumber_28 : decode cX8_writesNumber 28 = .ok (.return_, 1) := by decide +kernel
theorem dX8_writesNote_0 : decode cX8_writesNote 0 = .ok (.aload_n 0, 1) := by decide +kernel
theorem dX8_writesNote_1 : decode cX8_writesNote 1 = .ok (.iconst 0, 1) := by decide +kernel
theorem dX8_writesNote_2 : decode cX8_writesNote 2 = .ok (.putfield 156, 3) := by decide +kernel
theorem dX8_writesNote_5 : decode cX8_writesNote 5 = .ok (.aload_n 0, 1) := by decide +kernel
theorem dX8_writesNote_6 : decode cX8_writesNote 6 = .ok (.invokevirtual 96, 3) := by decide +kernel
theorem dX8_writesNote_9 : decode cX8_writesNote 9 = .ok (.aload_n 0, 1) := by decide +kernel
theorem dX8_writesNote_10 : decode cX8_writesNote 10 = .ok (.invokevirtual 99, 3) := by decide +kernel
theorem dX8_writesNote_13 : decode cX8_writesNote 13 = .ok (.iconst 0, 1) := by decide +kernel
theorem dX8_writesNote_14 : decode cX8_writesNote 14 = .ok (.istore_n 1, 1) := by decide +kernel
theorem dX8_writesNote_15 : decode cX8_writesNote 15 = .ok (.iload_n 1, 1) := by decide +kernel
theorem dX8_writesNote_16 : decode cX8_writesNote 16 = .ok (.aload_n 0, 1) := by decide +kernel
theorem dX8_writesNote_17 : decode cX8_writesNote 17 = .ok (.getfield 7, 3) := by decide +kernel
theorem dX8_writesNote_20 : decode cX8_writesNote 20 = .ok (.iconst 0, 1) := by decide +kernel
theorem dX8_writesNote_21 : decode cX8_writesNote 21 = .ok (.iaload, 1) := by decide +kernel
theorem dX8_writesNote_22 : decode cX8_writesNote 22 = .ok (.if_icmp .ge 79, 3) := by decide +kernel
theorem dX8_writesNote_25 : decode cX8_writesNote 25 = .ok (.iload_n 1, 1) := by decide +kernel
theorem dX8_writesNote_26 : decode cX8_writesNote 26 = .ok (.ifCond .le 9, 3) := by decide +kernel
theorem dX8_writesNote_29 : decode cX8_writesNote 29 = .ok (.aload_n 0, 1) := by decide +kernel
theorem dX8_writesNote_30 : decode cX8_writesNote 30 = .ok (.bipush 32, 2) := by decide +kernel
theorem dX8_writesNote_32 : decode cX8_writesNote 32 = .ok (.invokevirtual 159, 3) := by decide +kernel
theorem dX8_writesNote_35 : decode cX8_writesNote 35 = .ok (.aload_n 0, 1) := by decide +kernel
theorem dX8_writesNote_36 : decode cX8_writesNote 36 = .ok (.bipush 48, 2) := by decide +kernel
theorem dX8_writesNote_38 : decode cX8_writesNote 38 = .ok (.aload_n 0, 1) := by decide +kernel
theorem dX8_writesNote_39 : decode cX8_writesNote 39 = .ok (.getfield 42, 3) := by decide +kernel
theorem dX8_writesNote_42 : decode cX8_writesNote 42 = .ok (.iload_n 1, 1) := by decide +kernel
theorem dX8_writesNote_43 : decode cX8_writesNote 43 = .ok (.iaload, 1) := by decide +kernel
theorem dX8_writesNote_44 : decode cX8_writesNote 44 = .ok (.iadd, 1) := by decide +kernel
theorem dX8_writesNote_45 : decode cX8_writesNote 45 = .ok (.invokevirtual 159, 3) := by decide +kernel
theorem dX8_writesNote_48 : decode cX8_writesNote 48 = .ok (.aload_n 0, 1) := by decide +kernel
theorem dX8_writesNote_49 : decode cX8_writesNote 49 = .ok (.bipush 43, 2) := by decide +kernel
theorem dX8_writesNote_51 : decode cX8_writesNote 51 = .ok (.invokevirtual 159, 3) := by decide +kernel
theorem dX8_writesNote_54 : decode cX8_writesNote 54 = .ok (.aload_n 0, 1) := by decide +kernel
theorem dX8_writesNote_55 : decode cX8_writesNote 55 = .ok (.aload_n 0, 1) := by decide +kernel
theorem dX8_writesNote_56 : decode cX8_writesNote 56 = .ok (.getfield 51, 3) := by decide +kernel
theorem dX8_writesNote_59 : decode cX8_writesNote 59 = .ok (.iload_n 1, 1) := by decide +kernel
theorem dX8_writesNote_60 : decode cX8_writesNote 60 = .ok (.iaload, 1) := by decide +kernel
theorem dX8_writesNote_61 : decode cX8_writesNote 61 = .ok (.invokestatic 93, 3) := by decide +kernel
theorem dX8_writesNote_64 : decode cX8_writesNote 64 = .ok (.invokevirtual 163, 3) := by decide +kernel
theorem dX8_writesNote_67 : decode cX8_writesNote 67 = .ok (.aload_n 0, 1) := by decide +kernel
theorem dX8_writesNote_68 : decode cX8_writesNote 68 = .ok (.getfield 57, 3) := by decide +kernel
theorem dX8_writesNote_71 : decode cX8_writesNote 71 = .ok (.iload_n 1, 1) := by decide +kernel
theorem dX8_writesNote_72 : decode cX8_writesNote 72 = .ok (.iaload, 1) := by decide +kernel
theorem dX8_writesNote_73 : decode cX8_writesNote 73 = .ok (.ifCond .eq 22, 3) := by decide +kernel
theorem dX8_writesNote_76 : decode cX8_writesNote 76 = .ok (.aload_n 0, 1) := by decide +kernel
theorem dX8_writesNote_77 : decode cX8_writesNote 77 = .ok (.bipush 45, 2) := by decide +kernel
theorem dX8_writesNote_79 : decode cX8_writesNote 79 = .ok (.invokevirtual 159, 3) := by decide +kernel
theorem dX8_writesNote_82 : decode cX8_writesNote 82 = .ok (.aload_n 0, 1) := by decide +kernel
theorem dX8_writesNote_83 : decode cX8_writesNote 83 = .ok (.aload_n 0, 1) := by decide +kernel
theorem dX8_writesNote_84 : decode cX8_writesNote 84 = .ok (.getfield 57, 3) := by decide +kernel
theorem dX8_writesNote_87 : decode cX8_writesNote 87 = .ok (.iload_n 1, 1) := by decide +kernel
theorem dX8_writesNote_88 : decode cX8_writesNote 88 = .ok (.iaload, 1) := by decide +kernel
theorem dX8_writesNote_89 : decode cX8_writesNote 89 = .ok (.invokestatic 93, 3) := by decide +kernel
theorem dX8_writesNote_92 : decode cX8_writesNote 92 = .ok (.invokevirtual 163, 3) := by decide +kernel
theorem dX8_writesNote_95 : decode cX8_writesNote 95 = .ok (.iinc 1 1, 3) := by decide +kernel
theorem dX8_writesNote_98 : decode cX8_writesNote 98 = .ok (.goto (-83), 3) := by decide +kernel
theorem dX8_writesNote_101 : decode cX8_writesNote 101 = .ok (.aload_n 0, 1) := by decide +kernel
theorem dX8_writesNote_102 : decode cX8_writesNote 102 = .ok (.getfield 7, 3) := by decide +kernel
theorem dX8_writesNote_105 : decode cX8_writesNote 105 = .ok (.iconst 0, 1) := by decide +kernel
theorem dX8_writesNote_106 : decode cX8_writesNote 106 = .ok (.iaload, 1) := by decide +kernel
theorem dX8_writesNote_107 : decode cX8_writesNote 107 = .ok (.ifCond .ne 27, 3) := by decide +kernel
theorem dX8_writesNote_110 : decode cX8_writesNote 110 = .ok (.aload_n 0, 1) := by decide +kernel
theorem dX8_writesNote_111 : decode cX8_writesNote 111 = .ok (.bipush 110, 2) := by decide +kernel
theorem dX8_writesNote_113 : decode cX8_writesNote 113 = .ok (.invokevirtual 159, 3) := by decide +kernel
theorem dX8_writesNote_116 : decode cX8_writesNote 116 = .ok (.aload_n 0, 1) := by decide +kernel
theorem dX8_writesNote_117 : decode cX8_writesNote 117 = .ok (.bipush 111, 2) := by decide +kernel
theorem dX8_writesNote_119 : decode cX8_writesNote 119 = .ok (.invokevirtual 159, 3) := by decide +kernel
theorem dX8_writesNote_122 : decode cX8_writesNote 122 = .ok (.aload_n 0, 1) := by decide +kernel
theorem dX8_writesNote_123 : decode cX8_writesNote 123 = .ok (.bipush 110, 2) := by decide +kernel
theorem dX8_writesNote_125 : decode cX8_writesNote 125 = .ok (.invokevirtual 159, 3) := by decide +kernel
theorem dX8_writesNote_128 : decode cX8_writesNote 128 = .ok (.aload_n 0, 1) := by decide +kernel
theorem dX8_writesNote_129 : decode cX8_writesNote 129 = .ok (.bipush 101, 2) := by decide +kernel
theorem dX8_writesNote_131 : decode cX8_writesNote 131 = .ok (.invokevirtual 159, 3) := by decide +kernel
theorem dX8_writesNote_134 : decode cX8_writesNote 134 = .ok (.return_, 1) := by decide +kernel
theorem dX8_letter_0 : decode cX8_letter 0 = .ok (.iload_n 1, 1) := by decide +kernel
theorem dX8_letter_1 : decode cX8_letter 1 = .ok (.ifCond .ge 5, 3) := by decide +kernel
theorem dX8_letter_4 : decode cX8_letter 4 = .ok (.iconst (-1), 1) := by decide +kernel
theorem dX8_letter_5 : decode cX8_letter 5 = .ok (.ireturn, 1) := by decide +kernel
theorem dX8_letter_6 : decode cX8_letter 6 = .ok (.aload_n 0, 1) := by decide +kernel
theorem dX8_letter_7 : decode cX8_letter 7 = .ok (.invokevirtual 166, 3) := by decide +kernel
theorem dX8_letter_10 : decode cX8_letter 10 = .ok (.iload_n 1, 1) := by decide +kernel
theorem dX8_letter_11 : decode cX8_letter 11 = .ok (.aload_n 0, 1) := by decide +kernel
theorem dX8_letter_12 : decode cX8_letter 12 = .ok (.getfield 156, 3) := by decide +kernel
theorem dX8_letter_15 : decode cX8_letter 15 = .ok (.if_icmp .ge 12, 3) := by decide +kernel
theorem dX8_letter_18 : decode cX8_letter 18 = .ok (.aload_n 0, 1) := by decide +kernel
theorem dX8_letter_19 : decode cX8_letter 19 = .ok (.getfield 63, 3) := by decide +kernel
theorem dX8_letter_22 : decode cX8_letter 22 = .ok (.iload_n 1, 1) := by decide +kernel
theorem dX8_letter_23 : decode cX8_letter 23 = .ok (.iaload, 1) := by decide +kernel
theorem dX8_letter_24 : decode cX8_letter 24 = .ok (.goto 5, 3) := by decide +kernel
theorem dX8_letter_27 : decode cX8_letter 27 = .ok (.bipush (-4), 2) := by decide +kernel
theorem dX8_letter_29 : decode cX8_letter 29 = .ok (.ireturn, 1) := by decide +kernel
theorem dX8_notes_0 : decode cX8_notes 0 = .ok (.aload_n 0, 1) := by decide +kernel
theorem dX8_notes_1 : decode cX8_notes 1 = .ok (.getfield 128, 3) := by decide +kernel
theorem dX8_notes_4 : decode cX8_notes 4 = .ok (.bipush 6, 2) := by decide +kernel
theorem dX8_notes_6 : decode cX8_notes 6 = .ok (.if_icmp .ne 38, 3) := by decide +kernel
theorem dX8_notes_9 : decode cX8_notes 9 = .ok (.iconst 0, 1) := by decide +kernel
theorem dX8_notes_10 : decode cX8_notes 10 = .ok (.istore_n 1, 1) := by decide +kernel
theorem dX8_notes_11 : decode cX8_notes 11 = .ok (.iload_n 1, 1) := by decide +kernel
theorem dX8_notes_12 : decode cX8_notes 12 = .ok (.sipush 135, 3) := by decide +kernel
theorem dX8_notes_15 : decode cX8_notes 15 = .ok (.if_icmp .ge 24, 3) := by decide +kernel
theorem dX8_notes_18 : decode cX8_notes 18 = .ok (.aload_n 0, 1) := by decide +kernel
theorem dX8_notes_19 : decode cX8_notes 19 = .ok (.getfield 13, 3) := by decide +kernel
theorem dX8_notes_22 : decode cX8_notes 22 = .ok (.iload_n 1, 1) := by decide +kernel
theorem dX8_notes_23 : decode cX8_notes 23 = .ok (.aload_n 0, 1) := by decide +kernel
theorem dX8_notes_24 : decode cX8_notes 24 = .ok (.getfield 13, 3) := by decide +kernel
theorem dX8_notes_27 : decode cX8_notes 27 = .ok (.iload_n 1, 1) := by decide +kernel
theorem dX8_notes_28 : decode cX8_notes 28 = .ok (.bipush 27, 2) := by decide +kernel
theorem dX8_notes_30 : decode cX8_notes 30 = .ok (.iadd, 1) := by decide +kernel
theorem dX8_notes_31 : decode cX8_notes 31 = .ok (.iaload, 1) := by decide +kernel
theorem dX8_notes_32 : decode cX8_notes 32 = .ok (.iastore, 1) := by decide +kernel
theorem dX8_notes_33 : decode cX8_notes 33 = .ok (.iinc 1 1, 3) := by decide +kernel
theorem dX8_notes_36 : decode cX8_notes 36 = .ok (.goto (-25), 3) := by decide +kernel
theorem dX8_notes_39 : decode cX8_notes 39 = .ok (.aload_n 0, 1) := by decide +kernel
theorem dX8_notes_40 : decode cX8_notes 40 = .ok (.iconst 5, 1) := by decide +kernel
theorem dX8_notes_41 : decode cX8_notes 41 = .ok (.putfield 128, 3) := by decide +kernel
theorem dX8_notes_44 : decode cX8_notes 44 = .ok (.iconst 0, 1) := by decide +kernel
theorem dX8_notes_45 : decode cX8_notes 45 = .ok (.istore_n 1, 1) := by decide +kernel
theorem dX8_notes_46 : decode cX8_notes 46 = .ok (.iload_n 1, 1) := by decide +kernel
theorem dX8_notes_47 : decode cX8_notes 47 = .ok (.bipush 27, 2) := by decide +kernel
theorem dX8_notes_49 : decode cX8_notes 49 = .ok (.if_icmp .ge 29, 3) := by decide +kernel
theorem dX8_notes_52 : decode cX8_notes 52 = .ok (.aload_n 0, 1) := by decide +kernel
theorem dX8_notes_53 : decode cX8_notes 53 = .ok (.getfield 13, 3) := by decide +kernel
theorem dX8_notes_56 : decode cX8_notes 56 = .ok (.bipush 27, 2) := by decide +kernel
theorem dX8_notes_58 : decode cX8_notes 58 = .ok (.aload_n 0, 1) := by decide +kernel
theorem dX8_notes_59 : decode cX8_notes 59 = .ok (.getfield 128, 3) := by decide +kernel
theorem dX8_notes_62 : decode cX8_notes 62 = .ok (.imul, 1) := by decide +kernel
theorem dX8_notes_63 : decode cX8_notes 63 = .ok (.iload_n 1, 1) := by decide +kernel
theorem dX8_notes_64 : decode cX8_notes 64 = .ok (.iadd, 1) := by decide +kernel
theorem dX8_notes_65 : decode cX8_notes 65 = .ok (.aload_n 0, 1) := by decide +kernel
theorem dX8_notes_66 : decode cX8_notes 66 = .ok (.getfield 66, 3) := by decide +kernel
theorem dX8_notes_69 : decode cX8_notes 69 = .ok (.iload_n 1, 1) := by decide +kernel
theorem dX8_notes_70 : decode cX8_notes 70 = .ok (.iaload, 1) := by decide +kernel
theorem dX8_notes_71 : decode cX8_notes 71 = .ok (.iastore, 1) := by decide +kernel
theorem dX8_notes_72 : decode cX8_notes 72 = .ok (.iinc 1 1, 3) := by decide +kernel
theorem dX8_notes_75 : decode cX8_notes 75 = .ok (.goto (-29), 3) := by decide +kernel
theorem dX8_notes_78 : decode cX8_notes 78 = .ok (.aload_n 0, 1) := by decide +kernel
theorem dX8_notes_79 : decode cX8_notes 79 = .ok (.dup, 1) := by decide +kernel
theorem dX8_notes_80 : decode cX8_notes 80 = .ok (.getfield 128, 3) := by decide +kernel
theorem dX8_notes_83 : decode cX8_notes 83 = .ok (.iconst 1, 1) := by decide +kernel
theorem dX8_notes_84 : decode cX8_notes 84 = .ok (.iadd, 1) := by decide +kernel
theorem dX8_notes_85 : decode cX8_notes 85 = .ok (.putfield 128, 3) := by decide +kernel
theorem dX8_notes_88 : decode cX8_notes 88 = .ok (.return_, 1) := by decide +kernel
theorem dX8_holds_0 : decode cX8_holds 0 = .ok (.iconst 0, 1) := by decide +kernel
theorem dX8_holds_1 : decode cX8_holds 1 = .ok (.istore_n 1, 1) := by decide +kernel
theorem dX8_holds_2 : decode cX8_holds 2 = .ok (.iload_n 1, 1) := by decide +kernel
theorem dX8_holds_3 : decode cX8_holds 3 = .ok (.bipush 27, 2) := by decide +kernel
theorem dX8_holds_5 : decode cX8_holds 5 = .ok (.if_icmp .ge 21, 3) := by decide +kernel
theorem dX8_holds_8 : decode cX8_holds 8 = .ok (.aload_n 0, 1) := by decide +kernel
theorem dX8_holds_9 : decode cX8_holds 9 = .ok (.getfield 66, 3) := by decide +kernel
theorem dX8_holds_12 : decode cX8_holds 12 = .ok (.iload_n 1, 1) := by decide +kernel
theorem dX8_holds_13 : decode cX8_holds 13 = .ok (.aload_n 0, 1) := by decide +kernel
theorem dX8_holds_14 : decode cX8_holds 14 = .ok (.getfield 7, 3) := by decide +kernel
theorem dX8_holds_17 : decode cX8_holds 17 = .ok (.iload_n 1, 1) := by decide +kernel
theorem dX8_holds_18 : decode cX8_holds 18 = .ok (.iaload, 1) := by decide +kernel
theorem dX8_holds_19 : decode cX8_holds 19 = .ok (.iastore, 1) := by decide +kernel
theorem dX8_holds_20 : decode cX8_holds 20 = .ok (.iinc 1 1, 3) := by decide +kernel
theorem dX8_holds_23 : decode cX8_holds 23 = .ok (.goto (-21), 3) := by decide +kernel
theorem dX8_holds_26 : decode cX8_holds 26 = .ok (.return_, 1) := by decide +kernel
theorem dX8_acted_0 : decode cX8_acted 0 = .ok (.iload_n 1, 1) := by decide +kernel
theorem dX8_acted_1 : decode cX8_acted 1 = .ok (.ifCond .lt 7, 3) := by decide +kernel
theorem dX8_acted_4 : decode cX8_acted 4 = .ok (.aload_n 0, 1) := by decide +kernel
theorem dX8_acted_5 : decode cX8_acted 5 = .ok (.invokevirtual 169, 3) := by decide +kernel
theorem dX8_acted_8 : decode cX8_acted 8 = .ok (.iload_n 1, 1) := by decide +kernel
theorem dX8_acted_9 : decode cX8_acted 9 = .ok (.ireturn, 1) := by decide +kernel
theorem dX8_adds_0 : decode cX8_adds 0 = .ok (.iload_n 1, 1) := by decide +kernel
theorem dX8_adds_1 : decode cX8_adds 1 = .ok (.invokestatic 172, 3) := by decide +kernel
theorem dX8_adds_4 : decode cX8_adds 4 = .ok (.ifCond .eq 7, 3) := by decide +kernel
theorem dX8_adds_7 : decode cX8_adds 7 = .ok (.iload_n 1, 1) := by decide +kernel
theorem dX8_adds_8 : decode cX8_adds 8 = .ok (.ifCond .ne 5, 3) := by decide +kernel
theorem dX8_adds_11 : decode cX8_adds 11 = .ok (.iconst (-1), 1) := by decide +kernel
theorem dX8_adds_12 : decode cX8_adds 12 = .ok (.ireturn, 1) := by decide +kernel
theorem dX8_adds_13 : decode cX8_adds 13 = .ok (.aload_n 0, 1) := by decide +kernel
theorem dX8_adds_14 : decode cX8_adds 14 = .ok (.getfield 7, 3) := by decide +kernel
theorem dX8_adds_17 : decode cX8_adds 17 = .ok (.iconst 0, 1) := by decide +kernel
theorem dX8_adds_18 : decode cX8_adds 18 = .ok (.iaload, 1) := by decide +kernel
theorem dX8_adds_19 : decode cX8_adds 19 = .ok (.istore_n 2, 1) := by decide +kernel
theorem dX8_adds_20 : decode cX8_adds 20 = .ok (.iload_n 2, 1) := by decide +kernel
theorem dX8_adds_21 : decode cX8_adds 21 = .ok (.bipush 7, 2) := by decide +kernel
theorem dX8_adds_23 : decode cX8_adds 23 = .ok (.if_icmp .ne 6, 3) := by decide +kernel
theorem dX8_adds_26 : decode cX8_adds 26 = .ok (.bipush (-3), 2) := by decide +kernel
theorem dX8_adds_28 : decode cX8_adds 28 = .ok (.ireturn, 1) := by decide +kernel
theorem dX8_adds_29 : decode cX8_adds 29 = .ok (.aload_n 0, 1) := by decide +kernel
theorem dX8_adds_30 : decode cX8_adds 30 = .ok (.getfield 7, 3) := by decide +kernel
theorem dX8_adds_33 : decode cX8_adds 33 = .ok (.bipush 6, 2) := by decide +kernel
theorem dX8_adds_35 : decode cX8_adds 35 = .ok (.iload_n 2, 1) := by decide +kernel
theorem dX8_adds_36 : decode cX8_adds 36 = .ok (.iadd, 1) := by decide +kernel
theorem dX8_adds_37 : decode cX8_adds 37 = .ok (.iload_n 2, 1) := by decide +kernel
theorem dX8_adds_38 : decode cX8_adds 38 = .ok (.iastore, 1) := by decide +kernel
theorem dX8_adds_39 : decode cX8_adds 39 = .ok (.aload_n 0, 1) := by decide +kernel
theorem dX8_adds_40 : decode cX8_adds 40 = .ok (.getfield 7, 3) := by decide +kernel
theorem dX8_adds_43 : decode cX8_adds 43 = .ok (.bipush 13, 2) := by decide +kernel
theorem dX8_adds_45 : decode cX8_adds 45 = .ok (.iload_n 2, 1) := by decide +kernel
theorem dX8_adds_46 : decode cX8_adds 46 = .ok (.iadd, 1) := by decide +kernel
theorem dX8_adds_47 : decode cX8_adds 47 = .ok (.iload_n 1, 1) := by decide +kernel
theorem dX8_adds_48 : decode cX8_adds 48 = .ok (.iastore, 1) := by decide +kernel
theorem dX8_adds_49 : decode cX8_adds 49 = .ok (.aload_n 0, 1) := by decide +kernel
theorem dX8_adds_50 : decode cX8_adds 50 = .ok (.getfield 7, 3) := by decide +kernel
theorem dX8_adds_53 : decode cX8_adds 53 = .ok (.bipush 20, 2) := by decide +kernel
theorem dX8_adds_55 : decode cX8_adds 55 = .ok (.iload_n 2, 1) := by decide +kernel
theorem dX8_adds_56 : decode cX8_adds 56 = .ok (.iadd, 1) := by decide +kernel
theorem dX8_adds_57 : decode cX8_adds 57 = .ok (.iconst 0, 1) := by decide +kernel
theorem dX8_adds_58 : decode cX8_adds 58 = .ok (.iastore, 1) := by decide +kernel
theorem dX8_adds_59 : decode cX8_adds 59 = .ok (.aload_n 0, 1) := by decide +kernel
theorem dX8_adds_60 : decode cX8_adds 60 = .ok (.getfield 7, 3) := by decide +kernel
theorem dX8_adds_63 : decode cX8_adds 63 = .ok (.iconst 0, 1) := by decide +kernel
theorem dX8_adds_64 : decode cX8_adds 64 = .ok (.dup2, 1) := by decide +kernel
theorem dX8_adds_65 : decode cX8_adds 65 = .ok (.iaload, 1) := by decide +kernel
theorem dX8_adds_66 : decode cX8_adds 66 = .ok (.iconst 1, 1) := by decide +kernel
theorem dX8_adds_67 : decode cX8_adds 67 = .ok (.iadd, 1) := by decide +kernel
theorem dX8_adds_68 : decode cX8_adds 68 = .ok (.iastore, 1) := by decide +kernel
theorem dX8_adds_69 : decode cX8_adds 69 = .ok (.iload_n 2, 1) := by decide +kernel
theorem dX8_adds_70 : decode cX8_adds 70 = .ok (.ireturn, 1) := by decide +kernel
theorem dX8_changes_0 : decode cX8_changes 0 = .ok (.aload_n 0, 1) := by decide +kernel
theorem dX8_changes_1 : decode cX8_changes 1 = .ok (.iload_n 1, 1) := by decide +kernel
theorem dX8_changes_2 : decode cX8_changes 2 = .ok (.invokevirtual 104, 3) := by decide +kernel
theorem dX8_changes_5 : decode cX8_changes 5 = .ok (.ifCond .eq 14, 3) := by decide +kernel
theorem dX8_changes_8 : decode cX8_changes 8 = .ok (.iload_n 2, 1) := by decide +kernel
theorem dX8_changes_9 : decode cX8_changes 9 = .ok (.invokestatic 172, 3) := by decide +kernel
theorem dX8_changes_12 : decode cX8_changes 12 = .ok (.ifCond .eq 7, 3) := by decide +kernel
theorem dX8_changes_15 : decode cX8_changes 15 = .ok (.iload_n 2, 1) := by decide +kernel
theorem dX8_changes_16 : decode cX8_changes 16 = .ok (.ifCond .ne 5, 3) := by decide +kernel
theorem dX8_changes_19 : decode cX8_changes 19 = .ok (.iconst (-1), 1) := by decide +kernel
theorem dX8_changes_20 : decode cX8_changes 20 = .ok (.ireturn, 1) := by decide +kernel
theorem dX8_changes_21 : decode cX8_changes 21 = .ok (.aload_n 0, 1) := by decide +kernel
theorem dX8_changes_22 : decode cX8_changes 22 = .ok (.getfield 7, 3) := by decide +kernel
theorem dX8_changes_25 : decode cX8_changes 25 = .ok (.bipush 13, 2) := by decide +kernel
theorem dX8_changes_27 : decode cX8_changes 27 = .ok (.iload_n 1, 1) := by decide +kernel
end
section
theorem dX8_changes_28 : decode cX8_changes 28 = .ok (.iadd, 1) := by decide +kernel
theorem dX8_changes_29 : decode cX8_changes 29 = .ok (.iaload, 1) := by decide +kernel
theorem dX8_changes_30 : decode cX8_changes 30 = .ok (.istore_n 3, 1) := by decide +kernel
theorem dX8_changes_31 : decode cX8_changes 31 = .ok (.iload_n 3, 1) := by decide +kernel
theorem dX8_changes_32 : decode cX8_changes 32 = .ok (.iload_n 2, 1) := by decide +kernel
theorem dX8_changes_33 : decode cX8_changes 33 = .ok (.if_icmp .ne 6, 3) := by decide +kernel
theorem dX8_changes_36 : decode cX8_changes 36 = .ok (.bipush (-2), 2) := by decide +kernel
theorem dX8_changes_38 : decode cX8_changes 38 = .ok (.ireturn, 1) := by decide +kernel
theorem dX8_changes_39 : decode cX8_changes 39 = .ok (.aload_n 0, 1) := by decide +kernel
theorem dX8_changes_40 : decode cX8_changes 40 = .ok (.getfield 7, 3) := by decide +kernel
theorem dX8_changes_43 : decode cX8_changes 43 = .ok (.bipush 13, 2) := by decide +kernel
theorem dX8_changes_45 : decode cX8_changes 45 = .ok (.iload_n 1, 1) := by decide +kernel
theorem dX8_changes_46 : decode cX8_changes 46 = .ok (.iadd, 1) := by decide +kernel
theorem dX8_changes_47 : decode cX8_changes 47 = .ok (.iload_n 2, 1) := by decide +kernel
theorem dX8_changes_48 : decode cX8_changes 48 = .ok (.iastore, 1) := by decide +kernel
theorem dX8_changes_49 : decode cX8_changes 49 = .ok (.iload_n 3, 1) := by decide +kernel
theorem dX8_changes_50 : decode cX8_changes 50 = .ok (.ireturn, 1) := by decide +kernel
theorem dX8_without_0 : decode cX8_without 0 = .ok (.iload_n 0, 1) := by decide +kernel
theorem dX8_without_1 : decode cX8_without 1 = .ok (.iconst 1, 1) := by decide +kernel
theorem dX8_without_2 : decode cX8_without 2 = .ok (.iload_n 1, 1) := by decide +kernel
theorem dX8_without_3 : decode cX8_without 3 = .ok (.ishl, 1) := by decide +kernel
theorem dX8_without_4 : decode cX8_without 4 = .ok (.iconst 1, 1) := by decide +kernel
theorem dX8_without_5 : decode cX8_without 5 = .ok (.isub, 1) := by decide +kernel
theorem dX8_without_6 : decode cX8_without 6 = .ok (.iand, 1) := by decide +kernel
theorem dX8_without_7 : decode cX8_without 7 = .ok (.istore_n 2, 1) := by decide +kernel
theorem dX8_without_8 : decode cX8_without 8 = .ok (.iload_n 2, 1) := by decide +kernel
theorem dX8_without_9 : decode cX8_without 9 = .ok (.iload_n 0, 1) := by decide +kernel
theorem dX8_without_10 : decode cX8_without 10 = .ok (.iload_n 1, 1) := by decide +kernel
theorem dX8_without_11 : decode cX8_without 11 = .ok (.iconst 1, 1) := by decide +kernel
theorem dX8_without_12 : decode cX8_without 12 = .ok (.iadd, 1) := by decide +kernel
theorem dX8_without_13 : decode cX8_without 13 = .ok (.ishr, 1) := by decide +kernel
theorem dX8_without_14 : decode cX8_without 14 = .ok (.iload_n 1, 1) := by decide +kernel
theorem dX8_without_15 : decode cX8_without 15 = .ok (.ishl, 1) := by decide +kernel
theorem dX8_without_16 : decode cX8_without 16 = .ok (.ior, 1) := by decide +kernel
theorem dX8_without_17 : decode cX8_without 17 = .ok (.ireturn, 1) := by decide +kernel
theorem dX8_loses_0 : decode cX8_loses 0 = .ok (.aload_n 0, 1) := by decide +kernel
theorem dX8_loses_1 : decode cX8_loses 1 = .ok (.iload_n 1, 1) := by decide +kernel
theorem dX8_loses_2 : decode cX8_loses 2 = .ok (.invokevirtual 104, 3) := by decide +kernel
theorem dX8_loses_5 : decode cX8_loses 5 = .ok (.ifCond .ne 5, 3) := by decide +kernel
theorem dX8_loses_8 : decode cX8_loses 8 = .ok (.iconst (-1), 1) := by decide +kernel
theorem dX8_loses_9 : decode cX8_loses 9 = .ok (.ireturn, 1) := by decide +kernel
theorem dX8_loses_10 : decode cX8_loses 10 = .ok (.aload_n 0, 1) := by decide +kernel
theorem dX8_loses_11 : decode cX8_loses 11 = .ok (.getfield 7, 3) := by decide +kernel
theorem dX8_loses_14 : decode cX8_loses 14 = .ok (.iconst 0, 1) := by decide +kernel
theorem dX8_loses_15 : decode cX8_loses 15 = .ok (.iaload, 1) := by decide +kernel
theorem dX8_loses_16 : decode cX8_loses 16 = .ok (.iconst 1, 1) := by decide +kernel
theorem dX8_loses_17 : decode cX8_loses 17 = .ok (.isub, 1) := by decide +kernel
theorem dX8_loses_18 : decode cX8_loses 18 = .ok (.istore_n 2, 1) := by decide +kernel
theorem dX8_loses_19 : decode cX8_loses 19 = .ok (.aload_n 0, 1) := by decide +kernel
theorem dX8_loses_20 : decode cX8_loses 20 = .ok (.iload_n 1, 1) := by decide +kernel
theorem dX8_loses_21 : decode cX8_loses 21 = .ok (.invokevirtual 111, 3) := by decide +kernel
theorem dX8_loses_24 : decode cX8_loses 24 = .ok (.istore_n 3, 1) := by decide +kernel
theorem dX8_loses_25 : decode cX8_loses 25 = .ok (.iload_n 3, 1) := by decide +kernel
theorem dX8_loses_26 : decode cX8_loses 26 = .ok (.istore 4, 2) := by decide +kernel
theorem dX8_loses_28 : decode cX8_loses 28 = .ok (.iload 4, 2) := by decide +kernel
theorem dX8_loses_30 : decode cX8_loses 30 = .ok (.iload_n 2, 1) := by decide +kernel
theorem dX8_loses_31 : decode cX8_loses 31 = .ok (.if_icmp .ge 31, 3) := by decide +kernel
theorem dX8_loses_34 : decode cX8_loses 34 = .ok (.aload_n 0, 1) := by decide +kernel
theorem dX8_loses_35 : decode cX8_loses 35 = .ok (.getfield 7, 3) := by decide +kernel
theorem dX8_loses_38 : decode cX8_loses 38 = .ok (.bipush 6, 2) := by decide +kernel
theorem dX8_loses_40 : decode cX8_loses 40 = .ok (.iload 4, 2) := by decide +kernel
theorem dX8_loses_42 : decode cX8_loses 42 = .ok (.iadd, 1) := by decide +kernel
theorem dX8_loses_43 : decode cX8_loses 43 = .ok (.aload_n 0, 1) := by decide +kernel
theorem dX8_loses_44 : decode cX8_loses 44 = .ok (.getfield 7, 3) := by decide +kernel
theorem dX8_loses_47 : decode cX8_loses 47 = .ok (.bipush 6, 2) := by decide +kernel
theorem dX8_loses_49 : decode cX8_loses 49 = .ok (.iload 4, 2) := by decide +kernel
theorem dX8_loses_51 : decode cX8_loses 51 = .ok (.iadd, 1) := by decide +kernel
theorem dX8_loses_52 : decode cX8_loses 52 = .ok (.iconst 1, 1) := by decide +kernel
theorem dX8_loses_53 : decode cX8_loses 53 = .ok (.iadd, 1) := by decide +kernel
theorem dX8_loses_54 : decode cX8_loses 54 = .ok (.iaload, 1) := by decide +kernel
theorem dX8_loses_55 : decode cX8_loses 55 = .ok (.iastore, 1) := by decide +kernel
theorem dX8_loses_56 : decode cX8_loses 56 = .ok (.iinc 4 1, 3) := by decide +kernel
theorem dX8_loses_59 : decode cX8_loses 59 = .ok (.goto (-31), 3) := by decide +kernel
theorem dX8_loses_62 : decode cX8_loses 62 = .ok (.iload_n 1, 1) := by decide +kernel
theorem dX8_loses_63 : decode cX8_loses 63 = .ok (.istore 4, 2) := by decide +kernel
theorem dX8_loses_65 : decode cX8_loses 65 = .ok (.iload 4, 2) := by decide +kernel
theorem dX8_loses_67 : decode cX8_loses 67 = .ok (.iload_n 2, 1) := by decide +kernel
theorem dX8_loses_68 : decode cX8_loses 68 = .ok (.if_icmp .ge 53, 3) := by decide +kernel
theorem dX8_loses_71 : decode cX8_loses 71 = .ok (.aload_n 0, 1) := by decide +kernel
theorem dX8_loses_72 : decode cX8_loses 72 = .ok (.getfield 7, 3) := by decide +kernel
theorem dX8_loses_75 : decode cX8_loses 75 = .ok (.bipush 13, 2) := by decide +kernel
theorem dX8_loses_77 : decode cX8_loses 77 = .ok (.iload 4, 2) := by decide +kernel
theorem dX8_loses_79 : decode cX8_loses 79 = .ok (.iadd, 1) := by decide +kernel
theorem dX8_loses_80 : decode cX8_loses 80 = .ok (.aload_n 0, 1) := by decide +kernel
theorem dX8_loses_81 : decode cX8_loses 81 = .ok (.getfield 7, 3) := by decide +kernel
theorem dX8_loses_84 : decode cX8_loses 84 = .ok (.bipush 13, 2) := by decide +kernel
theorem dX8_loses_86 : decode cX8_loses 86 = .ok (.iload 4, 2) := by decide +kernel
theorem dX8_loses_88 : decode cX8_loses 88 = .ok (.iadd, 1) := by decide +kernel
theorem dX8_loses_89 : decode cX8_loses 89 = .ok (.iconst 1, 1) := by decide +kernel
theorem dX8_loses_90 : decode cX8_loses 90 = .ok (.iadd, 1) := by decide +kernel
theorem dX8_loses_91 : decode cX8_loses 91 = .ok (.iaload, 1) := by decide +kernel
theorem dX8_loses_92 : decode cX8_loses 92 = .ok (.iastore, 1) := by decide +kernel
theorem dX8_loses_93 : decode cX8_loses 93 = .ok (.aload_n 0, 1) := by decide +kernel
theorem dX8_loses_94 : decode cX8_loses 94 = .ok (.getfield 7, 3) := by decide +kernel
theorem dX8_loses_97 : decode cX8_loses 97 = .ok (.bipush 20, 2) := by decide +kernel
theorem dX8_loses_99 : decode cX8_loses 99 = .ok (.iload 4, 2) := by decide +kernel
theorem dX8_loses_101 : decode cX8_loses 101 = .ok (.iadd, 1) := by decide +kernel
theorem dX8_loses_102 : decode cX8_loses 102 = .ok (.aload_n 0, 1) := by decide +kernel
theorem dX8_loses_103 : decode cX8_loses 103 = .ok (.getfield 7, 3) := by decide +kernel
theorem dX8_loses_106 : decode cX8_loses 106 = .ok (.bipush 20, 2) := by decide +kernel
theorem dX8_loses_108 : decode cX8_loses 108 = .ok (.iload 4, 2) := by decide +kernel
theorem dX8_loses_110 : decode cX8_loses 110 = .ok (.iadd, 1) := by decide +kernel
theorem dX8_loses_111 : decode cX8_loses 111 = .ok (.iconst 1, 1) := by decide +kernel
theorem dX8_loses_112 : decode cX8_loses 112 = .ok (.iadd, 1) := by decide +kernel
theorem dX8_loses_113 : decode cX8_loses 113 = .ok (.iaload, 1) := by decide +kernel
theorem dX8_loses_114 : decode cX8_loses 114 = .ok (.iastore, 1) := by decide +kernel
theorem dX8_loses_115 : decode cX8_loses 115 = .ok (.iinc 4 1, 3) := by decide +kernel
theorem dX8_loses_118 : decode cX8_loses 118 = .ok (.goto (-53), 3) := by decide +kernel
theorem dX8_loses_121 : decode cX8_loses 121 = .ok (.aload_n 0, 1) := by decide +kernel
theorem dX8_loses_122 : decode cX8_loses 122 = .ok (.getfield 7, 3) := by decide +kernel
theorem dX8_loses_125 : decode cX8_loses 125 = .ok (.iconst 0, 1) := by decide +kernel
theorem dX8_loses_126 : decode cX8_loses 126 = .ok (.iload_n 2, 1) := by decide +kernel
theorem dX8_loses_127 : decode cX8_loses 127 = .ok (.iastore, 1) := by decide +kernel
theorem dX8_loses_128 : decode cX8_loses 128 = .ok (.aload_n 0, 1) := by decide +kernel
theorem dX8_loses_129 : decode cX8_loses 129 = .ok (.getfield 7, 3) := by decide +kernel
theorem dX8_loses_132 : decode cX8_loses 132 = .ok (.bipush 6, 2) := by decide +kernel
theorem dX8_loses_134 : decode cX8_loses 134 = .ok (.iload_n 2, 1) := by decide +kernel
theorem dX8_loses_135 : decode cX8_loses 135 = .ok (.iadd, 1) := by decide +kernel
theorem dX8_loses_136 : decode cX8_loses 136 = .ok (.iconst 0, 1) := by decide +kernel
theorem dX8_loses_137 : decode cX8_loses 137 = .ok (.iastore, 1) := by decide +kernel
theorem dX8_loses_138 : decode cX8_loses 138 = .ok (.aload_n 0, 1) := by decide +kernel
theorem dX8_loses_139 : decode cX8_loses 139 = .ok (.getfield 7, 3) := by decide +kernel
theorem dX8_loses_142 : decode cX8_loses 142 = .ok (.bipush 13, 2) := by decide +kernel
theorem dX8_loses_144 : decode cX8_loses 144 = .ok (.iload_n 2, 1) := by decide +kernel
theorem dX8_loses_145 : decode cX8_loses 145 = .ok (.iadd, 1) := by decide +kernel
theorem dX8_loses_146 : decode cX8_loses 146 = .ok (.iconst 0, 1) := by decide +kernel
theorem dX8_loses_147 : decode cX8_loses 147 = .ok (.iastore, 1) := by decide +kernel
theorem dX8_loses_148 : decode cX8_loses 148 = .ok (.aload_n 0, 1) := by decide +kernel
theorem dX8_loses_149 : decode cX8_loses 149 = .ok (.getfield 7, 3) := by decide +kernel
theorem dX8_loses_152 : decode cX8_loses 152 = .ok (.bipush 20, 2) := by decide +kernel
theorem dX8_loses_154 : decode cX8_loses 154 = .ok (.iload_n 2, 1) := by decide +kernel
theorem dX8_loses_155 : decode cX8_loses 155 = .ok (.iadd, 1) := by decide +kernel
theorem dX8_loses_156 : decode cX8_loses 156 = .ok (.iconst 0, 1) := by decide +kernel
theorem dX8_loses_157 : decode cX8_loses 157 = .ok (.iastore, 1) := by decide +kernel
theorem dX8_loses_158 : decode cX8_loses 158 = .ok (.iconst 0, 1) := by decide +kernel
theorem dX8_loses_159 : decode cX8_loses 159 = .ok (.istore 4, 2) := by decide +kernel
theorem dX8_loses_161 : decode cX8_loses 161 = .ok (.iload 4, 2) := by decide +kernel
theorem dX8_loses_163 : decode cX8_loses 163 = .ok (.iload_n 2, 1) := by decide +kernel
theorem dX8_loses_164 : decode cX8_loses 164 = .ok (.if_icmp .ge 65, 3) := by decide +kernel
theorem dX8_loses_167 : decode cX8_loses 167 = .ok (.aload_n 0, 1) := by decide +kernel
theorem dX8_loses_168 : decode cX8_loses 168 = .ok (.getfield 7, 3) := by decide +kernel
theorem dX8_loses_171 : decode cX8_loses 171 = .ok (.bipush 6, 2) := by decide +kernel
theorem dX8_loses_173 : decode cX8_loses 173 = .ok (.iload 4, 2) := by decide +kernel
theorem dX8_loses_175 : decode cX8_loses 175 = .ok (.iadd, 1) := by decide +kernel
theorem dX8_loses_176 : decode cX8_loses 176 = .ok (.dup2, 1) := by decide +kernel
theorem dX8_loses_177 : decode cX8_loses 177 = .ok (.iaload, 1) := by decide +kernel
theorem dX8_loses_178 : decode cX8_loses 178 = .ok (.aload_n 0, 1) := by decide +kernel
theorem dX8_loses_179 : decode cX8_loses 179 = .ok (.getfield 7, 3) := by decide +kernel
theorem dX8_loses_182 : decode cX8_loses 182 = .ok (.bipush 6, 2) := by decide +kernel
theorem dX8_loses_184 : decode cX8_loses 184 = .ok (.iload 4, 2) := by decide +kernel
theorem dX8_loses_186 : decode cX8_loses 186 = .ok (.iadd, 1) := by decide +kernel
theorem dX8_loses_187 : decode cX8_loses 187 = .ok (.iaload, 1) := by decide +kernel
theorem dX8_loses_188 : decode cX8_loses 188 = .ok (.iload_n 1, 1) := by decide +kernel
theorem dX8_loses_189 : decode cX8_loses 189 = .ok (.if_icmp .le 7, 3) := by decide +kernel
theorem dX8_loses_192 : decode cX8_loses 192 = .ok (.iconst 1, 1) := by decide +kernel
theorem dX8_loses_193 : decode cX8_loses 193 = .ok (.goto 4, 3) := by decide +kernel
theorem dX8_loses_196 : decode cX8_loses 196 = .ok (.iconst 0, 1) := by decide +kernel
theorem dX8_loses_197 : decode cX8_loses 197 = .ok (.isub, 1) := by decide +kernel
theorem dX8_loses_198 : decode cX8_loses 198 = .ok (.iastore, 1) := by decide +kernel
theorem dX8_loses_199 : decode cX8_loses 199 = .ok (.aload_n 0, 1) := by decide +kernel
theorem dX8_loses_200 : decode cX8_loses 200 = .ok (.getfield 7, 3) := by decide +kernel
theorem dX8_loses_203 : decode cX8_loses 203 = .ok (.bipush 20, 2) := by decide +kernel
theorem dX8_loses_205 : decode cX8_loses 205 = .ok (.iload 4, 2) := by decide +kernel
theorem dX8_loses_207 : decode cX8_loses 207 = .ok (.iadd, 1) := by decide +kernel
theorem dX8_loses_208 : decode cX8_loses 208 = .ok (.aload_n 0, 1) := by decide +kernel
theorem dX8_loses_209 : decode cX8_loses 209 = .ok (.getfield 7, 3) := by decide +kernel
theorem dX8_loses_212 : decode cX8_loses 212 = .ok (.bipush 20, 2) := by decide +kernel
theorem dX8_loses_214 : decode cX8_loses 214 = .ok (.iload 4, 2) := by decide +kernel
theorem dX8_loses_216 : decode cX8_loses 216 = .ok (.iadd, 1) := by decide +kernel
theorem dX8_loses_217 : decode cX8_loses 217 = .ok (.iaload, 1) := by decide +kernel
theorem dX8_loses_218 : decode cX8_loses 218 = .ok (.iload_n 1, 1) := by decide +kernel
theorem dX8_loses_219 : decode cX8_loses 219 = .ok (.invokestatic 175, 3) := by decide +kernel
theorem dX8_loses_222 : decode cX8_loses 222 = .ok (.iastore, 1) := by decide +kernel
theorem dX8_loses_223 : decode cX8_loses 223 = .ok (.iinc 4 1, 3) := by decide +kernel
theorem dX8_loses_226 : decode cX8_loses 226 = .ok (.goto (-65), 3) := by decide +kernel
theorem dX8_loses_229 : decode cX8_loses 229 = .ok (.iload_n 2, 1) := by decide +kernel
theorem dX8_loses_230 : decode cX8_loses 230 = .ok (.ireturn, 1) := by decide +kernel
theorem dX8_comesTo_0 : decode cX8_comesTo 0 = .ok (.iconst 1, 1) := by decide +kernel
theorem dX8_comesTo_1 : decode cX8_comesTo 1 = .ok (.iload_n 1, 1) := by decide +kernel
theorem dX8_comesTo_2 : decode cX8_comesTo 2 = .ok (.ishl, 1) := by decide +kernel
theorem dX8_comesTo_3 : decode cX8_comesTo 3 = .ok (.istore_n 3, 1) := by decide +kernel
theorem dX8_comesTo_4 : decode cX8_comesTo 4 = .ok (.iconst 0, 1) := by decide +kernel
theorem dX8_comesTo_5 : decode cX8_comesTo 5 = .ok (.istore 4, 2) := by decide +kernel
theorem dX8_comesTo_7 : decode cX8_comesTo 7 = .ok (.iload 4, 2) := by decide +kernel
theorem dX8_comesTo_9 : decode cX8_comesTo 9 = .ok (.bipush 7, 2) := by decide +kernel
theorem dX8_comesTo_11 : decode cX8_comesTo 11 = .ok (.if_icmp .ge 55, 3) := by decide +kernel
theorem dX8_comesTo_14 : decode cX8_comesTo 14 = .ok (.iconst 0, 1) := by decide +kernel
theorem dX8_comesTo_15 : decode cX8_comesTo 15 = .ok (.istore 5, 2) := by decide +kernel
theorem dX8_comesTo_17 : decode cX8_comesTo 17 = .ok (.iload 5, 2) := by decide +kernel
theorem dX8_comesTo_19 : decode cX8_comesTo 19 = .ok (.aload_n 0, 1) := by decide +kernel
theorem dX8_comesTo_20 : decode cX8_comesTo 20 = .ok (.getfield 7, 3) := by decide +kernel
theorem dX8_comesTo_23 : decode cX8_comesTo 23 = .ok (.iconst 0, 1) := by decide +kernel
theorem dX8_comesTo_24 : decode cX8_comesTo 24 = .ok (.iaload, 1) := by decide +kernel
theorem dX8_comesTo_25 : decode cX8_comesTo 25 = .ok (.if_icmp .ge 35, 3) := by decide +kernel
theorem dX8_comesTo_28 : decode cX8_comesTo 28 = .ok (.iload_n 3, 1) := by decide +kernel
theorem dX8_comesTo_29 : decode cX8_comesTo 29 = .ok (.iload_n 3, 1) := by decide +kernel
theorem dX8_comesTo_30 : decode cX8_comesTo 30 = .ok (.iload 5, 2) := by decide +kernel
theorem dX8_comesTo_32 : decode cX8_comesTo 32 = .ok (.invokestatic 75, 3) := by decide +kernel
theorem dX8_comesTo_35 : decode cX8_comesTo 35 = .ok (.ifCond .eq 16, 3) := by decide +kernel
theorem dX8_comesTo_38 : decode cX8_comesTo 38 = .ok (.aload_n 0, 1) := by decide +kernel
theorem dX8_comesTo_39 : decode cX8_comesTo 39 = .ok (.getfield 7, 3) := by decide +kernel
theorem dX8_comesTo_42 : decode cX8_comesTo 42 = .ok (.bipush 20, 2) := by decide +kernel
theorem dX8_comesTo_44 : decode cX8_comesTo 44 = .ok (.iload 5, 2) := by decide +kernel
theorem dX8_comesTo_46 : decode cX8_comesTo 46 = .ok (.iadd, 1) := by decide +kernel
theorem dX8_comesTo_47 : decode cX8_comesTo 47 = .ok (.iaload, 1) := by decide +kernel
theorem dX8_comesTo_48 : decode cX8_comesTo 48 = .ok (.goto 4, 3) := by decide +kernel
theorem dX8_comesTo_51 : decode cX8_comesTo 51 = .ok (.iconst 0, 1) := by decide +kernel
theorem dX8_comesTo_52 : decode cX8_comesTo 52 = .ok (.ior, 1) := by decide +kernel
theorem dX8_comesTo_53 : decode cX8_comesTo 53 = .ok (.istore_n 3, 1) := by decide +kernel
theorem dX8_comesTo_54 : decode cX8_comesTo 54 = .ok (.iinc 5 1, 3) := by decide +kernel
theorem dX8_comesTo_57 : decode cX8_comesTo 57 = .ok (.goto (-40), 3) := by decide +kernel
theorem dX8_comesTo_60 : decode cX8_comesTo 60 = .ok (.iinc 4 1, 3) := by decide +kernel
theorem dX8_comesTo_63 : decode cX8_comesTo 63 = .ok (.goto (-56), 3) := by decide +kernel
theorem dX8_comesTo_66 : decode cX8_comesTo 66 = .ok (.iload_n 3, 1) := by decide +kernel
theorem dX8_comesTo_67 : decode cX8_comesTo 67 = .ok (.iload_n 2, 1) := by decide +kernel
theorem dX8_comesTo_68 : decode cX8_comesTo 68 = .ok (.invokestatic 75, 3) := by decide +kernel
theorem dX8_comesTo_71 : decode cX8_comesTo 71 = .ok (.ireturn, 1) := by decide +kernel
theorem dX8_puts_0 : decode cX8_puts 0 = .ok (.aload_n 0, 1) := by decide +kernel
theorem dX8_puts_1 : decode cX8_puts 1 = .ok (.iload_n 1, 1) := by decide +kernel
theorem dX8_puts_2 : decode cX8_puts 2 = .ok (.invokevirtual 104, 3) := by decide +kernel
theorem dX8_puts_5 : decode cX8_puts 5 = .ok (.ifCond .eq 16, 3) := by decide +kernel
theorem dX8_puts_8 : decode cX8_puts 8 = .ok (.aload_n 0, 1) := by decide +kernel
theorem dX8_puts_9 : decode cX8_puts 9 = .ok (.iload_n 2, 1) := by decide +kernel
theorem dX8_puts_10 : decode cX8_puts 10 = .ok (.invokevirtual 104, 3) := by decide +kernel
theorem dX8_puts_13 : decode cX8_puts 13 = .ok (.ifCond .eq 8, 3) := by decide +kernel
theorem dX8_puts_16 : decode cX8_puts 16 = .ok (.iload_n 1, 1) := by decide +kernel
theorem dX8_puts_17 : decode cX8_puts 17 = .ok (.iload_n 2, 1) := by decide +kernel
theorem dX8_puts_18 : decode cX8_puts 18 = .ok (.if_icmp .ne 5, 3) := by decide +kernel
theorem dX8_puts_21 : decode cX8_puts 21 = .ok (.iconst (-1), 1) := by decide +kernel
theorem dX8_puts_22 : decode cX8_puts 22 = .ok (.ireturn, 1) := by decide +kernel
theorem dX8_puts_23 : decode cX8_puts 23 = .ok (.aload_n 0, 1) := by decide +kernel
theorem dX8_puts_24 : decode cX8_puts 24 = .ok (.getfield 7, 3) := by decide +kernel
theorem dX8_puts_27 : decode cX8_puts 27 = .ok (.bipush 20, 2) := by decide +kernel
theorem dX8_puts_29 : decode cX8_puts 29 = .ok (.iload_n 1, 1) := by decide +kernel
theorem dX8_puts_30 : decode cX8_puts 30 = .ok (.iadd, 1) := by decide +kernel
theorem dX8_puts_31 : decode cX8_puts 31 = .ok (.iaload, 1) := by decide +kernel
theorem dX8_puts_32 : decode cX8_puts 32 = .ok (.iload_n 2, 1) := by decide +kernel
theorem dX8_puts_33 : decode cX8_puts 33 = .ok (.invokestatic 75, 3) := by decide +kernel
theorem dX8_puts_36 : decode cX8_puts 36 = .ok (.istore_n 3, 1) := by decide +kernel
theorem dX8_puts_37 : decode cX8_puts 37 = .ok (.iload_n 3, 1) := by decide +kernel
theorem dX8_puts_38 : decode cX8_puts 38 = .ok (.ifCond .ne 15, 3) := by decide +kernel
theorem dX8_puts_41 : decode cX8_puts 41 = .ok (.aload_n 0, 1) := by decide +kernel
theorem dX8_puts_42 : decode cX8_puts 42 = .ok (.iload_n 2, 1) := by decide +kernel
theorem dX8_puts_43 : decode cX8_puts 43 = .ok (.iload_n 1, 1) := by decide +kernel
theorem dX8_puts_44 : decode cX8_puts 44 = .ok (.invokevirtual 179, 3) := by decide +kernel
theorem dX8_puts_47 : decode cX8_puts 47 = .ok (.ifCond .eq 6, 3) := by decide +kernel
theorem dX8_puts_50 : decode cX8_puts 50 = .ok (.bipush (-2), 2) := by decide +kernel
theorem dX8_puts_52 : decode cX8_puts 52 = .ok (.ireturn, 1) := by decide +kernel
theorem dX8_puts_53 : decode cX8_puts 53 = .ok (.aload_n 0, 1) := by decide +kernel
theorem dX8_puts_54 : decode cX8_puts 54 = .ok (.getfield 7, 3) := by decide +kernel
theorem dX8_puts_57 : decode cX8_puts 57 = .ok (.bipush 20, 2) := by decide +kernel
theorem dX8_puts_59 : decode cX8_puts 59 = .ok (.iload_n 1, 1) := by decide +kernel
theorem dX8_puts_60 : decode cX8_puts 60 = .ok (.iadd, 1) := by decide +kernel
theorem dX8_puts_61 : decode cX8_puts 61 = .ok (.dup2, 1) := by decide +kernel
theorem dX8_puts_62 : decode cX8_puts 62 = .ok (.iaload, 1) := by decide +kernel
theorem dX8_puts_63 : decode cX8_puts 63 = .ok (.iconst 1, 1) := by decide +kernel
theorem dX8_puts_64 : decode cX8_puts 64 = .ok (.iload_n 2, 1) := by decide +kernel
theorem dX8_puts_65 : decode cX8_puts 65 = .ok (.ishl, 1) := by decide +kernel
theorem dX8_puts_66 : decode cX8_puts 66 = .ok (.ixor, 1) := by decide +kernel
theorem dX8_puts_67 : decode cX8_puts 67 = .ok (.iastore, 1) := by decide +kernel
theorem dX8_puts_68 : decode cX8_puts 68 = .ok (.iload_n 3, 1) := by decide +kernel
theorem dX8_puts_69 : decode cX8_puts 69 = .ok (.ifCond .eq 7, 3) := by decide +kernel
theorem dX8_puts_72 : decode cX8_puts 72 = .ok (.iconst 0, 1) := by decide +kernel
theorem dX8_puts_73 : decode cX8_puts 73 = .ok (.goto 4, 3) := by decide +kernel
theorem dX8_puts_76 : decode cX8_puts 76 = .ok (.iconst 1, 1) := by decide +kernel
theorem dX8_puts_77 : decode cX8_puts 77 = .ok (.ireturn, 1) := by decide +kernel
theorem dX8_sets_0 : decode cX8_sets 0 = .ok (.iload_n 1, 1) := by decide +kernel
theorem dX8_sets_1 : decode cX8_sets 1 = .ok (.invokestatic 172, 3) := by decide +kernel
theorem dX8_sets_4 : decode cX8_sets 4 = .ok (.ifCond .ne 5, 3) := by decide +kernel
theorem dX8_sets_7 : decode cX8_sets 7 = .ok (.iconst (-1), 1) := by decide +kernel
theorem dX8_sets_8 : decode cX8_sets 8 = .ok (.ireturn, 1) := by decide +kernel
theorem dX8_sets_9 : decode cX8_sets 9 = .ok (.aload_n 0, 1) := by decide +kernel
theorem dX8_sets_10 : decode cX8_sets 10 = .ok (.getfield 7, 3) := by decide +kernel
theorem dX8_sets_13 : decode cX8_sets 13 = .ok (.iconst 1, 1) := by decide +kernel
theorem dX8_sets_14 : decode cX8_sets 14 = .ok (.iaload, 1) := by decide +kernel
theorem dX8_sets_15 : decode cX8_sets 15 = .ok (.istore_n 2, 1) := by decide +kernel
theorem dX8_sets_16 : decode cX8_sets 16 = .ok (.iload_n 2, 1) := by decide +kernel
theorem dX8_sets_17 : decode cX8_sets 17 = .ok (.iload_n 1, 1) := by decide +kernel
theorem dX8_sets_18 : decode cX8_sets 18 = .ok (.if_icmp .ne 6, 3) := by decide +kernel
theorem dX8_sets_21 : decode cX8_sets 21 = .ok (.bipush (-2), 2) := by decide +kernel
theorem dX8_sets_23 : decode cX8_sets 23 = .ok (.ireturn, 1) := by decide +kernel
theorem dX8_sets_24 : decode cX8_sets 24 = .ok (.aload_n 0, 1) := by decide +kernel
theorem dX8_sets_25 : decode cX8_sets 25 = .ok (.getfield 7, 3) := by decide +kernel
theorem dX8_sets_28 : decode cX8_sets 28 = .ok (.iconst 1, 1) := by decide +kernel
theorem dX8_sets_29 : decode cX8_sets 29 = .ok (.iload_n 1, 1) := by decide +kernel
theorem dX8_sets_30 : decode cX8_sets 30 = .ok (.iastore, 1) := by decide +kernel
theorem dX8_sets_31 : decode cX8_sets 31 = .ok (.iload_n 2, 1) := by decide +kernel
theorem dX8_sets_32 : decode cX8_sets 32 = .ok (.ireturn, 1) := by decide +kernel
theorem dX8_tells_0 : decode cX8_tells 0 = .ok (.iload_n 1, 1) := by decide +kernel
theorem dX8_tells_1 : decode cX8_tells 1 = .ok (.ifCond .ne 15, 3) := by decide +kernel
theorem dX8_tells_4 : decode cX8_tells 4 = .ok (.iload_n 2, 1) := by decide +kernel
theorem dX8_tells_5 : decode cX8_tells 5 = .ok (.i2l, 1) := by decide +kernel
theorem dX8_tells_6 : decode cX8_tells 6 = .ok (.lconst 1, 1) := by decide +kernel
theorem dX8_tells_7 : decode cX8_tells 7 = .ok (.ldc2_w 182, 3) := by decide +kernel
theorem dX8_tells_10 : decode cX8_tells 10 = .ok (.invokestatic 71, 3) := by decide +kernel
theorem dX8_tells_13 : decode cX8_tells 13 = .ok (.goto 42, 3) := by decide +kernel
theorem dX8_tells_16 : decode cX8_tells 16 = .ok (.iload_n 1, 1) := by decide +kernel
theorem dX8_tells_17 : decode cX8_tells 17 = .ok (.iconst 1, 1) := by decide +kernel
theorem dX8_tells_18 : decode cX8_tells 18 = .ok (.if_icmp .ne 15, 3) := by decide +kernel
theorem dX8_tells_21 : decode cX8_tells 21 = .ok (.iload_n 2, 1) := by decide +kernel
theorem dX8_tells_22 : decode cX8_tells 22 = .ok (.i2l, 1) := by decide +kernel
theorem dX8_tells_23 : decode cX8_tells 23 = .ok (.lconst 0, 1) := by decide +kernel
theorem dX8_tells_24 : decode cX8_tells 24 = .ok (.ldc2_w 184, 3) := by decide +kernel
theorem dX8_tells_27 : decode cX8_tells 27 = .ok (.invokestatic 71, 3) := by decide +kernel
theorem dX8_tells_30 : decode cX8_tells 30 = .ok (.goto 25, 3) := by decide +kernel
theorem dX8_tells_33 : decode cX8_tells 33 = .ok (.iload_n 1, 1) := by decide +kernel
theorem dX8_tells_34 : decode cX8_tells 34 = .ok (.iconst 2, 1) := by decide +kernel
theorem dX8_tells_35 : decode cX8_tells 35 = .ok (.if_icmp .ne 19, 3) := by decide +kernel
theorem dX8_tells_38 : decode cX8_tells 38 = .ok (.iload_n 2, 1) := by decide +kernel
theorem dX8_tells_39 : decode cX8_tells 39 = .ok (.i2l, 1) := by decide +kernel
theorem dX8_tells_40 : decode cX8_tells 40 = .ok (.lconst 0, 1) := by decide +kernel
theorem dX8_tells_41 : decode cX8_tells 41 = .ok (.ldc2_w 186, 3) := by decide +kernel
theorem dX8_tells_44 : decode cX8_tells 44 = .ok (.invokestatic 71, 3) := by decide +kernel
theorem dX8_tells_47 : decode cX8_tells 47 = .ok (.ifCond .eq 7, 3) := by decide +kernel
theorem dX8_tells_50 : decode cX8_tells 50 = .ok (.iconst 1, 1) := by decide +kernel
theorem dX8_tells_51 : decode cX8_tells 51 = .ok (.goto 4, 3) := by decide +kernel
theorem dX8_tells_54 : decode cX8_tells 54 = .ok (.iconst 0, 1) := by decide +kernel
theorem dX8_tells_55 : decode cX8_tells 55 = .ok (.istore_n 3, 1) := by decide +kernel
theorem dX8_tells_56 : decode cX8_tells 56 = .ok (.iload_n 3, 1) := by decide +kernel
theorem dX8_tells_57 : decode cX8_tells 57 = .ok (.ifCond .ne 5, 3) := by decide +kernel
theorem dX8_tells_60 : decode cX8_tells 60 = .ok (.iconst (-1), 1) := by decide +kernel
theorem dX8_tells_61 : decode cX8_tells 61 = .ok (.ireturn, 1) := by decide +kernel
theorem dX8_tells_62 : decode cX8_tells 62 = .ok (.aload_n 0, 1) := by decide +kernel
theorem dX8_tells_63 : decode cX8_tells 63 = .ok (.getfield 7, 3) := by decide +kernel
theorem dX8_tells_66 : decode cX8_tells 66 = .ok (.iconst 2, 1) := by decide +kernel
theorem dX8_tells_67 : decode cX8_tells 67 = .ok (.iload_n 1, 1) := by decide +kernel
theorem dX8_tells_68 : decode cX8_tells 68 = .ok (.iadd, 1) := by decide +kernel
theorem dX8_tells_69 : decode cX8_tells 69 = .ok (.iaload, 1) := by decide +kernel
theorem dX8_tells_70 : decode cX8_tells 70 = .ok (.istore 4, 2) := by decide +kernel
theorem dX8_tells_72 : decode cX8_tells 72 = .ok (.iload 4, 2) := by decide +kernel
theorem dX8_tells_74 : decode cX8_tells 74 = .ok (.iload_n 2, 1) := by decide +kernel
theorem dX8_tells_75 : decode cX8_tells 75 = .ok (.if_icmp .ne 6, 3) := by decide +kernel
theorem dX8_tells_78 : decode cX8_tells 78 = .ok (.bipush (-2), 2) := by decide +kernel
theorem dX8_tells_80 : decode cX8_tells 80 = .ok (.ireturn, 1) := by decide +kernel
theorem dX8_tells_81 : decode cX8_tells 81 = .ok (.aload_n 0, 1) := by decide +kernel
theorem dX8_tells_82 : decode cX8_tells 82 = .ok (.getfield 7, 3) := by decide +kernel
theorem dX8_tells_85 : decode cX8_tells 85 = .ok (.iconst 2, 1) := by decide +kernel
theorem dX8_tells_86 : decode cX8_tells 86 = .ok (.iload_n 1, 1) := by decide +kernel
theorem dX8_tells_87 : decode cX8_tells 87 = .ok (.iadd, 1) := by decide +kernel
theorem dX8_tells_88 : decode cX8_tells 88 = .ok (.iload_n 2, 1) := by decide +kernel
theorem dX8_tells_89 : decode cX8_tells 89 = .ok (.iastore, 1) := by decide +kernel
theorem dX8_tells_90 : decode cX8_tells 90 = .ok (.iload 4, 2) := by decide +kernel
theorem dX8_tells_92 : decode cX8_tells 92 = .ok (.ireturn, 1) := by decide +kernel
theorem dX8_shifts_0 : decode cX8_shifts 0 = .ok (.iload_n 1, 1) := by decide +kernel
theorem dX8_shifts_1 : decode cX8_shifts 1 = .ok (.i2l, 1) := by decide +kernel
theorem dX8_shifts_2 : decode cX8_shifts 2 = .ok (.lconst 0, 1) := by decide +kernel
theorem dX8_shifts_3 : decode cX8_shifts 3 = .ok (.aload_n 0, 1) := by decide +kernel
theorem dX8_shifts_4 : decode cX8_shifts 4 = .ok (.getfield 7, 3) := by decide +kernel
theorem dX8_shifts_7 : decode cX8_shifts 7 = .ok (.iconst 0, 1) := by decide +kernel
theorem dX8_shifts_8 : decode cX8_shifts 8 = .ok (.iaload, 1) := by decide +kernel
theorem dX8_shifts_9 : decode cX8_shifts 9 = .ok (.iconst 1, 1) := by decide +kernel
theorem dX8_shifts_10 : decode cX8_shifts 10 = .ok (.isub, 1) := by decide +kernel
theorem dX8_shifts_11 : decode cX8_shifts 11 = .ok (.i2l, 1) := by decide +kernel
theorem dX8_shifts_12 : decode cX8_shifts 12 = .ok (.invokestatic 71, 3) := by decide +kernel
theorem dX8_shifts_15 : decode cX8_shifts 15 = .ok (.ifCond .eq 21, 3) := by decide +kernel
theorem dX8_shifts_18 : decode cX8_shifts 18 = .ok (.iload_n 2, 1) := by decide +kernel
theorem dX8_shifts_19 : decode cX8_shifts 19 = .ok (.i2l, 1) := by decide +kernel
theorem dX8_shifts_20 : decode cX8_shifts 20 = .ok (.lconst 0, 1) := by decide +kernel
theorem dX8_shifts_21 : decode cX8_shifts 21 = .ok (.aload_n 0, 1) := by decide +kernel
theorem dX8_shifts_22 : decode cX8_shifts 22 = .ok (.getfield 7, 3) := by decide +kernel
theorem dX8_shifts_25 : decode cX8_shifts 25 = .ok (.iconst 0, 1) := by decide +kernel
theorem dX8_shifts_26 : decode cX8_shifts 26 = .ok (.iaload, 1) := by decide +kernel
theorem dX8_shifts_27 : decode cX8_shifts 27 = .ok (.iconst 1, 1) := by decide +kernel
theorem dX8_shifts_28 : decode cX8_shifts 28 = .ok (.isub, 1) := by decide +kernel
theorem dX8_shifts_29 : decode cX8_shifts 29 = .ok (.i2l, 1) := by decide +kernel
theorem dX8_shifts_30 : decode cX8_shifts 30 = .ok (.invokestatic 71, 3) := by decide +kernel
theorem dX8_shifts_33 : decode cX8_shifts 33 = .ok (.ifCond .ne 5, 3) := by decide +kernel
theorem dX8_shifts_36 : decode cX8_shifts 36 = .ok (.iconst (-1), 1) := by decide +kernel
theorem dX8_shifts_37 : decode cX8_shifts 37 = .ok (.ireturn, 1) := by decide +kernel
theorem dX8_shifts_38 : decode cX8_shifts 38 = .ok (.iload_n 1, 1) := by decide +kernel
theorem dX8_shifts_39 : decode cX8_shifts 39 = .ok (.iload_n 2, 1) := by decide +kernel
theorem dX8_shifts_40 : decode cX8_shifts 40 = .ok (.if_icmp .ne 6, 3) := by decide +kernel
theorem dX8_shifts_43 : decode cX8_shifts 43 = .ok (.bipush (-2), 2) := by decide +kernel
theorem dX8_shifts_45 : decode cX8_shifts 45 = .ok (.ireturn, 1) := by decide +kernel
theorem dX8_shifts_46 : decode cX8_shifts 46 = .ok (.aload_n 0, 1) := by decide +kernel
theorem dX8_shifts_47 : decode cX8_shifts 47 = .ok (.getfield 7, 3) := by decide +kernel
theorem dX8_shifts_50 : decode cX8_shifts 50 = .ok (.bipush 6, 2) := by decide +kernel
theorem dX8_shifts_52 : decode cX8_shifts 52 = .ok (.iload_n 1, 1) := by decide +kernel
theorem dX8_shifts_53 : decode cX8_shifts 53 = .ok (.iadd, 1) := by decide +kernel
theorem dX8_shifts_54 : decode cX8_shifts 54 = .ok (.iaload, 1) := by decide +kernel
theorem dX8_shifts_55 : decode cX8_shifts 55 = .ok (.istore_n 3, 1) := by decide +kernel
theorem dX8_shifts_56 : decode cX8_shifts 56 = .ok (.iload_n 1, 1) := by decide +kernel
theorem dX8_shifts_57 : decode cX8_shifts 57 = .ok (.iload_n 2, 1) := by decide +kernel
theorem dX8_shifts_58 : decode cX8_shifts 58 = .ok (.if_icmp .ge 7, 3) := by decide +kernel
theorem dX8_shifts_61 : decode cX8_shifts 61 = .ok (.iconst 1, 1) := by decide +kernel
theorem dX8_shifts_62 : decode cX8_shifts 62 = .ok (.goto 4, 3) := by decide +kernel
theorem dX8_shifts_65 : decode cX8_shifts 65 = .ok (.iconst (-1), 1) := by decide +kernel
theorem dX8_shifts_66 : decode cX8_shifts 66 = .ok (.istore 4, 2) := by decide +kernel
theorem dX8_shifts_68 : decode cX8_shifts 68 = .ok (.iload_n 1, 1) := by decide +kernel
theorem dX8_shifts_69 : decode cX8_shifts 69 = .ok (.istore 5, 2) := by decide +kernel
theorem dX8_shifts_71 : decode cX8_shifts 71 = .ok (.iload 5, 2) := by decide +kernel
theorem dX8_shifts_73 : decode cX8_shifts 73 = .ok (.iload_n 2, 1) := by decide +kernel
theorem dX8_shifts_74 : decode cX8_shifts 74 = .ok (.if_icmp .eq 36, 3) := by decide +kernel
theorem dX8_shifts_77 : decode cX8_shifts 77 = .ok (.aload_n 0, 1) := by decide +kernel
theorem dX8_shifts_78 : decode cX8_shifts 78 = .ok (.getfield 7, 3) := by decide +kernel
theorem dX8_shifts_81 : decode cX8_shifts 81 = .ok (.bipush 6, 2) := by decide +kernel
theorem dX8_shifts_83 : decode cX8_shifts 83 = .ok (.iload 5, 2) := by decide +kernel
theorem dX8_shifts_85 : decode cX8_shifts 85 = .ok (.iadd, 1) := by decide +kernel
theorem dX8_shifts_86 : decode cX8_shifts 86 = .ok (.aload_n 0, 1) := by decide +kernel
theorem dX8_shifts_87 : decode cX8_shifts 87 = .ok (.getfield 7, 3) := by decide +kernel
theorem dX8_shifts_90 : decode cX8_shifts 90 = .ok (.bipush 6, 2) := by decide +kernel
theorem dX8_shifts_92 : decode cX8_shifts 92 = .ok (.iload 5, 2) := by decide +kernel
theorem dX8_shifts_94 : decode cX8_shifts 94 = .ok (.iadd, 1) := by decide +kernel
theorem dX8_shifts_95 : decode cX8_shifts 95 = .ok (.iload 4, 2) := by decide +kernel
theorem dX8_shifts_97 : decode cX8_shifts 97 = .ok (.iadd, 1) := by decide +kernel
theorem dX8_shifts_98 : decode cX8_shifts 98 = .ok (.iaload, 1) := by decide +kernel
theorem dX8_shifts_99 : decode cX8_shifts 99 = .ok (.iastore, 1) := by decide +kernel
theorem dX8_shifts_100 : decode cX8_shifts 100 = .ok (.iload 5, 2) := by decide +kernel
theorem dX8_shifts_102 : decode cX8_shifts 102 = .ok (.iload 4, 2) := by decide +kernel
theorem dX8_shifts_104 : decode cX8_shifts 104 = .ok (.iadd, 1) := by decide +kernel
theorem dX8_shifts_105 : decode cX8_shifts 105 = .ok (.istore 5, 2) := by decide +kernel
theorem dX8_shifts_107 : decode cX8_shifts 107 = .ok (.goto (-36), 3) := by decide +kernel
theorem dX8_shifts_110 : decode cX8_shifts 110 = .ok (.aload_n 0, 1) := by decide +kernel
theorem dX8_shifts_111 : decode cX8_shifts 111 = .ok (.getfield 7, 3) := by decide +kernel
theorem dX8_shifts_114 : decode cX8_shifts 114 = .ok (.bipush 6, 2) := by decide +kernel
theorem dX8_shifts_116 : decode cX8_shifts 116 = .ok (.iload_n 2, 1) := by decide +kernel
theorem dX8_shifts_117 : decode cX8_shifts 117 = .ok (.iadd, 1) := by decide +kernel
theorem dX8_shifts_118 : decode cX8_shifts 118 = .ok (.iload_n 3, 1) := by decide +kernel
theorem dX8_shifts_119 : decode cX8_shifts 119 = .ok (.iastore, 1) := by decide +kernel
theorem dX8_shifts_120 : decode cX8_shifts 120 = .ok (.iload_n 3, 1) := by decide +kernel
theorem dX8_shifts_121 : decode cX8_shifts 121 = .ok (.ireturn, 1) := by decide +kernel
theorem dX8_settles_0 : decode cX8_settles 0 = .ok (.iload_n 1, 1) := by decide +kernel
theorem dX8_settles_1 : decode cX8_settles 1 = .ok (.i2l, 1) := by decide +kernel
theorem dX8_settles_2 : decode cX8_settles 2 = .ok (.lconst 0, 1) := by decide +kernel
theorem dX8_settles_3 : decode cX8_settles 3 = .ok (.lconst 1, 1) := by decide +kernel
theorem dX8_settles_4 : decode cX8_settles 4 = .ok (.invokestatic 71, 3) := by decide +kernel
theorem dX8_settles_7 : decode cX8_settles 7 = .ok (.ifCond .ne 5, 3) := by decide +kernel
theorem dX8_settles_10 : decode cX8_settles 10 = .ok (.iconst (-1), 1) := by decide +kernel
theorem dX8_settles_11 : decode cX8_settles 11 = .ok (.ireturn, 1) := by decide +kernel
theorem dX8_settles_12 : decode cX8_settles 12 = .ok (.aload_n 0, 1) := by decide +kernel
theorem dX8_settles_13 : decode cX8_settles 13 = .ok (.invokevirtual 96, 3) := by decide +kernel
theorem dX8_settles_16 : decode cX8_settles 16 = .ok (.aload_n 0, 1) := by decide +kernel
theorem dX8_settles_17 : decode cX8_settles 17 = .ok (.invokevirtual 114, 3) := by decide +kernel
theorem dX8_settles_20 : decode cX8_settles 20 = .ok (.istore_n 2, 1) := by decide +kernel
theorem dX8_settles_21 : decode cX8_settles 21 = .ok (.iload_n 2, 1) := by decide +kernel
theorem dX8_settles_22 : decode cX8_settles 22 = .ok (.istore_n 3, 1) := by decide +kernel
theorem dX8_settles_23 : decode cX8_settles 23 = .ok (.iload_n 1, 1) := by decide +kernel
theorem dX8_settles_24 : decode cX8_settles 24 = .ok (.ifCond .ne 15, 3) := by decide +kernel
theorem dX8_settles_27 : decode cX8_settles 27 = .ok (.aload_n 0, 1) := by decide +kernel
theorem dX8_settles_28 : decode cX8_settles 28 = .ok (.invokevirtual 148, 3) := by decide +kernel
theorem dX8_settles_31 : decode cX8_settles 31 = .ok (.aload_n 0, 1) := by decide +kernel
theorem dX8_settles_32 : decode cX8_settles 32 = .ok (.getfield 131, 3) := by decide +kernel
theorem dX8_settles_35 : decode cX8_settles 35 = .ok (.istore_n 3, 1) := by decide +kernel
theorem dX8_settles_36 : decode cX8_settles 36 = .ok (.goto 12, 3) := by decide +kernel
theorem dX8_settles_39 : decode cX8_settles 39 = .ok (.aload_n 0, 1) := by decide +kernel
theorem dX8_settles_40 : decode cX8_settles 40 = .ok (.invokevirtual 151, 3) := by decide +kernel
theorem dX8_settles_43 : decode cX8_settles 43 = .ok (.aload_n 0, 1) := by decide +kernel
theorem dX8_settles_44 : decode cX8_settles 44 = .ok (.invokevirtual 114, 3) := by decide +kernel
theorem dX8_settles_47 : decode cX8_settles 47 = .ok (.istore_n 3, 1) := by decide +kernel
theorem dX8_settles_48 : decode cX8_settles 48 = .ok (.aload_n 0, 1) := by decide +kernel
theorem dX8_settles_49 : decode cX8_settles 49 = .ok (.getfield 7, 3) := by decide +kernel
theorem dX8_settles_52 : decode cX8_settles 52 = .ok (.iconst 0, 1) := by decide +kernel
theorem dX8_settles_53 : decode cX8_settles 53 = .ok (.iaload, 1) := by decide +kernel
theorem dX8_settles_54 : decode cX8_settles 54 = .ok (.ifCond .eq 8, 3) := by decide +kernel
theorem dX8_settles_57 : decode cX8_settles 57 = .ok (.iload_n 3, 1) := by decide +kernel
theorem dX8_settles_58 : decode cX8_settles 58 = .ok (.iload_n 2, 1) := by decide +kernel
theorem dX8_settles_59 : decode cX8_settles 59 = .ok (.if_icmp .ne 6, 3) := by decide +kernel
theorem dX8_settles_62 : decode cX8_settles 62 = .ok (.bipush (-2), 2) := by decide +kernel
theorem dX8_settles_64 : decode cX8_settles 64 = .ok (.ireturn, 1) := by decide +kernel
theorem dX8_settles_65 : decode cX8_settles 65 = .ok (.iload_n 3, 1) := by decide +kernel
theorem dX8_settles_66 : decode cX8_settles 66 = .ok (.istore 4, 2) := by decide +kernel
theorem dX8_settles_68 : decode cX8_settles 68 = .ok (.aload_n 0, 1) := by decide +kernel
theorem dX8_settles_69 : decode cX8_settles 69 = .ok (.getfield 7, 3) := by decide +kernel
theorem dX8_settles_72 : decode cX8_settles 72 = .ok (.iconst 0, 1) := by decide +kernel
theorem dX8_settles_73 : decode cX8_settles 73 = .ok (.iaload, 1) := by decide +kernel
theorem dX8_settles_74 : decode cX8_settles 74 = .ok (.iconst 1, 1) := by decide +kernel
theorem dX8_settles_75 : decode cX8_settles 75 = .ok (.isub, 1) := by decide +kernel
theorem dX8_settles_76 : decode cX8_settles 76 = .ok (.istore 5, 2) := by decide +kernel
theorem dX8_settles_78 : decode cX8_settles 78 = .ok (.iload 5, 2) := by decide +kernel
theorem dX8_settles_80 : decode cX8_settles 80 = .ok (.ifCond .lt 31, 3) := by decide +kernel
theorem dX8_settles_83 : decode cX8_settles 83 = .ok (.aload_n 0, 1) := by decide +kernel
theorem dX8_settles_84 : decode cX8_settles 84 = .ok (.getfield 7, 3) := by decide +kernel
theorem dX8_settles_87 : decode cX8_settles 87 = .ok (.bipush 6, 2) := by decide +kernel
theorem dX8_settles_89 : decode cX8_settles 89 = .ok (.iload 5, 2) := by decide +kernel
theorem dX8_settles_91 : decode cX8_settles 91 = .ok (.iadd, 1) := by decide +kernel
theorem dX8_settles_92 : decode cX8_settles 92 = .ok (.iload 4, 2) := by decide +kernel
theorem dX8_settles_94 : decode cX8_settles 94 = .ok (.bipush 10, 2) := by decide +kernel
theorem dX8_settles_96 : decode cX8_settles 96 = .ok (.irem, 1) := by decide +kernel
theorem dX8_settles_97 : decode cX8_settles 97 = .ok (.iastore, 1) := by decide +kernel
theorem dX8_settles_98 : decode cX8_settles 98 = .ok (.iload 4, 2) := by decide +kernel
theorem dX8_settles_100 : decode cX8_settles 100 = .ok (.bipush 10, 2) := by decide +kernel
theorem dX8_settles_102 : decode cX8_settles 102 = .ok (.idiv, 1) := by decide +kernel
theorem dX8_settles_103 : decode cX8_settles 103 = .ok (.istore 4, 2) := by decide +kernel
theorem dX8_settles_105 : decode cX8_settles 105 = .ok (.iinc 5 (-1), 3) := by decide +kernel
theorem dX8_settles_108 : decode cX8_settles 108 = .ok (.goto (-30), 3) := by decide +kernel
theorem dX8_settles_111 : decode cX8_settles 111 = .ok (.iload_n 3, 1) := by decide +kernel
theorem dX8_settles_112 : decode cX8_settles 112 = .ok (.ireturn, 1) := by decide +kernel
theorem dX8_book_0 : decode cX8_book 0 = .ok (.aload_n 0, 1) := by decide +kernel
theorem dX8_book_1 : decode cX8_book 1 = .ok (.invokevirtual 188, 3) := by decide +kernel
theorem dX8_book_4 : decode cX8_book 4 = .ok (.aload_n 0, 1) := by decide +kernel
theorem dX8_book_5 : decode cX8_book 5 = .ok (.aload_n 0, 1) := by decide +kernel
theorem dX8_book_6 : decode cX8_book 6 = .ok (.iload_n 1, 1) := by decide +kernel
theorem dX8_book_7 : decode cX8_book 7 = .ok (.invokevirtual 191, 3) := by decide +kernel
theorem dX8_book_10 : decode cX8_book 10 = .ok (.invokevirtual 194, 3) := by decide +kernel
theorem dX8_book_13 : decode cX8_book 13 = .ok (.ireturn, 1) := by decide +kernel
theorem dX8_words_0 : decode cX8_words 0 = .ok (.aload_n 0, 1) := by decide +kernel
theorem dX8_words_1 : decode cX8_words 1 = .ok (.invokevirtual 188, 3) := by decide +kernel
theorem dX8_words_4 : decode cX8_words 4 = .ok (.aload_n 0, 1) := by decide +kernel
theorem dX8_words_5 : decode cX8_words 5 = .ok (.aload_n 0, 1) := by decide +kernel
theorem dX8_words_6 : decode cX8_words 6 = .ok (.iload_n 1, 1) := by decide +kernel
theorem dX8_words_7 : decode cX8_words 7 = .ok (.iload_n 2, 1) := by decide +kernel
theorem dX8_words_8 : decode cX8_words 8 = .ok (.invokevirtual 197, 3) := by decide +kernel
theorem dX8_words_11 : decode cX8_words 11 = .ok (.invokevirtual 194, 3) := by decide +kernel
theorem dX8_words_14 : decode cX8_words 14 = .ok (.ireturn, 1) := by decide +kernel
theorem dX8_lose_0 : decode cX8_lose 0 = .ok (.aload_n 0, 1) := by decide +kernel
theorem dX8_lose_1 : decode cX8_lose 1 = .ok (.invokevirtual 188, 3) := by decide +kernel
theorem dX8_lose_4 : decode cX8_lose 4 = .ok (.aload_n 0, 1) := by decide +kernel
theorem dX8_lose_5 : decode cX8_lose 5 = .ok (.aload_n 0, 1) := by decide +kernel
theorem dX8_lose_6 : decode cX8_lose 6 = .ok (.iload_n 1, 1) := by decide +kernel
theorem dX8_lose_7 : decode cX8_lose 7 = .ok (.invokevirtual 200, 3) := by decide +kernel
theorem dX8_lose_10 : decode cX8_lose 10 = .ok (.invokevirtual 194, 3) := by decide +kernel
theorem dX8_lose_13 : decode cX8_lose 13 = .ok (.ireturn, 1) := by decide +kernel
theorem dX8_ahead_0 : decode cX8_ahead 0 = .ok (.aload_n 0, 1) := by decide +kernel
theorem dX8_ahead_1 : decode cX8_ahead 1 = .ok (.invokevirtual 188, 3) := by decide +kernel
theorem dX8_ahead_4 : decode cX8_ahead 4 = .ok (.aload_n 0, 1) := by decide +kernel
theorem dX8_ahead_5 : decode cX8_ahead 5 = .ok (.aload_n 0, 1) := by decide +kernel
theorem dX8_ahead_6 : decode cX8_ahead 6 = .ok (.iload_n 1, 1) := by decide +kernel
theorem dX8_ahead_7 : decode cX8_ahead 7 = .ok (.iload_n 2, 1) := by decide +kernel
theorem dX8_ahead_8 : decode cX8_ahead 8 = .ok (.invokevirtual 203, 3) := by decide +kernel
theorem dX8_ahead_11 : decode cX8_ahead 11 = .ok (.invokevirtual 194, 3) := by decide +kernel
theorem dX8_ahead_14 : decode cX8_ahead 14 = .ok (.ireturn, 1) := by decide +kernel
theorem dX8_prior_0 : decode cX8_prior 0 = .ok (.aload_n 0, 1) := by decide +kernel
theorem dX8_prior_1 : decode cX8_prior 1 = .ok (.invokevirtual 188, 3) := by decide +kernel
theorem dX8_prior_4 : decode cX8_prior 4 = .ok (.aload_n 0, 1) := by decide +kernel
theorem dX8_prior_5 : decode cX8_prior 5 = .ok (.aload_n 0, 1) := by decide +kernel
theorem dX8_prior_6 : decode cX8_prior 6 = .ok (.iload_n 1, 1) := by decide +kernel
theorem dX8_prior_7 : decode cX8_prior 7 = .ok (.invokevirtual 206, 3) := by decide +kernel
theorem dX8_prior_10 : decode cX8_prior 10 = .ok (.invokevirtual 194, 3) := by decide +kernel
theorem dX8_prior_13 : decode cX8_prior 13 = .ok (.ireturn, 1) := by decide +kernel
theorem dX8_tell_0 : decode cX8_tell 0 = .ok (.aload_n 0, 1) := by decide +kernel
theorem dX8_tell_1 : decode cX8_tell 1 = .ok (.invokevirtual 188, 3) := by decide +kernel
theorem dX8_tell_4 : decode cX8_tell 4 = .ok (.aload_n 0, 1) := by decide +kernel
theorem dX8_tell_5 : decode cX8_tell 5 = .ok (.aload_n 0, 1) := by decide +kernel
theorem dX8_tell_6 : decode cX8_tell 6 = .ok (.iload_n 1, 1) := by decide +kernel
theorem dX8_tell_7 : decode cX8_tell 7 = .ok (.iload_n 2, 1) := by decide +kernel
theorem dX8_tell_8 : decode cX8_tell 8 = .ok (.invokevirtual 209, 3) := by decide +kernel
theorem dX8_tell_11 : decode cX8_tell 11 = .ok (.invokevirtual 194, 3) := by decide +kernel
theorem dX8_tell_14 : decode cX8_tell 14 = .ok (.ireturn, 1) := by decide +kernel
theorem dX8_move_0 : decode cX8_move 0 = .ok (.aload_n 0, 1) := by decide +kernel
theorem dX8_move_1 : decode cX8_move 1 = .ok (.invokevirtual 188, 3) := by decide +kernel
theorem dX8_move_4 : decode cX8_move 4 = .ok (.aload_n 0, 1) := by decide +kernel
theorem dX8_move_5 : decode cX8_move 5 = .ok (.aload_n 0, 1) := by decide +kernel
theorem dX8_move_6 : decode cX8_move 6 = .ok (.iload_n 1, 1) := by decide +kernel
theorem dX8_move_7 : decode cX8_move 7 = .ok (.iload_n 2, 1) := by decide +kernel
theorem dX8_move_8 : decode cX8_move 8 = .ok (.invokevirtual 212, 3) := by decide +kernel
theorem dX8_move_11 : decode cX8_move 11 = .ok (.invokevirtual 194, 3) := by decide +kernel
theorem dX8_move_14 : decode cX8_move 14 = .ok (.ireturn, 1) := by decide +kernel
theorem dX8_settle_0 : decode cX8_settle 0 = .ok (.aload_n 0, 1) := by decide +kernel
theorem dX8_settle_1 : decode cX8_settle 1 = .ok (.invokevirtual 188, 3) := by decide +kernel
theorem dX8_settle_4 : decode cX8_settle 4 = .ok (.aload_n 0, 1) := by decide +kernel
theorem dX8_settle_5 : decode cX8_settle 5 = .ok (.aload_n 0, 1) := by decide +kernel
theorem dX8_settle_6 : decode cX8_settle 6 = .ok (.iload_n 1, 1) := by decide +kernel
theorem dX8_settle_7 : decode cX8_settle 7 = .ok (.invokevirtual 215, 3) := by decide +kernel
theorem dX8_settle_10 : decode cX8_settle 10 = .ok (.invokevirtual 194, 3) := by decide +kernel
theorem dX8_settle_13 : decode cX8_settle 13 = .ok (.ireturn, 1) := by decide +kernel
theorem dX8_type_0 : decode cX8_type 0 = .ok (.iload_n 1, 1) := by decide +kernel
theorem dX8_type_1 : decode cX8_type 1 = .ok (.i2l, 1) := by decide +kernel
theorem dX8_type_2 : decode cX8_type 2 = .ok (.ldc2_w 218, 3) := by decide +kernel
theorem dX8_type_5 : decode cX8_type 5 = .ok (.ldc2_w 220, 3) := by decide +kernel
theorem dX8_type_8 : decode cX8_type 8 = .ok (.invokestatic 71, 3) := by decide +kernel
theorem dX8_type_11 : decode cX8_type 11 = .ok (.ifCond .ne 5, 3) := by decide +kernel
theorem dX8_type_14 : decode cX8_type 14 = .ok (.iconst (-1), 1) := by decide +kernel
theorem dX8_type_15 : decode cX8_type 15 = .ok (.ireturn, 1) := by decide +kernel
theorem dX8_type_16 : decode cX8_type 16 = .ok (.aload_n 0, 1) := by decide +kernel
theorem dX8_type_17 : decode cX8_type 17 = .ok (.getfield 222, 3) := by decide +kernel
theorem dX8_type_20 : decode cX8_type 20 = .ok (.bipush 90, 2) := by decide +kernel
theorem dX8_type_22 : decode cX8_type 22 = .ok (.if_icmp .ne 6, 3) := by decide +kernel
theorem dX8_type_25 : decode cX8_type 25 = .ok (.bipush (-3), 2) := by decide +kernel
theorem dX8_type_27 : decode cX8_type 27 = .ok (.ireturn, 1) := by decide +kernel
theorem dX8_type_28 : decode cX8_type 28 = .ok (.aload_n 0, 1) := by decide +kernel
theorem dX8_type_29 : decode cX8_type 29 = .ok (.getfield 26, 3) := by decide +kernel
theorem dX8_type_32 : decode cX8_type 32 = .ok (.aload_n 0, 1) := by decide +kernel
theorem dX8_type_33 : decode cX8_type 33 = .ok (.getfield 222, 3) := by decide +kernel
theorem dX8_type_36 : decode cX8_type 36 = .ok (.iload_n 1, 1) := by decide +kernel
theorem dX8_type_37 : decode cX8_type 37 = .ok (.iastore, 1) := by decide +kernel
theorem dX8_type_38 : decode cX8_type 38 = .ok (.aload_n 0, 1) := by decide +kernel
theorem dX8_type_39 : decode cX8_type 39 = .ok (.dup, 1) := by decide +kernel
theorem dX8_type_40 : decode cX8_type 40 = .ok (.getfield 222, 3) := by decide +kernel
theorem dX8_type_43 : decode cX8_type 43 = .ok (.iconst 1, 1) := by decide +kernel
theorem dX8_type_44 : decode cX8_type 44 = .ok (.iadd, 1) := by decide +kernel
theorem dX8_type_45 : decode cX8_type 45 = .ok (.putfield 222, 3) := by decide +kernel
theorem dX8_type_48 : decode cX8_type 48 = .ok (.aload_n 0, 1) := by decide +kernel
theorem dX8_type_49 : decode cX8_type 49 = .ok (.getfield 222, 3) := by decide +kernel
theorem dX8_type_52 : decode cX8_type 52 = .ok (.ireturn, 1) := by decide +kernel
theorem dX8_here_0 : decode cX8_here 0 = .ok (.aload_n 0, 1) := by decide +kernel
theorem dX8_here_1 : decode cX8_here 1 = .ok (.getfield 225, 3) := by decide +kernel
theorem dX8_here_4 : decode cX8_here 4 = .ok (.aload_n 0, 1) := by decide +kernel
theorem dX8_here_5 : decode cX8_here 5 = .ok (.getfield 222, 3) := by decide +kernel
theorem dX8_here_8 : decode cX8_here 8 = .ok (.if_icmp .ge 30, 3) := by decide +kernel
theorem dX8_here_11 : decode cX8_here 11 = .ok (.aload_n 0, 1) := by decide +kernel
theorem dX8_here_12 : decode cX8_here 12 = .ok (.getfield 26, 3) := by decide +kernel
theorem dX8_here_15 : decode cX8_here 15 = .ok (.aload_n 0, 1) := by decide +kernel
theorem dX8_here_16 : decode cX8_here 16 = .ok (.getfield 225, 3) := by decide +kernel
theorem dX8_here_19 : decode cX8_here 19 = .ok (.iaload, 1) := by decide +kernel
theorem dX8_here_20 : decode cX8_here 20 = .ok (.bipush 32, 2) := by decide +kernel
theorem dX8_here_22 : decode cX8_here 22 = .ok (.if_icmp .ne 16, 3) := by decide +kernel
theorem dX8_here_25 : decode cX8_here 25 = .ok (.aload_n 0, 1) := by decide +kernel
theorem dX8_here_26 : decode cX8_here 26 = .ok (.dup, 1) := by decide +kernel
theorem dX8_here_27 : decode cX8_here 27 = .ok (.getfield 225, 3) := by decide +kernel
theorem dX8_here_30 : decode cX8_here 30 = .ok (.iconst 1, 1) := by decide +kernel
theorem dX8_here_31 : decode cX8_here 31 = .ok (.iadd, 1) := by decide +kernel
theorem dX8_here_32 : decode cX8_here 32 = .ok (.putfield 225, 3) := by decide +kernel
theorem dX8_here_35 : decode cX8_here 35 = .ok (.goto (-35), 3) := by decide +kernel
theorem dX8_here_38 : decode cX8_here 38 = .ok (.aload_n 0, 1) := by decide +kernel
theorem dX8_here_39 : decode cX8_here 39 = .ok (.getfield 225, 3) := by decide +kernel
theorem dX8_here_42 : decode cX8_here 42 = .ok (.aload_n 0, 1) := by decide +kernel
theorem dX8_here_43 : decode cX8_here 43 = .ok (.getfield 222, 3) := by decide +kernel
theorem dX8_here_46 : decode cX8_here 46 = .ok (.if_icmp .ge 15, 3) := by decide +kernel
theorem dX8_here_49 : decode cX8_here 49 = .ok (.aload_n 0, 1) := by decide +kernel
theorem dX8_here_50 : decode cX8_here 50 = .ok (.getfield 26, 3) := by decide +kernel
theorem dX8_here_53 : decode cX8_here 53 = .ok (.aload_n 0, 1) := by decide +kernel
theorem dX8_here_54 : decode cX8_here 54 = .ok (.getfield 225, 3) := by decide +kernel
theorem dX8_here_57 : decode cX8_here 57 = .ok (.iaload, 1) := by decide +kernel
theorem dX8_here_58 : decode cX8_here 58 = .ok (.goto 4, 3) := by decide +kernel
theorem dX8_here_61 : decode cX8_here 61 = .ok (.iconst 0, 1) := by decide +kernel
theorem dX8_here_62 : decode cX8_here 62 = .ok (.ireturn, 1) := by decide +kernel
theorem dX8_isAt_0 : decode cX8_isAt 0 = .ok (.iload_n 1, 1) := by decide +kernel
theorem dX8_isAt_1 : decode cX8_isAt 1 = .ok (.aload_n 0, 1) := by decide +kernel
theorem dX8_isAt_2 : decode cX8_isAt 2 = .ok (.getfield 222, 3) := by decide +kernel
theorem dX8_isAt_5 : decode cX8_isAt 5 = .ok (.if_icmp .ge 24, 3) := by decide +kernel
theorem dX8_isAt_8 : decode cX8_isAt 8 = .ok (.aload_n 0, 1) := by decide +kernel
theorem dX8_isAt_9 : decode cX8_isAt 9 = .ok (.getfield 26, 3) := by decide +kernel
theorem dX8_isAt_12 : decode cX8_isAt 12 = .ok (.iload_n 1, 1) := by decide +kernel
theorem dX8_isAt_13 : decode cX8_isAt 13 = .ok (.iaload, 1) := by decide +kernel
theorem dX8_isAt_14 : decode cX8_isAt 14 = .ok (.i2l, 1) := by decide +kernel
theorem dX8_isAt_15 : decode cX8_isAt 15 = .ok (.iload_n 2, 1) := by decide +kernel
theorem dX8_isAt_16 : decode cX8_isAt 16 = .ok (.i2l, 1) := by decide +kernel
theorem dX8_isAt_17 : decode cX8_isAt 17 = .ok (.iload_n 3, 1) := by decide +kernel
theorem dX8_isAt_18 : decode cX8_isAt 18 = .ok (.i2l, 1) := by decide +kernel
theorem dX8_isAt_19 : decode cX8_isAt 19 = .ok (.invokestatic 71, 3) := by decide +kernel
theorem dX8_isAt_22 : decode cX8_isAt 22 = .ok (.ifCond .eq 7, 3) := by decide +kernel
theorem dX8_isAt_25 : decode cX8_isAt 25 = .ok (.iconst 1, 1) := by decide +kernel
theorem dX8_isAt_26 : decode cX8_isAt 26 = .ok (.goto 4, 3) := by decide +kernel
theorem dX8_isAt_29 : decode cX8_isAt 29 = .ok (.iconst 0, 1) := by decide +kernel
theorem dX8_isAt_30 : decode cX8_isAt 30 = .ok (.ireturn, 1) := by decide +kernel
theorem dX8_isWord_0 : decode cX8_isWord 0 = .ok (.aload_n 0, 1) := by decide +kernel
theorem dX8_isWord_1 : decode cX8_isWord 1 = .ok (.getfield 225, 3) := by decide +kernel
theorem dX8_isWord_4 : decode cX8_isWord 4 = .ok (.iload_n 1, 1) := by decide +kernel
theorem dX8_isWord_5 : decode cX8_isWord 5 = .ok (.iadd, 1) := by decide +kernel
theorem dX8_isWord_6 : decode cX8_isWord 6 = .ok (.aload_n 0, 1) := by decide +kernel
theorem dX8_isWord_7 : decode cX8_isWord 7 = .ok (.getfield 222, 3) := by decide +kernel
theorem dX8_isWord_10 : decode cX8_isWord 10 = .ok (.if_icmp .gt 84, 3) := by decide +kernel
theorem dX8_isWord_13 : decode cX8_isWord 13 = .ok (.aload_n 0, 1) := by decide +kernel
theorem dX8_isWord_14 : decode cX8_isWord 14 = .ok (.getfield 26, 3) := by decide +kernel
theorem dX8_isWord_17 : decode cX8_isWord 17 = .ok (.aload_n 0, 1) := by decide +kernel
theorem dX8_isWord_18 : decode cX8_isWord 18 = .ok (.getfield 225, 3) := by decide +kernel
theorem dX8_isWord_21 : decode cX8_isWord 21 = .ok (.iaload, 1) := by decide +kernel
theorem dX8_isWord_22 : decode cX8_isWord 22 = .ok (.iload_n 2, 1) := by decide +kernel
theorem dX8_isWord_23 : decode cX8_isWord 23 = .ok (.if_icmp .ne 71, 3) := by decide +kernel
theorem dX8_isWord_26 : decode cX8_isWord 26 = .ok (.aload_n 0, 1) := by decide +kernel
theorem dX8_isWord_27 : decode cX8_isWord 27 = .ok (.getfield 26, 3) := by decide +kernel
theorem dX8_isWord_30 : decode cX8_isWord 30 = .ok (.aload_n 0, 1) := by decide +kernel
theorem dX8_isWord_31 : decode cX8_isWord 31 = .ok (.getfield 225, 3) := by decide +kernel
theorem dX8_isWord_34 : decode cX8_isWord 34 = .ok (.iconst 1, 1) := by decide +kernel
theorem dX8_isWord_35 : decode cX8_isWord 35 = .ok (.iadd, 1) := by decide +kernel
theorem dX8_isWord_36 : decode cX8_isWord 36 = .ok (.iaload, 1) := by decide +kernel
theorem dX8_isWord_37 : decode cX8_isWord 37 = .ok (.iload_n 3, 1) := by decide +kernel
theorem dX8_isWord_38 : decode cX8_isWord 38 = .ok (.if_icmp .ne 56, 3) := by decide +kernel
theorem dX8_isWord_41 : decode cX8_isWord 41 = .ok (.aload_n 0, 1) := by decide +kernel
theorem dX8_isWord_42 : decode cX8_isWord 42 = .ok (.getfield 26, 3) := by decide +kernel
theorem dX8_isWord_45 : decode cX8_isWord 45 = .ok (.aload_n 0, 1) := by decide +kernel
theorem dX8_isWord_46 : decode cX8_isWord 46 = .ok (.getfield 225, 3) := by decide +kernel
theorem dX8_isWord_49 : decode cX8_isWord 49 = .ok (.iconst 2, 1) := by decide +kernel
theorem dX8_isWord_50 : decode cX8_isWord 50 = .ok (.iadd, 1) := by decide +kernel
theorem dX8_isWord_51 : decode cX8_isWord 51 = .ok (.iaload, 1) := by decide +kernel
theorem dX8_isWord_52 : decode cX8_isWord 52 = .ok (.iload 4, 2) := by decide +kernel
theorem dX8_isWord_54 : decode cX8_isWord 54 = .ok (.if_icmp .ne 40, 3) := by decide +kernel
theorem dX8_isWord_57 : decode cX8_isWord 57 = .ok (.aload_n 0, 1) := by decide +kernel
theorem dX8_isWord_58 : decode cX8_isWord 58 = .ok (.getfield 26, 3) := by decide +kernel
theorem dX8_isWord_61 : decode cX8_isWord 61 = .ok (.aload_n 0, 1) := by decide +kernel
theorem dX8_isWord_62 : decode cX8_isWord 62 = .ok (.getfield 225, 3) := by decide +kernel
theorem dX8_isWord_65 : decode cX8_isWord 65 = .ok (.iconst 3, 1) := by decide +kernel
theorem dX8_isWord_66 : decode cX8_isWord 66 = .ok (.iadd, 1) := by decide +kernel
theorem dX8_isWord_67 : decode cX8_isWord 67 = .ok (.iaload, 1) := by decide +kernel
theorem dX8_isWord_68 : decode cX8_isWord 68 = .ok (.iload 5, 2) := by decide +kernel
theorem dX8_isWord_70 : decode cX8_isWord 70 = .ok (.if_icmp .ne 24, 3) := by decide +kernel
theorem dX8_isWord_73 : decode cX8_isWord 73 = .ok (.aload_n 0, 1) := by decide +kernel
theorem dX8_isWord_74 : decode cX8_isWord 74 = .ok (.aload_n 0, 1) := by decide +kernel
theorem dX8_isWord_75 : decode cX8_isWord 75 = .ok (.getfield 225, 3) := by decide +kernel
theorem dX8_isWord_78 : decode cX8_isWord 78 = .ok (.iload_n 1, 1) := by decide +kernel
theorem dX8_isWord_79 : decode cX8_isWord 79 = .ok (.iadd, 1) := by decide +kernel
theorem dX8_isWord_80 : decode cX8_isWord 80 = .ok (.bipush 97, 2) := by decide +kernel
theorem dX8_isWord_82 : decode cX8_isWord 82 = .ok (.bipush 122, 2) := by decide +kernel
theorem dX8_isWord_84 : decode cX8_isWord 84 = .ok (.invokevirtual 228, 3) := by decide +kernel
theorem dX8_isWord_87 : decode cX8_isWord 87 = .ok (.ifCond .ne 7, 3) := by decide +kernel
theorem dX8_isWord_90 : decode cX8_isWord 90 = .ok (.iconst 1, 1) := by decide +kernel
theorem dX8_isWord_91 : decode cX8_isWord 91 = .ok (.goto 4, 3) := by decide +kernel
theorem dX8_isWord_94 : decode cX8_isWord 94 = .ok (.iconst 0, 1) := by decide +kernel
theorem dX8_isWord_95 : decode cX8_isWord 95 = .ok (.ireturn, 1) := by decide +kernel
theorem dX8_isMore_0 : decode cX8_isMore 0 = .ok (.aload_n 0, 1) := by decide +kernel
theorem dX8_isMore_1 : decode cX8_isMore 1 = .ok (.getfield 26, 3) := by decide +kernel
theorem dX8_isMore_4 : decode cX8_isMore 4 = .ok (.iload_n 1, 1) := by decide +kernel
theorem dX8_isMore_5 : decode cX8_isMore 5 = .ok (.iaload, 1) := by decide +kernel
theorem dX8_isMore_6 : decode cX8_isMore 6 = .ok (.iload_n 2, 1) := by decide +kernel
theorem dX8_isMore_7 : decode cX8_isMore 7 = .ok (.if_icmp .ne 45, 3) := by decide +kernel
theorem dX8_isMore_10 : decode cX8_isMore 10 = .ok (.aload_n 0, 1) := by decide +kernel
theorem dX8_isMore_11 : decode cX8_isMore 11 = .ok (.getfield 26, 3) := by decide +kernel
theorem dX8_isMore_14 : decode cX8_isMore 14 = .ok (.iload_n 1, 1) := by decide +kernel
theorem dX8_isMore_15 : decode cX8_isMore 15 = .ok (.iconst 1, 1) := by decide +kernel
theorem dX8_isMore_16 : decode cX8_isMore 16 = .ok (.iadd, 1) := by decide +kernel
theorem dX8_isMore_17 : decode cX8_isMore 17 = .ok (.iaload, 1) := by decide +kernel
theorem dX8_isMore_18 : decode cX8_isMore 18 = .ok (.iload_n 3, 1) := by decide +kernel
theorem dX8_isMore_19 : decode cX8_isMore 19 = .ok (.if_icmp .ne 33, 3) := by decide +kernel
theorem dX8_isMore_22 : decode cX8_isMore 22 = .ok (.aload_n 0, 1) := by decide +kernel
theorem dX8_isMore_23 : decode cX8_isMore 23 = .ok (.getfield 26, 3) := by decide +kernel
theorem dX8_isMore_26 : decode cX8_isMore 26 = .ok (.iload_n 1, 1) := by decide +kernel
theorem dX8_isMore_27 : decode cX8_isMore 27 = .ok (.iconst 2, 1) := by decide +kernel
theorem dX8_isMore_28 : decode cX8_isMore 28 = .ok (.iadd, 1) := by decide +kernel
theorem dX8_isMore_29 : decode cX8_isMore 29 = .ok (.iaload, 1) := by decide +kernel
theorem dX8_isMore_30 : decode cX8_isMore 30 = .ok (.iload 4, 2) := by decide +kernel
theorem dX8_isMore_32 : decode cX8_isMore 32 = .ok (.if_icmp .ne 20, 3) := by decide +kernel
theorem dX8_isMore_35 : decode cX8_isMore 35 = .ok (.aload_n 0, 1) := by decide +kernel
theorem dX8_isMore_36 : decode cX8_isMore 36 = .ok (.getfield 26, 3) := by decide +kernel
theorem dX8_isMore_39 : decode cX8_isMore 39 = .ok (.iload_n 1, 1) := by decide +kernel
theorem dX8_isMore_40 : decode cX8_isMore 40 = .ok (.iconst 3, 1) := by decide +kernel
theorem dX8_isMore_41 : decode cX8_isMore 41 = .ok (.iadd, 1) := by decide +kernel
theorem dX8_isMore_42 : decode cX8_isMore 42 = .ok (.iaload, 1) := by decide +kernel
theorem dX8_isMore_43 : decode cX8_isMore 43 = .ok (.iload 5, 2) := by decide +kernel
theorem dX8_isMore_45 : decode cX8_isMore 45 = .ok (.if_icmp .ne 7, 3) := by decide +kernel
theorem dX8_isMore_48 : decode cX8_isMore 48 = .ok (.iconst 1, 1) := by decide +kernel
theorem dX8_isMore_49 : decode cX8_isMore 49 = .ok (.goto 4, 3) := by decide +kernel
theorem dX8_isMore_52 : decode cX8_isMore 52 = .ok (.iconst 0, 1) := by decide +kernel
theorem dX8_isMore_53 : decode cX8_isMore 53 = .ok (.ireturn, 1) := by decide +kernel
theorem dX8_rule_0 : decode cX8_rule 0 = .ok (.aload_n 0, 1) := by decide +kernel
theorem dX8_rule_1 : decode cX8_rule 1 = .ok (.invokevirtual 232, 3) := by decide +kernel
theorem dX8_rule_4 : decode cX8_rule 4 = .ok (.pop, 1) := by decide +kernel
theorem dX8_rule_5 : decode cX8_rule 5 = .ok (.aload_n 0, 1) := by decide +kernel
theorem dX8_rule_6 : decode cX8_rule 6 = .ok (.bipush 6, 2) := by decide +kernel
theorem dX8_rule_8 : decode cX8_rule 8 = .ok (.bipush 115, 2) := by decide +kernel
theorem dX8_rule_10 : decode cX8_rule 10 = .ok (.bipush 116, 2) := by decide +kernel
theorem dX8_rule_12 : decode cX8_rule 12 = .ok (.bipush 101, 2) := by decide +kernel
theorem dX8_rule_14 : decode cX8_rule 14 = .ok (.bipush 97, 2) := by decide +kernel
theorem dX8_rule_16 : decode cX8_rule 16 = .ok (.invokevirtual 235, 3) := by decide +kernel
theorem dX8_rule_19 : decode cX8_rule 19 = .ok (.ifCond .eq 37, 3) := by decide +kernel
theorem dX8_rule_22 : decode cX8_rule 22 = .ok (.aload_n 0, 1) := by decide +kernel
theorem dX8_rule_23 : decode cX8_rule 23 = .ok (.getfield 26, 3) := by decide +kernel
theorem dX8_rule_26 : decode cX8_rule 26 = .ok (.aload_n 0, 1) := by decide +kernel
theorem dX8_rule_27 : decode cX8_rule 27 = .ok (.getfield 225, 3) := by decide +kernel
theorem dX8_rule_30 : decode cX8_rule 30 = .ok (.iconst 4, 1) := by decide +kernel
theorem dX8_rule_31 : decode cX8_rule 31 = .ok (.iadd, 1) := by decide +kernel
theorem dX8_rule_32 : decode cX8_rule 32 = .ok (.iaload, 1) := by decide +kernel
theorem dX8_rule_33 : decode cX8_rule 33 = .ok (.bipush 100, 2) := by decide +kernel
theorem dX8_rule_35 : decode cX8_rule 35 = .ok (.if_icmp .ne 21, 3) := by decide +kernel
theorem dX8_rule_38 : decode cX8_rule 38 = .ok (.aload_n 0, 1) := by decide +kernel
theorem dX8_rule_39 : decode cX8_rule 39 = .ok (.getfield 26, 3) := by decide +kernel
theorem dX8_rule_42 : decode cX8_rule 42 = .ok (.aload_n 0, 1) := by decide +kernel
theorem dX8_rule_43 : decode cX8_rule 43 = .ok (.getfield 225, 3) := by decide +kernel
theorem dX8_rule_46 : decode cX8_rule 46 = .ok (.iconst 5, 1) := by decide +kernel
theorem dX8_rule_47 : decode cX8_rule 47 = .ok (.iadd, 1) := by decide +kernel
theorem dX8_rule_48 : decode cX8_rule 48 = .ok (.iaload, 1) := by decide +kernel
theorem dX8_rule_49 : decode cX8_rule 49 = .ok (.bipush 121, 2) := by decide +kernel
theorem dX8_rule_51 : decode cX8_rule 51 = .ok (.if_icmp .ne 5, 3) := by decide +kernel
theorem dX8_rule_54 : decode cX8_rule 54 = .ok (.iconst 0, 1) := by decide +kernel
theorem dX8_rule_55 : decode cX8_rule 55 = .ok (.ireturn, 1) := by decide +kernel
theorem dX8_rule_56 : decode cX8_rule 56 = .ok (.aload_n 0, 1) := by decide +kernel
theorem dX8_rule_57 : decode cX8_rule 57 = .ok (.bipush 7, 2) := by decide +kernel
theorem dX8_rule_59 : decode cX8_rule 59 = .ok (.bipush 103, 2) := by decide +kernel
theorem dX8_rule_61 : decode cX8_rule 61 = .ok (.bipush 114, 2) := by decide +kernel
theorem dX8_rule_63 : decode cX8_rule 63 = .ok (.bipush 111, 2) := by decide +kernel
theorem dX8_rule_65 : decode cX8_rule 65 = .ok (.bipush 119, 2) := by decide +kernel
theorem dX8_rule_67 : decode cX8_rule 67 = .ok (.invokevirtual 235, 3) := by decide +kernel
theorem dX8_rule_70 : decode cX8_rule 70 = .ok (.ifCond .eq 26, 3) := by decide +kernel
theorem dX8_rule_73 : decode cX8_rule 73 = .ok (.aload_n 0, 1) := by decide +kernel
theorem dX8_rule_74 : decode cX8_rule 74 = .ok (.aload_n 0, 1) := by decide +kernel
theorem dX8_rule_75 : decode cX8_rule 75 = .ok (.getfield 225, 3) := by decide +kernel
theorem dX8_rule_78 : decode cX8_rule 78 = .ok (.iconst 3, 1) := by decide +kernel
theorem dX8_rule_79 : decode cX8_rule 79 = .ok (.iadd, 1) := by decide +kernel
theorem dX8_rule_80 : decode cX8_rule 80 = .ok (.bipush 119, 2) := by decide +kernel
theorem dX8_rule_82 : decode cX8_rule 82 = .ok (.bipush 105, 2) := by decide +kernel
theorem dX8_rule_84 : decode cX8_rule 84 = .ok (.bipush 110, 2) := by decide +kernel
theorem dX8_rule_86 : decode cX8_rule 86 = .ok (.bipush 103, 2) := by decide +kernel
theorem dX8_rule_88 : decode cX8_rule 88 = .ok (.invokevirtual 239, 3) := by decide +kernel
theorem dX8_rule_91 : decode cX8_rule 91 = .ok (.ifCond .eq 5, 3) := by decide +kernel
theorem dX8_rule_94 : decode cX8_rule 94 = .ok (.iconst 1, 1) := by decide +kernel
theorem dX8_rule_95 : decode cX8_rule 95 = .ok (.ireturn, 1) := by decide +kernel
theorem dX8_rule_96 : decode cX8_rule 96 = .ok (.aload_n 0, 1) := by decide +kernel
theorem dX8_rule_97 : decode cX8_rule 97 = .ok (.bipush 8, 2) := by decide +kernel
theorem dX8_rule_99 : decode cX8_rule 99 = .ok (.bipush 100, 2) := by decide +kernel
theorem dX8_rule_101 : decode cX8_rule 101 = .ok (.bipush 111, 2) := by decide +kernel
theorem dX8_rule_103 : decode cX8_rule 103 = .ok (.bipush 117, 2) := by decide +kernel
theorem dX8_rule_105 : decode cX8_rule 105 = .ok (.bipush 98, 2) := by decide +kernel
theorem dX8_rule_107 : decode cX8_rule 107 = .ok (.invokevirtual 235, 3) := by decide +kernel
theorem dX8_rule_110 : decode cX8_rule 110 = .ok (.ifCond .eq 28, 3) := by decide +kernel
theorem dX8_rule_113 : decode cX8_rule 113 = .ok (.aload_n 0, 1) := by decide +kernel
theorem dX8_rule_114 : decode cX8_rule 114 = .ok (.aload_n 0, 1) := by decide +kernel
theorem dX8_rule_115 : decode cX8_rule 115 = .ok (.getfield 225, 3) := by decide +kernel
theorem dX8_rule_118 : decode cX8_rule 118 = .ok (.iconst 4, 1) := by decide +kernel
theorem dX8_rule_119 : decode cX8_rule 119 = .ok (.iadd, 1) := by decide +kernel
theorem dX8_rule_120 : decode cX8_rule 120 = .ok (.bipush 108, 2) := by decide +kernel
theorem dX8_rule_122 : decode cX8_rule 122 = .ok (.bipush 105, 2) := by decide +kernel
theorem dX8_rule_124 : decode cX8_rule 124 = .ok (.bipush 110, 2) := by decide +kernel
theorem dX8_rule_126 : decode cX8_rule 126 = .ok (.bipush 103, 2) := by decide +kernel
theorem dX8_rule_128 : decode cX8_rule 128 = .ok (.invokevirtual 239, 3) := by decide +kernel
theorem dX8_rule_131 : decode cX8_rule 131 = .ok (.ifCond .eq 7, 3) := by decide +kernel
theorem dX8_rule_134 : decode cX8_rule 134 = .ok (.iconst 2, 1) := by decide +kernel
theorem dX8_rule_135 : decode cX8_rule 135 = .ok (.goto 5, 3) := by decide +kernel
theorem dX8_rule_138 : decode cX8_rule 138 = .ok (.bipush (-4), 2) := by decide +kernel
theorem dX8_rule_140 : decode cX8_rule 140 = .ok (.ireturn, 1) := by decide +kernel
theorem dX8_takes_0 : decode cX8_takes 0 = .ok (.aload_n 0, 1) := by decide +kernel
theorem dX8_takes_1 : decode cX8_takes 1 = .ok (.invokevirtual 232, 3) := by decide +kernel
theorem dX8_takes_4 : decode cX8_takes 4 = .ok (.iload_n 1, 1) := by decide +kernel
theorem dX8_takes_5 : decode cX8_takes 5 = .ok (.if_icmp .ne 7, 3) := by decide +kernel
theorem dX8_takes_8 : decode cX8_takes 8 = .ok (.iconst 1, 1) := by decide +kernel
theorem dX8_takes_9 : decode cX8_takes 9 = .ok (.goto 4, 3) := by decide +kernel
theorem dX8_takes_12 : decode cX8_takes 12 = .ok (.iconst 0, 1) := by decide +kernel
theorem dX8_takes_13 : decode cX8_takes 13 = .ok (.istore_n 2, 1) := by decide +kernel
theorem dX8_takes_14 : decode cX8_takes 14 = .ok (.aload_n 0, 1) := by decide +kernel
theorem dX8_takes_15 : decode cX8_takes 15 = .ok (.dup, 1) := by decide +kernel
theorem dX8_takes_16 : decode cX8_takes 16 = .ok (.getfield 225, 3) := by decide +kernel
theorem dX8_takes_19 : decode cX8_takes 19 = .ok (.iload_n 2, 1) := by decide +kernel
theorem dX8_takes_20 : decode cX8_takes 20 = .ok (.ifCond .eq 7, 3) := by decide +kernel
theorem dX8_takes_23 : decode cX8_takes 23 = .ok (.iconst 1, 1) := by decide +kernel
theorem dX8_takes_24 : decode cX8_takes 24 = .ok (.goto 4, 3) := by decide +kernel
theorem dX8_takes_27 : decode cX8_takes 27 = .ok (.iconst 0, 1) := by decide +kernel
theorem dX8_takes_28 : decode cX8_takes 28 = .ok (.iadd, 1) := by decide +kernel
theorem dX8_takes_29 : decode cX8_takes 29 = .ok (.putfield 225, 3) := by decide +kernel
theorem dX8_takes_32 : decode cX8_takes 32 = .ok (.iload_n 2, 1) := by decide +kernel
theorem dX8_takes_33 : decode cX8_takes 33 = .ok (.ireturn, 1) := by decide +kernel
theorem dX8_figure_0 : decode cX8_figure 0 = .ok (.aload_n 0, 1) := by decide +kernel
theorem dX8_figure_1 : decode cX8_figure 1 = .ok (.invokevirtual 232, 3) := by decide +kernel
theorem dX8_figure_4 : decode cX8_figure 4 = .ok (.bipush 48, 2) := by decide +kernel
theorem dX8_figure_6 : decode cX8_figure 6 = .ok (.isub, 1) := by decide +kernel
theorem dX8_figure_7 : decode cX8_figure 7 = .ok (.istore_n 3, 1) := by decide +kernel
theorem dX8_figure_8 : decode cX8_figure 8 = .ok (.iload_n 3, 1) := by decide +kernel
theorem dX8_figure_9 : decode cX8_figure 9 = .ok (.i2l, 1) := by decide +kernel
theorem dX8_figure_10 : decode cX8_figure 10 = .ok (.iload_n 1, 1) := by decide +kernel
theorem dX8_figure_11 : decode cX8_figure 11 = .ok (.i2l, 1) := by decide +kernel
theorem dX8_figure_12 : decode cX8_figure 12 = .ok (.iload_n 2, 1) := by decide +kernel
theorem dX8_figure_13 : decode cX8_figure 13 = .ok (.i2l, 1) := by decide +kernel
theorem dX8_figure_14 : decode cX8_figure 14 = .ok (.invokestatic 71, 3) := by decide +kernel
theorem dX8_figure_17 : decode cX8_figure 17 = .ok (.ifCond .ne 6, 3) := by decide +kernel
theorem dX8_figure_20 : decode cX8_figure 20 = .ok (.bipush (-4), 2) := by decide +kernel
theorem dX8_figure_22 : decode cX8_figure 22 = .ok (.ireturn, 1) := by decide +kernel
theorem dX8_figure_23 : decode cX8_figure 23 = .ok (.aload_n 0, 1) := by decide +kernel
theorem dX8_figure_24 : decode cX8_figure 24 = .ok (.dup, 1) := by decide +kernel
theorem dX8_figure_25 : decode cX8_figure 25 = .ok (.getfield 225, 3) := by decide +kernel
theorem dX8_figure_28 : decode cX8_figure 28 = .ok (.iconst 1, 1) := by decide +kernel
theorem dX8_figure_29 : decode cX8_figure 29 = .ok (.iadd, 1) := by decide +kernel
theorem dX8_figure_30 : decode cX8_figure 30 = .ok (.putfield 225, 3) := by decide +kernel
theorem dX8_figure_33 : decode cX8_figure 33 = .ok (.iload_n 3, 1) := by decide +kernel
theorem dX8_figure_34 : decode cX8_figure 34 = .ok (.ireturn, 1) := by decide +kernel
theorem dX8_readsBook_0 : decode cX8_readsBook 0 = .ok (.aload_n 0, 1) := by decide +kernel
theorem dX8_readsBook_1 : decode cX8_readsBook 1 = .ok (.invokevirtual 232, 3) := by decide +kernel
theorem dX8_readsBook_4 : decode cX8_readsBook 4 = .ok (.i2l, 1) := by decide +kernel
theorem dX8_readsBook_5 : decode cX8_readsBook 5 = .ok (.ldc2_w 242, 3) := by decide +kernel
theorem dX8_readsBook_8 : decode cX8_readsBook 8 = .ok (.ldc2_w 244, 3) := by decide +kernel
theorem dX8_readsBook_11 : decode cX8_readsBook 11 = .ok (.invokestatic 71, 3) := by decide +kernel
theorem dX8_readsBook_14 : decode cX8_readsBook 14 = .ok (.ifCond .eq 14, 3) := by decide +kernel
theorem dX8_readsBook_17 : decode cX8_readsBook 17 = .ok (.aload_n 0, 1) := by decide +kernel
theorem dX8_readsBook_18 : decode cX8_readsBook 18 = .ok (.getfield 7, 3) := by decide +kernel
theorem dX8_readsBook_21 : decode cX8_readsBook 21 = .ok (.iconst 0, 1) := by decide +kernel
theorem dX8_readsBook_22 : decode cX8_readsBook 22 = .ok (.iaload, 1) := by decide +kernel
theorem dX8_readsBook_23 : decode cX8_readsBook 23 = .ok (.bipush 7, 2) := by decide +kernel
theorem dX8_readsBook_25 : decode cX8_readsBook 25 = .ok (.if_icmp .ne 5, 3) := by decide +kernel
theorem dX8_readsBook_28 : decode cX8_readsBook 28 = .ok (.iconst 0, 1) := by decide +kernel
theorem dX8_readsBook_29 : decode cX8_readsBook 29 = .ok (.ireturn, 1) := by decide +kernel
theorem dX8_readsBook_30 : decode cX8_readsBook 30 = .ok (.iconst 0, 1) := by decide +kernel
theorem dX8_readsBook_31 : decode cX8_readsBook 31 = .ok (.istore_n 1, 1) := by decide +kernel
theorem dX8_readsBook_32 : decode cX8_readsBook 32 = .ok (.aload_n 0, 1) := by decide +kernel
theorem dX8_readsBook_33 : decode cX8_readsBook 33 = .ok (.aload_n 0, 1) := by decide +kernel
theorem dX8_readsBook_34 : decode cX8_readsBook 34 = .ok (.getfield 225, 3) := by decide +kernel
theorem dX8_readsBook_37 : decode cX8_readsBook 37 = .ok (.bipush 97, 2) := by decide +kernel
theorem dX8_readsBook_39 : decode cX8_readsBook 39 = .ok (.bipush 116, 2) := by decide +kernel
theorem dX8_readsBook_41 : decode cX8_readsBook 41 = .ok (.invokevirtual 228, 3) := by decide +kernel
theorem dX8_readsBook_44 : decode cX8_readsBook 44 = .ok (.ifCond .eq 33, 3) := by decide +kernel
theorem dX8_readsBook_47 : decode cX8_readsBook 47 = .ok (.iload_n 1, 1) := by decide +kernel
theorem dX8_readsBook_48 : decode cX8_readsBook 48 = .ok (.iconst 1, 1) := by decide +kernel
theorem dX8_readsBook_49 : decode cX8_readsBook 49 = .ok (.aload_n 0, 1) := by decide +kernel
theorem dX8_readsBook_50 : decode cX8_readsBook 50 = .ok (.getfield 26, 3) := by decide +kernel
theorem dX8_readsBook_53 : decode cX8_readsBook 53 = .ok (.aload_n 0, 1) := by decide +kernel
theorem dX8_readsBook_54 : decode cX8_readsBook 54 = .ok (.getfield 225, 3) := by decide +kernel
theorem dX8_readsBook_57 : decode cX8_readsBook 57 = .ok (.iaload, 1) := by decide +kernel
theorem dX8_readsBook_58 : decode cX8_readsBook 58 = .ok (.bipush 97, 2) := by decide +kernel
theorem dX8_readsBook_60 : decode cX8_readsBook 60 = .ok (.isub, 1) := by decide +kernel
theorem dX8_readsBook_61 : decode cX8_readsBook 61 = .ok (.ishl, 1) := by decide +kernel
theorem dX8_readsBook_62 : decode cX8_readsBook 62 = .ok (.ior, 1) := by decide +kernel
theorem dX8_readsBook_63 : decode cX8_readsBook 63 = .ok (.istore_n 1, 1) := by decide +kernel
theorem dX8_readsBook_64 : decode cX8_readsBook 64 = .ok (.aload_n 0, 1) := by decide +kernel
theorem dX8_readsBook_65 : decode cX8_readsBook 65 = .ok (.dup, 1) := by decide +kernel
theorem dX8_readsBook_66 : decode cX8_readsBook 66 = .ok (.getfield 225, 3) := by decide +kernel
theorem dX8_readsBook_69 : decode cX8_readsBook 69 = .ok (.iconst 1, 1) := by decide +kernel
theorem dX8_readsBook_70 : decode cX8_readsBook 70 = .ok (.iadd, 1) := by decide +kernel
theorem dX8_readsBook_71 : decode cX8_readsBook 71 = .ok (.putfield 225, 3) := by decide +kernel
theorem dX8_readsBook_74 : decode cX8_readsBook 74 = .ok (.goto (-42), 3) := by decide +kernel
theorem dX8_readsBook_77 : decode cX8_readsBook 77 = .ok (.aload_n 0, 1) := by decide +kernel
theorem dX8_readsBook_78 : decode cX8_readsBook 78 = .ok (.iload_n 1, 1) := by decide +kernel
theorem dX8_readsBook_79 : decode cX8_readsBook 79 = .ok (.invokevirtual 191, 3) := by decide +kernel
theorem dX8_readsBook_82 : decode cX8_readsBook 82 = .ok (.ifCond .lt 7, 3) := by decide +kernel
theorem dX8_readsBook_85 : decode cX8_readsBook 85 = .ok (.iconst 1, 1) := by decide +kernel
theorem dX8_readsBook_86 : decode cX8_readsBook 86 = .ok (.goto 4, 3) := by decide +kernel
theorem dX8_readsBook_89 : decode cX8_readsBook 89 = .ok (.iconst 0, 1) := by decide +kernel
theorem dX8_readsBook_90 : decode cX8_readsBook 90 = .ok (.ireturn, 1) := by decide +kernel
theorem dX8_readsPair_0 : decode cX8_readsPair 0 = .ok (.aload_n 0, 1) := by decide +kernel
theorem dX8_readsPair_1 : decode cX8_readsPair 1 = .ok (.iconst 0, 1) := by decide +kernel
theorem dX8_readsPair_2 : decode cX8_readsPair 2 = .ok (.aload_n 0, 1) := by decide +kernel
theorem dX8_readsPair_3 : decode cX8_readsPair 3 = .ok (.getfield 7, 3) := by decide +kernel
theorem dX8_readsPair_6 : decode cX8_readsPair 6 = .ok (.iconst 0, 1) := by decide +kernel
theorem dX8_readsPair_7 : decode cX8_readsPair 7 = .ok (.iaload, 1) := by decide +kernel
theorem dX8_readsPair_8 : decode cX8_readsPair 8 = .ok (.iconst 1, 1) := by decide +kernel
theorem dX8_readsPair_9 : decode cX8_readsPair 9 = .ok (.isub, 1) := by decide +kernel
theorem dX8_readsPair_10 : decode cX8_readsPair 10 = .ok (.invokevirtual 246, 3) := by decide +kernel
theorem dX8_readsPair_13 : decode cX8_readsPair 13 = .ok (.istore_n 1, 1) := by decide +kernel
theorem dX8_readsPair_14 : decode cX8_readsPair 14 = .ok (.iload_n 1, 1) := by decide +kernel
theorem dX8_readsPair_15 : decode cX8_readsPair 15 = .ok (.ifCond .ge 5, 3) := by decide +kernel
theorem dX8_readsPair_18 : decode cX8_readsPair 18 = .ok (.iconst 0, 1) := by decide +kernel
theorem dX8_readsPair_19 : decode cX8_readsPair 19 = .ok (.ireturn, 1) := by decide +kernel
theorem dX8_readsPair_20 : decode cX8_readsPair 20 = .ok (.aload_n 0, 1) := by decide +kernel
theorem dX8_readsPair_21 : decode cX8_readsPair 21 = .ok (.invokevirtual 232, 3) := by decide +kernel
theorem dX8_readsPair_24 : decode cX8_readsPair 24 = .ok (.bipush 48, 2) := by decide +kernel
theorem dX8_readsPair_26 : decode cX8_readsPair 26 = .ok (.isub, 1) := by decide +kernel
theorem dX8_readsPair_27 : decode cX8_readsPair 27 = .ok (.istore_n 2, 1) := by decide +kernel
theorem dX8_readsPair_28 : decode cX8_readsPair 28 = .ok (.aload_n 0, 1) := by decide +kernel
theorem dX8_readsPair_29 : decode cX8_readsPair 29 = .ok (.iload_n 2, 1) := by decide +kernel
theorem dX8_readsPair_30 : decode cX8_readsPair 30 = .ok (.invokevirtual 104, 3) := by decide +kernel
theorem dX8_readsPair_33 : decode cX8_readsPair 33 = .ok (.ifCond .eq 28, 3) := by decide +kernel
theorem dX8_readsPair_36 : decode cX8_readsPair 36 = .ok (.aload_n 0, 1) := by decide +kernel
theorem dX8_readsPair_37 : decode cX8_readsPair 37 = .ok (.getfield 7, 3) := by decide +kernel
theorem dX8_readsPair_40 : decode cX8_readsPair 40 = .ok (.bipush 20, 2) := by decide +kernel
theorem dX8_readsPair_42 : decode cX8_readsPair 42 = .ok (.iload_n 1, 1) := by decide +kernel
theorem dX8_readsPair_43 : decode cX8_readsPair 43 = .ok (.iadd, 1) := by decide +kernel
theorem dX8_readsPair_44 : decode cX8_readsPair 44 = .ok (.iaload, 1) := by decide +kernel
theorem dX8_readsPair_45 : decode cX8_readsPair 45 = .ok (.iload_n 2, 1) := by decide +kernel
theorem dX8_readsPair_46 : decode cX8_readsPair 46 = .ok (.invokestatic 75, 3) := by decide +kernel
theorem dX8_readsPair_49 : decode cX8_readsPair 49 = .ok (.ifCond .ne 12, 3) := by decide +kernel
theorem dX8_readsPair_52 : decode cX8_readsPair 52 = .ok (.aload_n 0, 1) := by decide +kernel
theorem dX8_readsPair_53 : decode cX8_readsPair 53 = .ok (.iload_n 1, 1) := by decide +kernel
theorem dX8_readsPair_54 : decode cX8_readsPair 54 = .ok (.iload_n 2, 1) := by decide +kernel
theorem dX8_readsPair_55 : decode cX8_readsPair 55 = .ok (.invokevirtual 203, 3) := by decide +kernel
theorem dX8_readsPair_58 : decode cX8_readsPair 58 = .ok (.ifCond .ge 5, 3) := by decide +kernel
theorem dX8_readsPair_61 : decode cX8_readsPair 61 = .ok (.iconst 0, 1) := by decide +kernel
theorem dX8_readsPair_62 : decode cX8_readsPair 62 = .ok (.ireturn, 1) := by decide +kernel
theorem dX8_readsPair_63 : decode cX8_readsPair 63 = .ok (.aload_n 0, 1) := by decide +kernel
theorem dX8_readsPair_64 : decode cX8_readsPair 64 = .ok (.dup, 1) := by decide +kernel
theorem dX8_readsPair_65 : decode cX8_readsPair 65 = .ok (.getfield 225, 3) := by decide +kernel
theorem dX8_readsPair_68 : decode cX8_readsPair 68 = .ok (.iconst 1, 1) := by decide +kernel
theorem dX8_readsPair_69 : decode cX8_readsPair 69 = .ok (.iadd, 1) := by decide +kernel
theorem dX8_readsPair_70 : decode cX8_readsPair 70 = .ok (.putfield 225, 3) := by decide +kernel
theorem dX8_readsPair_73 : decode cX8_readsPair 73 = .ok (.iconst 1, 1) := by decide +kernel
theorem dX8_readsPair_74 : decode cX8_readsPair 74 = .ok (.ireturn, 1) := by decide +kernel
theorem dX8_readsAll_0 : decode cX8_readsAll 0 = .ok (.aload_n 0, 1) := by decide +kernel
theorem dX8_readsAll_1 : decode cX8_readsAll 1 = .ok (.iconst 0, 1) := by decide +kernel
theorem dX8_readsAll_2 : decode cX8_readsAll 2 = .ok (.putfield 225, 3) := by decide +kernel
theorem dX8_readsAll_5 : decode cX8_readsAll 5 = .ok (.aload_n 0, 1) := by decide +kernel
theorem dX8_readsAll_6 : decode cX8_readsAll 6 = .ok (.invokevirtual 249, 3) := by decide +kernel
theorem dX8_readsAll_9 : decode cX8_readsAll 9 = .ok (.istore_n 1, 1) := by decide +kernel
theorem dX8_readsAll_10 : decode cX8_readsAll 10 = .ok (.iload_n 1, 1) := by decide +kernel
theorem dX8_readsAll_11 : decode cX8_readsAll 11 = .ok (.ifCond .ge 5, 3) := by decide +kernel
theorem dX8_readsAll_14 : decode cX8_readsAll 14 = .ok (.iconst 0, 1) := by decide +kernel
theorem dX8_readsAll_15 : decode cX8_readsAll 15 = .ok (.ireturn, 1) := by decide +kernel
theorem dX8_readsAll_16 : decode cX8_readsAll 16 = .ok (.aload_n 0, 1) := by decide +kernel
theorem dX8_readsAll_17 : decode cX8_readsAll 17 = .ok (.dup, 1) := by decide +kernel
theorem dX8_readsAll_18 : decode cX8_readsAll 18 = .ok (.getfield 225, 3) := by decide +kernel
theorem dX8_readsAll_21 : decode cX8_readsAll 21 = .ok (.bipush 6, 2) := by decide +kernel
theorem dX8_readsAll_23 : decode cX8_readsAll 23 = .ok (.iload_n 1, 1) := by decide +kernel
theorem dX8_readsAll_24 : decode cX8_readsAll 24 = .ok (.iadd, 1) := by decide +kernel
theorem dX8_readsAll_25 : decode cX8_readsAll 25 = .ok (.iadd, 1) := by decide +kernel
theorem dX8_readsAll_26 : decode cX8_readsAll 26 = .ok (.putfield 225, 3) := by decide +kernel
theorem dX8_readsAll_29 : decode cX8_readsAll 29 = .ok (.aload_n 0, 1) := by decide +kernel
theorem dX8_readsAll_30 : decode cX8_readsAll 30 = .ok (.iconst 1, 1) := by decide +kernel
theorem dX8_readsAll_31 : decode cX8_readsAll 31 = .ok (.iconst 4, 1) := by decide +kernel
theorem dX8_readsAll_32 : decode cX8_readsAll 32 = .ok (.invokevirtual 246, 3) := by decide +kernel
theorem dX8_readsAll_35 : decode cX8_readsAll 35 = .ok (.istore_n 2, 1) := by decide +kernel
theorem dX8_readsAll_36 : decode cX8_readsAll 36 = .ok (.iload_n 2, 1) := by decide +kernel
theorem dX8_readsAll_37 : decode cX8_readsAll 37 = .ok (.ifCond .lt 12, 3) := by decide +kernel
theorem dX8_readsAll_40 : decode cX8_readsAll 40 = .ok (.aload_n 0, 1) := by decide +kernel
theorem dX8_readsAll_41 : decode cX8_readsAll 41 = .ok (.bipush 58, 2) := by decide +kernel
theorem dX8_readsAll_43 : decode cX8_readsAll 43 = .ok (.invokevirtual 252, 3) := by decide +kernel
theorem dX8_readsAll_46 : decode cX8_readsAll 46 = .ok (.ifCond .ne 5, 3) := by decide +kernel
theorem dX8_readsAll_49 : decode cX8_readsAll 49 = .ok (.iconst 0, 1) := by decide +kernel
theorem dX8_readsAll_50 : decode cX8_readsAll 50 = .ok (.ireturn, 1) := by decide +kernel
theorem dX8_readsAll_51 : decode cX8_readsAll 51 = .ok (.aload_n 0, 1) := by decide +kernel
theorem dX8_readsAll_52 : decode cX8_readsAll 52 = .ok (.getfield 7, 3) := by decide +kernel
theorem dX8_readsAll_55 : decode cX8_readsAll 55 = .ok (.iconst 4, 1) := by decide +kernel
theorem dX8_readsAll_56 : decode cX8_readsAll 56 = .ok (.iload_n 1, 1) := by decide +kernel
theorem dX8_readsAll_57 : decode cX8_readsAll 57 = .ok (.iastore, 1) := by decide +kernel
theorem dX8_readsAll_58 : decode cX8_readsAll 58 = .ok (.aload_n 0, 1) := by decide +kernel
theorem dX8_readsAll_59 : decode cX8_readsAll 59 = .ok (.getfield 7, 3) := by decide +kernel
theorem dX8_readsAll_62 : decode cX8_readsAll 62 = .ok (.iconst 2, 1) := by decide +kernel
theorem dX8_readsAll_63 : decode cX8_readsAll 63 = .ok (.iload_n 2, 1) := by decide +kernel
theorem dX8_readsAll_64 : decode cX8_readsAll 64 = .ok (.iastore, 1) := by decide +kernel
theorem dX8_readsAll_65 : decode cX8_readsAll 65 = .ok (.bipush 6, 2) := by decide +kernel
theorem dX8_readsAll_67 : decode cX8_readsAll 67 = .ok (.istore_n 3, 1) := by decide +kernel
theorem dX8_readsAll_68 : decode cX8_readsAll 68 = .ok (.iload_n 3, 1) := by decide +kernel
theorem dX8_readsAll_69 : decode cX8_readsAll 69 = .ok (.bipush 27, 2) := by decide +kernel
theorem dX8_readsAll_71 : decode cX8_readsAll 71 = .ok (.if_icmp .ge 16, 3) := by decide +kernel
theorem dX8_readsAll_74 : decode cX8_readsAll 74 = .ok (.aload_n 0, 1) := by decide +kernel
theorem dX8_readsAll_75 : decode cX8_readsAll 75 = .ok (.getfield 7, 3) := by decide +kernel
theorem dX8_readsAll_78 : decode cX8_readsAll 78 = .ok (.iload_n 3, 1) := by decide +kernel
theorem dX8_readsAll_79 : decode cX8_readsAll 79 = .ok (.iconst 0, 1) := by decide +kernel
theorem dX8_readsAll_80 : decode cX8_readsAll 80 = .ok (.iastore, 1) := by decide +kernel
theorem dX8_readsAll_81 : decode cX8_readsAll 81 = .ok (.iinc 3 1, 3) := by decide +kernel
theorem dX8_readsAll_84 : decode cX8_readsAll 84 = .ok (.goto (-16), 3) := by decide +kernel
theorem dX8_readsAll_87 : decode cX8_readsAll 87 = .ok (.aload_n 0, 1) := by decide +kernel
theorem dX8_readsAll_88 : decode cX8_readsAll 88 = .ok (.getfield 7, 3) := by decide +kernel
theorem dX8_readsAll_91 : decode cX8_readsAll 91 = .ok (.iconst 0, 1) := by decide +kernel
theorem dX8_readsAll_92 : decode cX8_readsAll 92 = .ok (.iconst 0, 1) := by decide +kernel
theorem dX8_readsAll_93 : decode cX8_readsAll 93 = .ok (.iastore, 1) := by decide +kernel
theorem dX8_readsAll_94 : decode cX8_readsAll 94 = .ok (.iconst 1, 1) := by decide +kernel
theorem dX8_readsAll_95 : decode cX8_readsAll 95 = .ok (.istore_n 3, 1) := by decide +kernel
theorem dX8_readsAll_96 : decode cX8_readsAll 96 = .ok (.iload_n 3, 1) := by decide +kernel
theorem dX8_readsAll_97 : decode cX8_readsAll 97 = .ok (.ifCond .eq 22, 3) := by decide +kernel
theorem dX8_readsAll_100 : decode cX8_readsAll 100 = .ok (.aload_n 0, 1) := by decide +kernel
theorem dX8_readsAll_101 : decode cX8_readsAll 101 = .ok (.invokevirtual 255, 3) := by decide +kernel
theorem dX8_readsAll_104 : decode cX8_readsAll 104 = .ok (.ifCond .ne 5, 3) := by decide +kernel
theorem dX8_readsAll_107 : decode cX8_readsAll 107 = .ok (.iconst 0, 1) := by decide +kernel
theorem dX8_readsAll_108 : decode cX8_readsAll 108 = .ok (.ireturn, 1) := by decide +kernel
theorem dX8_readsAll_109 : decode cX8_readsAll 109 = .ok (.aload_n 0, 1) := by decide +kernel
theorem dX8_readsAll_110 : decode cX8_readsAll 110 = .ok (.bipush 44, 2) := by decide +kernel
theorem dX8_readsAll_112 : decode cX8_readsAll 112 = .ok (.invokevirtual 252, 3) := by decide +kernel
theorem dX8_readsAll_115 : decode cX8_readsAll 115 = .ok (.istore_n 3, 1) := by decide +kernel
theorem dX8_readsAll_116 : decode cX8_readsAll 116 = .ok (.goto (-20), 3) := by decide +kernel
theorem dX8_readsAll_119 : decode cX8_readsAll 119 = .ok (.aload_n 0, 1) := by decide +kernel
theorem dX8_readsAll_120 : decode cX8_readsAll 120 = .ok (.bipush 59, 2) := by decide +kernel
theorem dX8_readsAll_122 : decode cX8_readsAll 122 = .ok (.invokevirtual 252, 3) := by decide +kernel
theorem dX8_readsAll_125 : decode cX8_readsAll 125 = .ok (.istore_n 3, 1) := by decide +kernel
theorem dX8_readsAll_126 : decode cX8_readsAll 126 = .ok (.iload_n 3, 1) := by decide +kernel
theorem dX8_readsAll_127 : decode cX8_readsAll 127 = .ok (.ifCond .eq 22, 3) := by decide +kernel
theorem dX8_readsAll_130 : decode cX8_readsAll 130 = .ok (.aload_n 0, 1) := by decide +kernel
theorem dX8_readsAll_131 : decode cX8_readsAll 131 = .ok (.invokevirtual 258, 3) := by decide +kernel
theorem dX8_readsAll_134 : decode cX8_readsAll 134 = .ok (.ifCond .ne 5, 3) := by decide +kernel
theorem dX8_readsAll_137 : decode cX8_readsAll 137 = .ok (.iconst 0, 1) := by decide +kernel
theorem dX8_readsAll_138 : decode cX8_readsAll 138 = .ok (.ireturn, 1) := by decide +kernel
theorem dX8_readsAll_139 : decode cX8_readsAll 139 = .ok (.aload_n 0, 1) := by decide +kernel
theorem dX8_readsAll_140 : decode cX8_readsAll 140 = .ok (.bipush 44, 2) := by decide +kernel
theorem dX8_readsAll_142 : decode cX8_readsAll 142 = .ok (.invokevirtual 252, 3) := by decide +kernel
theorem dX8_readsAll_145 : decode cX8_readsAll 145 = .ok (.istore_n 3, 1) := by decide +kernel
theorem dX8_readsAll_146 : decode cX8_readsAll 146 = .ok (.goto (-20), 3) := by decide +kernel
theorem dX8_readsAll_149 : decode cX8_readsAll 149 = .ok (.aload_n 0, 1) := by decide +kernel
theorem dX8_readsAll_150 : decode cX8_readsAll 150 = .ok (.invokevirtual 232, 3) := by decide +kernel
theorem dX8_readsAll_153 : decode cX8_readsAll 153 = .ok (.ifCond .ne 7, 3) := by decide +kernel
theorem dX8_readsAll_156 : decode cX8_readsAll 156 = .ok (.iconst 1, 1) := by decide +kernel
theorem dX8_readsAll_157 : decode cX8_readsAll 157 = .ok (.goto 4, 3) := by decide +kernel
theorem dX8_readsAll_160 : decode cX8_readsAll 160 = .ok (.iconst 0, 1) := by decide +kernel
theorem dX8_readsAll_161 : decode cX8_readsAll 161 = .ok (.ireturn, 1) := by decide +kernel
theorem dX8_read_0 : decode cX8_read 0 = .ok (.aload_n 0, 1) := by decide +kernel
theorem dX8_read_1 : decode cX8_read 1 = .ok (.invokevirtual 188, 3) := by decide +kernel
theorem dX8_read_4 : decode cX8_read 4 = .ok (.aload_n 0, 1) := by decide +kernel
theorem dX8_read_5 : decode cX8_read 5 = .ok (.invokevirtual 261, 3) := by decide +kernel
theorem dX8_read_8 : decode cX8_read 8 = .ok (.istore_n 1, 1) := by decide +kernel
theorem dX8_read_9 : decode cX8_read 9 = .ok (.aload_n 0, 1) := by decide +kernel
theorem dX8_read_10 : decode cX8_read 10 = .ok (.invokevirtual 232, 3) := by decide +kernel
theorem dX8_read_13 : decode cX8_read 13 = .ok (.pop, 1) := by decide +kernel
theorem dX8_read_14 : decode cX8_read 14 = .ok (.aload_n 0, 1) := by decide +kernel
theorem dX8_read_15 : decode cX8_read 15 = .ok (.iconst 0, 1) := by decide +kernel
theorem dX8_read_16 : decode cX8_read 16 = .ok (.putfield 222, 3) := by decide +kernel
theorem dX8_read_19 : decode cX8_read 19 = .ok (.iload_n 1, 1) := by decide +kernel
theorem dX8_read_20 : decode cX8_read 20 = .ok (.ifCond .ne 37, 3) := by decide +kernel
theorem dX8_read_23 : decode cX8_read 23 = .ok (.iconst 0, 1) := by decide +kernel
theorem dX8_read_24 : decode cX8_read 24 = .ok (.istore_n 2, 1) := by decide +kernel
theorem dX8_read_25 : decode cX8_read 25 = .ok (.iload_n 2, 1) := by decide +kernel
theorem dX8_read_26 : decode cX8_read 26 = .ok (.bipush 27, 2) := by decide +kernel
theorem dX8_read_28 : decode cX8_read 28 = .ok (.if_icmp .ge 21, 3) := by decide +kernel
theorem dX8_read_31 : decode cX8_read 31 = .ok (.aload_n 0, 1) := by decide +kernel
theorem dX8_read_32 : decode cX8_read 32 = .ok (.getfield 7, 3) := by decide +kernel
theorem dX8_read_35 : decode cX8_read 35 = .ok (.iload_n 2, 1) := by decide +kernel
theorem dX8_read_36 : decode cX8_read 36 = .ok (.aload_n 0, 1) := by decide +kernel
theorem dX8_read_37 : decode cX8_read 37 = .ok (.getfield 66, 3) := by decide +kernel
theorem dX8_read_40 : decode cX8_read 40 = .ok (.iload_n 2, 1) := by decide +kernel
theorem dX8_read_41 : decode cX8_read 41 = .ok (.iaload, 1) := by decide +kernel
theorem dX8_read_42 : decode cX8_read 42 = .ok (.iastore, 1) := by decide +kernel
theorem dX8_read_43 : decode cX8_read 43 = .ok (.iinc 2 1, 3) := by decide +kernel
theorem dX8_read_46 : decode cX8_read 46 = .ok (.goto (-21), 3) := by decide +kernel
theorem dX8_read_49 : decode cX8_read 49 = .ok (.bipush (-20), 2) := by decide +kernel
theorem dX8_read_51 : decode cX8_read 51 = .ok (.aload_n 0, 1) := by decide +kernel
theorem dX8_read_52 : decode cX8_read 52 = .ok (.getfield 225, 3) := by decide +kernel
theorem dX8_read_55 : decode cX8_read 55 = .ok (.isub, 1) := by decide +kernel
theorem dX8_read_56 : decode cX8_read 56 = .ok (.ireturn, 1) := by decide +kernel
theorem dX8_read_57 : decode cX8_read 57 = .ok (.aload_n 0, 1) := by decide +kernel
theorem dX8_read_58 : decode cX8_read 58 = .ok (.invokevirtual 169, 3) := by decide +kernel
theorem dX8_read_61 : decode cX8_read 61 = .ok (.aload_n 0, 1) := by decide +kernel
theorem dX8_read_62 : decode cX8_read 62 = .ok (.getfield 7, 3) := by decide +kernel
theorem dX8_read_65 : decode cX8_read 65 = .ok (.iconst 0, 1) := by decide +kernel
theorem dX8_read_66 : decode cX8_read 66 = .ok (.iaload, 1) := by decide +kernel
theorem dX8_read_67 : decode cX8_read 67 = .ok (.ireturn, 1) := by decide +kernel
theorem dX8_draws_0 : decode cX8_draws 0 = .ok (.aload_n 0, 1) := by decide +kernel
theorem dX8_draws_1 : decode cX8_draws 1 = .ok (.getfield 7, 3) := by decide +kernel
theorem dX8_draws_4 : decode cX8_draws 4 = .ok (.iconst 5, 1) := by decide +kernel
theorem dX8_draws_5 : decode cX8_draws 5 = .ok (.aload_n 0, 1) := by decide +kernel
theorem dX8_draws_6 : decode cX8_draws 6 = .ok (.getfield 7, 3) := by decide +kernel
theorem dX8_draws_9 : decode cX8_draws 9 = .ok (.iconst 5, 1) := by decide +kernel
theorem dX8_draws_10 : decode cX8_draws 10 = .ok (.iaload, 1) := by decide +kernel
theorem dX8_draws_11 : decode cX8_draws 11 = .ok (.i2l, 1) := by decide +kernel
theorem dX8_draws_12 : decode cX8_draws 12 = .ok (.ldc2_w 264, 3) := by decide +kernel
theorem dX8_draws_15 : decode cX8_draws 15 = .ok (.lmul, 1) := by decide +kernel
theorem dX8_draws_16 : decode cX8_draws 16 = .ok (.ldc2_w 266, 3) := by decide +kernel
theorem dX8_draws_19 : decode cX8_draws 19 = .ok (.ladd, 1) := by decide +kernel
theorem dX8_draws_20 : decode cX8_draws 20 = .ok (.ldc2_w 268, 3) := by decide +kernel
theorem dX8_draws_23 : decode cX8_draws 23 = .ok (.land, 1) := by decide +kernel
theorem dX8_draws_24 : decode cX8_draws 24 = .ok (.l2i, 1) := by decide +kernel
theorem dX8_draws_25 : decode cX8_draws 25 = .ok (.iastore, 1) := by decide +kernel
theorem dX8_draws_26 : decode cX8_draws 26 = .ok (.aload_n 0, 1) := by decide +kernel
theorem dX8_draws_27 : decode cX8_draws 27 = .ok (.getfield 7, 3) := by decide +kernel
theorem dX8_draws_30 : decode cX8_draws 30 = .ok (.iconst 5, 1) := by decide +kernel
theorem dX8_draws_31 : decode cX8_draws 31 = .ok (.iaload, 1) := by decide +kernel
theorem dX8_draws_32 : decode cX8_draws 32 = .ok (.iload_n 1, 1) := by decide +kernel
theorem dX8_draws_33 : decode cX8_draws 33 = .ok (.idiv, 1) := by decide +kernel
theorem dX8_draws_34 : decode cX8_draws 34 = .ok (.ireturn, 1) := by decide +kernel
theorem dX8_does_0 : decode cX8_does 0 = .ok (.iload_n 1, 1) := by decide +kernel
theorem dX8_does_1 : decode cX8_does 1 = .ok (.bipush 8, 2) := by decide +kernel
theorem dX8_does_3 : decode cX8_does 3 = .ok (.idiv, 1) := by decide +kernel
theorem dX8_does_4 : decode cX8_does 4 = .ok (.bipush 7, 2) := by decide +kernel
theorem dX8_does_6 : decode cX8_does 6 = .ok (.irem, 1) := by decide +kernel
theorem dX8_does_7 : decode cX8_does 7 = .ok (.istore_n 3, 1) := by decide +kernel
theorem dX8_does_8 : decode cX8_does 8 = .ok (.iload_n 1, 1) := by decide +kernel
theorem dX8_does_9 : decode cX8_does 9 = .ok (.bipush 64, 2) := by decide +kernel
theorem dX8_does_11 : decode cX8_does 11 = .ok (.idiv, 1) := by decide +kernel
theorem dX8_does_12 : decode cX8_does 12 = .ok (.bipush 7, 2) := by decide +kernel
theorem dX8_does_14 : decode cX8_does 14 = .ok (.irem, 1) := by decide +kernel
theorem dX8_does_15 : decode cX8_does 15 = .ok (.istore 4, 2) := by decide +kernel
theorem dX8_does_17 : decode cX8_does 17 = .ok (.iload_n 1, 1) := by decide +kernel
theorem dX8_does_18 : decode cX8_does 18 = .ok (.bipush 8, 2) := by decide +kernel
theorem dX8_does_20 : decode cX8_does 20 = .ok (.irem, 1) := by decide +kernel
theorem dX8_does_21 : decode cX8_does 21 = .ok (.tableswitch 86 0 6 #[43, 43, 49, 56, 64, 64, 72], 43) := by decide +kernel
theorem dX8_does_64 : decode cX8_does 64 = .ok (.aload_n 0, 1) := by decide +kernel
theorem dX8_does_65 : decode cX8_does 65 = .ok (.iload_n 2, 1) := by decide +kernel
theorem dX8_does_66 : decode cX8_does 66 = .ok (.invokevirtual 191, 3) := by decide +kernel
theorem dX8_does_69 : decode cX8_does 69 = .ok (.ireturn, 1) := by decide +kernel
theorem dX8_does_70 : decode cX8_does 70 = .ok (.aload_n 0, 1) := by decide +kernel
theorem dX8_does_71 : decode cX8_does 71 = .ok (.iload_n 3, 1) := by decide +kernel
theorem dX8_does_72 : decode cX8_does 72 = .ok (.iload_n 2, 1) := by decide +kernel
theorem dX8_does_73 : decode cX8_does 73 = .ok (.invokevirtual 197, 3) := by decide +kernel
theorem dX8_does_76 : decode cX8_does 76 = .ok (.ireturn, 1) := by decide +kernel
theorem dX8_does_77 : decode cX8_does 77 = .ok (.aload_n 0, 1) := by decide +kernel
theorem dX8_does_78 : decode cX8_does 78 = .ok (.iload_n 3, 1) := by decide +kernel
theorem dX8_does_79 : decode cX8_does 79 = .ok (.iload 4, 2) := by decide +kernel
theorem dX8_does_81 : decode cX8_does 81 = .ok (.invokevirtual 203, 3) := by decide +kernel
theorem dX8_does_84 : decode cX8_does 84 = .ok (.ireturn, 1) := by decide +kernel
theorem dX8_does_85 : decode cX8_does 85 = .ok (.aload_n 0, 1) := by decide +kernel
theorem dX8_does_86 : decode cX8_does 86 = .ok (.iload_n 3, 1) := by decide +kernel
theorem dX8_does_87 : decode cX8_does 87 = .ok (.iload 4, 2) := by decide +kernel
theorem dX8_does_89 : decode cX8_does 89 = .ok (.invokevirtual 212, 3) := by decide +kernel
theorem dX8_does_92 : decode cX8_does 92 = .ok (.ireturn, 1) := by decide +kernel
theorem dX8_does_93 : decode cX8_does 93 = .ok (.aload_n 0, 1) := by decide +kernel
theorem dX8_does_94 : decode cX8_does 94 = .ok (.iconst 0, 1) := by decide +kernel
theorem dX8_does_95 : decode cX8_does 95 = .ok (.iload_n 1, 1) := by decide +kernel
theorem dX8_does_96 : decode cX8_does 96 = .ok (.bipush 8, 2) := by decide +kernel
theorem dX8_does_98 : decode cX8_does 98 = .ok (.idiv, 1) := by decide +kernel
theorem dX8_does_99 : decode cX8_does 99 = .ok (.iconst 4, 1) := by decide +kernel
theorem dX8_does_100 : decode cX8_does 100 = .ok (.irem, 1) := by decide +kernel
theorem dX8_does_101 : decode cX8_does 101 = .ok (.iconst 1, 1) := by decide +kernel
theorem dX8_does_102 : decode cX8_does 102 = .ok (.iadd, 1) := by decide +kernel
theorem dX8_does_103 : decode cX8_does 103 = .ok (.invokevirtual 209, 3) := by decide +kernel
theorem dX8_does_106 : decode cX8_does 106 = .ok (.ireturn, 1) := by decide +kernel
theorem dX8_does_107 : decode cX8_does 107 = .ok (.aload_n 0, 1) := by decide +kernel
theorem dX8_does_108 : decode cX8_does 108 = .ok (.iconst 2, 1) := by decide +kernel
theorem dX8_does_109 : decode cX8_does 109 = .ok (.iload_n 1, 1) := by decide +kernel
theorem dX8_does_110 : decode cX8_does 110 = .ok (.bipush 8, 2) := by decide +kernel
theorem dX8_does_112 : decode cX8_does 112 = .ok (.idiv, 1) := by decide +kernel
theorem dX8_does_113 : decode cX8_does 113 = .ok (.iconst 3, 1) := by decide +kernel
theorem dX8_does_114 : decode cX8_does 114 = .ok (.irem, 1) := by decide +kernel
theorem dX8_does_115 : decode cX8_does 115 = .ok (.invokevirtual 209, 3) := by decide +kernel
theorem dX8_does_118 : decode cX8_does 118 = .ok (.ireturn, 1) := by decide +kernel
theorem dX8_drift_0 : decode cX8_drift 0 = .ok (.iload_n 1, 1) := by decide +kernel
theorem dX8_drift_1 : decode cX8_drift 1 = .ok (.i2l, 1) := by decide +kernel
theorem dX8_drift_2 : decode cX8_drift 2 = .ok (.lconst 1, 1) := by decide +kernel
theorem dX8_drift_3 : decode cX8_drift 3 = .ok (.ldc2_w 270, 3) := by decide +kernel
theorem dX8_drift_6 : decode cX8_drift 6 = .ok (.invokestatic 71, 3) := by decide +kernel
theorem dX8_drift_9 : decode cX8_drift 9 = .ok (.ifCond .ne 5, 3) := by decide +kernel
theorem dX8_drift_12 : decode cX8_drift 12 = .ok (.iconst (-1), 1) := by decide +kernel
theorem dX8_drift_13 : decode cX8_drift 13 = .ok (.ireturn, 1) := by decide +kernel
theorem dX8_drift_14 : decode cX8_drift 14 = .ok (.iconst 0, 1) := by decide +kernel
theorem dX8_drift_15 : decode cX8_drift 15 = .ok (.istore_n 2, 1) := by decide +kernel
theorem dX8_drift_16 : decode cX8_drift 16 = .ok (.iload_n 2, 1) := by decide +kernel
theorem dX8_drift_17 : decode cX8_drift 17 = .ok (.iload_n 1, 1) := by decide +kernel
theorem dX8_drift_18 : decode cX8_drift 18 = .ok (.if_icmp .ge 49, 3) := by decide +kernel
theorem dX8_drift_21 : decode cX8_drift 21 = .ok (.aload_n 0, 1) := by decide +kernel
theorem dX8_drift_22 : decode cX8_drift 22 = .ok (.invokevirtual 188, 3) := by decide +kernel
theorem dX8_drift_25 : decode cX8_drift 25 = .ok (.aload_n 0, 1) := by decide +kernel
theorem dX8_drift_26 : decode cX8_drift 26 = .ok (.invokevirtual 169, 3) := by decide +kernel
theorem dX8_drift_29 : decode cX8_drift 29 = .ok (.aload_n 0, 1) := by decide +kernel
theorem dX8_drift_30 : decode cX8_drift 30 = .ok (.ldc_w 272, 3) := by decide +kernel
theorem dX8_drift_33 : decode cX8_drift 33 = .ok (.invokevirtual 273, 3) := by decide +kernel
theorem dX8_drift_36 : decode cX8_drift 36 = .ok (.istore_n 3, 1) := by decide +kernel
theorem dX8_drift_37 : decode cX8_drift 37 = .ok (.aload_n 0, 1) := by decide +kernel
theorem dX8_drift_38 : decode cX8_drift 38 = .ok (.sipush 2048, 3) := by decide +kernel
theorem dX8_drift_41 : decode cX8_drift 41 = .ok (.invokevirtual 273, 3) := by decide +kernel
theorem dX8_drift_44 : decode cX8_drift 44 = .ok (.istore 4, 2) := by decide +kernel
theorem dX8_drift_46 : decode cX8_drift 46 = .ok (.aload_n 0, 1) := by decide +kernel
theorem dX8_drift_47 : decode cX8_drift 47 = .ok (.aload_n 0, 1) := by decide +kernel
theorem dX8_drift_48 : decode cX8_drift 48 = .ok (.iload_n 3, 1) := by decide +kernel
theorem dX8_drift_49 : decode cX8_drift 49 = .ok (.iload 4, 2) := by decide +kernel
theorem dX8_drift_51 : decode cX8_drift 51 = .ok (.ldc_w 276, 3) := by decide +kernel
theorem dX8_drift_54 : decode cX8_drift 54 = .ok (.irem, 1) := by decide +kernel
theorem dX8_drift_55 : decode cX8_drift 55 = .ok (.invokevirtual 277, 3) := by decide +kernel
theorem dX8_drift_58 : decode cX8_drift 58 = .ok (.putfield 280, 3) := by decide +kernel
theorem dX8_drift_61 : decode cX8_drift 61 = .ok (.iinc 2 1, 3) := by decide +kernel
theorem dX8_drift_64 : decode cX8_drift 64 = .ok (.goto (-48), 3) := by decide +kernel
theorem dX8_drift_67 : decode cX8_drift 67 = .ok (.aload_n 0, 1) := by decide +kernel
theorem dX8_drift_68 : decode cX8_drift 68 = .ok (.getfield 7, 3) := by decide +kernel
theorem dX8_drift_71 : decode cX8_drift 71 = .ok (.iconst 0, 1) := by decide +kernel
theorem dX8_drift_72 : decode cX8_drift 72 = .ok (.iaload, 1) := by decide +kernel
theorem dX8_drift_73 : decode cX8_drift 73 = .ok (.ireturn, 1) := by decide +kernel
theorem dX8_undo_0 : decode cX8_undo 0 = .ok (.aload_n 0, 1) := by decide +kernel
theorem dX8_undo_1 : decode cX8_undo 1 = .ok (.getfield 128, 3) := by decide +kernel
theorem dX8_undo_4 : decode cX8_undo 4 = .ok (.ifCond .ne 6, 3) := by decide +kernel
theorem dX8_undo_7 : decode cX8_undo 7 = .ok (.bipush (-4), 2) := by decide +kernel
theorem dX8_undo_9 : decode cX8_undo 9 = .ok (.ireturn, 1) := by decide +kernel
theorem dX8_undo_10 : decode cX8_undo 10 = .ok (.aload_n 0, 1) := by decide +kernel
theorem dX8_undo_11 : decode cX8_undo 11 = .ok (.dup, 1) := by decide +kernel
theorem dX8_undo_12 : decode cX8_undo 12 = .ok (.getfield 128, 3) := by decide +kernel
theorem dX8_undo_15 : decode cX8_undo 15 = .ok (.iconst 1, 1) := by decide +kernel
theorem dX8_undo_16 : decode cX8_undo 16 = .ok (.isub, 1) := by decide +kernel
theorem dX8_undo_17 : decode cX8_undo 17 = .ok (.putfield 128, 3) := by decide +kernel
theorem dX8_undo_20 : decode cX8_undo 20 = .ok (.iconst 0, 1) := by decide +kernel
theorem dX8_undo_21 : decode cX8_undo 21 = .ok (.istore_n 1, 1) := by decide +kernel
theorem dX8_undo_22 : decode cX8_undo 22 = .ok (.iload_n 1, 1) := by decide +kernel
theorem dX8_undo_23 : decode cX8_undo 23 = .ok (.bipush 27, 2) := by decide +kernel
theorem dX8_undo_25 : decode cX8_undo 25 = .ok (.if_icmp .ge 29, 3) := by decide +kernel
theorem dX8_undo_28 : decode cX8_undo 28 = .ok (.aload_n 0, 1) := by decide +kernel
theorem dX8_undo_29 : decode cX8_undo 29 = .ok (.getfield 7, 3) := by decide +kernel
theorem dX8_undo_32 : decode cX8_undo 32 = .ok (.iload_n 1, 1) := by decide +kernel
theorem dX8_undo_33 : decode cX8_undo 33 = .ok (.aload_n 0, 1) := by decide +kernel
theorem dX8_undo_34 : decode cX8_undo 34 = .ok (.getfield 13, 3) := by decide +kernel
theorem dX8_undo_37 : decode cX8_undo 37 = .ok (.bipush 27, 2) := by decide +kernel
theorem dX8_undo_39 : decode cX8_undo 39 = .ok (.aload_n 0, 1) := by decide +kernel
theorem dX8_undo_40 : decode cX8_undo 40 = .ok (.getfield 128, 3) := by decide +kernel
theorem dX8_undo_43 : decode cX8_undo 43 = .ok (.imul, 1) := by decide +kernel
theorem dX8_undo_44 : decode cX8_undo 44 = .ok (.iload_n 1, 1) := by decide +kernel
theorem dX8_undo_45 : decode cX8_undo 45 = .ok (.iadd, 1) := by decide +kernel
theorem dX8_undo_46 : decode cX8_undo 46 = .ok (.iaload, 1) := by decide +kernel
theorem dX8_undo_47 : decode cX8_undo 47 = .ok (.iastore, 1) := by decide +kernel
theorem dX8_undo_48 : decode cX8_undo 48 = .ok (.iinc 1 1, 3) := by decide +kernel
theorem dX8_undo_51 : decode cX8_undo 51 = .ok (.goto (-29), 3) := by decide +kernel
theorem dX8_undo_54 : decode cX8_undo 54 = .ok (.aload_n 0, 1) := by decide +kernel
theorem dX8_undo_55 : decode cX8_undo 55 = .ok (.getfield 128, 3) := by decide +kernel
theorem dX8_undo_58 : decode cX8_undo 58 = .ok (.ireturn, 1) := by decide +kernel
theorem dX8_seed_0 : decode cX8_seed 0 = .ok (.iload_n 1, 1) := by decide +kernel
theorem dX8_seed_1 : decode cX8_seed 1 = .ok (.ifCond .ge 5, 3) := by decide +kernel
theorem dX8_seed_4 : decode cX8_seed 4 = .ok (.iconst (-1), 1) := by decide +kernel
theorem dX8_seed_5 : decode cX8_seed 5 = .ok (.ireturn, 1) := by decide +kernel
theorem dX8_seed_6 : decode cX8_seed 6 = .ok (.aload_n 0, 1) := by decide +kernel
theorem dX8_seed_7 : decode cX8_seed 7 = .ok (.getfield 7, 3) := by decide +kernel
theorem dX8_seed_10 : decode cX8_seed 10 = .ok (.iconst 5, 1) := by decide +kernel
theorem dX8_seed_11 : decode cX8_seed 11 = .ok (.iaload, 1) := by decide +kernel
theorem dX8_seed_12 : decode cX8_seed 12 = .ok (.istore_n 2, 1) := by decide +kernel
theorem dX8_seed_13 : decode cX8_seed 13 = .ok (.aload_n 0, 1) := by decide +kernel
theorem dX8_seed_14 : decode cX8_seed 14 = .ok (.getfield 7, 3) := by decide +kernel
theorem dX8_seed_17 : decode cX8_seed 17 = .ok (.iconst 5, 1) := by decide +kernel
theorem dX8_seed_18 : decode cX8_seed 18 = .ok (.iload_n 1, 1) := by decide +kernel
theorem dX8_seed_19 : decode cX8_seed 19 = .ok (.iastore, 1) := by decide +kernel
theorem dX8_seed_20 : decode cX8_seed 20 = .ok (.iload_n 2, 1) := by decide +kernel
theorem dX8_seed_21 : decode cX8_seed 21 = .ok (.ireturn, 1) := by decide +kernel
theorem dX8_image_0 : decode cX8_image 0 = .ok (.iconst 0, 1) := by decide +kernel
theorem dX8_image_1 : decode cX8_image 1 = .ok (.istore_n 1, 1) := by decide +kernel
theorem dX8_image_2 : decode cX8_image 2 = .ok (.iload_n 1, 1) := by decide +kernel
theorem dX8_image_3 : decode cX8_image 3 = .ok (.bipush 27, 2) := by decide +kernel
theorem dX8_image_5 : decode cX8_image 5 = .ok (.if_icmp .ge 21, 3) := by decide +kernel
theorem dX8_image_8 : decode cX8_image 8 = .ok (.aload_n 0, 1) := by decide +kernel
theorem dX8_image_9 : decode cX8_image 9 = .ok (.getfield 16, 3) := by decide +kernel
theorem dX8_image_12 : decode cX8_image 12 = .ok (.iload_n 1, 1) := by decide +kernel
theorem dX8_image_13 : decode cX8_image 13 = .ok (.aload_n 0, 1) := by decide +kernel
theorem dX8_image_14 : decode cX8_image 14 = .ok (.getfield 7, 3) := by decide +kernel
theorem dX8_image_17 : decode cX8_image 17 = .ok (.iload_n 1, 1) := by decide +kernel
theorem dX8_image_18 : decode cX8_image 18 = .ok (.iaload, 1) := by decide +kernel
theorem dX8_image_19 : decode cX8_image 19 = .ok (.iastore, 1) := by decide +kernel
theorem dX8_image_20 : decode cX8_image 20 = .ok (.iinc 1 1, 3) := by decide +kernel
theorem dX8_image_23 : decode cX8_image 23 = .ok (.goto (-21), 3) := by decide +kernel
theorem dX8_image_26 : decode cX8_image 26 = .ok (.iconst 0, 1) := by decide +kernel
theorem dX8_image_27 : decode cX8_image 27 = .ok (.istore_n 1, 1) := by decide +kernel
theorem dX8_image_28 : decode cX8_image 28 = .ok (.iload_n 1, 1) := by decide +kernel
theorem dX8_image_29 : decode cX8_image 29 = .ok (.sipush 162, 3) := by decide +kernel
theorem dX8_image_32 : decode cX8_image 32 = .ok (.if_icmp .ge 21, 3) := by decide +kernel
theorem dX8_image_35 : decode cX8_image 35 = .ok (.aload_n 0, 1) := by decide +kernel
theorem dX8_image_36 : decode cX8_image 36 = .ok (.getfield 19, 3) := by decide +kernel
theorem dX8_image_39 : decode cX8_image 39 = .ok (.iload_n 1, 1) := by decide +kernel
theorem dX8_image_40 : decode cX8_image 40 = .ok (.aload_n 0, 1) := by decide +kernel
theorem dX8_image_41 : decode cX8_image 41 = .ok (.getfield 13, 3) := by decide +kernel
theorem dX8_image_44 : decode cX8_image 44 = .ok (.iload_n 1, 1) := by decide +kernel
theorem dX8_image_45 : decode cX8_image 45 = .ok (.iaload, 1) := by decide +kernel
theorem dX8_image_46 : decode cX8_image 46 = .ok (.iastore, 1) := by decide +kernel
theorem dX8_image_47 : decode cX8_image 47 = .ok (.iinc 1 1, 3) := by decide +kernel
theorem dX8_image_50 : decode cX8_image 50 = .ok (.goto (-22), 3) := by decide +kernel
theorem dX8_image_53 : decode cX8_image 53 = .ok (.aload_n 0, 1) := by decide +kernel
theorem dX8_image_54 : decode cX8_image 54 = .ok (.aload_n 0, 1) := by decide +kernel
theorem dX8_image_55 : decode cX8_image 55 = .ok (.getfield 128, 3) := by decide +kernel
theorem dX8_image_58 : decode cX8_image 58 = .ok (.putfield 22, 3) := by decide +kernel
theorem dX8_image_61 : decode cX8_image 61 = .ok (.iconst 1, 1) := by decide +kernel
theorem dX8_image_62 : decode cX8_image 62 = .ok (.ireturn, 1) := by decide +kernel
theorem dX8_restore_0 : decode cX8_restore 0 = .ok (.aload_n 0, 1) := by decide +kernel
theorem dX8_restore_1 : decode cX8_restore 1 = .ok (.getfield 22, 3) := by decide +kernel
theorem dX8_restore_4 : decode cX8_restore 4 = .ok (.ifCond .ge 6, 3) := by decide +kernel
theorem dX8_restore_7 : decode cX8_restore 7 = .ok (.bipush (-4), 2) := by decide +kernel
theorem dX8_restore_9 : decode cX8_restore 9 = .ok (.ireturn, 1) := by decide +kernel
theorem dX8_restore_10 : decode cX8_restore 10 = .ok (.iconst 0, 1) := by decide +kernel
theorem dX8_restore_11 : decode cX8_restore 11 = .ok (.istore_n 1, 1) := by decide +kernel
theorem dX8_restore_12 : decode cX8_restore 12 = .ok (.iload_n 1, 1) := by decide +kernel
theorem dX8_restore_13 : decode cX8_restore 13 = .ok (.bipush 27, 2) := by decide +kernel
theorem dX8_restore_15 : decode cX8_restore 15 = .ok (.if_icmp .ge 21, 3) := by decide +kernel
theorem dX8_restore_18 : decode cX8_restore 18 = .ok (.aload_n 0, 1) := by decide +kernel
theorem dX8_restore_19 : decode cX8_restore 19 = .ok (.getfield 7, 3) := by decide +kernel
theorem dX8_restore_22 : decode cX8_restore 22 = .ok (.iload_n 1, 1) := by decide +kernel
theorem dX8_restore_23 : decode cX8_restore 23 = .ok (.aload_n 0, 1) := by decide +kernel
theorem dX8_restore_24 : decode cX8_restore 24 = .ok (.getfield 16, 3) := by decide +kernel
theorem dX8_restore_27 : decode cX8_restore 27 = .ok (.iload_n 1, 1) := by decide +kernel
theorem dX8_restore_28 : decode cX8_restore 28 = .ok (.iaload, 1) := by decide +kernel
theorem dX8_restore_29 : decode cX8_restore 29 = .ok (.iastore, 1) := by decide +kernel
theorem dX8_restore_30 : decode cX8_restore 30 = .ok (.iinc 1 1, 3) := by decide +kernel
theorem dX8_restore_33 : decode cX8_restore 33 = .ok (.goto (-21), 3) := by decide +kernel
theorem dX8_restore_36 : decode cX8_restore 36 = .ok (.iconst 0, 1) := by decide +kernel
theorem dX8_restore_37 : decode cX8_restore 37 = .ok (.istore_n 1, 1) := by decide +kernel
end
section
theorem dX8_restore_38 : decode cX8_restore 38 = .ok (.iload_n 1, 1) := by decide +kernel
theorem dX8_restore_39 : decode cX8_restore 39 = .ok (.sipush 162, 3) := by decide +kernel
theorem dX8_restore_42 : decode cX8_restore 42 = .ok (.if_icmp .ge 21, 3) := by decide +kernel
theorem dX8_restore_45 : decode cX8_restore 45 = .ok (.aload_n 0, 1) := by decide +kernel
theorem dX8_restore_46 : decode cX8_restore 46 = .ok (.getfield 13, 3) := by decide +kernel
theorem dX8_restore_49 : decode cX8_restore 49 = .ok (.iload_n 1, 1) := by decide +kernel
theorem dX8_restore_50 : decode cX8_restore 50 = .ok (.aload_n 0, 1) := by decide +kernel
theorem dX8_restore_51 : decode cX8_restore 51 = .ok (.getfield 19, 3) := by decide +kernel
theorem dX8_restore_54 : decode cX8_restore 54 = .ok (.iload_n 1, 1) := by decide +kernel
theorem dX8_restore_55 : decode cX8_restore 55 = .ok (.iaload, 1) := by decide +kernel
theorem dX8_restore_56 : decode cX8_restore 56 = .ok (.iastore, 1) := by decide +kernel
theorem dX8_restore_57 : decode cX8_restore 57 = .ok (.iinc 1 1, 3) := by decide +kernel
theorem dX8_restore_60 : decode cX8_restore 60 = .ok (.goto (-22), 3) := by decide +kernel
theorem dX8_restore_63 : decode cX8_restore 63 = .ok (.aload_n 0, 1) := by decide +kernel
theorem dX8_restore_64 : decode cX8_restore 64 = .ok (.aload_n 0, 1) := by decide +kernel
theorem dX8_restore_65 : decode cX8_restore 65 = .ok (.getfield 22, 3) := by decide +kernel
theorem dX8_restore_68 : decode cX8_restore 68 = .ok (.putfield 128, 3) := by decide +kernel
theorem dX8_restore_71 : decode cX8_restore 71 = .ok (.iconst 1, 1) := by decide +kernel
theorem dX8_restore_72 : decode cX8_restore 72 = .ok (.ireturn, 1) := by decide +kernel
theorem dX8_isSheet_0 : decode cX8_isSheet 0 = .ok (.iload_n 0, 1) := by decide +kernel
theorem dX8_isSheet_1 : decode cX8_isSheet 1 = .ok (.i2l, 1) := by decide +kernel
theorem dX8_isSheet_2 : decode cX8_isSheet 2 = .ok (.lconst 0, 1) := by decide +kernel
theorem dX8_isSheet_3 : decode cX8_isSheet 3 = .ok (.ldc2_w 283, 3) := by decide +kernel
theorem dX8_isSheet_6 : decode cX8_isSheet 6 = .ok (.invokestatic 71, 3) := by decide +kernel
theorem dX8_isSheet_9 : decode cX8_isSheet 9 = .ok (.ireturn, 1) := by decide +kernel
theorem dX8_cut_0 : decode cX8_cut 0 = .ok (.iload_n 0, 1) := by decide +kernel
theorem dX8_cut_1 : decode cX8_cut 1 = .ok (.ifCond .ne 10, 3) := by decide +kernel
theorem dX8_cut_4 : decode cX8_cut 4 = .ok (.lload_n 1, 1) := by decide +kernel
theorem dX8_cut_5 : decode cX8_cut 5 = .ok (.l2i, 1) := by decide +kernel
theorem dX8_cut_6 : decode cX8_cut 6 = .ok (.i2b, 1) := by decide +kernel
theorem dX8_cut_7 : decode cX8_cut 7 = .ok (.i2l, 1) := by decide +kernel
theorem dX8_cut_8 : decode cX8_cut 8 = .ok (.goto 27, 3) := by decide +kernel
theorem dX8_cut_11 : decode cX8_cut 11 = .ok (.iload_n 0, 1) := by decide +kernel
theorem dX8_cut_12 : decode cX8_cut 12 = .ok (.iconst 1, 1) := by decide +kernel
theorem dX8_cut_13 : decode cX8_cut 13 = .ok (.if_icmp .ne 10, 3) := by decide +kernel
theorem dX8_cut_16 : decode cX8_cut 16 = .ok (.lload_n 1, 1) := by decide +kernel
theorem dX8_cut_17 : decode cX8_cut 17 = .ok (.l2i, 1) := by decide +kernel
theorem dX8_cut_18 : decode cX8_cut 18 = .ok (.i2s, 1) := by decide +kernel
theorem dX8_cut_19 : decode cX8_cut 19 = .ok (.i2l, 1) := by decide +kernel
theorem dX8_cut_20 : decode cX8_cut 20 = .ok (.goto 15, 3) := by decide +kernel
theorem dX8_cut_23 : decode cX8_cut 23 = .ok (.iload_n 0, 1) := by decide +kernel
theorem dX8_cut_24 : decode cX8_cut 24 = .ok (.iconst 2, 1) := by decide +kernel
theorem dX8_cut_25 : decode cX8_cut 25 = .ok (.if_icmp .ne 9, 3) := by decide +kernel
theorem dX8_cut_28 : decode cX8_cut 28 = .ok (.lload_n 1, 1) := by decide +kernel
theorem dX8_cut_29 : decode cX8_cut 29 = .ok (.l2i, 1) := by decide +kernel
theorem dX8_cut_30 : decode cX8_cut 30 = .ok (.i2l, 1) := by decide +kernel
theorem dX8_cut_31 : decode cX8_cut 31 = .ok (.goto 4, 3) := by decide +kernel
theorem dX8_cut_34 : decode cX8_cut 34 = .ok (.lload_n 1, 1) := by decide +kernel
theorem dX8_cut_35 : decode cX8_cut 35 = .ok (.lreturn, 1) := by decide +kernel
theorem dX8_found_0 : decode cX8_found 0 = .ok (.aload_n 0, 1) := by decide +kernel
theorem dX8_found_1 : decode cX8_found 1 = .ok (.getfield 29, 3) := by decide +kernel
theorem dX8_found_4 : decode cX8_found 4 = .ok (.iload_n 1, 1) := by decide +kernel
theorem dX8_found_5 : decode cX8_found 5 = .ok (.iaload, 1) := by decide +kernel
theorem dX8_found_6 : decode cX8_found 6 = .ok (.ifCond .ge 6, 3) := by decide +kernel
theorem dX8_found_9 : decode cX8_found 9 = .ok (.bipush (-11), 2) := by decide +kernel
theorem dX8_found_11 : decode cX8_found 11 = .ok (.ireturn, 1) := by decide +kernel
theorem dX8_found_12 : decode cX8_found 12 = .ok (.aload_n 0, 1) := by decide +kernel
theorem dX8_found_13 : decode cX8_found 13 = .ok (.getfield 29, 3) := by decide +kernel
theorem dX8_found_16 : decode cX8_found 16 = .ok (.iload_n 1, 1) := by decide +kernel
theorem dX8_found_17 : decode cX8_found 17 = .ok (.iaload, 1) := by decide +kernel
theorem dX8_found_18 : decode cX8_found 18 = .ok (.iload_n 2, 1) := by decide +kernel
theorem dX8_found_19 : decode cX8_found 19 = .ok (.if_icmp .eq 6, 3) := by decide +kernel
theorem dX8_found_22 : decode cX8_found 22 = .ok (.bipush (-12), 2) := by decide +kernel
theorem dX8_found_24 : decode cX8_found 24 = .ok (.ireturn, 1) := by decide +kernel
theorem dX8_found_25 : decode cX8_found 25 = .ok (.iload_n 3, 1) := by decide +kernel
theorem dX8_found_26 : decode cX8_found 26 = .ok (.ifCond .lt 16, 3) := by decide +kernel
theorem dX8_found_29 : decode cX8_found 29 = .ok (.iload 4, 2) := by decide +kernel
theorem dX8_found_31 : decode cX8_found 31 = .ok (.aload_n 0, 1) := by decide +kernel
theorem dX8_found_32 : decode cX8_found 32 = .ok (.getfield 32, 3) := by decide +kernel
theorem dX8_found_35 : decode cX8_found 35 = .ok (.iload_n 1, 1) := by decide +kernel
theorem dX8_found_36 : decode cX8_found 36 = .ok (.iaload, 1) := by decide +kernel
theorem dX8_found_37 : decode cX8_found 37 = .ok (.iload_n 3, 1) := by decide +kernel
theorem dX8_found_38 : decode cX8_found 38 = .ok (.isub, 1) := by decide +kernel
theorem dX8_found_39 : decode cX8_found 39 = .ok (.if_icmp .le 8, 3) := by decide +kernel
theorem dX8_found_42 : decode cX8_found 42 = .ok (.bipush (-13), 2) := by decide +kernel
theorem dX8_found_44 : decode cX8_found 44 = .ok (.goto 4, 3) := by decide +kernel
theorem dX8_found_47 : decode cX8_found 47 = .ok (.iconst 0, 1) := by decide +kernel
theorem dX8_found_48 : decode cX8_found 48 = .ok (.ireturn, 1) := by decide +kernel
theorem dX8_seen_0 : decode cX8_seen 0 = .ok (.iload_n 1, 1) := by decide +kernel
theorem dX8_seen_1 : decode cX8_seen 1 = .ok (.invokestatic 285, 3) := by decide +kernel
theorem dX8_seen_4 : decode cX8_seen 4 = .ok (.ifCond .eq 15, 3) := by decide +kernel
theorem dX8_seen_7 : decode cX8_seen 7 = .ok (.iload_n 2, 1) := by decide +kernel
theorem dX8_seen_8 : decode cX8_seen 8 = .ok (.i2l, 1) := by decide +kernel
theorem dX8_seen_9 : decode cX8_seen 9 = .ok (.lconst 0, 1) := by decide +kernel
theorem dX8_seen_10 : decode cX8_seen 10 = .ok (.ldc2_w 283, 3) := by decide +kernel
theorem dX8_seen_13 : decode cX8_seen 13 = .ok (.invokestatic 71, 3) := by decide +kernel
theorem dX8_seen_16 : decode cX8_seen 16 = .ok (.ifCond .ne 5, 3) := by decide +kernel
theorem dX8_seen_19 : decode cX8_seen 19 = .ok (.iconst (-1), 1) := by decide +kernel
theorem dX8_seen_20 : decode cX8_seen 20 = .ok (.ireturn, 1) := by decide +kernel
theorem dX8_seen_21 : decode cX8_seen 21 = .ok (.aload_n 0, 1) := by decide +kernel
theorem dX8_seen_22 : decode cX8_seen 22 = .ok (.iload_n 1, 1) := by decide +kernel
theorem dX8_seen_23 : decode cX8_seen 23 = .ok (.iload_n 2, 1) := by decide +kernel
theorem dX8_seen_24 : decode cX8_seen 24 = .ok (.iload_n 3, 1) := by decide +kernel
theorem dX8_seen_25 : decode cX8_seen 25 = .ok (.aload_n 0, 1) := by decide +kernel
theorem dX8_seen_26 : decode cX8_seen 26 = .ok (.getfield 7, 3) := by decide +kernel
theorem dX8_seen_29 : decode cX8_seen 29 = .ok (.iconst 0, 1) := by decide +kernel
theorem dX8_seen_30 : decode cX8_seen 30 = .ok (.iaload, 1) := by decide +kernel
theorem dX8_seen_31 : decode cX8_seen 31 = .ok (.invokevirtual 288, 3) := by decide +kernel
theorem dX8_seen_34 : decode cX8_seen 34 = .ok (.istore 4, 2) := by decide +kernel
theorem dX8_seen_36 : decode cX8_seen 36 = .ok (.iload 4, 2) := by decide +kernel
theorem dX8_seen_38 : decode cX8_seen 38 = .ok (.ifCond .ge 6, 3) := by decide +kernel
theorem dX8_seen_41 : decode cX8_seen 41 = .ok (.iload 4, 2) := by decide +kernel
theorem dX8_seen_43 : decode cX8_seen 43 = .ok (.ireturn, 1) := by decide +kernel
theorem dX8_seen_44 : decode cX8_seen 44 = .ok (.aload_n 0, 1) := by decide +kernel
theorem dX8_seen_45 : decode cX8_seen 45 = .ok (.getfield 7, 3) := by decide +kernel
theorem dX8_seen_48 : decode cX8_seen 48 = .ok (.iconst 0, 1) := by decide +kernel
theorem dX8_seen_49 : decode cX8_seen 49 = .ok (.iaload, 1) := by decide +kernel
theorem dX8_seen_50 : decode cX8_seen 50 = .ok (.ifCond .le 7, 3) := by decide +kernel
theorem dX8_seen_53 : decode cX8_seen 53 = .ok (.iconst 1, 1) := by decide +kernel
theorem dX8_seen_54 : decode cX8_seen 54 = .ok (.goto 4, 3) := by decide +kernel
theorem dX8_seen_57 : decode cX8_seen 57 = .ok (.iconst 0, 1) := by decide +kernel
theorem dX8_seen_58 : decode cX8_seen 58 = .ok (.istore 5, 2) := by decide +kernel
theorem dX8_seen_60 : decode cX8_seen 60 = .ok (.iconst 0, 1) := by decide +kernel
theorem dX8_seen_61 : decode cX8_seen 61 = .ok (.istore 6, 2) := by decide +kernel
theorem dX8_seen_63 : decode cX8_seen 63 = .ok (.iload 6, 2) := by decide +kernel
theorem dX8_seen_65 : decode cX8_seen 65 = .ok (.aload_n 0, 1) := by decide +kernel
theorem dX8_seen_66 : decode cX8_seen 66 = .ok (.getfield 7, 3) := by decide +kernel
theorem dX8_seen_69 : decode cX8_seen 69 = .ok (.iconst 0, 1) := by decide +kernel
theorem dX8_seen_70 : decode cX8_seen 70 = .ok (.iaload, 1) := by decide +kernel
theorem dX8_seen_71 : decode cX8_seen 71 = .ok (.if_icmp .ge 45, 3) := by decide +kernel
theorem dX8_seen_74 : decode cX8_seen 74 = .ok (.iload 5, 2) := by decide +kernel
theorem dX8_seen_76 : decode cX8_seen 76 = .ok (.ifCond .eq 31, 3) := by decide +kernel
theorem dX8_seen_79 : decode cX8_seen 79 = .ok (.aload_n 0, 1) := by decide +kernel
theorem dX8_seen_80 : decode cX8_seen 80 = .ok (.getfield 35, 3) := by decide +kernel
theorem dX8_seen_83 : decode cX8_seen 83 = .ok (.bipush 24, 2) := by decide +kernel
theorem dX8_seen_85 : decode cX8_seen 85 = .ok (.iload_n 1, 1) := by decide +kernel
theorem dX8_seen_86 : decode cX8_seen 86 = .ok (.imul, 1) := by decide +kernel
theorem dX8_seen_87 : decode cX8_seen 87 = .ok (.iload_n 3, 1) := by decide +kernel
theorem dX8_seen_88 : decode cX8_seen 88 = .ok (.iadd, 1) := by decide +kernel
theorem dX8_seen_89 : decode cX8_seen 89 = .ok (.iload 6, 2) := by decide +kernel
theorem dX8_seen_91 : decode cX8_seen 91 = .ok (.iadd, 1) := by decide +kernel
theorem dX8_seen_92 : decode cX8_seen 92 = .ok (.laload, 1) := by decide +kernel
theorem dX8_seen_93 : decode cX8_seen 93 = .ok (.lconst 0, 1) := by decide +kernel
theorem dX8_seen_94 : decode cX8_seen 94 = .ok (.ldc2_w 184, 3) := by decide +kernel
theorem dX8_seen_97 : decode cX8_seen 97 = .ok (.invokestatic 71, 3) := by decide +kernel
theorem dX8_seen_100 : decode cX8_seen 100 = .ok (.ifCond .eq 7, 3) := by decide +kernel
theorem dX8_seen_103 : decode cX8_seen 103 = .ok (.iconst 1, 1) := by decide +kernel
theorem dX8_seen_104 : decode cX8_seen 104 = .ok (.goto 4, 3) := by decide +kernel
theorem dX8_seen_107 : decode cX8_seen 107 = .ok (.iconst 0, 1) := by decide +kernel
theorem dX8_seen_108 : decode cX8_seen 108 = .ok (.istore 5, 2) := by decide +kernel
theorem dX8_seen_110 : decode cX8_seen 110 = .ok (.iinc 6 1, 3) := by decide +kernel
theorem dX8_seen_113 : decode cX8_seen 113 = .ok (.goto (-50), 3) := by decide +kernel
theorem dX8_seen_116 : decode cX8_seen 116 = .ok (.iload 5, 2) := by decide +kernel
theorem dX8_seen_118 : decode cX8_seen 118 = .ok (.ifCond .ne 6, 3) := by decide +kernel
theorem dX8_seen_121 : decode cX8_seen 121 = .ok (.bipush (-2), 2) := by decide +kernel
theorem dX8_seen_123 : decode cX8_seen 123 = .ok (.ireturn, 1) := by decide +kernel
theorem dX8_seen_124 : decode cX8_seen 124 = .ok (.iconst 0, 1) := by decide +kernel
theorem dX8_seen_125 : decode cX8_seen 125 = .ok (.istore 6, 2) := by decide +kernel
theorem dX8_seen_127 : decode cX8_seen 127 = .ok (.aload_n 0, 1) := by decide +kernel
theorem dX8_seen_128 : decode cX8_seen 128 = .ok (.invokevirtual 134, 3) := by decide +kernel
theorem dX8_seen_131 : decode cX8_seen 131 = .ok (.iconst 1, 1) := by decide +kernel
theorem dX8_seen_132 : decode cX8_seen 132 = .ok (.istore 7, 2) := by decide +kernel
theorem dX8_seen_134 : decode cX8_seen 134 = .ok (.iload 7, 2) := by decide +kernel
theorem dX8_seen_136 : decode cX8_seen 136 = .ok (.ifCond .eq 95, 3) := by decide +kernel
theorem dX8_seen_139 : decode cX8_seen 139 = .ok (.aload_n 0, 1) := by decide +kernel
theorem dX8_seen_140 : decode cX8_seen 140 = .ok (.invokevirtual 99, 3) := by decide +kernel
theorem dX8_seen_143 : decode cX8_seen 143 = .ok (.iconst 1, 1) := by decide +kernel
theorem dX8_seen_144 : decode cX8_seen 144 = .ok (.istore 8, 2) := by decide +kernel
theorem dX8_seen_146 : decode cX8_seen 146 = .ok (.iconst 0, 1) := by decide +kernel
theorem dX8_seen_147 : decode cX8_seen 147 = .ok (.istore 9, 2) := by decide +kernel
theorem dX8_seen_149 : decode cX8_seen 149 = .ok (.iload 9, 2) := by decide +kernel
theorem dX8_seen_151 : decode cX8_seen 151 = .ok (.aload_n 0, 1) := by decide +kernel
theorem dX8_seen_152 : decode cX8_seen 152 = .ok (.getfield 7, 3) := by decide +kernel
theorem dX8_seen_155 : decode cX8_seen 155 = .ok (.iconst 0, 1) := by decide +kernel
theorem dX8_seen_156 : decode cX8_seen 156 = .ok (.iaload, 1) := by decide +kernel
theorem dX8_seen_157 : decode cX8_seen 157 = .ok (.if_icmp .ge 50, 3) := by decide +kernel
theorem dX8_seen_160 : decode cX8_seen 160 = .ok (.iload 8, 2) := by decide +kernel
theorem dX8_seen_162 : decode cX8_seen 162 = .ok (.ifCond .eq 36, 3) := by decide +kernel
theorem dX8_seen_165 : decode cX8_seen 165 = .ok (.aload_n 0, 1) := by decide +kernel
theorem dX8_seen_166 : decode cX8_seen 166 = .ok (.getfield 51, 3) := by decide +kernel
theorem dX8_seen_169 : decode cX8_seen 169 = .ok (.iload 9, 2) := by decide +kernel
theorem dX8_seen_171 : decode cX8_seen 171 = .ok (.iaload, 1) := by decide +kernel
theorem dX8_seen_172 : decode cX8_seen 172 = .ok (.invokestatic 93, 3) := by decide +kernel
theorem dX8_seen_175 : decode cX8_seen 175 = .ok (.i2l, 1) := by decide +kernel
theorem dX8_seen_176 : decode cX8_seen 176 = .ok (.aload_n 0, 1) := by decide +kernel
theorem dX8_seen_177 : decode cX8_seen 177 = .ok (.getfield 35, 3) := by decide +kernel
theorem dX8_seen_180 : decode cX8_seen 180 = .ok (.bipush 24, 2) := by decide +kernel
theorem dX8_seen_182 : decode cX8_seen 182 = .ok (.iload_n 1, 1) := by decide +kernel
theorem dX8_seen_183 : decode cX8_seen 183 = .ok (.imul, 1) := by decide +kernel
theorem dX8_seen_184 : decode cX8_seen 184 = .ok (.iload_n 3, 1) := by decide +kernel
theorem dX8_seen_185 : decode cX8_seen 185 = .ok (.iadd, 1) := by decide +kernel
theorem dX8_seen_186 : decode cX8_seen 186 = .ok (.iload 9, 2) := by decide +kernel
theorem dX8_seen_188 : decode cX8_seen 188 = .ok (.iadd, 1) := by decide +kernel
theorem dX8_seen_189 : decode cX8_seen 189 = .ok (.laload, 1) := by decide +kernel
theorem dX8_seen_190 : decode cX8_seen 190 = .ok (.lcmp, 1) := by decide +kernel
theorem dX8_seen_191 : decode cX8_seen 191 = .ok (.ifCond .ne 7, 3) := by decide +kernel
theorem dX8_seen_194 : decode cX8_seen 194 = .ok (.iconst 1, 1) := by decide +kernel
theorem dX8_seen_195 : decode cX8_seen 195 = .ok (.goto 4, 3) := by decide +kernel
theorem dX8_seen_198 : decode cX8_seen 198 = .ok (.iconst 0, 1) := by decide +kernel
theorem dX8_seen_199 : decode cX8_seen 199 = .ok (.istore 8, 2) := by decide +kernel
theorem dX8_seen_201 : decode cX8_seen 201 = .ok (.iinc 9 1, 3) := by decide +kernel
theorem dX8_seen_204 : decode cX8_seen 204 = .ok (.goto (-55), 3) := by decide +kernel
theorem dX8_seen_207 : decode cX8_seen 207 = .ok (.iload 6, 2) := by decide +kernel
theorem dX8_seen_209 : decode cX8_seen 209 = .ok (.iload 8, 2) := by decide +kernel
theorem dX8_seen_211 : decode cX8_seen 211 = .ok (.ifCond .eq 7, 3) := by decide +kernel
theorem dX8_seen_214 : decode cX8_seen 214 = .ok (.iconst 1, 1) := by decide +kernel
theorem dX8_seen_215 : decode cX8_seen 215 = .ok (.goto 4, 3) := by decide +kernel
theorem dX8_seen_218 : decode cX8_seen 218 = .ok (.iconst 0, 1) := by decide +kernel
theorem dX8_seen_219 : decode cX8_seen 219 = .ok (.iadd, 1) := by decide +kernel
theorem dX8_seen_220 : decode cX8_seen 220 = .ok (.istore 6, 2) := by decide +kernel
theorem dX8_seen_222 : decode cX8_seen 222 = .ok (.aload_n 0, 1) := by decide +kernel
theorem dX8_seen_223 : decode cX8_seen 223 = .ok (.invokevirtual 143, 3) := by decide +kernel
theorem dX8_seen_226 : decode cX8_seen 226 = .ok (.istore 7, 2) := by decide +kernel
theorem dX8_seen_228 : decode cX8_seen 228 = .ok (.goto (-94), 3) := by decide +kernel
theorem dX8_seen_231 : decode cX8_seen 231 = .ok (.iload 6, 2) := by decide +kernel
theorem dX8_seen_233 : decode cX8_seen 233 = .ok (.ireturn, 1) := by decide +kernel
theorem dX8_film_0 : decode cX8_film 0 = .ok (.iload_n 1, 1) := by decide +kernel
theorem dX8_film_1 : decode cX8_film 1 = .ok (.invokestatic 285, 3) := by decide +kernel
theorem dX8_film_4 : decode cX8_film 4 = .ok (.ifCond .eq 15, 3) := by decide +kernel
theorem dX8_film_7 : decode cX8_film 7 = .ok (.iload_n 2, 1) := by decide +kernel
theorem dX8_film_8 : decode cX8_film 8 = .ok (.i2l, 1) := by decide +kernel
theorem dX8_film_9 : decode cX8_film 9 = .ok (.lconst 0, 1) := by decide +kernel
theorem dX8_film_10 : decode cX8_film 10 = .ok (.ldc2_w 283, 3) := by decide +kernel
theorem dX8_film_13 : decode cX8_film 13 = .ok (.invokestatic 71, 3) := by decide +kernel
theorem dX8_film_16 : decode cX8_film 16 = .ok (.ifCond .ne 5, 3) := by decide +kernel
theorem dX8_film_19 : decode cX8_film 19 = .ok (.iconst (-1), 1) := by decide +kernel
theorem dX8_film_20 : decode cX8_film 20 = .ok (.ireturn, 1) := by decide +kernel
theorem dX8_film_21 : decode cX8_film 21 = .ok (.aload_n 0, 1) := by decide +kernel
theorem dX8_film_22 : decode cX8_film 22 = .ok (.iload_n 1, 1) := by decide +kernel
theorem dX8_film_23 : decode cX8_film 23 = .ok (.iload_n 2, 1) := by decide +kernel
theorem dX8_film_24 : decode cX8_film 24 = .ok (.iload_n 3, 1) := by decide +kernel
theorem dX8_film_25 : decode cX8_film 25 = .ok (.aload_n 0, 1) := by decide +kernel
theorem dX8_film_26 : decode cX8_film 26 = .ok (.getfield 7, 3) := by decide +kernel
theorem dX8_film_29 : decode cX8_film 29 = .ok (.iconst 0, 1) := by decide +kernel
theorem dX8_film_30 : decode cX8_film 30 = .ok (.iaload, 1) := by decide +kernel
theorem dX8_film_31 : decode cX8_film 31 = .ok (.invokevirtual 288, 3) := by decide +kernel
theorem dX8_film_34 : decode cX8_film 34 = .ok (.istore 4, 2) := by decide +kernel
theorem dX8_film_36 : decode cX8_film 36 = .ok (.iload 4, 2) := by decide +kernel
theorem dX8_film_38 : decode cX8_film 38 = .ok (.ifCond .ge 6, 3) := by decide +kernel
theorem dX8_film_41 : decode cX8_film 41 = .ok (.iload 4, 2) := by decide +kernel
theorem dX8_film_43 : decode cX8_film 43 = .ok (.ireturn, 1) := by decide +kernel
theorem dX8_film_44 : decode cX8_film 44 = .ok (.aload_n 0, 1) := by decide +kernel
theorem dX8_film_45 : decode cX8_film 45 = .ok (.invokevirtual 96, 3) := by decide +kernel
theorem dX8_film_48 : decode cX8_film 48 = .ok (.aload_n 0, 1) := by decide +kernel
theorem dX8_film_49 : decode cX8_film 49 = .ok (.invokevirtual 99, 3) := by decide +kernel
theorem dX8_film_52 : decode cX8_film 52 = .ok (.iconst 0, 1) := by decide +kernel
theorem dX8_film_53 : decode cX8_film 53 = .ok (.istore 5, 2) := by decide +kernel
theorem dX8_film_55 : decode cX8_film 55 = .ok (.iload 5, 2) := by decide +kernel
theorem dX8_film_57 : decode cX8_film 57 = .ok (.aload_n 0, 1) := by decide +kernel
theorem dX8_film_58 : decode cX8_film 58 = .ok (.getfield 7, 3) := by decide +kernel
theorem dX8_film_61 : decode cX8_film 61 = .ok (.iconst 0, 1) := by decide +kernel
theorem dX8_film_62 : decode cX8_film 62 = .ok (.iaload, 1) := by decide +kernel
theorem dX8_film_63 : decode cX8_film 63 = .ok (.if_icmp .ge 34, 3) := by decide +kernel
theorem dX8_film_66 : decode cX8_film 66 = .ok (.aload_n 0, 1) := by decide +kernel
theorem dX8_film_67 : decode cX8_film 67 = .ok (.getfield 35, 3) := by decide +kernel
theorem dX8_film_70 : decode cX8_film 70 = .ok (.bipush 24, 2) := by decide +kernel
theorem dX8_film_72 : decode cX8_film 72 = .ok (.iload_n 1, 1) := by decide +kernel
theorem dX8_film_73 : decode cX8_film 73 = .ok (.imul, 1) := by decide +kernel
theorem dX8_film_74 : decode cX8_film 74 = .ok (.iload_n 3, 1) := by decide +kernel
theorem dX8_film_75 : decode cX8_film 75 = .ok (.iadd, 1) := by decide +kernel
theorem dX8_film_76 : decode cX8_film 76 = .ok (.iload 5, 2) := by decide +kernel
theorem dX8_film_78 : decode cX8_film 78 = .ok (.iadd, 1) := by decide +kernel
theorem dX8_film_79 : decode cX8_film 79 = .ok (.aload_n 0, 1) := by decide +kernel
theorem dX8_film_80 : decode cX8_film 80 = .ok (.getfield 51, 3) := by decide +kernel
theorem dX8_film_83 : decode cX8_film 83 = .ok (.iload 5, 2) := by decide +kernel
theorem dX8_film_85 : decode cX8_film 85 = .ok (.iaload, 1) := by decide +kernel
theorem dX8_film_86 : decode cX8_film 86 = .ok (.invokestatic 93, 3) := by decide +kernel
theorem dX8_film_89 : decode cX8_film 89 = .ok (.i2l, 1) := by decide +kernel
theorem dX8_film_90 : decode cX8_film 90 = .ok (.lastore, 1) := by decide +kernel
theorem dX8_film_91 : decode cX8_film 91 = .ok (.iinc 5 1, 3) := by decide +kernel
theorem dX8_film_94 : decode cX8_film 94 = .ok (.goto (-39), 3) := by decide +kernel
theorem dX8_film_97 : decode cX8_film 97 = .ok (.aload_n 0, 1) := by decide +kernel
theorem dX8_film_98 : decode cX8_film 98 = .ok (.getfield 7, 3) := by decide +kernel
theorem dX8_film_101 : decode cX8_film 101 = .ok (.iconst 0, 1) := by decide +kernel
theorem dX8_film_102 : decode cX8_film 102 = .ok (.iaload, 1) := by decide +kernel
theorem dX8_film_103 : decode cX8_film 103 = .ok (.ireturn, 1) := by decide +kernel
theorem dX8_sheet_0 : decode cX8_sheet 0 = .ok (.iload_n 1, 1) := by decide +kernel
theorem dX8_sheet_1 : decode cX8_sheet 1 = .ok (.invokestatic 285, 3) := by decide +kernel
theorem dX8_sheet_4 : decode cX8_sheet 4 = .ok (.ifCond .eq 21, 3) := by decide +kernel
theorem dX8_sheet_7 : decode cX8_sheet 7 = .ok (.iload_n 2, 1) := by decide +kernel
theorem dX8_sheet_8 : decode cX8_sheet 8 = .ok (.i2l, 1) := by decide +kernel
theorem dX8_sheet_9 : decode cX8_sheet 9 = .ok (.lconst 0, 1) := by decide +kernel
theorem dX8_sheet_10 : decode cX8_sheet 10 = .ok (.ldc2_w 283, 3) := by decide +kernel
theorem dX8_sheet_13 : decode cX8_sheet 13 = .ok (.invokestatic 71, 3) := by decide +kernel
theorem dX8_sheet_16 : decode cX8_sheet 16 = .ok (.ifCond .eq 9, 3) := by decide +kernel
theorem dX8_sheet_19 : decode cX8_sheet 19 = .ok (.iload_n 3, 1) := by decide +kernel
theorem dX8_sheet_20 : decode cX8_sheet 20 = .ok (.bipush 24, 2) := by decide +kernel
theorem dX8_sheet_22 : decode cX8_sheet 22 = .ok (.if_icmp .le 5, 3) := by decide +kernel
theorem dX8_sheet_25 : decode cX8_sheet 25 = .ok (.iconst (-1), 1) := by decide +kernel
theorem dX8_sheet_26 : decode cX8_sheet 26 = .ok (.ireturn, 1) := by decide +kernel
theorem dX8_sheet_27 : decode cX8_sheet 27 = .ok (.iload_n 3, 1) := by decide +kernel
theorem dX8_sheet_28 : decode cX8_sheet 28 = .ok (.ifCond .ge 6, 3) := by decide +kernel
theorem dX8_sheet_31 : decode cX8_sheet 31 = .ok (.bipush (-14), 2) := by decide +kernel
theorem dX8_sheet_33 : decode cX8_sheet 33 = .ok (.ireturn, 1) := by decide +kernel
theorem dX8_sheet_34 : decode cX8_sheet 34 = .ok (.aload_n 0, 1) := by decide +kernel
theorem dX8_sheet_35 : decode cX8_sheet 35 = .ok (.getfield 29, 3) := by decide +kernel
theorem dX8_sheet_38 : decode cX8_sheet 38 = .ok (.iload_n 1, 1) := by decide +kernel
theorem dX8_sheet_39 : decode cX8_sheet 39 = .ok (.iload_n 2, 1) := by decide +kernel
theorem dX8_sheet_40 : decode cX8_sheet 40 = .ok (.iastore, 1) := by decide +kernel
theorem dX8_sheet_41 : decode cX8_sheet 41 = .ok (.aload_n 0, 1) := by decide +kernel
theorem dX8_sheet_42 : decode cX8_sheet 42 = .ok (.getfield 32, 3) := by decide +kernel
theorem dX8_sheet_45 : decode cX8_sheet 45 = .ok (.iload_n 1, 1) := by decide +kernel
theorem dX8_sheet_46 : decode cX8_sheet 46 = .ok (.iload_n 3, 1) := by decide +kernel
theorem dX8_sheet_47 : decode cX8_sheet 47 = .ok (.iastore, 1) := by decide +kernel
theorem dX8_sheet_48 : decode cX8_sheet 48 = .ok (.iconst 0, 1) := by decide +kernel
theorem dX8_sheet_49 : decode cX8_sheet 49 = .ok (.istore 4, 2) := by decide +kernel
theorem dX8_sheet_51 : decode cX8_sheet 51 = .ok (.iload 4, 2) := by decide +kernel
theorem dX8_sheet_53 : decode cX8_sheet 53 = .ok (.bipush 24, 2) := by decide +kernel
theorem dX8_sheet_55 : decode cX8_sheet 55 = .ok (.if_icmp .ge 22, 3) := by decide +kernel
theorem dX8_sheet_58 : decode cX8_sheet 58 = .ok (.aload_n 0, 1) := by decide +kernel
theorem dX8_sheet_59 : decode cX8_sheet 59 = .ok (.getfield 35, 3) := by decide +kernel
theorem dX8_sheet_62 : decode cX8_sheet 62 = .ok (.bipush 24, 2) := by decide +kernel
theorem dX8_sheet_64 : decode cX8_sheet 64 = .ok (.iload_n 1, 1) := by decide +kernel
theorem dX8_sheet_65 : decode cX8_sheet 65 = .ok (.imul, 1) := by decide +kernel
theorem dX8_sheet_66 : decode cX8_sheet 66 = .ok (.iload 4, 2) := by decide +kernel
theorem dX8_sheet_68 : decode cX8_sheet 68 = .ok (.iadd, 1) := by decide +kernel
theorem dX8_sheet_69 : decode cX8_sheet 69 = .ok (.lconst 0, 1) := by decide +kernel
theorem dX8_sheet_70 : decode cX8_sheet 70 = .ok (.lastore, 1) := by decide +kernel
theorem dX8_sheet_71 : decode cX8_sheet 71 = .ok (.iinc 4 1, 3) := by decide +kernel
theorem dX8_sheet_74 : decode cX8_sheet 74 = .ok (.goto (-23), 3) := by decide +kernel
theorem dX8_sheet_77 : decode cX8_sheet 77 = .ok (.iload_n 3, 1) := by decide +kernel
theorem dX8_sheet_78 : decode cX8_sheet 78 = .ok (.ireturn, 1) := by decide +kernel
theorem dX8_drop_0 : decode cX8_drop 0 = .ok (.iload_n 1, 1) := by decide +kernel
theorem dX8_drop_1 : decode cX8_drop 1 = .ok (.invokestatic 285, 3) := by decide +kernel
theorem dX8_drop_4 : decode cX8_drop 4 = .ok (.ifCond .ne 5, 3) := by decide +kernel
theorem dX8_drop_7 : decode cX8_drop 7 = .ok (.iconst (-1), 1) := by decide +kernel
theorem dX8_drop_8 : decode cX8_drop 8 = .ok (.ireturn, 1) := by decide +kernel
theorem dX8_drop_9 : decode cX8_drop 9 = .ok (.aload_n 0, 1) := by decide +kernel
theorem dX8_drop_10 : decode cX8_drop 10 = .ok (.getfield 29, 3) := by decide +kernel
theorem dX8_drop_13 : decode cX8_drop 13 = .ok (.iload_n 1, 1) := by decide +kernel
theorem dX8_drop_14 : decode cX8_drop 14 = .ok (.iaload, 1) := by decide +kernel
theorem dX8_drop_15 : decode cX8_drop 15 = .ok (.ifCond .ge 6, 3) := by decide +kernel
theorem dX8_drop_18 : decode cX8_drop 18 = .ok (.bipush (-11), 2) := by decide +kernel
theorem dX8_drop_20 : decode cX8_drop 20 = .ok (.ireturn, 1) := by decide +kernel
theorem dX8_drop_21 : decode cX8_drop 21 = .ok (.aload_n 0, 1) := by decide +kernel
theorem dX8_drop_22 : decode cX8_drop 22 = .ok (.getfield 29, 3) := by decide +kernel
theorem dX8_drop_25 : decode cX8_drop 25 = .ok (.iload_n 1, 1) := by decide +kernel
theorem dX8_drop_26 : decode cX8_drop 26 = .ok (.iconst (-1), 1) := by decide +kernel
theorem dX8_drop_27 : decode cX8_drop 27 = .ok (.iastore, 1) := by decide +kernel
theorem dX8_drop_28 : decode cX8_drop 28 = .ok (.aload_n 0, 1) := by decide +kernel
theorem dX8_drop_29 : decode cX8_drop 29 = .ok (.getfield 32, 3) := by decide +kernel
theorem dX8_drop_32 : decode cX8_drop 32 = .ok (.iload_n 1, 1) := by decide +kernel
theorem dX8_drop_33 : decode cX8_drop 33 = .ok (.iaload, 1) := by decide +kernel
theorem dX8_drop_34 : decode cX8_drop 34 = .ok (.ireturn, 1) := by decide +kernel
theorem dX8_item_0 : decode cX8_item 0 = .ok (.iload_n 1, 1) := by decide +kernel
theorem dX8_item_1 : decode cX8_item 1 = .ok (.invokestatic 285, 3) := by decide +kernel
theorem dX8_item_4 : decode cX8_item 4 = .ok (.ifCond .eq 15, 3) := by decide +kernel
theorem dX8_item_7 : decode cX8_item 7 = .ok (.iload_n 2, 1) := by decide +kernel
theorem dX8_item_8 : decode cX8_item 8 = .ok (.i2l, 1) := by decide +kernel
theorem dX8_item_9 : decode cX8_item 9 = .ok (.lconst 0, 1) := by decide +kernel
theorem dX8_item_10 : decode cX8_item 10 = .ok (.ldc2_w 283, 3) := by decide +kernel
theorem dX8_item_13 : decode cX8_item 13 = .ok (.invokestatic 71, 3) := by decide +kernel
theorem dX8_item_16 : decode cX8_item 16 = .ok (.ifCond .ne 5, 3) := by decide +kernel
theorem dX8_item_19 : decode cX8_item 19 = .ok (.iconst (-1), 1) := by decide +kernel
theorem dX8_item_20 : decode cX8_item 20 = .ok (.ireturn, 1) := by decide +kernel
theorem dX8_item_21 : decode cX8_item 21 = .ok (.aload_n 0, 1) := by decide +kernel
theorem dX8_item_22 : decode cX8_item 22 = .ok (.iload_n 1, 1) := by decide +kernel
theorem dX8_item_23 : decode cX8_item 23 = .ok (.iload_n 2, 1) := by decide +kernel
theorem dX8_item_24 : decode cX8_item 24 = .ok (.iload_n 3, 1) := by decide +kernel
theorem dX8_item_25 : decode cX8_item 25 = .ok (.iconst 1, 1) := by decide +kernel
theorem dX8_item_26 : decode cX8_item 26 = .ok (.invokevirtual 288, 3) := by decide +kernel
theorem dX8_item_29 : decode cX8_item 29 = .ok (.istore 6, 2) := by decide +kernel
theorem dX8_item_31 : decode cX8_item 31 = .ok (.iload 6, 2) := by decide +kernel
theorem dX8_item_33 : decode cX8_item 33 = .ok (.ifCond .ge 6, 3) := by decide +kernel
theorem dX8_item_36 : decode cX8_item 36 = .ok (.iload 6, 2) := by decide +kernel
theorem dX8_item_38 : decode cX8_item 38 = .ok (.ireturn, 1) := by decide +kernel
theorem dX8_item_39 : decode cX8_item 39 = .ok (.aload_n 0, 1) := by decide +kernel
theorem dX8_item_40 : decode cX8_item 40 = .ok (.getfield 35, 3) := by decide +kernel
theorem dX8_item_43 : decode cX8_item 43 = .ok (.bipush 24, 2) := by decide +kernel
theorem dX8_item_45 : decode cX8_item 45 = .ok (.iload_n 1, 1) := by decide +kernel
theorem dX8_item_46 : decode cX8_item 46 = .ok (.imul, 1) := by decide +kernel
theorem dX8_item_47 : decode cX8_item 47 = .ok (.iload_n 3, 1) := by decide +kernel
theorem dX8_item_48 : decode cX8_item 48 = .ok (.iadd, 1) := by decide +kernel
theorem dX8_item_49 : decode cX8_item 49 = .ok (.iload_n 2, 1) := by decide +kernel
theorem dX8_item_50 : decode cX8_item 50 = .ok (.lload 4, 2) := by decide +kernel
theorem dX8_item_52 : decode cX8_item 52 = .ok (.invokestatic 292, 3) := by decide +kernel
theorem dX8_item_55 : decode cX8_item 55 = .ok (.lastore, 1) := by decide +kernel
theorem dX8_item_56 : decode cX8_item 56 = .ok (.iconst 1, 1) := by decide +kernel
theorem dX8_item_57 : decode cX8_item 57 = .ok (.ireturn, 1) := by decide +kernel
theorem dX8_copy_0 : decode cX8_copy 0 = .ok (.iload_n 1, 1) := by decide +kernel
theorem dX8_copy_1 : decode cX8_copy 1 = .ok (.invokestatic 285, 3) := by decide +kernel
theorem dX8_copy_4 : decode cX8_copy 4 = .ok (.ifCond .eq 10, 3) := by decide +kernel
theorem dX8_copy_7 : decode cX8_copy 7 = .ok (.iload_n 3, 1) := by decide +kernel
theorem dX8_copy_8 : decode cX8_copy 8 = .ok (.invokestatic 285, 3) := by decide +kernel
theorem dX8_copy_11 : decode cX8_copy 11 = .ok (.ifCond .ne 5, 3) := by decide +kernel
theorem dX8_copy_14 : decode cX8_copy 14 = .ok (.iconst (-1), 1) := by decide +kernel
theorem dX8_copy_15 : decode cX8_copy 15 = .ok (.ireturn, 1) := by decide +kernel
theorem dX8_copy_16 : decode cX8_copy 16 = .ok (.aload_n 0, 1) := by decide +kernel
theorem dX8_copy_17 : decode cX8_copy 17 = .ok (.getfield 29, 3) := by decide +kernel
theorem dX8_copy_20 : decode cX8_copy 20 = .ok (.iload_n 1, 1) := by decide +kernel
theorem dX8_copy_21 : decode cX8_copy 21 = .ok (.iaload, 1) := by decide +kernel
theorem dX8_copy_22 : decode cX8_copy 22 = .ok (.ifCond .lt 12, 3) := by decide +kernel
theorem dX8_copy_25 : decode cX8_copy 25 = .ok (.aload_n 0, 1) := by decide +kernel
theorem dX8_copy_26 : decode cX8_copy 26 = .ok (.getfield 29, 3) := by decide +kernel
theorem dX8_copy_29 : decode cX8_copy 29 = .ok (.iload_n 3, 1) := by decide +kernel
theorem dX8_copy_30 : decode cX8_copy 30 = .ok (.iaload, 1) := by decide +kernel
theorem dX8_copy_31 : decode cX8_copy 31 = .ok (.ifCond .ge 6, 3) := by decide +kernel
theorem dX8_copy_34 : decode cX8_copy 34 = .ok (.bipush (-11), 2) := by decide +kernel
theorem dX8_copy_36 : decode cX8_copy 36 = .ok (.ireturn, 1) := by decide +kernel
theorem dX8_copy_37 : decode cX8_copy 37 = .ok (.aload_n 0, 1) := by decide +kernel
theorem dX8_copy_38 : decode cX8_copy 38 = .ok (.getfield 29, 3) := by decide +kernel
theorem dX8_copy_41 : decode cX8_copy 41 = .ok (.iload_n 1, 1) := by decide +kernel
theorem dX8_copy_42 : decode cX8_copy 42 = .ok (.iaload, 1) := by decide +kernel
theorem dX8_copy_43 : decode cX8_copy 43 = .ok (.aload_n 0, 1) := by decide +kernel
theorem dX8_copy_44 : decode cX8_copy 44 = .ok (.getfield 29, 3) := by decide +kernel
theorem dX8_copy_47 : decode cX8_copy 47 = .ok (.iload_n 3, 1) := by decide +kernel
theorem dX8_copy_48 : decode cX8_copy 48 = .ok (.iaload, 1) := by decide +kernel
theorem dX8_copy_49 : decode cX8_copy 49 = .ok (.if_icmp .eq 6, 3) := by decide +kernel
theorem dX8_copy_52 : decode cX8_copy 52 = .ok (.bipush (-12), 2) := by decide +kernel
theorem dX8_copy_54 : decode cX8_copy 54 = .ok (.ireturn, 1) := by decide +kernel
theorem dX8_copy_55 : decode cX8_copy 55 = .ok (.iload 5, 2) := by decide +kernel
theorem dX8_copy_57 : decode cX8_copy 57 = .ok (.ifCond .lt 39, 3) := by decide +kernel
theorem dX8_copy_60 : decode cX8_copy 60 = .ok (.iload_n 2, 1) := by decide +kernel
theorem dX8_copy_61 : decode cX8_copy 61 = .ok (.ifCond .lt 35, 3) := by decide +kernel
theorem dX8_copy_64 : decode cX8_copy 64 = .ok (.iload 4, 2) := by decide +kernel
theorem dX8_copy_66 : decode cX8_copy 66 = .ok (.ifCond .lt 30, 3) := by decide +kernel
theorem dX8_copy_69 : decode cX8_copy 69 = .ok (.iload 5, 2) := by decide +kernel
theorem dX8_copy_71 : decode cX8_copy 71 = .ok (.aload_n 0, 1) := by decide +kernel
theorem dX8_copy_72 : decode cX8_copy 72 = .ok (.getfield 32, 3) := by decide +kernel
theorem dX8_copy_75 : decode cX8_copy 75 = .ok (.iload_n 1, 1) := by decide +kernel
theorem dX8_copy_76 : decode cX8_copy 76 = .ok (.iaload, 1) := by decide +kernel
theorem dX8_copy_77 : decode cX8_copy 77 = .ok (.iload_n 2, 1) := by decide +kernel
theorem dX8_copy_78 : decode cX8_copy 78 = .ok (.isub, 1) := by decide +kernel
theorem dX8_copy_79 : decode cX8_copy 79 = .ok (.if_icmp .gt 17, 3) := by decide +kernel
theorem dX8_copy_82 : decode cX8_copy 82 = .ok (.iload 5, 2) := by decide +kernel
theorem dX8_copy_84 : decode cX8_copy 84 = .ok (.aload_n 0, 1) := by decide +kernel
theorem dX8_copy_85 : decode cX8_copy 85 = .ok (.getfield 32, 3) := by decide +kernel
theorem dX8_copy_88 : decode cX8_copy 88 = .ok (.iload_n 3, 1) := by decide +kernel
theorem dX8_copy_89 : decode cX8_copy 89 = .ok (.iaload, 1) := by decide +kernel
theorem dX8_copy_90 : decode cX8_copy 90 = .ok (.iload 4, 2) := by decide +kernel
theorem dX8_copy_92 : decode cX8_copy 92 = .ok (.isub, 1) := by decide +kernel
theorem dX8_copy_93 : decode cX8_copy 93 = .ok (.if_icmp .le 6, 3) := by decide +kernel
theorem dX8_copy_96 : decode cX8_copy 96 = .ok (.bipush (-13), 2) := by decide +kernel
theorem dX8_copy_98 : decode cX8_copy 98 = .ok (.ireturn, 1) := by decide +kernel
theorem dX8_copy_99 : decode cX8_copy 99 = .ok (.iconst 0, 1) := by decide +kernel
theorem dX8_copy_100 : decode cX8_copy 100 = .ok (.istore 6, 2) := by decide +kernel
theorem dX8_copy_102 : decode cX8_copy 102 = .ok (.iload 6, 2) := by decide +kernel
theorem dX8_copy_104 : decode cX8_copy 104 = .ok (.iload 5, 2) := by decide +kernel
theorem dX8_copy_106 : decode cX8_copy 106 = .ok (.if_icmp .ge 30, 3) := by decide +kernel
theorem dX8_copy_109 : decode cX8_copy 109 = .ok (.aload_n 0, 1) := by decide +kernel
theorem dX8_copy_110 : decode cX8_copy 110 = .ok (.getfield 39, 3) := by decide +kernel
theorem dX8_copy_113 : decode cX8_copy 113 = .ok (.iload 6, 2) := by decide +kernel
theorem dX8_copy_115 : decode cX8_copy 115 = .ok (.aload_n 0, 1) := by decide +kernel
theorem dX8_copy_116 : decode cX8_copy 116 = .ok (.getfield 35, 3) := by decide +kernel
theorem dX8_copy_119 : decode cX8_copy 119 = .ok (.bipush 24, 2) := by decide +kernel
theorem dX8_copy_121 : decode cX8_copy 121 = .ok (.iload_n 1, 1) := by decide +kernel
theorem dX8_copy_122 : decode cX8_copy 122 = .ok (.imul, 1) := by decide +kernel
theorem dX8_copy_123 : decode cX8_copy 123 = .ok (.iload_n 2, 1) := by decide +kernel
theorem dX8_copy_124 : decode cX8_copy 124 = .ok (.iadd, 1) := by decide +kernel
theorem dX8_copy_125 : decode cX8_copy 125 = .ok (.iload 6, 2) := by decide +kernel
theorem dX8_copy_127 : decode cX8_copy 127 = .ok (.iadd, 1) := by decide +kernel
theorem dX8_copy_128 : decode cX8_copy 128 = .ok (.laload, 1) := by decide +kernel
theorem dX8_copy_129 : decode cX8_copy 129 = .ok (.lastore, 1) := by decide +kernel
theorem dX8_copy_130 : decode cX8_copy 130 = .ok (.iinc 6 1, 3) := by decide +kernel
theorem dX8_copy_133 : decode cX8_copy 133 = .ok (.goto (-31), 3) := by decide +kernel
theorem dX8_copy_136 : decode cX8_copy 136 = .ok (.iconst 0, 1) := by decide +kernel
theorem dX8_copy_137 : decode cX8_copy 137 = .ok (.istore 6, 2) := by decide +kernel
theorem dX8_copy_139 : decode cX8_copy 139 = .ok (.iload 6, 2) := by decide +kernel
theorem dX8_copy_141 : decode cX8_copy 141 = .ok (.iload 5, 2) := by decide +kernel
theorem dX8_copy_143 : decode cX8_copy 143 = .ok (.if_icmp .ge 31, 3) := by decide +kernel
theorem dX8_copy_146 : decode cX8_copy 146 = .ok (.aload_n 0, 1) := by decide +kernel
theorem dX8_copy_147 : decode cX8_copy 147 = .ok (.getfield 35, 3) := by decide +kernel
theorem dX8_copy_150 : decode cX8_copy 150 = .ok (.bipush 24, 2) := by decide +kernel
theorem dX8_copy_152 : decode cX8_copy 152 = .ok (.iload_n 3, 1) := by decide +kernel
theorem dX8_copy_153 : decode cX8_copy 153 = .ok (.imul, 1) := by decide +kernel
theorem dX8_copy_154 : decode cX8_copy 154 = .ok (.iload 4, 2) := by decide +kernel
theorem dX8_copy_156 : decode cX8_copy 156 = .ok (.iadd, 1) := by decide +kernel
theorem dX8_copy_157 : decode cX8_copy 157 = .ok (.iload 6, 2) := by decide +kernel
theorem dX8_copy_159 : decode cX8_copy 159 = .ok (.iadd, 1) := by decide +kernel
theorem dX8_copy_160 : decode cX8_copy 160 = .ok (.aload_n 0, 1) := by decide +kernel
theorem dX8_copy_161 : decode cX8_copy 161 = .ok (.getfield 39, 3) := by decide +kernel
theorem dX8_copy_164 : decode cX8_copy 164 = .ok (.iload 6, 2) := by decide +kernel
theorem dX8_copy_166 : decode cX8_copy 166 = .ok (.laload, 1) := by decide +kernel
theorem dX8_copy_167 : decode cX8_copy 167 = .ok (.lastore, 1) := by decide +kernel
theorem dX8_copy_168 : decode cX8_copy 168 = .ok (.iinc 6 1, 3) := by decide +kernel
theorem dX8_copy_171 : decode cX8_copy 171 = .ok (.goto (-32), 3) := by decide +kernel
theorem dX8_copy_174 : decode cX8_copy 174 = .ok (.iload 5, 2) := by decide +kernel
theorem dX8_copy_176 : decode cX8_copy 176 = .ok (.ireturn, 1) := by decide +kernel
theorem dJ6_bitCount_0f7a4_0 : decode cJ6_bitCount_0f7a4 0 = .ok (.iload_n 0, 1) := by decide +kernel
theorem dJ6_bitCount_0f7a4_1 : decode cJ6_bitCount_0f7a4 1 = .ok (.iload_n 0, 1) := by decide +kernel
theorem dJ6_bitCount_0f7a4_2 : decode cJ6_bitCount_0f7a4 2 = .ok (.iconst 1, 1) := by decide +kernel
theorem dJ6_bitCount_0f7a4_3 : decode cJ6_bitCount_0f7a4 3 = .ok (.iushr, 1) := by decide +kernel
theorem dJ6_bitCount_0f7a4_4 : decode cJ6_bitCount_0f7a4 4 = .ok (.ldc_w 265, 3) := by decide +kernel
theorem dJ6_bitCount_0f7a4_7 : decode cJ6_bitCount_0f7a4 7 = .ok (.iand, 1) := by decide +kernel
theorem dJ6_bitCount_0f7a4_8 : decode cJ6_bitCount_0f7a4 8 = .ok (.isub, 1) := by decide +kernel
theorem dJ6_bitCount_0f7a4_9 : decode cJ6_bitCount_0f7a4 9 = .ok (.istore_n 0, 1) := by decide +kernel
theorem dJ6_bitCount_0f7a4_10 : decode cJ6_bitCount_0f7a4 10 = .ok (.iload_n 0, 1) := by decide +kernel
theorem dJ6_bitCount_0f7a4_11 : decode cJ6_bitCount_0f7a4 11 = .ok (.ldc_w 266, 3) := by decide +kernel
theorem dJ6_bitCount_0f7a4_14 : decode cJ6_bitCount_0f7a4 14 = .ok (.iand, 1) := by decide +kernel
theorem dJ6_bitCount_0f7a4_15 : decode cJ6_bitCount_0f7a4 15 = .ok (.iload_n 0, 1) := by decide +kernel
theorem dJ6_bitCount_0f7a4_16 : decode cJ6_bitCount_0f7a4 16 = .ok (.iconst 2, 1) := by decide +kernel
theorem dJ6_bitCount_0f7a4_17 : decode cJ6_bitCount_0f7a4 17 = .ok (.iushr, 1) := by decide +kernel
theorem dJ6_bitCount_0f7a4_18 : decode cJ6_bitCount_0f7a4 18 = .ok (.ldc_w 266, 3) := by decide +kernel
theorem dJ6_bitCount_0f7a4_21 : decode cJ6_bitCount_0f7a4 21 = .ok (.iand, 1) := by decide +kernel
theorem dJ6_bitCount_0f7a4_22 : decode cJ6_bitCount_0f7a4 22 = .ok (.iadd, 1) := by decide +kernel
theorem dJ6_bitCount_0f7a4_23 : decode cJ6_bitCount_0f7a4 23 = .ok (.istore_n 0, 1) := by decide +kernel
theorem dJ6_bitCount_0f7a4_24 : decode cJ6_bitCount_0f7a4 24 = .ok (.iload_n 0, 1) := by decide +kernel
theorem dJ6_bitCount_0f7a4_25 : decode cJ6_bitCount_0f7a4 25 = .ok (.iload_n 0, 1) := by decide +kernel
theorem dJ6_bitCount_0f7a4_26 : decode cJ6_bitCount_0f7a4 26 = .ok (.iconst 4, 1) := by decide +kernel
theorem dJ6_bitCount_0f7a4_27 : decode cJ6_bitCount_0f7a4 27 = .ok (.iushr, 1) := by decide +kernel
theorem dJ6_bitCount_0f7a4_28 : decode cJ6_bitCount_0f7a4 28 = .ok (.iadd, 1) := by decide +kernel
theorem dJ6_bitCount_0f7a4_29 : decode cJ6_bitCount_0f7a4 29 = .ok (.ldc_w 267, 3) := by decide +kernel
theorem dJ6_bitCount_0f7a4_32 : decode cJ6_bitCount_0f7a4 32 = .ok (.iand, 1) := by decide +kernel
theorem dJ6_bitCount_0f7a4_33 : decode cJ6_bitCount_0f7a4 33 = .ok (.istore_n 0, 1) := by decide +kernel
theorem dJ6_bitCount_0f7a4_34 : decode cJ6_bitCount_0f7a4 34 = .ok (.iload_n 0, 1) := by decide +kernel
theorem dJ6_bitCount_0f7a4_35 : decode cJ6_bitCount_0f7a4 35 = .ok (.iload_n 0, 1) := by decide +kernel
theorem dJ6_bitCount_0f7a4_36 : decode cJ6_bitCount_0f7a4 36 = .ok (.bipush 8, 2) := by decide +kernel
theorem dJ6_bitCount_0f7a4_38 : decode cJ6_bitCount_0f7a4 38 = .ok (.iushr, 1) := by decide +kernel
theorem dJ6_bitCount_0f7a4_39 : decode cJ6_bitCount_0f7a4 39 = .ok (.iadd, 1) := by decide +kernel
theorem dJ6_bitCount_0f7a4_40 : decode cJ6_bitCount_0f7a4 40 = .ok (.istore_n 0, 1) := by decide +kernel
theorem dJ6_bitCount_0f7a4_41 : decode cJ6_bitCount_0f7a4 41 = .ok (.iload_n 0, 1) := by decide +kernel
theorem dJ6_bitCount_0f7a4_42 : decode cJ6_bitCount_0f7a4 42 = .ok (.iload_n 0, 1) := by decide +kernel
theorem dJ6_bitCount_0f7a4_43 : decode cJ6_bitCount_0f7a4 43 = .ok (.bipush 16, 2) := by decide +kernel
theorem dJ6_bitCount_0f7a4_45 : decode cJ6_bitCount_0f7a4 45 = .ok (.iushr, 1) := by decide +kernel
theorem dJ6_bitCount_0f7a4_46 : decode cJ6_bitCount_0f7a4 46 = .ok (.iadd, 1) := by decide +kernel
theorem dJ6_bitCount_0f7a4_47 : decode cJ6_bitCount_0f7a4 47 = .ok (.istore_n 0, 1) := by decide +kernel
theorem dJ6_bitCount_0f7a4_48 : decode cJ6_bitCount_0f7a4 48 = .ok (.iload_n 0, 1) := by decide +kernel
theorem dJ6_bitCount_0f7a4_49 : decode cJ6_bitCount_0f7a4 49 = .ok (.bipush 63, 2) := by decide +kernel
theorem dJ6_bitCount_0f7a4_51 : decode cJ6_bitCount_0f7a4 51 = .ok (.iand, 1) := by decide +kernel
theorem dJ6_bitCount_0f7a4_52 : decode cJ6_bitCount_0f7a4 52 = .ok (.ireturn, 1) := by decide +kernel
theorem dJ9_max_7cf53_0 : decode cJ9_max_7cf53 0 = .ok (.iload_n 0, 1) := by decide +kernel
theorem dJ9_max_7cf53_1 : decode cJ9_max_7cf53 1 = .ok (.iload_n 1, 1) := by decide +kernel
theorem dJ9_max_7cf53_2 : decode cJ9_max_7cf53 2 = .ok (.if_icmp .lt 7, 3) := by decide +kernel
theorem dJ9_max_7cf53_5 : decode cJ9_max_7cf53 5 = .ok (.iload_n 0, 1) := by decide +kernel
theorem dJ9_max_7cf53_6 : decode cJ9_max_7cf53 6 = .ok (.goto 4, 3) := by decide +kernel
theorem dJ9_max_7cf53_9 : decode cJ9_max_7cf53 9 = .ok (.iload_n 1, 1) := by decide +kernel
theorem dJ9_max_7cf53_10 : decode cJ9_max_7cf53 10 = .ok (.ireturn, 1) := by decide +kernel
theorem dJ0_length_8abf5_0 : decode cJ0_length_8abf5 0 = .ok (.aload_n 0, 1) := by decide +kernel
theorem dJ0_length_8abf5_1 : decode cJ0_length_8abf5 1 = .ok (.getfield 9, 3) := by decide +kernel
theorem dJ0_length_8abf5_4 : decode cJ0_length_8abf5 4 = .ok (.arraylength, 1) := by decide +kernel
theorem dJ0_length_8abf5_5 : decode cJ0_length_8abf5 5 = .ok (.aload_n 0, 1) := by decide +kernel
theorem dJ0_length_8abf5_6 : decode cJ0_length_8abf5 6 = .ok (.invokevirtual 335, 3) := by decide +kernel
theorem dJ0_length_8abf5_9 : decode cJ0_length_8abf5 9 = .ok (.ishr, 1) := by decide +kernel
theorem dJ0_length_8abf5_10 : decode cJ0_length_8abf5 10 = .ok (.ireturn, 1) := by decide +kernel
theorem dJ0_charAt_5068e_0 : decode cJ0_charAt_5068e 0 = .ok (.aload_n 0, 1) := by decide +kernel
theorem dJ0_charAt_5068e_1 : decode cJ0_charAt_5068e 1 = .ok (.invokevirtual 492, 3) := by decide +kernel
theorem dJ0_charAt_5068e_4 : decode cJ0_charAt_5068e 4 = .ok (.ifCond .eq 12, 3) := by decide +kernel
theorem dJ0_charAt_5068e_7 : decode cJ0_charAt_5068e 7 = .ok (.aload_n 0, 1) := by decide +kernel
theorem dJ0_charAt_5068e_8 : decode cJ0_charAt_5068e 8 = .ok (.getfield 9, 3) := by decide +kernel
theorem dJ0_charAt_5068e_11 : decode cJ0_charAt_5068e 11 = .ok (.iload_n 1, 1) := by decide +kernel
theorem dJ0_charAt_5068e_12 : decode cJ0_charAt_5068e 12 = .ok (.invokestatic 495, 3) := by decide +kernel
theorem dJ0_charAt_5068e_15 : decode cJ0_charAt_5068e 15 = .ok (.ireturn, 1) := by decide +kernel
theorem dJ0_charAt_5068e_16 : decode cJ0_charAt_5068e 16 = .ok (.aload_n 0, 1) := by decide +kernel
theorem dJ0_charAt_5068e_17 : decode cJ0_charAt_5068e 17 = .ok (.getfield 9, 3) := by decide +kernel
theorem dJ0_charAt_5068e_20 : decode cJ0_charAt_5068e 20 = .ok (.iload_n 1, 1) := by decide +kernel
theorem dJ0_charAt_5068e_21 : decode cJ0_charAt_5068e 21 = .ok (.invokestatic 498, 3) := by decide +kernel
theorem dJ0_charAt_5068e_24 : decode cJ0_charAt_5068e 24 = .ok (.ireturn, 1) := by decide +kernel
theorem dJ0_coder_7d493_0 : decode cJ0_coder_7d493 0 = .ok (.getstatic 38, 3) := by decide +kernel
theorem dJ0_coder_7d493_3 : decode cJ0_coder_7d493 3 = .ok (.ifCond .eq 10, 3) := by decide +kernel
theorem dJ0_coder_7d493_6 : decode cJ0_coder_7d493 6 = .ok (.aload_n 0, 1) := by decide +kernel
theorem dJ0_coder_7d493_7 : decode cJ0_coder_7d493 7 = .ok (.getfield 15, 3) := by decide +kernel
theorem dJ0_coder_7d493_10 : decode cJ0_coder_7d493 10 = .ok (.goto 4, 3) := by decide +kernel
theorem dJ0_coder_7d493_13 : decode cJ0_coder_7d493 13 = .ok (.iconst 1, 1) := by decide +kernel
theorem dJ0_coder_7d493_14 : decode cJ0_coder_7d493 14 = .ok (.ireturn, 1) := by decide +kernel
theorem dJ0_isLatin1_aae02_0 : decode cJ0_isLatin1_aae02 0 = .ok (.getstatic 38, 3) := by decide +kernel
theorem dJ0_isLatin1_aae02_3 : decode cJ0_isLatin1_aae02 3 = .ok (.ifCond .eq 14, 3) := by decide +kernel
theorem dJ0_isLatin1_aae02_6 : decode cJ0_isLatin1_aae02 6 = .ok (.aload_n 0, 1) := by decide +kernel
theorem dJ0_isLatin1_aae02_7 : decode cJ0_isLatin1_aae02 7 = .ok (.getfield 15, 3) := by decide +kernel
theorem dJ0_isLatin1_aae02_10 : decode cJ0_isLatin1_aae02 10 = .ok (.ifCond .ne 7, 3) := by decide +kernel
theorem dJ0_isLatin1_aae02_13 : decode cJ0_isLatin1_aae02 13 = .ok (.iconst 1, 1) := by decide +kernel
theorem dJ0_isLatin1_aae02_14 : decode cJ0_isLatin1_aae02 14 = .ok (.goto 4, 3) := by decide +kernel
theorem dJ0_isLatin1_aae02_17 : decode cJ0_isLatin1_aae02 17 = .ok (.iconst 0, 1) := by decide +kernel
theorem dJ0_isLatin1_aae02_18 : decode cJ0_isLatin1_aae02 18 = .ok (.ireturn, 1) := by decide +kernel
theorem dJ0_checkIndex_df160_0 : decode cJ0_checkIndex_df160 0 = .ok (.iload_n 0, 1) := by decide +kernel
theorem dJ0_checkIndex_df160_1 : decode cJ0_checkIndex_df160 1 = .ok (.iload_n 1, 1) := by decide +kernel
theorem dJ0_checkIndex_df160_2 : decode cJ0_checkIndex_df160 2 = .ok (.getstatic 1053, 3) := by decide +kernel
theorem dJ0_checkIndex_df160_5 : decode cJ0_checkIndex_df160 5 = .ok (.invokestatic 1059, 3) := by decide +kernel
theorem dJ0_checkIndex_df160_8 : decode cJ0_checkIndex_df160 8 = .ok (.pop, 1) := by decide +kernel
theorem dJ0_checkIndex_df160_9 : decode cJ0_checkIndex_df160 9 = .ok (.return_, 1) := by decide +kernel
theorem dJ1_charAt_3b067_0 : decode cJ1_charAt_3b067 0 = .ok (.iload_n 1, 1) := by decide +kernel
theorem dJ1_charAt_3b067_1 : decode cJ1_charAt_3b067 1 = .ok (.aload_n 0, 1) := by decide +kernel
theorem dJ1_charAt_3b067_2 : decode cJ1_charAt_3b067 2 = .ok (.arraylength, 1) := by decide +kernel
theorem dJ1_charAt_3b067_3 : decode cJ1_charAt_3b067 3 = .ok (.invokestatic 9, 3) := by decide +kernel
theorem dJ1_charAt_3b067_6 : decode cJ1_charAt_3b067 6 = .ok (.aload_n 0, 1) := by decide +kernel
theorem dJ1_charAt_3b067_7 : decode cJ1_charAt_3b067 7 = .ok (.iload_n 1, 1) := by decide +kernel
theorem dJ1_charAt_3b067_8 : decode cJ1_charAt_3b067 8 = .ok (.baload, 1) := by decide +kernel
theorem dJ1_charAt_3b067_9 : decode cJ1_charAt_3b067 9 = .ok (.sipush 255, 3) := by decide +kernel
theorem dJ1_charAt_3b067_12 : decode cJ1_charAt_3b067 12 = .ok (.iand, 1) := by decide +kernel
theorem dJ1_charAt_3b067_13 : decode cJ1_charAt_3b067 13 = .ok (.i2c, 1) := by decide +kernel
theorem dJ1_charAt_3b067_14 : decode cJ1_charAt_3b067 14 = .ok (.ireturn, 1) := by decide +kernel
theorem dJ2_getChar_3b067_0 : decode cJ2_getChar_3b067 0 = .ok (.getstatic 44, 3) := by decide +kernel
theorem dJ2_getChar_3b067_3 : decode cJ2_getChar_3b067 3 = .ok (.ifCond .ne 25, 3) := by decide +kernel
theorem dJ2_getChar_3b067_6 : decode cJ2_getChar_3b067 6 = .ok (.iload_n 1, 1) := by decide +kernel
theorem dJ2_getChar_3b067_7 : decode cJ2_getChar_3b067 7 = .ok (.ifCond .lt 11, 3) := by decide +kernel
theorem dJ2_getChar_3b067_10 : decode cJ2_getChar_3b067 10 = .ok (.iload_n 1, 1) := by decide +kernel
theorem dJ2_getChar_3b067_11 : decode cJ2_getChar_3b067 11 = .ok (.aload_n 0, 1) := by decide +kernel
theorem dJ2_getChar_3b067_12 : decode cJ2_getChar_3b067 12 = .ok (.invokestatic 48, 3) := by decide +kernel
theorem dJ2_getChar_3b067_15 : decode cJ2_getChar_3b067 15 = .ok (.if_icmp .lt 13, 3) := by decide +kernel
theorem dJ2_getChar_3b067_18 : decode cJ2_getChar_3b067 18 = .ok (.new 52, 3) := by decide +kernel
theorem dJ2_getChar_3b067_21 : decode cJ2_getChar_3b067 21 = .ok (.dup, 1) := by decide +kernel
theorem dJ2_getChar_3b067_22 : decode cJ2_getChar_3b067 22 = .ok (.ldc 54, 2) := by decide +kernel
theorem dJ2_getChar_3b067_24 : decode cJ2_getChar_3b067 24 = .ok (.invokespecial 56, 3) := by decide +kernel
theorem dJ2_getChar_3b067_27 : decode cJ2_getChar_3b067 27 = .ok (.athrow, 1) := by decide +kernel
theorem dJ2_getChar_3b067_28 : decode cJ2_getChar_3b067 28 = .ok (.iload_n 1, 1) := by decide +kernel
theorem dJ2_getChar_3b067_29 : decode cJ2_getChar_3b067 29 = .ok (.iconst 1, 1) := by decide +kernel
theorem dJ2_getChar_3b067_30 : decode cJ2_getChar_3b067 30 = .ok (.ishl, 1) := by decide +kernel
theorem dJ2_getChar_3b067_31 : decode cJ2_getChar_3b067 31 = .ok (.istore_n 1, 1) := by decide +kernel
theorem dJ2_getChar_3b067_32 : decode cJ2_getChar_3b067 32 = .ok (.aload_n 0, 1) := by decide +kernel
theorem dJ2_getChar_3b067_33 : decode cJ2_getChar_3b067 33 = .ok (.iload_n 1, 1) := by decide +kernel
theorem dJ2_getChar_3b067_34 : decode cJ2_getChar_3b067 34 = .ok (.iinc 1 1, 3) := by decide +kernel
theorem dJ2_getChar_3b067_37 : decode cJ2_getChar_3b067 37 = .ok (.baload, 1) := by decide +kernel
theorem dJ2_getChar_3b067_38 : decode cJ2_getChar_3b067 38 = .ok (.sipush 255, 3) := by decide +kernel
theorem dJ2_getChar_3b067_41 : decode cJ2_getChar_3b067 41 = .ok (.iand, 1) := by decide +kernel
theorem dJ2_getChar_3b067_42 : decode cJ2_getChar_3b067 42 = .ok (.getstatic 59, 3) := by decide +kernel
theorem dJ2_getChar_3b067_45 : decode cJ2_getChar_3b067 45 = .ok (.ishl, 1) := by decide +kernel
theorem dJ2_getChar_3b067_46 : decode cJ2_getChar_3b067 46 = .ok (.aload_n 0, 1) := by decide +kernel
theorem dJ2_getChar_3b067_47 : decode cJ2_getChar_3b067 47 = .ok (.iload_n 1, 1) := by decide +kernel
theorem dJ2_getChar_3b067_48 : decode cJ2_getChar_3b067 48 = .ok (.baload, 1) := by decide +kernel
theorem dJ2_getChar_3b067_49 : decode cJ2_getChar_3b067 49 = .ok (.sipush 255, 3) := by decide +kernel
theorem dJ2_getChar_3b067_52 : decode cJ2_getChar_3b067 52 = .ok (.iand, 1) := by decide +kernel
theorem dJ2_getChar_3b067_53 : decode cJ2_getChar_3b067 53 = .ok (.getstatic 63, 3) := by decide +kernel
theorem dJ2_getChar_3b067_56 : decode cJ2_getChar_3b067 56 = .ok (.ishl, 1) := by decide +kernel
theorem dJ2_getChar_3b067_57 : decode cJ2_getChar_3b067 57 = .ok (.ior, 1) := by decide +kernel
theorem dJ2_getChar_3b067_58 : decode cJ2_getChar_3b067 58 = .ok (.i2c, 1) := by decide +kernel
theorem dJ2_getChar_3b067_59 : decode cJ2_getChar_3b067 59 = .ok (.ireturn, 1) := by decide +kernel
theorem dJ2_length_9d52b_0 : decode cJ2_length_9d52b 0 = .ok (.aload_n 0, 1) := by decide +kernel
theorem dJ2_length_9d52b_1 : decode cJ2_length_9d52b 1 = .ok (.arraylength, 1) := by decide +kernel
theorem dJ2_length_9d52b_2 : decode cJ2_length_9d52b 2 = .ok (.iconst 1, 1) := by decide +kernel
theorem dJ2_length_9d52b_3 : decode cJ2_length_9d52b 3 = .ok (.ishr, 1) := by decide +kernel
theorem dJ2_length_9d52b_4 : decode cJ2_length_9d52b 4 = .ok (.ireturn, 1) := by decide +kernel
theorem dJ2_charAt_3b067_0 : decode cJ2_charAt_3b067 0 = .ok (.iload_n 1, 1) := by decide +kernel
theorem dJ2_charAt_3b067_1 : decode cJ2_charAt_3b067 1 = .ok (.aload_n 0, 1) := by decide +kernel
theorem dJ2_charAt_3b067_2 : decode cJ2_charAt_3b067 2 = .ok (.invokestatic 67, 3) := by decide +kernel
theorem dJ2_charAt_3b067_5 : decode cJ2_charAt_3b067 5 = .ok (.aload_n 0, 1) := by decide +kernel
theorem dJ2_charAt_3b067_6 : decode cJ2_charAt_3b067 6 = .ok (.iload_n 1, 1) := by decide +kernel
theorem dJ2_charAt_3b067_7 : decode cJ2_charAt_3b067 7 = .ok (.invokestatic 71, 3) := by decide +kernel
theorem dJ2_charAt_3b067_10 : decode cJ2_charAt_3b067 10 = .ok (.ireturn, 1) := by decide +kernel
theorem dJ2_checkIndex_2214a_0 : decode cJ2_checkIndex_2214a 0 = .ok (.iload_n 0, 1) := by decide +kernel
theorem dJ2_checkIndex_2214a_1 : decode cJ2_checkIndex_2214a 1 = .ok (.aload_n 1, 1) := by decide +kernel
theorem dJ2_checkIndex_2214a_2 : decode cJ2_checkIndex_2214a 2 = .ok (.invokestatic 48, 3) := by decide +kernel
theorem dJ2_checkIndex_2214a_5 : decode cJ2_checkIndex_2214a 5 = .ok (.invokestatic 414, 3) := by decide +kernel
theorem dJ2_checkIndex_2214a_8 : decode cJ2_checkIndex_2214a 8 = .ok (.return_, 1) := by decide +kernel
theorem dJ3_checkIndex_8e157_0 : decode cJ3_checkIndex_8e157 0 = .ok (.iload_n 0, 1) := by decide +kernel
theorem dJ3_checkIndex_8e157_1 : decode cJ3_checkIndex_8e157 1 = .ok (.ifCond .lt 8, 3) := by decide +kernel
theorem dJ3_checkIndex_8e157_4 : decode cJ3_checkIndex_8e157 4 = .ok (.iload_n 0, 1) := by decide +kernel
theorem dJ3_checkIndex_8e157_5 : decode cJ3_checkIndex_8e157 5 = .ok (.iload_n 1, 1) := by decide +kernel
theorem dJ3_checkIndex_8e157_6 : decode cJ3_checkIndex_8e157 6 = .ok (.if_icmp .lt 10, 3) := by decide +kernel
theorem dJ3_checkIndex_8e157_9 : decode cJ3_checkIndex_8e157 9 = .ok (.aload_n 2, 1) := by decide +kernel
theorem dJ3_checkIndex_8e157_10 : decode cJ3_checkIndex_8e157 10 = .ok (.iload_n 0, 1) := by decide +kernel
theorem dJ3_checkIndex_8e157_11 : decode cJ3_checkIndex_8e157 11 = .ok (.iload_n 1, 1) := by decide +kernel
theorem dJ3_checkIndex_8e157_12 : decode cJ3_checkIndex_8e157 12 = .ok (.invokestatic 95, 3) := by decide +kernel
theorem dJ3_checkIndex_8e157_15 : decode cJ3_checkIndex_8e157 15 = .ok (.athrow, 1) := by decide +kernel
theorem dJ3_checkIndex_8e157_16 : decode cJ3_checkIndex_8e157 16 = .ok (.iload_n 0, 1) := by decide +kernel
theorem dJ3_checkIndex_8e157_17 : decode cJ3_checkIndex_8e157 17 = .ok (.ireturn, 1) := by decide +kernel
theorem dL_law_0 : decode cL_law 0 = .ok (.new 7, 3) := by decide +kernel
theorem dL_law_3 : decode cL_law 3 = .ok (.dup, 1) := by decide +kernel
theorem dL_law_4 : decode cL_law 4 = .ok (.invokespecial 9, 3) := by decide +kernel
theorem dL_law_7 : decode cL_law 7 = .ok (.astore_n 1, 1) := by decide +kernel
theorem dL_law_8 : decode cL_law 8 = .ok (.new 10, 3) := by decide +kernel
theorem dL_law_11 : decode cL_law 11 = .ok (.dup, 1) := by decide +kernel
theorem dL_law_12 : decode cL_law 12 = .ok (.invokespecial 12, 3) := by decide +kernel
theorem dL_law_15 : decode cL_law 15 = .ok (.astore_n 2, 1) := by decide +kernel
theorem dL_law_16 : decode cL_law 16 = .ok (.iconst 0, 1) := by decide +kernel
theorem dL_law_17 : decode cL_law 17 = .ok (.istore_n 3, 1) := by decide +kernel
theorem dL_law_18 : decode cL_law 18 = .ok (.iload_n 3, 1) := by decide +kernel
theorem dL_law_19 : decode cL_law 19 = .ok (.aload_n 0, 1) := by decide +kernel
theorem dL_law_20 : decode cL_law 20 = .ok (.arraylength, 1) := by decide +kernel
theorem dL_law_21 : decode cL_law 21 = .ok (.bipush 6, 2) := by decide +kernel
theorem dL_law_23 : decode cL_law 23 = .ok (.isub, 1) := by decide +kernel
theorem dL_law_24 : decode cL_law 24 = .ok (.if_icmp .gt 1050, 3) := by decide +kernel
theorem dL_law_27 : decode cL_law 27 = .ok (.aload_n 0, 1) := by decide +kernel
theorem dL_law_28 : decode cL_law 28 = .ok (.iload_n 3, 1) := by decide +kernel
theorem dL_law_29 : decode cL_law 29 = .ok (.iaload, 1) := by decide +kernel
theorem dL_law_30 : decode cL_law 30 = .ok (.bipush 31, 2) := by decide +kernel
theorem dL_law_32 : decode cL_law 32 = .ok (.iand, 1) := by decide +kernel
theorem dL_law_33 : decode cL_law 33 = .ok (.tableswitch 1035 0 29 #[135, 158, 191, 214, 247, 270, 303, 336, 359, 392, 425, 458, 481, 504, 527, 550, 593, 616, 639, 652, 675, 688, 711, 724, 737, 780, 823, 866, 889, 972], 135) := by decide +kernel
theorem dL_law_168 : decode cL_law 168 = .ok (.aload_n 1, 1) := by decide +kernel
theorem dL_law_169 : decode cL_law 169 = .ok (.aload_n 0, 1) := by decide +kernel
theorem dL_law_170 : decode cL_law 170 = .ok (.iload_n 3, 1) := by decide +kernel
theorem dL_law_171 : decode cL_law 171 = .ok (.iconst 1, 1) := by decide +kernel
theorem dL_law_172 : decode cL_law 172 = .ok (.iadd, 1) := by decide +kernel
theorem dL_law_173 : decode cL_law 173 = .ok (.iaload, 1) := by decide +kernel
theorem dL_law_174 : decode cL_law 174 = .ok (.invokevirtual 13, 3) := by decide +kernel
theorem dL_law_177 : decode cL_law 177 = .ok (.aload_n 2, 1) := by decide +kernel
theorem dL_law_178 : decode cL_law 178 = .ok (.aload_n 0, 1) := by decide +kernel
theorem dL_law_179 : decode cL_law 179 = .ok (.iload_n 3, 1) := by decide +kernel
theorem dL_law_180 : decode cL_law 180 = .ok (.iconst 1, 1) := by decide +kernel
theorem dL_law_181 : decode cL_law 181 = .ok (.iadd, 1) := by decide +kernel
theorem dL_law_182 : decode cL_law 182 = .ok (.iaload, 1) := by decide +kernel
theorem dL_law_183 : decode cL_law 183 = .ok (.invokevirtual 17, 3) := by decide +kernel
theorem dL_law_186 : decode cL_law 186 = .ok (.if_icmp .eq 882, 3) := by decide +kernel
theorem dL_law_189 : decode cL_law 189 = .ok (.iconst 0, 1) := by decide +kernel
theorem dL_law_190 : decode cL_law 190 = .ok (.ireturn, 1) := by decide +kernel
theorem dL_law_191 : decode cL_law 191 = .ok (.aload_n 1, 1) := by decide +kernel
theorem dL_law_192 : decode cL_law 192 = .ok (.aload_n 0, 1) := by decide +kernel
theorem dL_law_193 : decode cL_law 193 = .ok (.iload_n 3, 1) := by decide +kernel
theorem dL_law_194 : decode cL_law 194 = .ok (.iconst 1, 1) := by decide +kernel
theorem dL_law_195 : decode cL_law 195 = .ok (.iadd, 1) := by decide +kernel
theorem dL_law_196 : decode cL_law 196 = .ok (.iaload, 1) := by decide +kernel
theorem dL_law_197 : decode cL_law 197 = .ok (.aload_n 0, 1) := by decide +kernel
theorem dL_law_198 : decode cL_law 198 = .ok (.iload_n 3, 1) := by decide +kernel
theorem dL_law_199 : decode cL_law 199 = .ok (.iconst 2, 1) := by decide +kernel
theorem dL_law_200 : decode cL_law 200 = .ok (.iadd, 1) := by decide +kernel
theorem dL_law_201 : decode cL_law 201 = .ok (.iaload, 1) := by decide +kernel
theorem dL_law_202 : decode cL_law 202 = .ok (.invokevirtual 18, 3) := by decide +kernel
theorem dL_law_205 : decode cL_law 205 = .ok (.aload_n 2, 1) := by decide +kernel
theorem dL_law_206 : decode cL_law 206 = .ok (.aload_n 0, 1) := by decide +kernel
theorem dL_law_207 : decode cL_law 207 = .ok (.iload_n 3, 1) := by decide +kernel
theorem dL_law_208 : decode cL_law 208 = .ok (.iconst 1, 1) := by decide +kernel
theorem dL_law_209 : decode cL_law 209 = .ok (.iadd, 1) := by decide +kernel
theorem dL_law_210 : decode cL_law 210 = .ok (.iaload, 1) := by decide +kernel
theorem dL_law_211 : decode cL_law 211 = .ok (.aload_n 0, 1) := by decide +kernel
theorem dL_law_212 : decode cL_law 212 = .ok (.iload_n 3, 1) := by decide +kernel
theorem dL_law_213 : decode cL_law 213 = .ok (.iconst 2, 1) := by decide +kernel
theorem dL_law_214 : decode cL_law 214 = .ok (.iadd, 1) := by decide +kernel
theorem dL_law_215 : decode cL_law 215 = .ok (.iaload, 1) := by decide +kernel
theorem dL_law_216 : decode cL_law 216 = .ok (.invokevirtual 22, 3) := by decide +kernel
theorem dL_law_219 : decode cL_law 219 = .ok (.if_icmp .eq 849, 3) := by decide +kernel
theorem dL_law_222 : decode cL_law 222 = .ok (.iconst 0, 1) := by decide +kernel
theorem dL_law_223 : decode cL_law 223 = .ok (.ireturn, 1) := by decide +kernel
theorem dL_law_224 : decode cL_law 224 = .ok (.aload_n 1, 1) := by decide +kernel
theorem dL_law_225 : decode cL_law 225 = .ok (.aload_n 0, 1) := by decide +kernel
theorem dL_law_226 : decode cL_law 226 = .ok (.iload_n 3, 1) := by decide +kernel
theorem dL_law_227 : decode cL_law 227 = .ok (.iconst 1, 1) := by decide +kernel
theorem dL_law_228 : decode cL_law 228 = .ok (.iadd, 1) := by decide +kernel
theorem dL_law_229 : decode cL_law 229 = .ok (.iaload, 1) := by decide +kernel
theorem dL_law_230 : decode cL_law 230 = .ok (.invokevirtual 23, 3) := by decide +kernel
theorem dL_law_233 : decode cL_law 233 = .ok (.aload_n 2, 1) := by decide +kernel
theorem dL_law_234 : decode cL_law 234 = .ok (.aload_n 0, 1) := by decide +kernel
theorem dL_law_235 : decode cL_law 235 = .ok (.iload_n 3, 1) := by decide +kernel
theorem dL_law_236 : decode cL_law 236 = .ok (.iconst 1, 1) := by decide +kernel
theorem dL_law_237 : decode cL_law 237 = .ok (.iadd, 1) := by decide +kernel
theorem dL_law_238 : decode cL_law 238 = .ok (.iaload, 1) := by decide +kernel
theorem dL_law_239 : decode cL_law 239 = .ok (.invokevirtual 26, 3) := by decide +kernel
theorem dL_law_242 : decode cL_law 242 = .ok (.if_icmp .eq 826, 3) := by decide +kernel
theorem dL_law_245 : decode cL_law 245 = .ok (.iconst 0, 1) := by decide +kernel
theorem dL_law_246 : decode cL_law 246 = .ok (.ireturn, 1) := by decide +kernel
theorem dL_law_247 : decode cL_law 247 = .ok (.aload_n 1, 1) := by decide +kernel
theorem dL_law_248 : decode cL_law 248 = .ok (.aload_n 0, 1) := by decide +kernel
theorem dL_law_249 : decode cL_law 249 = .ok (.iload_n 3, 1) := by decide +kernel
theorem dL_law_250 : decode cL_law 250 = .ok (.iconst 1, 1) := by decide +kernel
theorem dL_law_251 : decode cL_law 251 = .ok (.iadd, 1) := by decide +kernel
theorem dL_law_252 : decode cL_law 252 = .ok (.iaload, 1) := by decide +kernel
theorem dL_law_253 : decode cL_law 253 = .ok (.aload_n 0, 1) := by decide +kernel
theorem dL_law_254 : decode cL_law 254 = .ok (.iload_n 3, 1) := by decide +kernel
theorem dL_law_255 : decode cL_law 255 = .ok (.iconst 2, 1) := by decide +kernel
theorem dL_law_256 : decode cL_law 256 = .ok (.iadd, 1) := by decide +kernel
theorem dL_law_257 : decode cL_law 257 = .ok (.iaload, 1) := by decide +kernel
theorem dL_law_258 : decode cL_law 258 = .ok (.invokevirtual 27, 3) := by decide +kernel
theorem dL_law_261 : decode cL_law 261 = .ok (.aload_n 2, 1) := by decide +kernel
theorem dL_law_262 : decode cL_law 262 = .ok (.aload_n 0, 1) := by decide +kernel
theorem dL_law_263 : decode cL_law 263 = .ok (.iload_n 3, 1) := by decide +kernel
theorem dL_law_264 : decode cL_law 264 = .ok (.iconst 1, 1) := by decide +kernel
theorem dL_law_265 : decode cL_law 265 = .ok (.iadd, 1) := by decide +kernel
theorem dL_law_266 : decode cL_law 266 = .ok (.iaload, 1) := by decide +kernel
theorem dL_law_267 : decode cL_law 267 = .ok (.aload_n 0, 1) := by decide +kernel
theorem dL_law_268 : decode cL_law 268 = .ok (.iload_n 3, 1) := by decide +kernel
theorem dL_law_269 : decode cL_law 269 = .ok (.iconst 2, 1) := by decide +kernel
theorem dL_law_270 : decode cL_law 270 = .ok (.iadd, 1) := by decide +kernel
theorem dL_law_271 : decode cL_law 271 = .ok (.iaload, 1) := by decide +kernel
theorem dL_law_272 : decode cL_law 272 = .ok (.invokevirtual 30, 3) := by decide +kernel
theorem dL_law_275 : decode cL_law 275 = .ok (.if_icmp .eq 793, 3) := by decide +kernel
theorem dL_law_278 : decode cL_law 278 = .ok (.iconst 0, 1) := by decide +kernel
theorem dL_law_279 : decode cL_law 279 = .ok (.ireturn, 1) := by decide +kernel
theorem dL_law_280 : decode cL_law 280 = .ok (.aload_n 1, 1) := by decide +kernel
theorem dL_law_281 : decode cL_law 281 = .ok (.aload_n 0, 1) := by decide +kernel
theorem dL_law_282 : decode cL_law 282 = .ok (.iload_n 3, 1) := by decide +kernel
theorem dL_law_283 : decode cL_law 283 = .ok (.iconst 1, 1) := by decide +kernel
theorem dL_law_284 : decode cL_law 284 = .ok (.iadd, 1) := by decide +kernel
theorem dL_law_285 : decode cL_law 285 = .ok (.iaload, 1) := by decide +kernel
theorem dL_law_286 : decode cL_law 286 = .ok (.invokevirtual 31, 3) := by decide +kernel
theorem dL_law_289 : decode cL_law 289 = .ok (.aload_n 2, 1) := by decide +kernel
theorem dL_law_290 : decode cL_law 290 = .ok (.aload_n 0, 1) := by decide +kernel
theorem dL_law_291 : decode cL_law 291 = .ok (.iload_n 3, 1) := by decide +kernel
theorem dL_law_292 : decode cL_law 292 = .ok (.iconst 1, 1) := by decide +kernel
theorem dL_law_293 : decode cL_law 293 = .ok (.iadd, 1) := by decide +kernel
theorem dL_law_294 : decode cL_law 294 = .ok (.iaload, 1) := by decide +kernel
theorem dL_law_295 : decode cL_law 295 = .ok (.invokevirtual 34, 3) := by decide +kernel
theorem dL_law_298 : decode cL_law 298 = .ok (.if_icmp .eq 770, 3) := by decide +kernel
theorem dL_law_301 : decode cL_law 301 = .ok (.iconst 0, 1) := by decide +kernel
theorem dL_law_302 : decode cL_law 302 = .ok (.ireturn, 1) := by decide +kernel
theorem dL_law_303 : decode cL_law 303 = .ok (.aload_n 1, 1) := by decide +kernel
theorem dL_law_304 : decode cL_law 304 = .ok (.aload_n 0, 1) := by decide +kernel
theorem dL_law_305 : decode cL_law 305 = .ok (.iload_n 3, 1) := by decide +kernel
theorem dL_law_306 : decode cL_law 306 = .ok (.iconst 1, 1) := by decide +kernel
theorem dL_law_307 : decode cL_law 307 = .ok (.iadd, 1) := by decide +kernel
theorem dL_law_308 : decode cL_law 308 = .ok (.iaload, 1) := by decide +kernel
theorem dL_law_309 : decode cL_law 309 = .ok (.aload_n 0, 1) := by decide +kernel
theorem dL_law_310 : decode cL_law 310 = .ok (.iload_n 3, 1) := by decide +kernel
theorem dL_law_311 : decode cL_law 311 = .ok (.iconst 2, 1) := by decide +kernel
theorem dL_law_312 : decode cL_law 312 = .ok (.iadd, 1) := by decide +kernel
theorem dL_law_313 : decode cL_law 313 = .ok (.iaload, 1) := by decide +kernel
theorem dL_law_314 : decode cL_law 314 = .ok (.invokevirtual 35, 3) := by decide +kernel
theorem dL_law_317 : decode cL_law 317 = .ok (.aload_n 2, 1) := by decide +kernel
theorem dL_law_318 : decode cL_law 318 = .ok (.aload_n 0, 1) := by decide +kernel
theorem dL_law_319 : decode cL_law 319 = .ok (.iload_n 3, 1) := by decide +kernel
theorem dL_law_320 : decode cL_law 320 = .ok (.iconst 1, 1) := by decide +kernel
theorem dL_law_321 : decode cL_law 321 = .ok (.iadd, 1) := by decide +kernel
theorem dL_law_322 : decode cL_law 322 = .ok (.iaload, 1) := by decide +kernel
theorem dL_law_323 : decode cL_law 323 = .ok (.aload_n 0, 1) := by decide +kernel
theorem dL_law_324 : decode cL_law 324 = .ok (.iload_n 3, 1) := by decide +kernel
theorem dL_law_325 : decode cL_law 325 = .ok (.iconst 2, 1) := by decide +kernel
theorem dL_law_326 : decode cL_law 326 = .ok (.iadd, 1) := by decide +kernel
theorem dL_law_327 : decode cL_law 327 = .ok (.iaload, 1) := by decide +kernel
theorem dL_law_328 : decode cL_law 328 = .ok (.invokevirtual 38, 3) := by decide +kernel
theorem dL_law_331 : decode cL_law 331 = .ok (.if_icmp .eq 737, 3) := by decide +kernel
theorem dL_law_334 : decode cL_law 334 = .ok (.iconst 0, 1) := by decide +kernel
theorem dL_law_335 : decode cL_law 335 = .ok (.ireturn, 1) := by decide +kernel
theorem dL_law_336 : decode cL_law 336 = .ok (.aload_n 1, 1) := by decide +kernel
theorem dL_law_337 : decode cL_law 337 = .ok (.aload_n 0, 1) := by decide +kernel
theorem dL_law_338 : decode cL_law 338 = .ok (.iload_n 3, 1) := by decide +kernel
theorem dL_law_339 : decode cL_law 339 = .ok (.iconst 1, 1) := by decide +kernel
theorem dL_law_340 : decode cL_law 340 = .ok (.iadd, 1) := by decide +kernel
theorem dL_law_341 : decode cL_law 341 = .ok (.iaload, 1) := by decide +kernel
theorem dL_law_342 : decode cL_law 342 = .ok (.aload_n 0, 1) := by decide +kernel
theorem dL_law_343 : decode cL_law 343 = .ok (.iload_n 3, 1) := by decide +kernel
theorem dL_law_344 : decode cL_law 344 = .ok (.iconst 2, 1) := by decide +kernel
theorem dL_law_345 : decode cL_law 345 = .ok (.iadd, 1) := by decide +kernel
theorem dL_law_346 : decode cL_law 346 = .ok (.iaload, 1) := by decide +kernel
theorem dL_law_347 : decode cL_law 347 = .ok (.invokevirtual 39, 3) := by decide +kernel
theorem dL_law_350 : decode cL_law 350 = .ok (.aload_n 2, 1) := by decide +kernel
theorem dL_law_351 : decode cL_law 351 = .ok (.aload_n 0, 1) := by decide +kernel
theorem dL_law_352 : decode cL_law 352 = .ok (.iload_n 3, 1) := by decide +kernel
theorem dL_law_353 : decode cL_law 353 = .ok (.iconst 1, 1) := by decide +kernel
theorem dL_law_354 : decode cL_law 354 = .ok (.iadd, 1) := by decide +kernel
theorem dL_law_355 : decode cL_law 355 = .ok (.iaload, 1) := by decide +kernel
theorem dL_law_356 : decode cL_law 356 = .ok (.aload_n 0, 1) := by decide +kernel
theorem dL_law_357 : decode cL_law 357 = .ok (.iload_n 3, 1) := by decide +kernel
theorem dL_law_358 : decode cL_law 358 = .ok (.iconst 2, 1) := by decide +kernel
theorem dL_law_359 : decode cL_law 359 = .ok (.iadd, 1) := by decide +kernel
theorem dL_law_360 : decode cL_law 360 = .ok (.iaload, 1) := by decide +kernel
theorem dL_law_361 : decode cL_law 361 = .ok (.invokevirtual 42, 3) := by decide +kernel
theorem dL_law_364 : decode cL_law 364 = .ok (.if_icmp .eq 704, 3) := by decide +kernel
theorem dL_law_367 : decode cL_law 367 = .ok (.iconst 0, 1) := by decide +kernel
theorem dL_law_368 : decode cL_law 368 = .ok (.ireturn, 1) := by decide +kernel
theorem dL_law_369 : decode cL_law 369 = .ok (.aload_n 1, 1) := by decide +kernel
theorem dL_law_370 : decode cL_law 370 = .ok (.aload_n 0, 1) := by decide +kernel
theorem dL_law_371 : decode cL_law 371 = .ok (.iload_n 3, 1) := by decide +kernel
theorem dL_law_372 : decode cL_law 372 = .ok (.iconst 1, 1) := by decide +kernel
theorem dL_law_373 : decode cL_law 373 = .ok (.iadd, 1) := by decide +kernel
theorem dL_law_374 : decode cL_law 374 = .ok (.iaload, 1) := by decide +kernel
theorem dL_law_375 : decode cL_law 375 = .ok (.invokevirtual 43, 3) := by decide +kernel
theorem dL_law_378 : decode cL_law 378 = .ok (.aload_n 2, 1) := by decide +kernel
theorem dL_law_379 : decode cL_law 379 = .ok (.aload_n 0, 1) := by decide +kernel
theorem dL_law_380 : decode cL_law 380 = .ok (.iload_n 3, 1) := by decide +kernel
theorem dL_law_381 : decode cL_law 381 = .ok (.iconst 1, 1) := by decide +kernel
theorem dL_law_382 : decode cL_law 382 = .ok (.iadd, 1) := by decide +kernel
theorem dL_law_383 : decode cL_law 383 = .ok (.iaload, 1) := by decide +kernel
theorem dL_law_384 : decode cL_law 384 = .ok (.invokevirtual 46, 3) := by decide +kernel
theorem dL_law_387 : decode cL_law 387 = .ok (.if_icmp .eq 681, 3) := by decide +kernel
theorem dL_law_390 : decode cL_law 390 = .ok (.iconst 0, 1) := by decide +kernel
theorem dL_law_391 : decode cL_law 391 = .ok (.ireturn, 1) := by decide +kernel
theorem dL_law_392 : decode cL_law 392 = .ok (.aload_n 1, 1) := by decide +kernel
theorem dL_law_393 : decode cL_law 393 = .ok (.aload_n 0, 1) := by decide +kernel
theorem dL_law_394 : decode cL_law 394 = .ok (.iload_n 3, 1) := by decide +kernel
theorem dL_law_395 : decode cL_law 395 = .ok (.iconst 1, 1) := by decide +kernel
theorem dL_law_396 : decode cL_law 396 = .ok (.iadd, 1) := by decide +kernel
theorem dL_law_397 : decode cL_law 397 = .ok (.iaload, 1) := by decide +kernel
theorem dL_law_398 : decode cL_law 398 = .ok (.aload_n 0, 1) := by decide +kernel
theorem dL_law_399 : decode cL_law 399 = .ok (.iload_n 3, 1) := by decide +kernel
theorem dL_law_400 : decode cL_law 400 = .ok (.iconst 2, 1) := by decide +kernel
theorem dL_law_401 : decode cL_law 401 = .ok (.iadd, 1) := by decide +kernel
theorem dL_law_402 : decode cL_law 402 = .ok (.iaload, 1) := by decide +kernel
theorem dL_law_403 : decode cL_law 403 = .ok (.invokevirtual 47, 3) := by decide +kernel
theorem dL_law_406 : decode cL_law 406 = .ok (.aload_n 2, 1) := by decide +kernel
theorem dL_law_407 : decode cL_law 407 = .ok (.aload_n 0, 1) := by decide +kernel
theorem dL_law_408 : decode cL_law 408 = .ok (.iload_n 3, 1) := by decide +kernel
theorem dL_law_409 : decode cL_law 409 = .ok (.iconst 1, 1) := by decide +kernel
theorem dL_law_410 : decode cL_law 410 = .ok (.iadd, 1) := by decide +kernel
theorem dL_law_411 : decode cL_law 411 = .ok (.iaload, 1) := by decide +kernel
theorem dL_law_412 : decode cL_law 412 = .ok (.aload_n 0, 1) := by decide +kernel
theorem dL_law_413 : decode cL_law 413 = .ok (.iload_n 3, 1) := by decide +kernel
theorem dL_law_414 : decode cL_law 414 = .ok (.iconst 2, 1) := by decide +kernel
theorem dL_law_415 : decode cL_law 415 = .ok (.iadd, 1) := by decide +kernel
theorem dL_law_416 : decode cL_law 416 = .ok (.iaload, 1) := by decide +kernel
theorem dL_law_417 : decode cL_law 417 = .ok (.invokevirtual 50, 3) := by decide +kernel
theorem dL_law_420 : decode cL_law 420 = .ok (.if_icmp .eq 648, 3) := by decide +kernel
theorem dL_law_423 : decode cL_law 423 = .ok (.iconst 0, 1) := by decide +kernel
theorem dL_law_424 : decode cL_law 424 = .ok (.ireturn, 1) := by decide +kernel
theorem dL_law_425 : decode cL_law 425 = .ok (.aload_n 1, 1) := by decide +kernel
theorem dL_law_426 : decode cL_law 426 = .ok (.aload_n 0, 1) := by decide +kernel
theorem dL_law_427 : decode cL_law 427 = .ok (.iload_n 3, 1) := by decide +kernel
theorem dL_law_428 : decode cL_law 428 = .ok (.iconst 1, 1) := by decide +kernel
theorem dL_law_429 : decode cL_law 429 = .ok (.iadd, 1) := by decide +kernel
theorem dL_law_430 : decode cL_law 430 = .ok (.iaload, 1) := by decide +kernel
theorem dL_law_431 : decode cL_law 431 = .ok (.aload_n 0, 1) := by decide +kernel
theorem dL_law_432 : decode cL_law 432 = .ok (.iload_n 3, 1) := by decide +kernel
theorem dL_law_433 : decode cL_law 433 = .ok (.iconst 2, 1) := by decide +kernel
theorem dL_law_434 : decode cL_law 434 = .ok (.iadd, 1) := by decide +kernel
theorem dL_law_435 : decode cL_law 435 = .ok (.iaload, 1) := by decide +kernel
theorem dL_law_436 : decode cL_law 436 = .ok (.invokevirtual 51, 3) := by decide +kernel
theorem dL_law_439 : decode cL_law 439 = .ok (.aload_n 2, 1) := by decide +kernel
theorem dL_law_440 : decode cL_law 440 = .ok (.aload_n 0, 1) := by decide +kernel
theorem dL_law_441 : decode cL_law 441 = .ok (.iload_n 3, 1) := by decide +kernel
theorem dL_law_442 : decode cL_law 442 = .ok (.iconst 1, 1) := by decide +kernel
theorem dL_law_443 : decode cL_law 443 = .ok (.iadd, 1) := by decide +kernel
theorem dL_law_444 : decode cL_law 444 = .ok (.iaload, 1) := by decide +kernel
theorem dL_law_445 : decode cL_law 445 = .ok (.aload_n 0, 1) := by decide +kernel
theorem dL_law_446 : decode cL_law 446 = .ok (.iload_n 3, 1) := by decide +kernel
theorem dL_law_447 : decode cL_law 447 = .ok (.iconst 2, 1) := by decide +kernel
theorem dL_law_448 : decode cL_law 448 = .ok (.iadd, 1) := by decide +kernel
theorem dL_law_449 : decode cL_law 449 = .ok (.iaload, 1) := by decide +kernel
theorem dL_law_450 : decode cL_law 450 = .ok (.invokevirtual 54, 3) := by decide +kernel
theorem dL_law_453 : decode cL_law 453 = .ok (.if_icmp .eq 615, 3) := by decide +kernel
theorem dL_law_456 : decode cL_law 456 = .ok (.iconst 0, 1) := by decide +kernel
theorem dL_law_457 : decode cL_law 457 = .ok (.ireturn, 1) := by decide +kernel
theorem dL_law_458 : decode cL_law 458 = .ok (.aload_n 1, 1) := by decide +kernel
theorem dL_law_459 : decode cL_law 459 = .ok (.aload_n 0, 1) := by decide +kernel
theorem dL_law_460 : decode cL_law 460 = .ok (.iload_n 3, 1) := by decide +kernel
theorem dL_law_461 : decode cL_law 461 = .ok (.iconst 1, 1) := by decide +kernel
theorem dL_law_462 : decode cL_law 462 = .ok (.iadd, 1) := by decide +kernel
theorem dL_law_463 : decode cL_law 463 = .ok (.iaload, 1) := by decide +kernel
theorem dL_law_464 : decode cL_law 464 = .ok (.aload_n 0, 1) := by decide +kernel
theorem dL_law_465 : decode cL_law 465 = .ok (.iload_n 3, 1) := by decide +kernel
theorem dL_law_466 : decode cL_law 466 = .ok (.iconst 2, 1) := by decide +kernel
theorem dL_law_467 : decode cL_law 467 = .ok (.iadd, 1) := by decide +kernel
theorem dL_law_468 : decode cL_law 468 = .ok (.iaload, 1) := by decide +kernel
theorem dL_law_469 : decode cL_law 469 = .ok (.invokevirtual 55, 3) := by decide +kernel
theorem dL_law_472 : decode cL_law 472 = .ok (.aload_n 2, 1) := by decide +kernel
theorem dL_law_473 : decode cL_law 473 = .ok (.aload_n 0, 1) := by decide +kernel
theorem dL_law_474 : decode cL_law 474 = .ok (.iload_n 3, 1) := by decide +kernel
theorem dL_law_475 : decode cL_law 475 = .ok (.iconst 1, 1) := by decide +kernel
theorem dL_law_476 : decode cL_law 476 = .ok (.iadd, 1) := by decide +kernel
theorem dL_law_477 : decode cL_law 477 = .ok (.iaload, 1) := by decide +kernel
theorem dL_law_478 : decode cL_law 478 = .ok (.aload_n 0, 1) := by decide +kernel
theorem dL_law_479 : decode cL_law 479 = .ok (.iload_n 3, 1) := by decide +kernel
theorem dL_law_480 : decode cL_law 480 = .ok (.iconst 2, 1) := by decide +kernel
theorem dL_law_481 : decode cL_law 481 = .ok (.iadd, 1) := by decide +kernel
theorem dL_law_482 : decode cL_law 482 = .ok (.iaload, 1) := by decide +kernel
theorem dL_law_483 : decode cL_law 483 = .ok (.invokevirtual 58, 3) := by decide +kernel
theorem dL_law_486 : decode cL_law 486 = .ok (.if_icmp .eq 582, 3) := by decide +kernel
theorem dL_law_489 : decode cL_law 489 = .ok (.iconst 0, 1) := by decide +kernel
theorem dL_law_490 : decode cL_law 490 = .ok (.ireturn, 1) := by decide +kernel
theorem dL_law_491 : decode cL_law 491 = .ok (.aload_n 1, 1) := by decide +kernel
theorem dL_law_492 : decode cL_law 492 = .ok (.aload_n 0, 1) := by decide +kernel
theorem dL_law_493 : decode cL_law 493 = .ok (.iload_n 3, 1) := by decide +kernel
theorem dL_law_494 : decode cL_law 494 = .ok (.iconst 1, 1) := by decide +kernel
theorem dL_law_495 : decode cL_law 495 = .ok (.iadd, 1) := by decide +kernel
theorem dL_law_496 : decode cL_law 496 = .ok (.iaload, 1) := by decide +kernel
theorem dL_law_497 : decode cL_law 497 = .ok (.invokevirtual 59, 3) := by decide +kernel
theorem dL_law_500 : decode cL_law 500 = .ok (.aload_n 2, 1) := by decide +kernel
theorem dL_law_501 : decode cL_law 501 = .ok (.aload_n 0, 1) := by decide +kernel
theorem dL_law_502 : decode cL_law 502 = .ok (.iload_n 3, 1) := by decide +kernel
theorem dL_law_503 : decode cL_law 503 = .ok (.iconst 1, 1) := by decide +kernel
theorem dL_law_504 : decode cL_law 504 = .ok (.iadd, 1) := by decide +kernel
theorem dL_law_505 : decode cL_law 505 = .ok (.iaload, 1) := by decide +kernel
theorem dL_law_506 : decode cL_law 506 = .ok (.invokevirtual 62, 3) := by decide +kernel
theorem dL_law_509 : decode cL_law 509 = .ok (.if_icmp .eq 559, 3) := by decide +kernel
theorem dL_law_512 : decode cL_law 512 = .ok (.iconst 0, 1) := by decide +kernel
theorem dL_law_513 : decode cL_law 513 = .ok (.ireturn, 1) := by decide +kernel
theorem dL_law_514 : decode cL_law 514 = .ok (.aload_n 1, 1) := by decide +kernel
theorem dL_law_515 : decode cL_law 515 = .ok (.aload_n 0, 1) := by decide +kernel
theorem dL_law_516 : decode cL_law 516 = .ok (.iload_n 3, 1) := by decide +kernel
theorem dL_law_517 : decode cL_law 517 = .ok (.iconst 1, 1) := by decide +kernel
theorem dL_law_518 : decode cL_law 518 = .ok (.iadd, 1) := by decide +kernel
theorem dL_law_519 : decode cL_law 519 = .ok (.iaload, 1) := by decide +kernel
theorem dL_law_520 : decode cL_law 520 = .ok (.invokevirtual 63, 3) := by decide +kernel
theorem dL_law_523 : decode cL_law 523 = .ok (.aload_n 2, 1) := by decide +kernel
theorem dL_law_524 : decode cL_law 524 = .ok (.aload_n 0, 1) := by decide +kernel
theorem dL_law_525 : decode cL_law 525 = .ok (.iload_n 3, 1) := by decide +kernel
theorem dL_law_526 : decode cL_law 526 = .ok (.iconst 1, 1) := by decide +kernel
theorem dL_law_527 : decode cL_law 527 = .ok (.iadd, 1) := by decide +kernel
theorem dL_law_528 : decode cL_law 528 = .ok (.iaload, 1) := by decide +kernel
theorem dL_law_529 : decode cL_law 529 = .ok (.invokevirtual 66, 3) := by decide +kernel
theorem dL_law_532 : decode cL_law 532 = .ok (.if_icmp .eq 536, 3) := by decide +kernel
theorem dL_law_535 : decode cL_law 535 = .ok (.iconst 0, 1) := by decide +kernel
theorem dL_law_536 : decode cL_law 536 = .ok (.ireturn, 1) := by decide +kernel
theorem dL_law_537 : decode cL_law 537 = .ok (.aload_n 1, 1) := by decide +kernel
theorem dL_law_538 : decode cL_law 538 = .ok (.aload_n 0, 1) := by decide +kernel
theorem dL_law_539 : decode cL_law 539 = .ok (.iload_n 3, 1) := by decide +kernel
theorem dL_law_540 : decode cL_law 540 = .ok (.iconst 1, 1) := by decide +kernel
theorem dL_law_541 : decode cL_law 541 = .ok (.iadd, 1) := by decide +kernel
theorem dL_law_542 : decode cL_law 542 = .ok (.iaload, 1) := by decide +kernel
theorem dL_law_543 : decode cL_law 543 = .ok (.invokevirtual 67, 3) := by decide +kernel
theorem dL_law_546 : decode cL_law 546 = .ok (.aload_n 2, 1) := by decide +kernel
theorem dL_law_547 : decode cL_law 547 = .ok (.aload_n 0, 1) := by decide +kernel
theorem dL_law_548 : decode cL_law 548 = .ok (.iload_n 3, 1) := by decide +kernel
theorem dL_law_549 : decode cL_law 549 = .ok (.iconst 1, 1) := by decide +kernel
theorem dL_law_550 : decode cL_law 550 = .ok (.iadd, 1) := by decide +kernel
theorem dL_law_551 : decode cL_law 551 = .ok (.iaload, 1) := by decide +kernel
theorem dL_law_552 : decode cL_law 552 = .ok (.invokevirtual 70, 3) := by decide +kernel
theorem dL_law_555 : decode cL_law 555 = .ok (.if_icmp .eq 513, 3) := by decide +kernel
theorem dL_law_558 : decode cL_law 558 = .ok (.iconst 0, 1) := by decide +kernel
theorem dL_law_559 : decode cL_law 559 = .ok (.ireturn, 1) := by decide +kernel
theorem dL_law_560 : decode cL_law 560 = .ok (.aload_n 1, 1) := by decide +kernel
theorem dL_law_561 : decode cL_law 561 = .ok (.aload_n 0, 1) := by decide +kernel
theorem dL_law_562 : decode cL_law 562 = .ok (.iload_n 3, 1) := by decide +kernel
theorem dL_law_563 : decode cL_law 563 = .ok (.iconst 1, 1) := by decide +kernel
theorem dL_law_564 : decode cL_law 564 = .ok (.iadd, 1) := by decide +kernel
theorem dL_law_565 : decode cL_law 565 = .ok (.iaload, 1) := by decide +kernel
theorem dL_law_566 : decode cL_law 566 = .ok (.invokevirtual 71, 3) := by decide +kernel
theorem dL_law_569 : decode cL_law 569 = .ok (.aload_n 2, 1) := by decide +kernel
theorem dL_law_570 : decode cL_law 570 = .ok (.aload_n 0, 1) := by decide +kernel
theorem dL_law_571 : decode cL_law 571 = .ok (.iload_n 3, 1) := by decide +kernel
theorem dL_law_572 : decode cL_law 572 = .ok (.iconst 1, 1) := by decide +kernel
theorem dL_law_573 : decode cL_law 573 = .ok (.iadd, 1) := by decide +kernel
theorem dL_law_574 : decode cL_law 574 = .ok (.iaload, 1) := by decide +kernel
theorem dL_law_575 : decode cL_law 575 = .ok (.invokevirtual 74, 3) := by decide +kernel
theorem dL_law_578 : decode cL_law 578 = .ok (.if_icmp .eq 490, 3) := by decide +kernel
theorem dL_law_581 : decode cL_law 581 = .ok (.iconst 0, 1) := by decide +kernel
theorem dL_law_582 : decode cL_law 582 = .ok (.ireturn, 1) := by decide +kernel
theorem dL_law_583 : decode cL_law 583 = .ok (.aload_n 1, 1) := by decide +kernel
theorem dL_law_584 : decode cL_law 584 = .ok (.aload_n 0, 1) := by decide +kernel
theorem dL_law_585 : decode cL_law 585 = .ok (.iload_n 3, 1) := by decide +kernel
theorem dL_law_586 : decode cL_law 586 = .ok (.iconst 1, 1) := by decide +kernel
theorem dL_law_587 : decode cL_law 587 = .ok (.iadd, 1) := by decide +kernel
theorem dL_law_588 : decode cL_law 588 = .ok (.iaload, 1) := by decide +kernel
theorem dL_law_589 : decode cL_law 589 = .ok (.aload_n 0, 1) := by decide +kernel
theorem dL_law_590 : decode cL_law 590 = .ok (.iload_n 3, 1) := by decide +kernel
theorem dL_law_591 : decode cL_law 591 = .ok (.iconst 2, 1) := by decide +kernel
theorem dL_law_592 : decode cL_law 592 = .ok (.iadd, 1) := by decide +kernel
theorem dL_law_593 : decode cL_law 593 = .ok (.iaload, 1) := by decide +kernel
theorem dL_law_594 : decode cL_law 594 = .ok (.aload_n 0, 1) := by decide +kernel
theorem dL_law_595 : decode cL_law 595 = .ok (.iload_n 3, 1) := by decide +kernel
theorem dL_law_596 : decode cL_law 596 = .ok (.iconst 3, 1) := by decide +kernel
theorem dL_law_597 : decode cL_law 597 = .ok (.iadd, 1) := by decide +kernel
theorem dL_law_598 : decode cL_law 598 = .ok (.iaload, 1) := by decide +kernel
theorem dL_law_599 : decode cL_law 599 = .ok (.invokevirtual 75, 3) := by decide +kernel
theorem dL_law_602 : decode cL_law 602 = .ok (.aload_n 2, 1) := by decide +kernel
theorem dL_law_603 : decode cL_law 603 = .ok (.aload_n 0, 1) := by decide +kernel
theorem dL_law_604 : decode cL_law 604 = .ok (.iload_n 3, 1) := by decide +kernel
theorem dL_law_605 : decode cL_law 605 = .ok (.iconst 1, 1) := by decide +kernel
theorem dL_law_606 : decode cL_law 606 = .ok (.iadd, 1) := by decide +kernel
theorem dL_law_607 : decode cL_law 607 = .ok (.iaload, 1) := by decide +kernel
theorem dL_law_608 : decode cL_law 608 = .ok (.aload_n 0, 1) := by decide +kernel
theorem dL_law_609 : decode cL_law 609 = .ok (.iload_n 3, 1) := by decide +kernel
theorem dL_law_610 : decode cL_law 610 = .ok (.iconst 2, 1) := by decide +kernel
theorem dL_law_611 : decode cL_law 611 = .ok (.iadd, 1) := by decide +kernel
theorem dL_law_612 : decode cL_law 612 = .ok (.iaload, 1) := by decide +kernel
theorem dL_law_613 : decode cL_law 613 = .ok (.aload_n 0, 1) := by decide +kernel
theorem dL_law_614 : decode cL_law 614 = .ok (.iload_n 3, 1) := by decide +kernel
theorem dL_law_615 : decode cL_law 615 = .ok (.iconst 3, 1) := by decide +kernel
theorem dL_law_616 : decode cL_law 616 = .ok (.iadd, 1) := by decide +kernel
theorem dL_law_617 : decode cL_law 617 = .ok (.iaload, 1) := by decide +kernel
theorem dL_law_618 : decode cL_law 618 = .ok (.invokevirtual 79, 3) := by decide +kernel
theorem dL_law_621 : decode cL_law 621 = .ok (.if_icmp .eq 447, 3) := by decide +kernel
theorem dL_law_624 : decode cL_law 624 = .ok (.iconst 0, 1) := by decide +kernel
theorem dL_law_625 : decode cL_law 625 = .ok (.ireturn, 1) := by decide +kernel
theorem dL_law_626 : decode cL_law 626 = .ok (.aload_n 1, 1) := by decide +kernel
theorem dL_law_627 : decode cL_law 627 = .ok (.aload_n 0, 1) := by decide +kernel
theorem dL_law_628 : decode cL_law 628 = .ok (.iload_n 3, 1) := by decide +kernel
theorem dL_law_629 : decode cL_law 629 = .ok (.iconst 1, 1) := by decide +kernel
theorem dL_law_630 : decode cL_law 630 = .ok (.iadd, 1) := by decide +kernel
theorem dL_law_631 : decode cL_law 631 = .ok (.iaload, 1) := by decide +kernel
theorem dL_law_632 : decode cL_law 632 = .ok (.invokevirtual 80, 3) := by decide +kernel
theorem dL_law_635 : decode cL_law 635 = .ok (.aload_n 2, 1) := by decide +kernel
theorem dL_law_636 : decode cL_law 636 = .ok (.aload_n 0, 1) := by decide +kernel
theorem dL_law_637 : decode cL_law 637 = .ok (.iload_n 3, 1) := by decide +kernel
theorem dL_law_638 : decode cL_law 638 = .ok (.iconst 1, 1) := by decide +kernel
theorem dL_law_639 : decode cL_law 639 = .ok (.iadd, 1) := by decide +kernel
theorem dL_law_640 : decode cL_law 640 = .ok (.iaload, 1) := by decide +kernel
theorem dL_law_641 : decode cL_law 641 = .ok (.invokevirtual 83, 3) := by decide +kernel
theorem dL_law_644 : decode cL_law 644 = .ok (.if_icmp .eq 424, 3) := by decide +kernel
theorem dL_law_647 : decode cL_law 647 = .ok (.iconst 0, 1) := by decide +kernel
theorem dL_law_648 : decode cL_law 648 = .ok (.ireturn, 1) := by decide +kernel
theorem dL_law_649 : decode cL_law 649 = .ok (.aload_n 1, 1) := by decide +kernel
theorem dL_law_650 : decode cL_law 650 = .ok (.aload_n 0, 1) := by decide +kernel
theorem dL_law_651 : decode cL_law 651 = .ok (.iload_n 3, 1) := by decide +kernel
theorem dL_law_652 : decode cL_law 652 = .ok (.iconst 1, 1) := by decide +kernel
theorem dL_law_653 : decode cL_law 653 = .ok (.iadd, 1) := by decide +kernel
theorem dL_law_654 : decode cL_law 654 = .ok (.iaload, 1) := by decide +kernel
theorem dL_law_655 : decode cL_law 655 = .ok (.invokevirtual 84, 3) := by decide +kernel
theorem dL_law_658 : decode cL_law 658 = .ok (.aload_n 2, 1) := by decide +kernel
theorem dL_law_659 : decode cL_law 659 = .ok (.aload_n 0, 1) := by decide +kernel
theorem dL_law_660 : decode cL_law 660 = .ok (.iload_n 3, 1) := by decide +kernel
theorem dL_law_661 : decode cL_law 661 = .ok (.iconst 1, 1) := by decide +kernel
theorem dL_law_662 : decode cL_law 662 = .ok (.iadd, 1) := by decide +kernel
theorem dL_law_663 : decode cL_law 663 = .ok (.iaload, 1) := by decide +kernel
theorem dL_law_664 : decode cL_law 664 = .ok (.invokevirtual 87, 3) := by decide +kernel
theorem dL_law_667 : decode cL_law 667 = .ok (.if_icmp .eq 401, 3) := by decide +kernel
theorem dL_law_670 : decode cL_law 670 = .ok (.iconst 0, 1) := by decide +kernel
theorem dL_law_671 : decode cL_law 671 = .ok (.ireturn, 1) := by decide +kernel
theorem dL_law_672 : decode cL_law 672 = .ok (.aload_n 1, 1) := by decide +kernel
theorem dL_law_673 : decode cL_law 673 = .ok (.invokevirtual 88, 3) := by decide +kernel
theorem dL_law_676 : decode cL_law 676 = .ok (.aload_n 2, 1) := by decide +kernel
theorem dL_law_677 : decode cL_law 677 = .ok (.invokevirtual 92, 3) := by decide +kernel
theorem dL_law_680 : decode cL_law 680 = .ok (.if_icmp .eq 388, 3) := by decide +kernel
theorem dL_law_683 : decode cL_law 683 = .ok (.iconst 0, 1) := by decide +kernel
theorem dL_law_684 : decode cL_law 684 = .ok (.ireturn, 1) := by decide +kernel
theorem dL_law_685 : decode cL_law 685 = .ok (.aload_n 1, 1) := by decide +kernel
theorem dL_law_686 : decode cL_law 686 = .ok (.aload_n 0, 1) := by decide +kernel
theorem dL_law_687 : decode cL_law 687 = .ok (.iload_n 3, 1) := by decide +kernel
theorem dL_law_688 : decode cL_law 688 = .ok (.iconst 1, 1) := by decide +kernel
theorem dL_law_689 : decode cL_law 689 = .ok (.iadd, 1) := by decide +kernel
theorem dL_law_690 : decode cL_law 690 = .ok (.iaload, 1) := by decide +kernel
theorem dL_law_691 : decode cL_law 691 = .ok (.invokevirtual 93, 3) := by decide +kernel
theorem dL_law_694 : decode cL_law 694 = .ok (.aload_n 2, 1) := by decide +kernel
theorem dL_law_695 : decode cL_law 695 = .ok (.aload_n 0, 1) := by decide +kernel
theorem dL_law_696 : decode cL_law 696 = .ok (.iload_n 3, 1) := by decide +kernel
theorem dL_law_697 : decode cL_law 697 = .ok (.iconst 1, 1) := by decide +kernel
theorem dL_law_698 : decode cL_law 698 = .ok (.iadd, 1) := by decide +kernel
theorem dL_law_699 : decode cL_law 699 = .ok (.iaload, 1) := by decide +kernel
theorem dL_law_700 : decode cL_law 700 = .ok (.invokevirtual 96, 3) := by decide +kernel
theorem dL_law_703 : decode cL_law 703 = .ok (.if_icmp .eq 365, 3) := by decide +kernel
theorem dL_law_706 : decode cL_law 706 = .ok (.iconst 0, 1) := by decide +kernel
theorem dL_law_707 : decode cL_law 707 = .ok (.ireturn, 1) := by decide +kernel
theorem dL_law_708 : decode cL_law 708 = .ok (.aload_n 1, 1) := by decide +kernel
theorem dL_law_709 : decode cL_law 709 = .ok (.invokevirtual 97, 3) := by decide +kernel
theorem dL_law_712 : decode cL_law 712 = .ok (.aload_n 2, 1) := by decide +kernel
theorem dL_law_713 : decode cL_law 713 = .ok (.invokevirtual 100, 3) := by decide +kernel
theorem dL_law_716 : decode cL_law 716 = .ok (.if_icmp .eq 352, 3) := by decide +kernel
theorem dL_law_719 : decode cL_law 719 = .ok (.iconst 0, 1) := by decide +kernel
theorem dL_law_720 : decode cL_law 720 = .ok (.ireturn, 1) := by decide +kernel
theorem dL_law_721 : decode cL_law 721 = .ok (.aload_n 1, 1) := by decide +kernel
theorem dL_law_722 : decode cL_law 722 = .ok (.aload_n 0, 1) := by decide +kernel
theorem dL_law_723 : decode cL_law 723 = .ok (.iload_n 3, 1) := by decide +kernel
theorem dL_law_724 : decode cL_law 724 = .ok (.iconst 1, 1) := by decide +kernel
theorem dL_law_725 : decode cL_law 725 = .ok (.iadd, 1) := by decide +kernel
theorem dL_law_726 : decode cL_law 726 = .ok (.iaload, 1) := by decide +kernel
theorem dL_law_727 : decode cL_law 727 = .ok (.invokevirtual 101, 3) := by decide +kernel
theorem dL_law_730 : decode cL_law 730 = .ok (.aload_n 2, 1) := by decide +kernel
theorem dL_law_731 : decode cL_law 731 = .ok (.aload_n 0, 1) := by decide +kernel
theorem dL_law_732 : decode cL_law 732 = .ok (.iload_n 3, 1) := by decide +kernel
theorem dL_law_733 : decode cL_law 733 = .ok (.iconst 1, 1) := by decide +kernel
theorem dL_law_734 : decode cL_law 734 = .ok (.iadd, 1) := by decide +kernel
theorem dL_law_735 : decode cL_law 735 = .ok (.iaload, 1) := by decide +kernel
theorem dL_law_736 : decode cL_law 736 = .ok (.invokevirtual 104, 3) := by decide +kernel
theorem dL_law_739 : decode cL_law 739 = .ok (.if_icmp .eq 329, 3) := by decide +kernel
theorem dL_law_742 : decode cL_law 742 = .ok (.iconst 0, 1) := by decide +kernel
theorem dL_law_743 : decode cL_law 743 = .ok (.ireturn, 1) := by decide +kernel
theorem dL_law_744 : decode cL_law 744 = .ok (.aload_n 1, 1) := by decide +kernel
theorem dL_law_745 : decode cL_law 745 = .ok (.invokevirtual 105, 3) := by decide +kernel
theorem dL_law_748 : decode cL_law 748 = .ok (.aload_n 2, 1) := by decide +kernel
theorem dL_law_749 : decode cL_law 749 = .ok (.invokevirtual 108, 3) := by decide +kernel
theorem dL_law_752 : decode cL_law 752 = .ok (.if_icmp .eq 316, 3) := by decide +kernel
theorem dL_law_755 : decode cL_law 755 = .ok (.iconst 0, 1) := by decide +kernel
theorem dL_law_756 : decode cL_law 756 = .ok (.ireturn, 1) := by decide +kernel
theorem dL_law_757 : decode cL_law 757 = .ok (.aload_n 1, 1) := by decide +kernel
theorem dL_law_758 : decode cL_law 758 = .ok (.invokevirtual 109, 3) := by decide +kernel
theorem dL_law_761 : decode cL_law 761 = .ok (.aload_n 2, 1) := by decide +kernel
theorem dL_law_762 : decode cL_law 762 = .ok (.invokevirtual 112, 3) := by decide +kernel
theorem dL_law_765 : decode cL_law 765 = .ok (.if_icmp .eq 303, 3) := by decide +kernel
theorem dL_law_768 : decode cL_law 768 = .ok (.iconst 0, 1) := by decide +kernel
theorem dL_law_769 : decode cL_law 769 = .ok (.ireturn, 1) := by decide +kernel
theorem dL_law_770 : decode cL_law 770 = .ok (.aload_n 1, 1) := by decide +kernel
theorem dL_law_771 : decode cL_law 771 = .ok (.aload_n 0, 1) := by decide +kernel
theorem dL_law_772 : decode cL_law 772 = .ok (.iload_n 3, 1) := by decide +kernel
theorem dL_law_773 : decode cL_law 773 = .ok (.iconst 1, 1) := by decide +kernel
theorem dL_law_774 : decode cL_law 774 = .ok (.iadd, 1) := by decide +kernel
theorem dL_law_775 : decode cL_law 775 = .ok (.iaload, 1) := by decide +kernel
theorem dL_law_776 : decode cL_law 776 = .ok (.aload_n 0, 1) := by decide +kernel
theorem dL_law_777 : decode cL_law 777 = .ok (.iload_n 3, 1) := by decide +kernel
theorem dL_law_778 : decode cL_law 778 = .ok (.iconst 2, 1) := by decide +kernel
theorem dL_law_779 : decode cL_law 779 = .ok (.iadd, 1) := by decide +kernel
theorem dL_law_780 : decode cL_law 780 = .ok (.iaload, 1) := by decide +kernel
theorem dL_law_781 : decode cL_law 781 = .ok (.aload_n 0, 1) := by decide +kernel
theorem dL_law_782 : decode cL_law 782 = .ok (.iload_n 3, 1) := by decide +kernel
theorem dL_law_783 : decode cL_law 783 = .ok (.iconst 3, 1) := by decide +kernel
theorem dL_law_784 : decode cL_law 784 = .ok (.iadd, 1) := by decide +kernel
theorem dL_law_785 : decode cL_law 785 = .ok (.iaload, 1) := by decide +kernel
theorem dL_law_786 : decode cL_law 786 = .ok (.invokevirtual 113, 3) := by decide +kernel
theorem dL_law_789 : decode cL_law 789 = .ok (.aload_n 2, 1) := by decide +kernel
theorem dL_law_790 : decode cL_law 790 = .ok (.aload_n 0, 1) := by decide +kernel
theorem dL_law_791 : decode cL_law 791 = .ok (.iload_n 3, 1) := by decide +kernel
theorem dL_law_792 : decode cL_law 792 = .ok (.iconst 1, 1) := by decide +kernel
theorem dL_law_793 : decode cL_law 793 = .ok (.iadd, 1) := by decide +kernel
theorem dL_law_794 : decode cL_law 794 = .ok (.iaload, 1) := by decide +kernel
theorem dL_law_795 : decode cL_law 795 = .ok (.aload_n 0, 1) := by decide +kernel
theorem dL_law_796 : decode cL_law 796 = .ok (.iload_n 3, 1) := by decide +kernel
theorem dL_law_797 : decode cL_law 797 = .ok (.iconst 2, 1) := by decide +kernel
theorem dL_law_798 : decode cL_law 798 = .ok (.iadd, 1) := by decide +kernel
theorem dL_law_799 : decode cL_law 799 = .ok (.iaload, 1) := by decide +kernel
theorem dL_law_800 : decode cL_law 800 = .ok (.aload_n 0, 1) := by decide +kernel
theorem dL_law_801 : decode cL_law 801 = .ok (.iload_n 3, 1) := by decide +kernel
theorem dL_law_802 : decode cL_law 802 = .ok (.iconst 3, 1) := by decide +kernel
theorem dL_law_803 : decode cL_law 803 = .ok (.iadd, 1) := by decide +kernel
theorem dL_law_804 : decode cL_law 804 = .ok (.iaload, 1) := by decide +kernel
theorem dL_law_805 : decode cL_law 805 = .ok (.invokevirtual 116, 3) := by decide +kernel
theorem dL_law_808 : decode cL_law 808 = .ok (.if_icmp .eq 260, 3) := by decide +kernel
theorem dL_law_811 : decode cL_law 811 = .ok (.iconst 0, 1) := by decide +kernel
theorem dL_law_812 : decode cL_law 812 = .ok (.ireturn, 1) := by decide +kernel
theorem dL_law_813 : decode cL_law 813 = .ok (.aload_n 1, 1) := by decide +kernel
theorem dL_law_814 : decode cL_law 814 = .ok (.aload_n 0, 1) := by decide +kernel
theorem dL_law_815 : decode cL_law 815 = .ok (.iload_n 3, 1) := by decide +kernel
theorem dL_law_816 : decode cL_law 816 = .ok (.iconst 1, 1) := by decide +kernel
theorem dL_law_817 : decode cL_law 817 = .ok (.iadd, 1) := by decide +kernel
theorem dL_law_818 : decode cL_law 818 = .ok (.iaload, 1) := by decide +kernel
theorem dL_law_819 : decode cL_law 819 = .ok (.aload_n 0, 1) := by decide +kernel
theorem dL_law_820 : decode cL_law 820 = .ok (.iload_n 3, 1) := by decide +kernel
theorem dL_law_821 : decode cL_law 821 = .ok (.iconst 2, 1) := by decide +kernel
theorem dL_law_822 : decode cL_law 822 = .ok (.iadd, 1) := by decide +kernel
theorem dL_law_823 : decode cL_law 823 = .ok (.iaload, 1) := by decide +kernel
theorem dL_law_824 : decode cL_law 824 = .ok (.aload_n 0, 1) := by decide +kernel
theorem dL_law_825 : decode cL_law 825 = .ok (.iload_n 3, 1) := by decide +kernel
theorem dL_law_826 : decode cL_law 826 = .ok (.iconst 3, 1) := by decide +kernel
theorem dL_law_827 : decode cL_law 827 = .ok (.iadd, 1) := by decide +kernel
theorem dL_law_828 : decode cL_law 828 = .ok (.iaload, 1) := by decide +kernel
theorem dL_law_829 : decode cL_law 829 = .ok (.invokevirtual 117, 3) := by decide +kernel
theorem dL_law_832 : decode cL_law 832 = .ok (.aload_n 2, 1) := by decide +kernel
theorem dL_law_833 : decode cL_law 833 = .ok (.aload_n 0, 1) := by decide +kernel
theorem dL_law_834 : decode cL_law 834 = .ok (.iload_n 3, 1) := by decide +kernel
theorem dL_law_835 : decode cL_law 835 = .ok (.iconst 1, 1) := by decide +kernel
theorem dL_law_836 : decode cL_law 836 = .ok (.iadd, 1) := by decide +kernel
theorem dL_law_837 : decode cL_law 837 = .ok (.iaload, 1) := by decide +kernel
theorem dL_law_838 : decode cL_law 838 = .ok (.aload_n 0, 1) := by decide +kernel
theorem dL_law_839 : decode cL_law 839 = .ok (.iload_n 3, 1) := by decide +kernel
theorem dL_law_840 : decode cL_law 840 = .ok (.iconst 2, 1) := by decide +kernel
theorem dL_law_841 : decode cL_law 841 = .ok (.iadd, 1) := by decide +kernel
theorem dL_law_842 : decode cL_law 842 = .ok (.iaload, 1) := by decide +kernel
theorem dL_law_843 : decode cL_law 843 = .ok (.aload_n 0, 1) := by decide +kernel
theorem dL_law_844 : decode cL_law 844 = .ok (.iload_n 3, 1) := by decide +kernel
theorem dL_law_845 : decode cL_law 845 = .ok (.iconst 3, 1) := by decide +kernel
theorem dL_law_846 : decode cL_law 846 = .ok (.iadd, 1) := by decide +kernel
theorem dL_law_847 : decode cL_law 847 = .ok (.iaload, 1) := by decide +kernel
theorem dL_law_848 : decode cL_law 848 = .ok (.invokevirtual 120, 3) := by decide +kernel
theorem dL_law_851 : decode cL_law 851 = .ok (.if_icmp .eq 217, 3) := by decide +kernel
theorem dL_law_854 : decode cL_law 854 = .ok (.iconst 0, 1) := by decide +kernel
theorem dL_law_855 : decode cL_law 855 = .ok (.ireturn, 1) := by decide +kernel
theorem dL_law_856 : decode cL_law 856 = .ok (.aload_n 1, 1) := by decide +kernel
theorem dL_law_857 : decode cL_law 857 = .ok (.aload_n 0, 1) := by decide +kernel
theorem dL_law_858 : decode cL_law 858 = .ok (.iload_n 3, 1) := by decide +kernel
theorem dL_law_859 : decode cL_law 859 = .ok (.iconst 1, 1) := by decide +kernel
theorem dL_law_860 : decode cL_law 860 = .ok (.iadd, 1) := by decide +kernel
theorem dL_law_861 : decode cL_law 861 = .ok (.iaload, 1) := by decide +kernel
theorem dL_law_862 : decode cL_law 862 = .ok (.aload_n 0, 1) := by decide +kernel
theorem dL_law_863 : decode cL_law 863 = .ok (.iload_n 3, 1) := by decide +kernel
theorem dL_law_864 : decode cL_law 864 = .ok (.iconst 2, 1) := by decide +kernel
theorem dL_law_865 : decode cL_law 865 = .ok (.iadd, 1) := by decide +kernel
theorem dL_law_866 : decode cL_law 866 = .ok (.iaload, 1) := by decide +kernel
theorem dL_law_867 : decode cL_law 867 = .ok (.aload_n 0, 1) := by decide +kernel
theorem dL_law_868 : decode cL_law 868 = .ok (.iload_n 3, 1) := by decide +kernel
theorem dL_law_869 : decode cL_law 869 = .ok (.iconst 3, 1) := by decide +kernel
theorem dL_law_870 : decode cL_law 870 = .ok (.iadd, 1) := by decide +kernel
theorem dL_law_871 : decode cL_law 871 = .ok (.iaload, 1) := by decide +kernel
theorem dL_law_872 : decode cL_law 872 = .ok (.invokevirtual 121, 3) := by decide +kernel
theorem dL_law_875 : decode cL_law 875 = .ok (.aload_n 2, 1) := by decide +kernel
theorem dL_law_876 : decode cL_law 876 = .ok (.aload_n 0, 1) := by decide +kernel
theorem dL_law_877 : decode cL_law 877 = .ok (.iload_n 3, 1) := by decide +kernel
theorem dL_law_878 : decode cL_law 878 = .ok (.iconst 1, 1) := by decide +kernel
theorem dL_law_879 : decode cL_law 879 = .ok (.iadd, 1) := by decide +kernel
theorem dL_law_880 : decode cL_law 880 = .ok (.iaload, 1) := by decide +kernel
theorem dL_law_881 : decode cL_law 881 = .ok (.aload_n 0, 1) := by decide +kernel
theorem dL_law_882 : decode cL_law 882 = .ok (.iload_n 3, 1) := by decide +kernel
theorem dL_law_883 : decode cL_law 883 = .ok (.iconst 2, 1) := by decide +kernel
theorem dL_law_884 : decode cL_law 884 = .ok (.iadd, 1) := by decide +kernel
theorem dL_law_885 : decode cL_law 885 = .ok (.iaload, 1) := by decide +kernel
theorem dL_law_886 : decode cL_law 886 = .ok (.aload_n 0, 1) := by decide +kernel
theorem dL_law_887 : decode cL_law 887 = .ok (.iload_n 3, 1) := by decide +kernel
theorem dL_law_888 : decode cL_law 888 = .ok (.iconst 3, 1) := by decide +kernel
theorem dL_law_889 : decode cL_law 889 = .ok (.iadd, 1) := by decide +kernel
theorem dL_law_890 : decode cL_law 890 = .ok (.iaload, 1) := by decide +kernel
theorem dL_law_891 : decode cL_law 891 = .ok (.invokevirtual 124, 3) := by decide +kernel
theorem dL_law_894 : decode cL_law 894 = .ok (.if_icmp .eq 174, 3) := by decide +kernel
theorem dL_law_897 : decode cL_law 897 = .ok (.iconst 0, 1) := by decide +kernel
theorem dL_law_898 : decode cL_law 898 = .ok (.ireturn, 1) := by decide +kernel
theorem dL_law_899 : decode cL_law 899 = .ok (.aload_n 1, 1) := by decide +kernel
theorem dL_law_900 : decode cL_law 900 = .ok (.aload_n 0, 1) := by decide +kernel
theorem dL_law_901 : decode cL_law 901 = .ok (.iload_n 3, 1) := by decide +kernel
theorem dL_law_902 : decode cL_law 902 = .ok (.iconst 1, 1) := by decide +kernel
theorem dL_law_903 : decode cL_law 903 = .ok (.iadd, 1) := by decide +kernel
theorem dL_law_904 : decode cL_law 904 = .ok (.iaload, 1) := by decide +kernel
theorem dL_law_905 : decode cL_law 905 = .ok (.invokevirtual 125, 3) := by decide +kernel
theorem dL_law_908 : decode cL_law 908 = .ok (.aload_n 2, 1) := by decide +kernel
theorem dL_law_909 : decode cL_law 909 = .ok (.aload_n 0, 1) := by decide +kernel
theorem dL_law_910 : decode cL_law 910 = .ok (.iload_n 3, 1) := by decide +kernel
theorem dL_law_911 : decode cL_law 911 = .ok (.iconst 1, 1) := by decide +kernel
theorem dL_law_912 : decode cL_law 912 = .ok (.iadd, 1) := by decide +kernel
theorem dL_law_913 : decode cL_law 913 = .ok (.iaload, 1) := by decide +kernel
theorem dL_law_914 : decode cL_law 914 = .ok (.invokevirtual 128, 3) := by decide +kernel
theorem dL_law_917 : decode cL_law 917 = .ok (.if_icmp .eq 151, 3) := by decide +kernel
theorem dL_law_920 : decode cL_law 920 = .ok (.iconst 0, 1) := by decide +kernel
theorem dL_law_921 : decode cL_law 921 = .ok (.ireturn, 1) := by decide +kernel
theorem dL_law_922 : decode cL_law 922 = .ok (.aload_n 1, 1) := by decide +kernel
theorem dL_law_923 : decode cL_law 923 = .ok (.aload_n 0, 1) := by decide +kernel
theorem dL_law_924 : decode cL_law 924 = .ok (.iload_n 3, 1) := by decide +kernel
theorem dL_law_925 : decode cL_law 925 = .ok (.iconst 1, 1) := by decide +kernel
theorem dL_law_926 : decode cL_law 926 = .ok (.iadd, 1) := by decide +kernel
theorem dL_law_927 : decode cL_law 927 = .ok (.iaload, 1) := by decide +kernel
theorem dL_law_928 : decode cL_law 928 = .ok (.aload_n 0, 1) := by decide +kernel
theorem dL_law_929 : decode cL_law 929 = .ok (.iload_n 3, 1) := by decide +kernel
theorem dL_law_930 : decode cL_law 930 = .ok (.iconst 2, 1) := by decide +kernel
theorem dL_law_931 : decode cL_law 931 = .ok (.iadd, 1) := by decide +kernel
theorem dL_law_932 : decode cL_law 932 = .ok (.iaload, 1) := by decide +kernel
theorem dL_law_933 : decode cL_law 933 = .ok (.aload_n 0, 1) := by decide +kernel
theorem dL_law_934 : decode cL_law 934 = .ok (.iload_n 3, 1) := by decide +kernel
theorem dL_law_935 : decode cL_law 935 = .ok (.iconst 3, 1) := by decide +kernel
theorem dL_law_936 : decode cL_law 936 = .ok (.iadd, 1) := by decide +kernel
theorem dL_law_937 : decode cL_law 937 = .ok (.iaload, 1) := by decide +kernel
theorem dL_law_938 : decode cL_law 938 = .ok (.aload_n 0, 1) := by decide +kernel
theorem dL_law_939 : decode cL_law 939 = .ok (.iload_n 3, 1) := by decide +kernel
theorem dL_law_940 : decode cL_law 940 = .ok (.iconst 4, 1) := by decide +kernel
theorem dL_law_941 : decode cL_law 941 = .ok (.iadd, 1) := by decide +kernel
theorem dL_law_942 : decode cL_law 942 = .ok (.iaload, 1) := by decide +kernel
theorem dL_law_943 : decode cL_law 943 = .ok (.i2l, 1) := by decide +kernel
theorem dL_law_944 : decode cL_law 944 = .ok (.bipush 32, 2) := by decide +kernel
theorem dL_law_946 : decode cL_law 946 = .ok (.lshl, 1) := by decide +kernel
theorem dL_law_947 : decode cL_law 947 = .ok (.aload_n 0, 1) := by decide +kernel
theorem dL_law_948 : decode cL_law 948 = .ok (.iload_n 3, 1) := by decide +kernel
theorem dL_law_949 : decode cL_law 949 = .ok (.iconst 5, 1) := by decide +kernel
theorem dL_law_950 : decode cL_law 950 = .ok (.iadd, 1) := by decide +kernel
theorem dL_law_951 : decode cL_law 951 = .ok (.iaload, 1) := by decide +kernel
theorem dL_law_952 : decode cL_law 952 = .ok (.i2l, 1) := by decide +kernel
theorem dL_law_953 : decode cL_law 953 = .ok (.ldc2_w 129, 3) := by decide +kernel
theorem dL_law_956 : decode cL_law 956 = .ok (.land, 1) := by decide +kernel
theorem dL_law_957 : decode cL_law 957 = .ok (.lor, 1) := by decide +kernel
theorem dL_law_958 : decode cL_law 958 = .ok (.invokevirtual 131, 3) := by decide +kernel
theorem dL_law_961 : decode cL_law 961 = .ok (.aload_n 2, 1) := by decide +kernel
theorem dL_law_962 : decode cL_law 962 = .ok (.aload_n 0, 1) := by decide +kernel
theorem dL_law_963 : decode cL_law 963 = .ok (.iload_n 3, 1) := by decide +kernel
theorem dL_law_964 : decode cL_law 964 = .ok (.iconst 1, 1) := by decide +kernel
theorem dL_law_965 : decode cL_law 965 = .ok (.iadd, 1) := by decide +kernel
theorem dL_law_966 : decode cL_law 966 = .ok (.iaload, 1) := by decide +kernel
theorem dL_law_967 : decode cL_law 967 = .ok (.aload_n 0, 1) := by decide +kernel
theorem dL_law_968 : decode cL_law 968 = .ok (.iload_n 3, 1) := by decide +kernel
theorem dL_law_969 : decode cL_law 969 = .ok (.iconst 2, 1) := by decide +kernel
theorem dL_law_970 : decode cL_law 970 = .ok (.iadd, 1) := by decide +kernel
theorem dL_law_971 : decode cL_law 971 = .ok (.iaload, 1) := by decide +kernel
theorem dL_law_972 : decode cL_law 972 = .ok (.aload_n 0, 1) := by decide +kernel
theorem dL_law_973 : decode cL_law 973 = .ok (.iload_n 3, 1) := by decide +kernel
theorem dL_law_974 : decode cL_law 974 = .ok (.iconst 3, 1) := by decide +kernel
theorem dL_law_975 : decode cL_law 975 = .ok (.iadd, 1) := by decide +kernel
theorem dL_law_976 : decode cL_law 976 = .ok (.iaload, 1) := by decide +kernel
theorem dL_law_977 : decode cL_law 977 = .ok (.aload_n 0, 1) := by decide +kernel
theorem dL_law_978 : decode cL_law 978 = .ok (.iload_n 3, 1) := by decide +kernel
theorem dL_law_979 : decode cL_law 979 = .ok (.iconst 4, 1) := by decide +kernel
theorem dL_law_980 : decode cL_law 980 = .ok (.iadd, 1) := by decide +kernel
theorem dL_law_981 : decode cL_law 981 = .ok (.iaload, 1) := by decide +kernel
theorem dL_law_982 : decode cL_law 982 = .ok (.i2l, 1) := by decide +kernel
theorem dL_law_983 : decode cL_law 983 = .ok (.bipush 32, 2) := by decide +kernel
theorem dL_law_985 : decode cL_law 985 = .ok (.lshl, 1) := by decide +kernel
end
section
theorem dL_law_986 : decode cL_law 986 = .ok (.aload_n 0, 1) := by decide +kernel
theorem dL_law_987 : decode cL_law 987 = .ok (.iload_n 3, 1) := by decide +kernel
theorem dL_law_988 : decode cL_law 988 = .ok (.iconst 5, 1) := by decide +kernel
theorem dL_law_989 : decode cL_law 989 = .ok (.iadd, 1) := by decide +kernel
theorem dL_law_990 : decode cL_law 990 = .ok (.iaload, 1) := by decide +kernel
theorem dL_law_991 : decode cL_law 991 = .ok (.i2l, 1) := by decide +kernel
theorem dL_law_992 : decode cL_law 992 = .ok (.ldc2_w 129, 3) := by decide +kernel
theorem dL_law_995 : decode cL_law 995 = .ok (.land, 1) := by decide +kernel
theorem dL_law_996 : decode cL_law 996 = .ok (.lor, 1) := by decide +kernel
theorem dL_law_997 : decode cL_law 997 = .ok (.invokevirtual 135, 3) := by decide +kernel
theorem dL_law_1000 : decode cL_law 1000 = .ok (.if_icmp .eq 68, 3) := by decide +kernel
theorem dL_law_1003 : decode cL_law 1003 = .ok (.iconst 0, 1) := by decide +kernel
theorem dL_law_1004 : decode cL_law 1004 = .ok (.ireturn, 1) := by decide +kernel
theorem dL_law_1005 : decode cL_law 1005 = .ok (.aload_n 1, 1) := by decide +kernel
theorem dL_law_1006 : decode cL_law 1006 = .ok (.aload_n 0, 1) := by decide +kernel
theorem dL_law_1007 : decode cL_law 1007 = .ok (.iload_n 3, 1) := by decide +kernel
theorem dL_law_1008 : decode cL_law 1008 = .ok (.iconst 1, 1) := by decide +kernel
theorem dL_law_1009 : decode cL_law 1009 = .ok (.iadd, 1) := by decide +kernel
theorem dL_law_1010 : decode cL_law 1010 = .ok (.iaload, 1) := by decide +kernel
theorem dL_law_1011 : decode cL_law 1011 = .ok (.aload_n 0, 1) := by decide +kernel
theorem dL_law_1012 : decode cL_law 1012 = .ok (.iload_n 3, 1) := by decide +kernel
theorem dL_law_1013 : decode cL_law 1013 = .ok (.iconst 2, 1) := by decide +kernel
theorem dL_law_1014 : decode cL_law 1014 = .ok (.iadd, 1) := by decide +kernel
theorem dL_law_1015 : decode cL_law 1015 = .ok (.iaload, 1) := by decide +kernel
theorem dL_law_1016 : decode cL_law 1016 = .ok (.aload_n 0, 1) := by decide +kernel
theorem dL_law_1017 : decode cL_law 1017 = .ok (.iload_n 3, 1) := by decide +kernel
theorem dL_law_1018 : decode cL_law 1018 = .ok (.iconst 3, 1) := by decide +kernel
theorem dL_law_1019 : decode cL_law 1019 = .ok (.iadd, 1) := by decide +kernel
theorem dL_law_1020 : decode cL_law 1020 = .ok (.iaload, 1) := by decide +kernel
theorem dL_law_1021 : decode cL_law 1021 = .ok (.aload_n 0, 1) := by decide +kernel
theorem dL_law_1022 : decode cL_law 1022 = .ok (.iload_n 3, 1) := by decide +kernel
theorem dL_law_1023 : decode cL_law 1023 = .ok (.iconst 4, 1) := by decide +kernel
theorem dL_law_1024 : decode cL_law 1024 = .ok (.iadd, 1) := by decide +kernel
theorem dL_law_1025 : decode cL_law 1025 = .ok (.iaload, 1) := by decide +kernel
theorem dL_law_1026 : decode cL_law 1026 = .ok (.aload_n 0, 1) := by decide +kernel
theorem dL_law_1027 : decode cL_law 1027 = .ok (.iload_n 3, 1) := by decide +kernel
theorem dL_law_1028 : decode cL_law 1028 = .ok (.iconst 5, 1) := by decide +kernel
theorem dL_law_1029 : decode cL_law 1029 = .ok (.iadd, 1) := by decide +kernel
theorem dL_law_1030 : decode cL_law 1030 = .ok (.iaload, 1) := by decide +kernel
theorem dL_law_1031 : decode cL_law 1031 = .ok (.invokevirtual 136, 3) := by decide +kernel
theorem dL_law_1034 : decode cL_law 1034 = .ok (.aload_n 2, 1) := by decide +kernel
theorem dL_law_1035 : decode cL_law 1035 = .ok (.aload_n 0, 1) := by decide +kernel
theorem dL_law_1036 : decode cL_law 1036 = .ok (.iload_n 3, 1) := by decide +kernel
theorem dL_law_1037 : decode cL_law 1037 = .ok (.iconst 1, 1) := by decide +kernel
theorem dL_law_1038 : decode cL_law 1038 = .ok (.iadd, 1) := by decide +kernel
theorem dL_law_1039 : decode cL_law 1039 = .ok (.iaload, 1) := by decide +kernel
theorem dL_law_1040 : decode cL_law 1040 = .ok (.aload_n 0, 1) := by decide +kernel
theorem dL_law_1041 : decode cL_law 1041 = .ok (.iload_n 3, 1) := by decide +kernel
theorem dL_law_1042 : decode cL_law 1042 = .ok (.iconst 2, 1) := by decide +kernel
theorem dL_law_1043 : decode cL_law 1043 = .ok (.iadd, 1) := by decide +kernel
theorem dL_law_1044 : decode cL_law 1044 = .ok (.iaload, 1) := by decide +kernel
theorem dL_law_1045 : decode cL_law 1045 = .ok (.aload_n 0, 1) := by decide +kernel
theorem dL_law_1046 : decode cL_law 1046 = .ok (.iload_n 3, 1) := by decide +kernel
theorem dL_law_1047 : decode cL_law 1047 = .ok (.iconst 3, 1) := by decide +kernel
theorem dL_law_1048 : decode cL_law 1048 = .ok (.iadd, 1) := by decide +kernel
theorem dL_law_1049 : decode cL_law 1049 = .ok (.iaload, 1) := by decide +kernel
theorem dL_law_1050 : decode cL_law 1050 = .ok (.aload_n 0, 1) := by decide +kernel
theorem dL_law_1051 : decode cL_law 1051 = .ok (.iload_n 3, 1) := by decide +kernel
theorem dL_law_1052 : decode cL_law 1052 = .ok (.iconst 4, 1) := by decide +kernel
theorem dL_law_1053 : decode cL_law 1053 = .ok (.iadd, 1) := by decide +kernel
theorem dL_law_1054 : decode cL_law 1054 = .ok (.iaload, 1) := by decide +kernel
theorem dL_law_1055 : decode cL_law 1055 = .ok (.aload_n 0, 1) := by decide +kernel
theorem dL_law_1056 : decode cL_law 1056 = .ok (.iload_n 3, 1) := by decide +kernel
theorem dL_law_1057 : decode cL_law 1057 = .ok (.iconst 5, 1) := by decide +kernel
theorem dL_law_1058 : decode cL_law 1058 = .ok (.iadd, 1) := by decide +kernel
theorem dL_law_1059 : decode cL_law 1059 = .ok (.iaload, 1) := by decide +kernel
theorem dL_law_1060 : decode cL_law 1060 = .ok (.invokevirtual 140, 3) := by decide +kernel
theorem dL_law_1063 : decode cL_law 1063 = .ok (.if_icmp .eq 5, 3) := by decide +kernel
theorem dL_law_1066 : decode cL_law 1066 = .ok (.iconst 0, 1) := by decide +kernel
theorem dL_law_1067 : decode cL_law 1067 = .ok (.ireturn, 1) := by decide +kernel
theorem dL_law_1068 : decode cL_law 1068 = .ok (.iinc 3 6, 3) := by decide +kernel
theorem dL_law_1071 : decode cL_law 1071 = .ok (.goto (-1053), 3) := by decide +kernel
theorem dL_law_1074 : decode cL_law 1074 = .ok (.iconst 1, 1) := by decide +kernel
theorem dL_law_1075 : decode cL_law 1075 = .ok (.ireturn, 1) := by decide +kernel
end
section
/-! THE MEMORY: an object is its ints (row 0: its fields by their slots; row k + 1: the int array in slot k), its longs, its references (as numbers of objects); the memory is the objects by number: 0 now, 1 before, 2 imageNow, 3 draft, 4 .. 15 the two pasts' states, 16 past, 17 imagePast, 18 note, 19 tape, 20 parser, 21 reading, 22 the search's reading, 23 search, 24 .. 27 sheets, 28 the class, 29 the reference -/
abbrev zOb : Type := (Nat → Nat → Int32) × (Nat → Nat → Int64) × (Nat → Nat → Nat)
abbrev zM : Type := Nat → zOb
/-- class numbers and slots; array classes; addresses; String constants: objects, bytes -/
abbrev zG : Type := va_G × (Nat → ClassId) × (Nat → Nat → Nat) × (Nat → Nat) × (Nat → Nat)
def zset (μ : zM) (o : Nat) (S : zOb) : zM := fun o' => if o' = o then S else μ o'
def zI (S : zOb) (j i : Nat) (x : Int32) : zOb := (fun j' => if j' = j then upd (S.1 j) i x else S.1 j', S.2)
def zL (S : zOb) (j i : Nat) (x : Int64) : zOb := (S.1, fun j' => if j' = j then vp_updL (S.2.1 j) i x else S.2.1 j', S.2.2)
def zR (S : zOb) (j i x : Nat) : zOb := (S.1, S.2.1, fun j' => if j' = j then va_up (S.2.2 j) i x else S.2.2 j')
def zIr (S : zOb) (j : Nat) (f : Nat → Int32) : zOb := (fun j' => if j' = j then f else S.1 j', S.2)
def zLr (S : zOb) (j : Nat) (f : Nat → Int64) : zOb := (S.1, fun j' => if j' = j then f else S.2.1 j', S.2.2)
theorem zset_s (μ : zM) (o : Nat) (S : zOb) : zset μ o S o = S := if_pos rfl
theorem zset_n (μ : zM) {o o' : Nat} (S : zOb) (h : o' ≠ o) : zset μ o S o' = μ o' := if_neg h
theorem zset_ss (μ : zM) (o : Nat) (S S' : zOb) : zset (zset μ o S) o S' = zset μ o S' := by
  funext o'
  unfold zset
  split <;> rfl
theorem zset_id (μ : zM) (o : Nat) : zset μ o (μ o) = μ := by
  funext o'
  unfold zset
  split
  · next h => rw [h]
  · rfl
theorem zset_idS {μ : zM} {o : Nat} {S : zOb} (h : μ o = S) : zset μ o S = μ := by rw [← h]; exact zset_id μ o
abbrev zin (i : Int32) (n : Nat) : Prop := ¬ (i < 0 ∨ n ≤ i.toNatClampNeg)
def zlen (o : Nat) : Nat := if o = 18 then 64 else 90
def zc (o : Nat) : Nat := if o < 16 then 6 else if o < 18 then 2 else if o < 20 then 0 else if o < 21 then 1 else if o < 23 then 3 else if o < 24 then 4 else if o < 28 then 5 else if o < 29 then 7 else 8
/-- a name for a value: bnd a f is f a -/
def bnd {α : Type} {β : Type} (a : α) (f : α → β) : β := f a
theorem bnd_el {α β : Type} {a v : α} {f : α → β} {o : β} (h : bnd a f = o) (e : v = a) : f v = o := by rw [e]; exact h
theorem gd_el {α : Type} {c : Prop} [Decidable c] {K : Option α} {o : α} (h : (if c then K else none) = some o) : c ∧ K = some o := by
  split at h
  · next hc => exact ⟨hc, h⟩
  · cases h
theorem bi_el {α β : Type} {x : Option α} {K : α → Option β} {o : β} (h : x.bind K = some o) : ∃ q, x = some q ∧ K q = some o := Option.bind_eq_some_iff.mp h

def zc0 (ad : Nat → Nat → Nat) (cA : Nat → ClassId) (o j : Nat) (S : zOb) : va_E := match j with
  | 0 => .inr (0, [.ref (ad o 1), .int (S.1 0 1)])
  | j => .inl (cA 1, zlen o, .inl (S.1 j))
def zc1 (ad : Nat → Nat → Nat) (cA : Nat → ClassId) (o j : Nat) (S : zOb) : va_E := match j with
  | 0 => .inr (1, [.ref (ad 19 0), .ref (ad 3 0), .int (S.1 0 2)])
  | _ => .inr (1, [.ref (ad 19 0), .ref (ad 3 0), .int 0])
def zc2 (ad : Nat → Nat → Nat) (cA : Nat → ClassId) (o j : Nat) (S : zOb) : va_E := match j with
  | 0 => .inr (2, [.ref (ad o 1), .int (S.1 0 1)])
  | j => .inl (cA 3, 6, .inr (.inr (.inr (.inr (fun i => some (ad (S.2.2 j i) 0))))))
def zc3 (ad : Nat → Nat → Nat) (cA : Nat → ClassId) (o j : Nat) (S : zOb) : va_E := match j with
  | 0 => .inr (3, [.ref (ad o 1), .ref (ad o 2), .ref (ad o 3), .ref (ad o 4), .ref (ad o 5), .int (S.1 0 5), .ref (ad o 7), .ref (ad o 8), .ref (ad o 9)])
  | 1 => .inl (cA 0, 10, .inl (S.1 1))
  | 2 => .inl (cA 0, 8, .inl (S.1 2))
  | 3 => .inl (cA 0, 8, .inl (S.1 3))
  | 4 => .inl (cA 0, 8, .inl (S.1 4))
  | 5 => .inl (cA 5, 8, .inr (.inr (.inr (.inr (fun i => some (ad o (10 + i)))))))
  | 7 => .inl (cA 0, 7, .inl (S.1 7))
  | 8 => .inl (cA 0, 7, .inl (S.1 8))
  | 9 => .inl (cA 0, 7, .inl (S.1 9))
  | 10 => .inl (cA 0, 7, .inl (S.1 10))
  | 11 => .inl (cA 0, 7, .inl (S.1 11))
  | 12 => .inl (cA 0, 7, .inl (S.1 12))
  | 13 => .inl (cA 0, 7, .inl (S.1 13))
  | 14 => .inl (cA 0, 7, .inl (S.1 14))
  | 15 => .inl (cA 0, 7, .inl (S.1 15))
  | 16 => .inl (cA 0, 7, .inl (S.1 16))
  | j => .inl (cA 0, 7, .inl (S.1 j))
def zc4 (ad : Nat → Nat → Nat) (cA : Nat → ClassId) (o j : Nat) (S : zOb) : va_E := match j with
  | 0 => .inr (4, [.ref (ad 22 0), .ref (ad o 2), .ref (ad o 3), .ref (ad o 4), .ref (ad o 5), .ref (ad o 6), .int (S.1 0 6), .int (S.1 0 7), .int (S.1 0 8), .int (S.1 0 9), .ref (ad o 11), .int (S.1 0 11), .int (S.1 0 12)])
  | 2 => .inl (cA 0, 7, .inl (S.1 2))
  | 3 => .inl (cA 0, 7, .inl (S.1 3))
  | 4 => .inl (cA 0, 7, .inl (S.1 4))
  | 5 => .inl (cA 0, 7, .inl (S.1 5))
  | 6 => .inl (cA 0, 7, .inl (S.1 6))
  | j => .inl (cA 0, 7, .inl (S.1 j))
def zc5 (ad : Nat → Nat → Nat) (cA : Nat → ClassId) (o j : Nat) (S : zOb) : va_E := match j with
  | 0 => .inr (5, [.ref (ad o 1), .int (S.1 0 1), .int (S.1 0 2)])
  | j => .inl (cA 2, 24, .inr (.inl (S.2.1 j)))
def zc6 (ad : Nat → Nat → Nat) (cA : Nat → ClassId) (o j : Nat) (S : zOb) : va_E := match j with
  | 0 => .inr (6, [.ref (ad o 1), .ref (ad o 2), .ref (ad o 3), .int (S.1 0 3), .int (S.1 0 4), .int (S.1 0 5), .int (S.1 0 6), .int (S.1 0 7), .int (S.1 0 8)])
  | 1 => .inl (cA 0, 7, .inl (S.1 1))
  | 2 => .inl (cA 0, 7, .inl (S.1 2))
  | j => .inl (cA 0, 7, .inl (S.1 j))
def zc7 (ad : Nat → Nat → Nat) (cA : Nat → ClassId) (o j : Nat) (S : zOb) : va_E := match j with
  | 0 => .inr (7, [.ref (ad 0 0), .ref (ad 1 0), .ref (ad 16 0), .ref (ad 2 0), .ref (ad 17 0), .int (S.1 0 5), .ref (ad 20 0), .ref (ad 18 0), .ref (ad 21 0), .ref (ad 23 0), .ref (ad o 11)])
  | j => .inl (cA 4, 4, .inr (.inr (.inr (.inr (fun i => some (ad (24 + i) 0))))))
def zc8 (ad : Nat → Nat → Nat) (cA : Nat → ClassId) (o j : Nat) (S : zOb) : va_E := match j with
  | 0 => .inr (8, [.ref (ad o 1), .ref (ad o 2), .int (S.1 0 2), .ref (ad o 4), .ref (ad o 5), .int (S.1 0 5), .ref (ad o 7), .int (S.1 0 7), .ref (ad o 9), .ref (ad o 10), .ref (ad o 11), .ref (ad o 12), .ref (ad o 13), .ref (ad o 14), .ref (ad o 15), .ref (ad o 16), .ref (ad o 17), .ref (ad o 18), .ref (ad o 19), .int (S.1 0 19), .int (S.1 0 20), .int (S.1 0 21), .ref (ad o 23), .int (S.1 0 23), .ref (ad o 25), .int (S.1 0 25), .int (S.1 0 26)])
  | 1 => .inl (cA 0, 27, .inl (S.1 1))
  | 2 => .inl (cA 0, 162, .inl (S.1 2))
  | 4 => .inl (cA 0, 27, .inl (S.1 4))
  | 5 => .inl (cA 0, 162, .inl (S.1 5))
  | 7 => .inl (cA 0, 90, .inl (S.1 7))
  | 9 => .inl (cA 0, 4, .inl (S.1 9))
  | 10 => .inl (cA 0, 4, .inl (S.1 10))
  | 11 => .inl (cA 2, 96, .inr (.inl (S.2.1 11)))
  | 12 => .inl (cA 2, 24, .inr (.inl (S.2.1 12)))
  | 13 => .inl (cA 0, 7, .inl (S.1 13))
  | 14 => .inl (cA 0, 20, .inl (S.1 14))
  | 15 => .inl (cA 0, 20, .inl (S.1 15))
  | 16 => .inl (cA 0, 7, .inl (S.1 16))
  | 17 => .inl (cA 0, 7, .inl (S.1 17))
  | 18 => .inl (cA 0, 7, .inl (S.1 18))
  | 19 => .inl (cA 0, 7, .inl (S.1 19))
  | 23 => .inl (cA 0, 64, .inl (S.1 23))
  | j => .inl (cA 0, 27, .inl (S.1 j))
def zcC (ad : Nat → Nat → Nat) (cA : Nat → ClassId) (ci o j : Nat) (S : zOb) : va_E := match ci with
  | 0 => zc0 ad cA o j S
  | 1 => zc1 ad cA o j S
  | 2 => zc2 ad cA o j S
  | 3 => zc3 ad cA o j S
  | 4 => zc4 ad cA o j S
  | 5 => zc5 ad cA o j S
  | 6 => zc6 ad cA o j S
  | 7 => zc7 ad cA o j S
  | _ => zc8 ad cA o j S
def zcell (G : zG) (o j : Nat) (S : zOb) : va_E := zcC G.2.2.1 G.2.1 (zc o) o j S
def zK : List (Nat × Nat) := [(0, 0), (0, 1), (0, 2), (0, 3), (1, 0), (1, 1), (1, 2), (1, 3), (2, 0), (2, 1), (2, 2), (2, 3), (3, 0), (3, 1), (3, 2), (3, 3), (4, 0), (4, 1), (4, 2), (4, 3), (5, 0), (5, 1), (5, 2), (5, 3), (6, 0), (6, 1), (6, 2), (6, 3), (7, 0), (7, 1), (7, 2), (7, 3), (8, 0), (8, 1), (8, 2), (8, 3), (9, 0), (9, 1), (9, 2), (9, 3), (10, 0), (10, 1), (10, 2), (10, 3), (11, 0), (11, 1), (11, 2), (11, 3), (12, 0), (12, 1), (12, 2), (12, 3), (13, 0), (13, 1), (13, 2), (13, 3), (14, 0), (14, 1), (14, 2), (14, 3), (15, 0), (15, 1), (15, 2), (15, 3), (16, 0), (16, 1), (17, 0), (17, 1), (18, 0), (18, 1), (19, 0), (19, 1), (20, 0), (21, 0), (21, 1), (21, 2), (21, 3), (21, 4), (21, 5), (21, 7), (21, 8), (21, 9), (21, 10), (21, 11), (21, 12), (21, 13), (21, 14), (21, 15), (21, 16), (21, 17), (22, 0), (22, 1), (22, 2), (22, 3), (22, 4), (22, 5), (22, 7), (22, 8), (22, 9), (22, 10), (22, 11), (22, 12), (22, 13), (22, 14), (22, 15), (22, 16), (22, 17), (23, 0), (23, 2), (23, 3), (23, 4), (23, 5), (23, 6), (23, 11), (24, 0), (24, 1), (25, 0), (25, 1), (26, 0), (26, 1), (27, 0), (27, 1), (28, 0), (28, 11), (29, 0), (29, 1), (29, 2), (29, 4), (29, 5), (29, 7), (29, 9), (29, 10), (29, 11), (29, 12), (29, 13), (29, 14), (29, 15), (29, 16), (29, 17), (29, 18), (29, 19), (29, 23), (29, 25)]
theorem zK_len : zK.length = 143 := by decide +kernel
theorem zK_inj0 : ∀ i, i < 143 → ∀ j, j < 143 → zK[i]? = zK[j]? → i = j := by decide +kernel
def zw (G : zG) (μ : zM) : va_W := zK.map (fun κ => (G.2.2.1 κ.1 κ.2, zcell G κ.1 κ.2 (μ κ.1)))
def zA (G : zG) : Nat → Prop := fun q => ∃ κ ∈ zK, q = G.2.2.1 κ.1 κ.2
theorem zK_at {o j : Nat} (h : (o, j) ∈ zK) : ∃ q0 : Nat, zK[q0]? = some (o, j) := List.getElem?_of_mem h
theorem zw_at {G : zG} {μ : zM} {o j q0 : Nat} (h : zK[q0]? = some (o, j)) : (zw G μ)[q0]? = some (G.2.2.1 o j, zcell G o j (μ o)) := by
  unfold zw
  rw [List.getElem?_map, h]
  rfl
theorem zK_inj {i j : Nat} {κ : Nat × Nat} (hi : zK[i]? = some κ) (hj : zK[j]? = some κ) : i = j := by
  have h1 := (List.getElem?_eq_some_iff.mp hi).1
  have h2 := (List.getElem?_eq_some_iff.mp hj).1
  rw [zK_len] at h1 h2
  exact zK_inj0 i h1 j h2 (hi.trans hj.symm)
theorem zw_set {G : zG} {μ : zM} {o j q0 : Nat} {S' : zOb} {e' : va_E} (h : zK[q0]? = some (o, j)) (he : zcell G o j S' = e') (hr : ∀ j', j' ≠ j → zcell G o j' S' = zcell G o j' (μ o)) : (zw G μ).set q0 (G.2.2.1 o j, e') = zw G (zset μ o S') := by
  subst he
  apply List.ext_getElem?
  intro i
  unfold zw
  rw [List.getElem?_set, List.getElem?_map, List.getElem?_map]
  by_cases hi : q0 = i
  · subst hi
    rw [if_pos rfl, List.length_map, if_pos (List.getElem?_eq_some_iff.mp h).1, h]
    simp [zset]
  · rw [if_neg hi]
    cases hz : zK[i]? with
    | none => rfl
    | some κ =>
      obtain ⟨a, b⟩ := κ
      simp only [Option.map_some]
      by_cases ha : a = o
      · subst ha
        have hb : b ≠ j := fun e => hi (zK_inj h (e ▸ hz))
        rw [zset_s, hr b hb]
      · rw [zset_n _ _ ha]
theorem zcell_dep {G : zG} {o j : Nat} {S S' : zOb} (h1 : S.1 j = S'.1 j) (h2 : S.2.1 j = S'.2.1 j) (h3 : S.2.2 j = S'.2.2 j) : zcell G o j S = zcell G o j S' := by
  unfold zcell zcC
  split
  case h_1 => unfold zc0; split <;> simp_all
  case h_2 => unfold zc1; split <;> simp_all
  case h_3 => unfold zc2; split <;> simp_all
  case h_4 => unfold zc3; split <;> simp_all
  case h_5 => unfold zc4; split <;> simp_all
  case h_6 => unfold zc5; split <;> simp_all
  case h_7 => unfold zc6; split <;> simp_all
  case h_8 => unfold zc7; split <;> simp_all
  case h_9 => unfold zc8; split <;> simp_all
theorem zcell_I {G : zG} {o j j' i : Nat} {S : zOb} {x : Int32} (h : j' ≠ j) : zcell G o j' (zI S j i x) = zcell G o j' S := zcell_dep (if_neg h) rfl rfl
theorem zcell_L {G : zG} {o j j' i : Nat} {S : zOb} {x : Int64} (h : j' ≠ j) : zcell G o j' (zL S j i x) = zcell G o j' S := zcell_dep rfl (if_neg h) rfl
theorem zcell_R {G : zG} {o j j' i x : Nat} {S : zOb} (h : j' ≠ j) : zcell G o j' (zR S j i x) = zcell G o j' S := zcell_dep rfl rfl (if_neg h)
theorem zcell_Ir {G : zG} {o j j' : Nat} {S : zOb} {f : Nat → Int32} (h : j' ≠ j) : zcell G o j' (zIr S j f) = zcell G o j' S := zcell_dep (if_neg h) rfl rfl
theorem zcell_Lr {G : zG} {o j j' : Nat} {S : zOb} {f : Nat → Int64} (h : j' ≠ j) : zcell G o j' (zLr S j f) = zcell G o j' S := zcell_dep rfl (if_neg h) rfl
theorem zI_s (S : zOb) (j i : Nat) (x : Int32) : (zI S j i x).1 j = upd (S.1 j) i x := if_pos rfl
theorem zL_s (S : zOb) (j i : Nat) (x : Int64) : (zL S j i x).2.1 j = vp_updL (S.2.1 j) i x := if_pos rfl
theorem zR_s (S : zOb) (j i x : Nat) : (zR S j i x).2.2 j = va_up (S.2.2 j) i x := if_pos rfl
theorem zIr_s (S : zOb) (j : Nat) (f : Nat → Int32) : (zIr S j f).1 j = f := if_pos rfl
theorem zLr_s (S : zOb) (j : Nat) (f : Nat → Int64) : (zLr S j f).2.1 j = f := if_pos rfl
theorem zcell_0 {G : zG} {o : Nat} {S : zOb} : ∃ fs, zcell G o 0 S = .inr (zc o, fs) := by
  unfold zcell
  have h : zc o ≤ 8 := by unfold zc; repeat' split
                          all_goals omega
  generalize zc o = ci at h ⊢
  match ci, h with
  | 0, _ => exact ⟨_, rfl⟩
  | 1, _ => exact ⟨_, rfl⟩
  | 2, _ => exact ⟨_, rfl⟩
  | 3, _ => exact ⟨_, rfl⟩
  | 4, _ => exact ⟨_, rfl⟩
  | 5, _ => exact ⟨_, rfl⟩
  | 6, _ => exact ⟨_, rfl⟩
  | 7, _ => exact ⟨_, rfl⟩
  | 8, _ => exact ⟨_, rfl⟩
  | n + 9, h => exact absurd h (by omega)
def zhost : String := "ReadingStages"
def ztys (cA : Nat → ClassId) : List (ClassId × FieldType) := [(cA 0, .int), (cA 1, .char), (cA 2, .long), (cA 3, .object RX6), (cA 4, .object RX5), (cA 5, .array .int)]
end
section
/-! WHAT EVERY CONTRACT TAKES AS GIVEN OF THE MACHINE (zKX), the world's rows, the calls -/
def zNest (U : State) : Prop := va_Nw (.methodLinkNest RX6 73 yX7_hasBit zhost) U ∧ va_Nw (.methodLinkNest RX4 112 yX7_hasBit zhost) U ∧ va_Nw (.methodLinkNest RX1 118 yX7_hasBit zhost) U
def zlenS : List Nat := [4, 6, 7, 8]
def zbytS : List (List Int32) := [[110, 111, 110, 101], [115, 116, 101, 97, 100, 121], [103, 114, 111, 119, 105, 110, 103], [100, 111, 117, 98, 108, 105, 110, 103]]
def zStr (G : zG) (U : State) (H : Heap) : Prop := vk_S 4 zlenS zbytS G.2.2.2.1 G.2.2.2.2 (zA G) U H ∧ va_Z RJ0 "COMPACT_STRINGS" "Z" (.int 1) (zA G) U H ∧ va_Zq RJ3 "SIOOBE_FORMATTER" "Ljava/util/function/BiFunction;" (zA G) U H
def zRef (G : zG) (U : State) : Prop := vk_R RX7 337 "none" (G.2.2.2.1 0) U ∧ vk_R RX1 79 "steady" (G.2.2.2.1 1) U ∧ vk_R RX1 81 "growing" (G.2.2.2.1 2) U ∧ vk_R RX1 83 "doubling" (G.2.2.2.1 3) U
def zinj (G : zG) : Prop := ∀ κ ∈ zK, ∀ κ' ∈ zK, G.2.2.1 κ.1 κ.2 = G.2.2.1 κ'.1 κ'.2 → κ = κ'
def zKX (G : zG) (U : State) : Prop := va_K G.1 vwCl (ztys G.2.1) U ∧ zNest U ∧ zRef G U ∧ zinj G ∧ zStr G U U.heap
theorem zKX.into {G : zG} {s U : State} {H : Heap} {locs : List Loc} (h : zKX G s) (hS : va_S (zA G) s.heap H locs) (hU : U.heap = H) (hW : s.WarmedH U.vm) : zKX G U := by
  obtain ⟨h1, ⟨n1, n2, n3⟩, ⟨r1, r2, r3, r4⟩, h4, c1, c2, c3⟩ := h
  refine ⟨va_K.moved hW.alike h1, ⟨va_Nw.warmM hW n1, va_Nw.warmM hW n2, va_Nw.warmM hW n3⟩, ⟨r1.warm hW, r2.warm hW, r3.warm hW, r4.warm hW⟩, h4, ?_⟩
  rw [hU]
  exact ⟨(c1.kept hS.2.1).moved hW.alike, (c2.kept hS.2.1).moved hW.alike, (c3.kept hS.2.1).moved hW.alike⟩
theorem zKX.calling {G : zG} {U : State} {g : JFrame} {mk : MethodId} {a : Array Value} (h : zKX G U) : zKX G (U.calling g mk a) := by
  obtain ⟨h1, ⟨n1, n2, n3⟩, ⟨r1, r2, r3, r4⟩, h4, c1, c2, c3⟩ := h
  exact ⟨va_K.moved (u := U) (U := U.calling g mk a) (Vm.Alike.refl U.vm) h1, ⟨va_Nw.same rfl (u := U) rfl n1, va_Nw.same rfl (u := U) rfl n2, va_Nw.same rfl (u := U) rfl n3⟩, ⟨r1.same (u := U) rfl, r2.same (u := U) rfl, r3.same (u := U) rfl, r4.same (u := U) rfl⟩, h4, c1.moved (u := U) (U := U.calling g mk a) (Vm.Alike.refl U.vm), c2.moved (u := U) (U := U.calling g mk a) (Vm.Alike.refl U.vm), c3.moved (u := U) (U := U.calling g mk a) (Vm.Alike.refl U.vm)⟩
def zrm (d : Nat) : Room := { frames := d, cells := 0, slots := 0, locals := 40 * d }
abbrev zws (y : MethodName) (cc : ByteArray) (nL : Nat) (ret : Option FieldType) : List Cond := .code y cc nL ret :: wsL_law
def zPre (G : zG) (μ : zM) : State → Prop := fun U => zKX G U ∧ va_P G.1 vwCl (zw G μ) U.heap
/-- an int (boolean, char) comes back, the memory becomes μ' -/
def zMI (l : Launch) (G : zG) (y : MethodName) (cc : ByteArray) (nL : Nat) (ret : Option FieldType) (d : Nat) (av : List Value) (μ : zM) (r : Int32) (μ' : zM) : Prop :=
  Met l y (zws y cc nL ret) (zrm d) (va_Pc av (zPre G μ)) (va_Qi (fun (r' : Int32) (ν : zM) => r' = r ∧ ν = μ') (fun ν t => va_P G.1 vwCl (zw G ν) t.heap) (zA G)) 0 0 (zA G)
def zML (l : Launch) (G : zG) (y : MethodName) (cc : ByteArray) (nL : Nat) (ret : Option FieldType) (d : Nat) (av : List Value) (μ : zM) (r : Int64) (μ' : zM) : Prop :=
  Met l y (zws y cc nL ret) (zrm d) (va_Pc av (zPre G μ)) (va_Ql (fun (r' : Int64) (ν : zM) => r' = r ∧ ν = μ') (fun ν t => va_P G.1 vwCl (zw G ν) t.heap) (zA G)) 0 0 (zA G)
def zMV (l : Launch) (G : zG) (y : MethodName) (cc : ByteArray) (nL : Nat) (ret : Option FieldType) (d : Nat) (av : List Value) (μ : zM) (μ' : zM) : Prop :=
  Met l y (zws y cc nL ret) (zrm d) (va_Pc av (zPre G μ)) (va_Qv (fun (ν : zM) => ν = μ') (fun ν t => va_P G.1 vwCl (zw G ν) t.heap) (zA G)) 0 0 (zA G)
def zCX (p : Program) (R : Room) (s : State) (m : MethodId) (args : Array Value) (c : Code) (own : String) (cc : ByteArray) (nL d : Nat) (G : zG) : Prop :=
  p.tables.exec = Jvm.exec ∧ c.code = cc ∧ c.maxLocals = nL ∧ s.vm.findClass own = some m.cls ∧ (∀ w ∈ wsL_law, w.before args s = true) ∧ zKX G s ∧ R = zrm d
def zIW (G : zG) (s : State) (μ : zM) (H : Heap) (locs : List Loc) : Prop := va_P G.1 vwCl (zw G μ) H ∧ va_S (zA G) s.heap H locs
theorem zgood : wsL_law.all goodWord = true := by decide +kernel
theorem zgoodIn {ws : List Cond} (h : ∀ w ∈ ws, w ∈ wsL_law) : GoodIn wsL_law ws := fun w hw => ⟨h w hw, good_of_word (List.all_eq_true.mp zgood w (h w hw))⟩
theorem zD {G : zG} {μ : zM} (h : zinj G) : va_D (zA G) (zw G μ) := by
  refine ⟨fun i j x y hi hj e => ?_, fun k q hq => ?_⟩
  · unfold zw at hi hj
    rw [List.getElem?_map] at hi hj
    cases h1 : zK[i]? with
    | none => rw [h1] at hi; cases hi
    | some κ =>
      cases h2 : zK[j]? with
      | none => rw [h2] at hj; cases hj
      | some κ' =>
        rw [h1] at hi
        rw [h2] at hj
        cases hi
        cases hj
        have ek := h κ (List.mem_of_getElem? h1) κ' (List.mem_of_getElem? h2) e
        subst ek
        exact zK_inj h1 h2
  · unfold zw at hq
    rw [List.getElem?_map] at hq
    cases h1 : zK[k]? with
    | none => rw [h1] at hq; cases hq
    | some κ =>
      rw [h1] at hq
      cases hq
      exact ⟨κ, List.mem_of_getElem? h1, rfl⟩
/-- a method of a class, in the tables: callable by its name -/
def zMth (y : MethodName) (C : String) (cc : ByteArray) (nL : Nat) (ret : Option FieldType) (n : Nat) : Prop :=
  (y.cls = C ∧ y.cls ≠ "java/lang/invoke/MethodHandle" ∧ y.cls ≠ "java/lang/invoke/VarHandle" ∧ (parseMethodDescriptor y.desc).map (fun d => d.parameters.length) = some n) ∧ nL ≤ 21 ∧ Cond.initialized C ∈ wsL_law ∧ Cond.code y cc nL ret ∈ wsL_law
section ZR
variable {p : Program} {l : Launch} {e : Env} {R : Room} {s : State} {m : MethodId} {args : Array Value} {below : List Frame} {meth : Method} {c : Code} {H : Heap} {locs : List Loc} {Q : State → Prop} {cc : ByteArray} {pc : Nat} {ls : Array Slot} {rest : List Value} {own : String} {nL d : Nat} {G : zG} {μ μ' : zM} {S : zOb}
theorem zr_get {ci k o index : Nat} {C : String} {T : u_T} {N : Nat} {fs : List Value} {v : Value} (cx : zCX p R s m args c own cc nL d G) (hI : zIW G s μ H locs) (ho : (o, 0) ∈ zK) (hS : μ o = S) (he : zcell G o 0 S = .inr (ci, fs)) (hc : vwCl[ci]? = some (C, T, N)) (hin : ∀ w ∈ u_ws C T N, w ∈ wsL_law) (hk : k < N) (hl : Cond.fieldLink own index (T k).1 (T k).2.1 (T k).2.2.1 ∈ wsL_law) (hv : fs[k]? = some v) (hdg : decode cc pc = .ok (.getfield index, 3))
    (kk : W p l e R s m args below meth c H locs 0 0 Q (F0 m (pc + 3) ls (v :: rest))) : W p l e R s m args below meth c H locs 0 0 Q (F0 m pc ls (.ref (G.2.2.1 o 0) :: rest)) := by
  obtain ⟨hx, hb, hml, hown, hts, hK, hR⟩ := cx
  obtain ⟨q0, hq⟩ := zK_at ho
  have e := zw_at (G := G) (μ := μ) hq
  rw [hS, he] at e
  exact va_get hx hb hts hin hown hK.1 hI.1 q0 e hc k hk (hts _ hl) (fun _ h => h) hv hdg kk
theorem zr_put {ci k o index : Nat} {C : String} {T : u_T} {N : Nat} {fs : List Value} {x : Int32} {ty : FieldType} {tf : Nat → FieldType} (cx : zCX p R s m args c own cc nL d G) (hI : zIW G s μ H locs) (ho : (o, 0) ∈ zK) (hS : μ o = S) (he : zcell G o 0 S = .inr (ci, fs)) (hc : vwCl[ci]? = some (C, T, N)) (hin : ∀ w ∈ u_ws C T N, w ∈ wsL_law) (hty : ∀ k, k < N → parseFieldDescriptor (T k).2.2.1 = some (tf k)) (hnm : ∀ a, a < N → ∀ b, b < N → a ≠ b → (T a).2.1 ≠ (T b).2.1) (hk : k < N) (hl : Cond.fieldLink own index (T k).1 (T k).2.1 (T k).2.2.1 ∈ wsL_law) (hfin : (T k).2.2.2 = false) (htk : tf k = ty) (hn : narrow ty (.int x) = .int x) (hfit : fits ty (.int x) = true) (hlen : k < fs.length) (he' : zcell G o 0 (zI S 0 k x) = .inr (ci, fs.set k (.int x))) (hμ : zset μ o (zI S 0 k x) = μ') (hdg : decode cc pc = .ok (.putfield index, 3))
    (kk : ∀ (H1 : Heap) (locs1 : List Loc), zIW G s μ' H1 locs1 → W p l e R s m args below meth c H1 locs1 0 0 Q (F0 m (pc + 3) ls rest)) : W p l e R s m args below meth c H locs 0 0 Q (F0 m pc ls (.int x :: .ref (G.2.2.1 o 0) :: rest)) := by
  obtain ⟨hx, hb, hml, hown, hts, hK, hR⟩ := cx
  obtain ⟨q0, hq⟩ := zK_at ho
  have e := zw_at (G := G) (μ := μ) hq
  rw [hS, he] at e
  refine va_put hx hb hts hin tf hty hnm hown hK.1 hI.1 (zD hK.2.2.2.1) hI.2 q0 e hc k hk (hts _ hl) (fun _ h => h) hfin (by rw [hty k hk, htk]) hn hfit hlen hdg (fun H1 locs1 hP _ hS1 => ?_)
  have e2 := zw_set (G := G) (μ := μ) hq he' (fun j' hj => by rw [hS]; exact zcell_I hj)
  rw [e2, hμ] at hP
  exact kk H1 locs1 ⟨hP, hS1⟩
theorem zr_iald {o j n : Nat} {i : Int32} (cx : zCX p R s m args c own cc nL d G) (hI : zIW G s μ H locs) (ho : (o, j) ∈ zK) (hS : μ o = S) (he : ∀ S, zcell G o j S = .inl (G.2.1 0, n, .inl (S.1 j))) {k : Nat} (hk : i.toNatClampNeg = k) (hin : zin i n) (hdg : decode cc pc = .ok (.iaload, 1))
    (kk : W p l e R s m args below meth c H locs 0 0 Q (F0 m (pc + 1) ls (.int (S.1 j k) :: rest))) : W p l e R s m args below meth c H locs 0 0 Q (F0 m pc ls (.int i :: .ref (G.2.2.1 o j) :: rest)) := by
  subst hk
  obtain ⟨hx, hb, hml, hown, hts, hK, hR⟩ := cx
  obtain ⟨q0, hq⟩ := zK_at ho
  have e := zw_at (G := G) (μ := μ) hq
  rw [hS, he] at e
  exact va_iald hx hb hK.1 hI.1 q0 0 e rfl hin hdg kk
theorem zr_iast {o j n : Nat} {i x : Int32} (cx : zCX p R s m args c own cc nL d G) (hI : zIW G s μ H locs) (ho : (o, j) ∈ zK) (hS : μ o = S) (he : ∀ S, zcell G o j S = .inl (G.2.1 0, n, .inl (S.1 j))) {k : Nat} (hk : i.toNatClampNeg = k) (hin : zin i n) (hμ : zset μ o (zI S j k x) = μ') (hdg : decode cc pc = .ok (.iastore, 1))
    (kk : ∀ (H1 : Heap) (locs1 : List Loc), zIW G s μ' H1 locs1 → W p l e R s m args below meth c H1 locs1 0 0 Q (F0 m (pc + 1) ls rest)) : W p l e R s m args below meth c H locs 0 0 Q (F0 m pc ls (.int x :: .int i :: .ref (G.2.2.1 o j) :: rest)) := by
  subst hk
  obtain ⟨hx, hb, hml, hown, hts, hK, hR⟩ := cx
  obtain ⟨q0, hq⟩ := zK_at ho
  have e := zw_at (G := G) (μ := μ) hq
  rw [hS, he] at e
  refine va_iast hx hb hK.1 hI.1 (zD hK.2.2.2.1) hI.2 q0 0 e rfl hin hdg (fun H1 locs1 hP _ hS1 => ?_)
  have e2 := zw_set (G := G) (μ := μ) (S' := zI S j i.toNatClampNeg x) hq (by rw [he, zI_s]) (fun j' hj => by rw [hS]; exact zcell_I hj)
  rw [e2, hμ] at hP
  exact kk H1 locs1 ⟨hP, hS1⟩
theorem zr_cald {o j n : Nat} {i : Int32} (cx : zCX p R s m args c own cc nL d G) (hI : zIW G s μ H locs) (ho : (o, j) ∈ zK) (hS : μ o = S) (he : ∀ S, zcell G o j S = .inl (G.2.1 1, n, .inl (S.1 j))) {k : Nat} (hk : i.toNatClampNeg = k) (hin : zin i n) (hdg : decode cc pc = .ok (.caload, 1))
    (kk : W p l e R s m args below meth c H locs 0 0 Q (F0 m (pc + 1) ls (.int (S.1 j k) :: rest))) : W p l e R s m args below meth c H locs 0 0 Q (F0 m pc ls (.int i :: .ref (G.2.2.1 o j) :: rest)) := by
  subst hk
  obtain ⟨hx, hb, hml, hown, hts, hK, hR⟩ := cx
  obtain ⟨q0, hq⟩ := zK_at ho
  have e := zw_at (G := G) (μ := μ) hq
  rw [hS, he] at e
  exact va_cald hx hb hK.1 hI.1 q0 1 e rfl hin hdg kk
theorem zr_cast {o j n : Nat} {i x : Int32} (cx : zCX p R s m args c own cc nL d G) (hI : zIW G s μ H locs) (ho : (o, j) ∈ zK) (hS : μ o = S) (he : ∀ S, zcell G o j S = .inl (G.2.1 1, n, .inl (S.1 j))) {k : Nat} (hk : i.toNatClampNeg = k) (hin : zin i n) (hμ : zset μ o (zI S j k (vp_nar .char x)) = μ') (hdg : decode cc pc = .ok (.castore, 1))
    (kk : ∀ (H1 : Heap) (locs1 : List Loc), zIW G s μ' H1 locs1 → W p l e R s m args below meth c H1 locs1 0 0 Q (F0 m (pc + 1) ls rest)) : W p l e R s m args below meth c H locs 0 0 Q (F0 m pc ls (.int x :: .int i :: .ref (G.2.2.1 o j) :: rest)) := by
  subst hk
  obtain ⟨hx, hb, hml, hown, hts, hK, hR⟩ := cx
  obtain ⟨q0, hq⟩ := zK_at ho
  have e := zw_at (G := G) (μ := μ) hq
  rw [hS, he] at e
  refine va_cast hx hb hK.1 hI.1 (zD hK.2.2.2.1) hI.2 q0 1 e rfl hin hdg (fun H1 locs1 hP _ hS1 => ?_)
  have e2 := zw_set (G := G) (μ := μ) (S' := zI S j i.toNatClampNeg (vp_nar .char x)) hq (by rw [he, zI_s]) (fun j' hj => by rw [hS]; exact zcell_I hj)
  rw [e2, hμ] at hP
  exact kk H1 locs1 ⟨hP, hS1⟩
theorem zr_clen {o j n : Nat} (cx : zCX p R s m args c own cc nL d G) (hI : zIW G s μ H locs) (ho : (o, j) ∈ zK) (hS : μ o = S) (he : ∀ S, zcell G o j S = .inl (G.2.1 1, n, .inl (S.1 j))) (hdg : decode cc pc = .ok (.arraylength, 1))
    (kk : W p l e R s m args below meth c H locs 0 0 Q (F0 m (pc + 1) ls (.int (Int32.ofNat n) :: rest))) : W p l e R s m args below meth c H locs 0 0 Q (F0 m pc ls (.ref (G.2.2.1 o j) :: rest)) := by
  obtain ⟨hx, hb, hml, hown, hts, hK, hR⟩ := cx
  obtain ⟨q0, hq⟩ := zK_at ho
  have e := zw_at (G := G) (μ := μ) hq
  rw [hS, he] at e
  exact va_alen hx hb hK.1 hI.1 q0 1 e rfl rfl hdg kk
theorem zr_lald {o j n : Nat} {i : Int32} (cx : zCX p R s m args c own cc nL d G) (hI : zIW G s μ H locs) (ho : (o, j) ∈ zK) (hS : μ o = S) (he : ∀ S, zcell G o j S = .inl (G.2.1 2, n, .inr (.inl (S.2.1 j)))) {k : Nat} (hk : i.toNatClampNeg = k) (hin : zin i n) (hdg : decode cc pc = .ok (.laload, 1))
    (kk : W p l e R s m args below meth c H locs 0 0 Q (F0 m (pc + 1) ls (.long (S.2.1 j k) :: rest))) : W p l e R s m args below meth c H locs 0 0 Q (F0 m pc ls (.int i :: .ref (G.2.2.1 o j) :: rest)) := by
  subst hk
  obtain ⟨hx, hb, hml, hown, hts, hK, hR⟩ := cx
  obtain ⟨q0, hq⟩ := zK_at ho
  have e := zw_at (G := G) (μ := μ) hq
  rw [hS, he] at e
  exact va_lald hx hb hK.1 hI.1 q0 2 e rfl hin hdg kk
theorem zr_last {o j n : Nat} {i : Int32} {x : Int64} (cx : zCX p R s m args c own cc nL d G) (hI : zIW G s μ H locs) (ho : (o, j) ∈ zK) (hS : μ o = S) (he : ∀ S, zcell G o j S = .inl (G.2.1 2, n, .inr (.inl (S.2.1 j)))) {k : Nat} (hk : i.toNatClampNeg = k) (hin : zin i n) (hμ : zset μ o (zL S j k x) = μ') (hdg : decode cc pc = .ok (.lastore, 1))
    (kk : ∀ (H1 : Heap) (locs1 : List Loc), zIW G s μ' H1 locs1 → W p l e R s m args below meth c H1 locs1 0 0 Q (F0 m (pc + 1) ls rest)) : W p l e R s m args below meth c H locs 0 0 Q (F0 m pc ls (.long x :: .int i :: .ref (G.2.2.1 o j) :: rest)) := by
  subst hk
  obtain ⟨hx, hb, hml, hown, hts, hK, hR⟩ := cx
  obtain ⟨q0, hq⟩ := zK_at ho
  have e := zw_at (G := G) (μ := μ) hq
  rw [hS, he] at e
  refine va_last hx hb hK.1 hI.1 (zD hK.2.2.2.1) hI.2 q0 2 e rfl hin hdg (fun H1 locs1 hP _ hS1 => ?_)
  have e2 := zw_set (G := G) (μ := μ) (S' := zL S j i.toNatClampNeg x) hq (by rw [he, zL_s]) (fun j' hj => by rw [hS]; exact zcell_L hj)
  rw [e2, hμ] at hP
  exact kk H1 locs1 ⟨hP, hS1⟩
/-- rows of references: the states of a past, the sheets -/
theorem zr_aald {o j n t0 : Nat} {i : Int32} {cA : ClassId} {C : String} {f : Nat → Nat} (cx : zCX p R s m args c own cc nL d G) (hI : zIW G s μ H locs) (ho : (o, j) ∈ zK) (hS : μ o = S) (he : zcell G o j S = .inl (cA, n, .inr (.inr (.inr (.inr (fun i => some (f i))))))) (ht : (ztys G.2.1)[t0]? = some (cA, .object C)) {k : Nat} (hk : i.toNatClampNeg = k) (hin : zin i n) (hdg : decode cc pc = .ok (.aaload, 1))
    (kk : W p l e R s m args below meth c H locs 0 0 Q (F0 m (pc + 1) ls (.ref (f k) :: rest))) : W p l e R s m args below meth c H locs 0 0 Q (F0 m pc ls (.int i :: .ref (G.2.2.1 o j) :: rest)) := by
  subst hk
  obtain ⟨hx, hb, hml, hown, hts, hK, hR⟩ := cx
  obtain ⟨q0, hq⟩ := zK_at ho
  have e := zw_at (G := G) (μ := μ) hq
  rw [hS, he] at e
  exact va_aldq hx hb hK.1 hI.1 q0 t0 e ht hin hdg kk
/-- rows of rows: due -/
theorem zr_gald {o j n t0 : Nat} {i : Int32} {cA : ClassId} {f : Nat → Nat} (cx : zCX p R s m args c own cc nL d G) (hI : zIW G s μ H locs) (ho : (o, j) ∈ zK) (hS : μ o = S) (he : zcell G o j S = .inl (cA, n, .inr (.inr (.inr (.inr (fun i => some (f i))))))) (ht : (ztys G.2.1)[t0]? = some (cA, .array .int)) {k : Nat} (hk : i.toNatClampNeg = k) (hin : zin i n) (hdg : decode cc pc = .ok (.aaload, 1))
    (kk : W p l e R s m args below meth c H locs 0 0 Q (F0 m (pc + 1) ls (.ref (f k) :: rest))) : W p l e R s m args below meth c H locs 0 0 Q (F0 m pc ls (.int i :: .ref (G.2.2.1 o j) :: rest)) := by
  subst hk
  obtain ⟨hx, hb, hml, hown, hts, hK, hR⟩ := cx
  obtain ⟨q0, hq⟩ := zK_at ho
  have e := zw_at (G := G) (μ := μ) hq
  rw [hS, he] at e
  have hlt : i.toNatClampNeg < n := Nat.not_le.mp fun q => hin (Or.inr q)
  exact W.aald (v := va_rf (some (f i.toNatClampNeg))) (ty := .array .int) hx hb (hI.1 q0 _ e) ((hK.1.2 t0 _ ht).1 n (fun j => va_rf (some (f j)))) rfl (fun q => by cases q) (by show ¬ (i < 0 ∨ (arrV _ _ _).slots.size ≤ _); rw [arrV_size]; exact hin) (by show (arrV _ _ _).slots[_]? = _; rw [arrV_read _ _ hlt]) rfl rfl hdg kk
/-- a state comes into a past's row -/
theorem zr_aast {o j n ov : Nat} {i : Int32} (cx : zCX p R s m args c own cc nL d G) (hI : zIW G s μ H locs) (ho : (o, j) ∈ zK) (hS : μ o = S) (he : ∀ S, zcell G o j S = .inl (G.2.1 3, n, .inr (.inr (.inr (.inr (fun i => some (G.2.2.1 (S.2.2 j i) 0))))))) (hov : (ov, 0) ∈ zK) (hcv : zc ov = 6) {k : Nat} (hk : i.toNatClampNeg = k) (hin : zin i n) (hμ : zset μ o (zR S j k ov) = μ') (hdg : decode cc pc = .ok (.aastore, 1))
    (kk : ∀ (H1 : Heap) (locs1 : List Loc), zIW G s μ' H1 locs1 → W p l e R s m args below meth c H1 locs1 0 0 Q (F0 m (pc + 1) ls rest)) : W p l e R s m args below meth c H locs 0 0 Q (F0 m pc ls (.ref (G.2.2.1 ov 0) :: .int i :: .ref (G.2.2.1 o j) :: rest)) := by
  subst hk
  obtain ⟨hx, hb, hml, hown, hts, hK, hR⟩ := cx
  obtain ⟨q0, hq⟩ := zK_at ho
  obtain ⟨qk, hqk⟩ := zK_at hov
  have e := zw_at (G := G) (μ := μ) hq
  rw [hS, he] at e
  have ev := zw_at (G := G) (μ := μ) hqk
  obtain ⟨fs, hfs⟩ := zcell_0 (G := G) (o := ov) (S := μ ov)
  rw [hfs, hcv] at ev
  refine va_astq (r := (RX6, TX6, 9)) hx hb hK.1 hI.1 (zD hK.2.2.2.1) hI.2 q0 3 qk 6 e rfl ev rfl hin hdg (fun H1 locs1 hP _ hS1 => ?_)
  have e2 := zw_set (G := G) (μ := μ) (S' := zR S j i.toNatClampNeg ov) (e' := .inl (G.2.1 3, n, .inr (.inr (.inr (.inr (va_up (fun i => some (G.2.2.1 (S.2.2 j i) 0)) i.toNatClampNeg (some (G.2.2.1 ov 0)))))))) hq (by
    rw [he, zR_s]
    congr 7
    funext k
    unfold va_up
    split <;> rfl) (fun j' hj => by rw [hS]; exact zcell_R hj)
  rw [e2, hμ] at hP
  exact kk H1 locs1 ⟨hP, hS1⟩
/-- System.arraycopy of ints -/
theorem zr_cpi {o j n o' j' n' index : Nat} {S1 : zOb} {sp dp k : Int32} (cx : zCX p R s m args c own cc nL d G) (hI : zIW G s μ H locs) (hsz : ls.size = nL) (ho : (o, j) ∈ zK) (hS : μ o = S) (he : ∀ S, zcell G o j S = .inl (G.2.1 0, n, .inl (S.1 j))) (ho' : (o', j') ∈ zK) (hS' : μ o' = S1) (he' : ∀ S, zcell G o' j' S = .inl (G.2.1 0, n', .inl (S.1 j')))
    (hl : Cond.methodLink own index arraycopyName ∈ wsL_law) (hd : 1 ≤ d) (h1 : ¬ sp < 0) (h2 : ¬ dp < 0) (h3 : ¬ k < 0) (h4 : sp.toNatClampNeg + k.toNatClampNeg ≤ n) (h5 : dp.toNatClampNeg + k.toNatClampNeg ≤ n') (hrm : (rest.map fun v => v.category).sum ≤ 8) (hμ : zset μ o' (zIr S1 j' (va_cpy (S.1 j) (S1.1 j') sp.toNatClampNeg dp.toNatClampNeg k.toNatClampNeg)) = μ') (hdg : decode cc pc = .ok (.invokestatic index, 3))
    (kk : ∀ (H1 : Heap) (locs1 : List Loc), zIW G s μ' H1 locs1 → W p l e R s m args below meth c H1 locs1 0 0 Q (F0 m (pc + 3) ls rest)) : W p l e R s m args below meth c H locs 0 0 Q (F0 m pc ls (.int k :: .int dp :: .ref (G.2.2.1 o' j') :: .int sp :: .ref (G.2.2.1 o j) :: rest)) := by
  obtain ⟨hx, hb, hml, hown, hts, hK, hR⟩ := cx
  obtain ⟨q0, hq⟩ := zK_at ho
  obtain ⟨q1, hq1⟩ := zK_at ho'
  have e := zw_at (G := G) (μ := μ) hq
  rw [hS, he] at e
  have e1 := zw_at (G := G) (μ := μ) hq1
  rw [hS', he'] at e1
  have hnf : nativeFrameWords "java/lang/System" "arraycopy" 5 ≤ 20 := by decide +kernel
  refine va_copyi hx hb (hml.trans hsz.symm) hown (hts _ hl) (hts (.native arraycopyName) (by decide +kernel)) (hts (.static arraycopyName) (by decide +kernel)) (hts (.initialized "java/lang/System") (by decide +kernel)) hK.1 hI.1 (zD hK.2.2.2.1) hI.2 q0 q1 0 0 e e1 rfl rfl rfl h1 h2 h3 h4 h5 (fun i _ => rfl) (by rw [hR]; exact hd) (by rw [hR]; show _ + (nativeFrameWords "java/lang/System" "arraycopy" 5 + 11) ≤ 40 * d; omega) hdg (fun H1 locs1 hP _ hS1 => ?_)
  have e2 := zw_set (G := G) (μ := μ) (S' := zIr S1 j' (va_cpy (S.1 j) (S1.1 j') sp.toNatClampNeg dp.toNatClampNeg k.toNatClampNeg)) hq1 (by rw [he', zIr_s]) (fun j'' hj => by rw [hS']; exact zcell_Ir hj)
  rw [e2, hμ] at hP
  exact kk H1 locs1 ⟨hP, hS1⟩
/-- System.arraycopy of longs -/
theorem zr_cpl {o j n o' j' n' index : Nat} {S1 : zOb} {sp dp k : Int32} (cx : zCX p R s m args c own cc nL d G) (hI : zIW G s μ H locs) (hsz : ls.size = nL) (ho : (o, j) ∈ zK) (hS : μ o = S) (he : ∀ S, zcell G o j S = .inl (G.2.1 2, n, .inr (.inl (S.2.1 j)))) (ho' : (o', j') ∈ zK) (hS' : μ o' = S1) (he' : ∀ S, zcell G o' j' S = .inl (G.2.1 2, n', .inr (.inl (S.2.1 j'))))
    (hl : Cond.methodLink own index arraycopyName ∈ wsL_law) (hd : 1 ≤ d) (h1 : ¬ sp < 0) (h2 : ¬ dp < 0) (h3 : ¬ k < 0) (h4 : sp.toNatClampNeg + k.toNatClampNeg ≤ n) (h5 : dp.toNatClampNeg + k.toNatClampNeg ≤ n') (hrm : (rest.map fun v => v.category).sum ≤ 8) (hμ : zset μ o' (zLr S1 j' (va_cpy (S.2.1 j) (S1.2.1 j') sp.toNatClampNeg dp.toNatClampNeg k.toNatClampNeg)) = μ') (hdg : decode cc pc = .ok (.invokestatic index, 3))
    (kk : ∀ (H1 : Heap) (locs1 : List Loc), zIW G s μ' H1 locs1 → W p l e R s m args below meth c H1 locs1 0 0 Q (F0 m (pc + 3) ls rest)) : W p l e R s m args below meth c H locs 0 0 Q (F0 m pc ls (.int k :: .int dp :: .ref (G.2.2.1 o' j') :: .int sp :: .ref (G.2.2.1 o j) :: rest)) := by
  obtain ⟨hx, hb, hml, hown, hts, hK, hR⟩ := cx
  obtain ⟨q0, hq⟩ := zK_at ho
  obtain ⟨q1, hq1⟩ := zK_at ho'
  have e := zw_at (G := G) (μ := μ) hq
  rw [hS, he] at e
  have e1 := zw_at (G := G) (μ := μ) hq1
  rw [hS', he'] at e1
  have hnf : nativeFrameWords "java/lang/System" "arraycopy" 5 ≤ 20 := by decide +kernel
  refine va_copyl hx hb (hml.trans hsz.symm) hown (hts _ hl) (hts (.native arraycopyName) (by decide +kernel)) (hts (.static arraycopyName) (by decide +kernel)) (hts (.initialized "java/lang/System") (by decide +kernel)) hK.1 hI.1 (zD hK.2.2.2.1) hI.2 q0 q1 2 2 e e1 rfl rfl rfl h1 h2 h3 h4 h5 (fun i _ => rfl) (by rw [hR]; exact hd) (by rw [hR]; show _ + (nativeFrameWords "java/lang/System" "arraycopy" 5 + 11) ≤ 40 * d; omega) hdg (fun H1 locs1 hP _ hS1 => ?_)
  have e2 := zw_set (G := G) (μ := μ) (S' := zLr S1 j' (va_cpy (S.2.1 j) (S1.2.1 j') sp.toNatClampNeg dp.toNatClampNeg k.toNatClampNeg)) hq1 (by rw [he', zLr_s]) (fun j'' hj => by rw [hS']; exact zcell_Lr hj)
  rw [e2, hμ] at hP
  exact kk H1 locs1 ⟨hP, hS1⟩
end ZR
end
section
/-! CALLS: by a contract zMI, zML, zMV of the callee; the ends of a method; a contract out of a walk -/
theorem zblind {G : zG} {μ : zM} {av : List Value} : FrameBlind (va_Pc av (zPre G μ)) := fun a U g mk q => ⟨q.1, q.2.1.calling, q.2.2⟩
section ZC
variable {p : Program} {l : Launch} {e : Env} {R : Room} {s : State} {m : MethodId} {args : Array Value} {below : List Frame} {meth : Method} {c : Code} {H : Heap} {locs : List Loc} {Q : State → Prop} {cc : ByteArray} {pc : Nat} {ls : Array Slot} {rest st : List Value} {own : String} {nL d : Nat} {G : zG} {μ μ' : zM} {y : MethodName} {C : String} {bytes : ByteArray} {maxL n index d' o : Nat} {ret : Option FieldType} {As av : List Value}
theorem zcb (cx : zCX p R s m args c own cc nL d G) (hm : zMth y C bytes maxL ret n) (hl : Cond.methodLink own index y ∈ wsL_law) (hd : d' < d) : CallB R s args own index y bytes maxL ret (zws y bytes maxL ret) (zrm d') 0 0 n := by
  obtain ⟨hx, hb, hml, hown, hts, hK, hR⟩ := cx
  obtain ⟨⟨h1, h2, h3, h4⟩, h5, h6, h7⟩ := hm
  refine callB_of n hts (zgoodIn (fun w hw => ?_)) rfl rfl rfl (by rw [h1]; exact hts _ h6) (hts _ hl) ⟨h2, h3, h4⟩ ?_
  · rcases List.mem_cons.mp hw with h | h
    · rw [h]; exact h7
    · exact h
  · rw [hR]
    refine ⟨hd, ?_⟩
    show 8 + (maxL + 11) + 40 * d' ≤ 40 * d
    omega
theorem zcn {host : String} (cx : zCX p R s m args c own cc nL d G) (hm : zMth y C bytes maxL ret n) (hl : va_Nw (.methodLinkNest own index y host) s) (hd : d' < d) : va_CN R s args own index y host bytes maxL ret (zws y bytes maxL ret) (zrm d') 0 0 n := by
  obtain ⟨hx, hb, hml, hown, hts, hK, hR⟩ := cx
  obtain ⟨⟨h1, h2, h3, h4⟩, h5, h6, h7⟩ := hm
  refine va_cnB n hts (zgoodIn (fun w hw => ?_)) rfl rfl rfl hl (by rw [h1]; exact hts _ h6) ⟨h2, h3, h4⟩ ?_
  · rcases List.mem_cons.mp hw with h | h
    · rw [h]; exact h7
    · exact h
  · rw [hR]
    refine ⟨hd, ?_⟩
    show 8 + (maxL + 11) + 40 * d' ≤ 40 * d
    omega
theorem zpreS (cx : zCX p R s m args c own cc nL d G) (hI : zIW G s μ H locs) : PreS s H (va_Pc As (zPre G μ)) As := by
  refine ⟨zblind, fun U hU hW => ⟨rfl, ?_, ?_⟩⟩
  · exact cx.2.2.2.2.2.1.into hI.2 hU hW
  · rw [hU]; exact hI.1
theorem zpreV (cx : zCX p R s m args c own cc nL d G) (hI : zIW G s μ H locs) {T : u_T} {N : Nat} (ho : (o, 0) ∈ zK) (hc : vwCl[zc o]? = some (C, T, N)) : PreV s H C (G.2.2.1 o 0) (va_Pc (.ref (G.2.2.1 o 0) :: As) (zPre G μ)) As := by
  refine ⟨zblind, ?_, fun U hU hW => ⟨rfl, ?_, ?_⟩⟩
  · obtain ⟨q0, hq⟩ := zK_at ho
    obtain ⟨fs, hfs⟩ := zcell_0 (G := G) (o := o) (S := μ o)
    have e := zw_at (G := G) (μ := μ) hq
    rw [hfs] at e
    exact va_recv cx.2.2.2.2.2.1.1 hI.1 hc e
  · exact cx.2.2.2.2.2.1.into hI.2 hU hW
  · rw [hU]; exact hI.1
theorem zcVi {r : Int32} {T : u_T} {N : Nat} (cx : zCX p R s m args c own cc nL d G) (hI : zIW G s μ H locs) (hM : zMI l G y bytes maxL ret d' (.ref (G.2.2.1 o 0) :: As) μ r μ') (hm : zMth y C bytes maxL ret n) (hi : Cond.instanceMethod y ∈ wsL_law ∧ Cond.selects C y y ∈ wsL_law) (hl : Cond.methodLink own index y ∈ wsL_law) (hd : d' < d) (ho : (o, 0) ∈ zK) (hc : vwCl[zc o]? = some (C, T, N)) (hn : As.length = n) (hsz : ls.size = nL) (hst : st = As.reverse ++ .ref (G.2.2.1 o 0) :: rest) (hcat : (rest.map fun v => v.category).sum ≤ 8) (hdg : decode cc pc = .ok (.invokevirtual index, 3))
    (kk : ∀ (H1 : Heap) (locs1 : List Loc), zIW G s μ' H1 locs1 → W p l e R s m args below meth c H1 locs1 0 0 Q (F0 m (pc + 3) ls (.int r :: rest))) : W p l e R s m args below meth c H locs 0 0 Q (F0 m pc ls st) := by
  have hb := zcb cx hm hl hd
  have hts := cx.2.2.2.2.1
  subst hst
  refine va_calli (va_runV (As := As) (rest := rest) ⟨cx.1, cx.2.1, cx.2.2.1, cx.2.2.2.1, hts⟩ hM ⟨hb, hts _ hi.1, hts _ hi.2⟩ (zpreV cx hI ho hc) rfl hn hsz rfl (lv_room hcat) hdg ⟨Nat.zero_le _, Nat.zero_le _⟩) hI.2 (fun q _ h => h) (fun q h => h) (fun r1 u t H1 locs1 ht hvm hw hB hz1 hk1 hS => ?_)
  obtain ⟨e1, e2⟩ := hw
  subst e1; subst e2
  rw [ht] at hB
  exact kk H1 locs1 ⟨hB, hS⟩
theorem zcVl {r : Int64} {T : u_T} {N : Nat} (cx : zCX p R s m args c own cc nL d G) (hI : zIW G s μ H locs) (hM : zML l G y bytes maxL ret d' (.ref (G.2.2.1 o 0) :: As) μ r μ') (hm : zMth y C bytes maxL ret n) (hi : Cond.instanceMethod y ∈ wsL_law ∧ Cond.selects C y y ∈ wsL_law) (hl : Cond.methodLink own index y ∈ wsL_law) (hd : d' < d) (ho : (o, 0) ∈ zK) (hc : vwCl[zc o]? = some (C, T, N)) (hn : As.length = n) (hsz : ls.size = nL) (hst : st = As.reverse ++ .ref (G.2.2.1 o 0) :: rest) (hcat : (rest.map fun v => v.category).sum ≤ 8) (hdg : decode cc pc = .ok (.invokevirtual index, 3))
    (kk : ∀ (H1 : Heap) (locs1 : List Loc), zIW G s μ' H1 locs1 → W p l e R s m args below meth c H1 locs1 0 0 Q (F0 m (pc + 3) ls (.long r :: rest))) : W p l e R s m args below meth c H locs 0 0 Q (F0 m pc ls st) := by
  have hb := zcb cx hm hl hd
  have hts := cx.2.2.2.2.1
  subst hst
  refine va_calll (va_runV (As := As) (rest := rest) ⟨cx.1, cx.2.1, cx.2.2.1, cx.2.2.2.1, hts⟩ hM ⟨hb, hts _ hi.1, hts _ hi.2⟩ (zpreV cx hI ho hc) rfl hn hsz rfl (lv_room hcat) hdg ⟨Nat.zero_le _, Nat.zero_le _⟩) hI.2 (fun q _ h => h) (fun q h => h) (fun r1 u t H1 locs1 ht hvm hw hB hz1 hk1 hS => ?_)
  obtain ⟨e1, e2⟩ := hw
  subst e1; subst e2
  rw [ht] at hB
  exact kk H1 locs1 ⟨hB, hS⟩
theorem zcVv {T : u_T} {N : Nat} (cx : zCX p R s m args c own cc nL d G) (hI : zIW G s μ H locs) (hM : zMV l G y bytes maxL ret d' (.ref (G.2.2.1 o 0) :: As) μ μ') (hm : zMth y C bytes maxL ret n) (hi : Cond.instanceMethod y ∈ wsL_law ∧ Cond.selects C y y ∈ wsL_law) (hl : Cond.methodLink own index y ∈ wsL_law) (hd : d' < d) (ho : (o, 0) ∈ zK) (hc : vwCl[zc o]? = some (C, T, N)) (hn : As.length = n) (hsz : ls.size = nL) (hst : st = As.reverse ++ .ref (G.2.2.1 o 0) :: rest) (hcat : (rest.map fun v => v.category).sum ≤ 8) (hdg : decode cc pc = .ok (.invokevirtual index, 3))
    (kk : ∀ (H1 : Heap) (locs1 : List Loc), zIW G s μ' H1 locs1 → W p l e R s m args below meth c H1 locs1 0 0 Q (F0 m (pc + 3) ls rest)) : W p l e R s m args below meth c H locs 0 0 Q (F0 m pc ls st) := by
  have hb := zcb cx hm hl hd
  have hts := cx.2.2.2.2.1
  subst hst
  refine va_callv (va_runV (As := As) (rest := rest) ⟨cx.1, cx.2.1, cx.2.2.1, cx.2.2.2.1, hts⟩ hM ⟨hb, hts _ hi.1, hts _ hi.2⟩ (zpreV cx hI ho hc) rfl hn hsz rfl (lv_room hcat) hdg ⟨Nat.zero_le _, Nat.zero_le _⟩) hI.2 (fun q _ h => h) (fun q h => h) (fun u t H1 locs1 ht hvm hw hB hz1 hk1 hS => ?_)
  subst hw
  rw [ht] at hB
  exact kk H1 locs1 ⟨hB, hS⟩
theorem zcSi {r : Int32} (cx : zCX p R s m args c own cc nL d G) (hI : zIW G s μ H locs) (hM : zMI l G y bytes maxL ret d' As μ r μ') (hm : zMth y C bytes maxL ret n) (hi : Cond.static y ∈ wsL_law) (hl : Cond.methodLink own index y ∈ wsL_law) (hd : d' < d) (hn : As.length = n) (hsz : ls.size = nL) (hst : st = As.reverse ++ rest) (hcat : (rest.map fun v => v.category).sum ≤ 8) (hdg : decode cc pc = .ok (.invokestatic index, 3))
    (kk : ∀ (H1 : Heap) (locs1 : List Loc), zIW G s μ' H1 locs1 → W p l e R s m args below meth c H1 locs1 0 0 Q (F0 m (pc + 3) ls (.int r :: rest))) : W p l e R s m args below meth c H locs 0 0 Q (F0 m pc ls st) := by
  have hb := zcb cx hm hl hd
  have hts := cx.2.2.2.2.1
  subst hst
  refine va_calli (va_runS (As := As) (rest := rest) ⟨cx.1, cx.2.1, cx.2.2.1, cx.2.2.2.1, hts⟩ hM ⟨hb, hts _ hi⟩ (zpreS cx hI) rfl hn hsz rfl (lv_room hcat) hdg ⟨Nat.zero_le _, Nat.zero_le _⟩) hI.2 (fun q _ h => h) (fun q h => h) (fun r1 u t H1 locs1 ht hvm hw hB hz1 hk1 hS => ?_)
  obtain ⟨e1, e2⟩ := hw
  subst e1; subst e2
  rw [ht] at hB
  exact kk H1 locs1 ⟨hB, hS⟩
theorem zcSl {r : Int64} (cx : zCX p R s m args c own cc nL d G) (hI : zIW G s μ H locs) (hM : zML l G y bytes maxL ret d' As μ r μ') (hm : zMth y C bytes maxL ret n) (hi : Cond.static y ∈ wsL_law) (hl : Cond.methodLink own index y ∈ wsL_law) (hd : d' < d) (hn : As.length = n) (hsz : ls.size = nL) (hst : st = As.reverse ++ rest) (hcat : (rest.map fun v => v.category).sum ≤ 8) (hdg : decode cc pc = .ok (.invokestatic index, 3))
    (kk : ∀ (H1 : Heap) (locs1 : List Loc), zIW G s μ' H1 locs1 → W p l e R s m args below meth c H1 locs1 0 0 Q (F0 m (pc + 3) ls (.long r :: rest))) : W p l e R s m args below meth c H locs 0 0 Q (F0 m pc ls st) := by
  have hb := zcb cx hm hl hd
  have hts := cx.2.2.2.2.1
  subst hst
  refine va_calll (va_runS (As := As) (rest := rest) ⟨cx.1, cx.2.1, cx.2.2.1, cx.2.2.2.1, hts⟩ hM ⟨hb, hts _ hi⟩ (zpreS cx hI) rfl hn hsz rfl (lv_room hcat) hdg ⟨Nat.zero_le _, Nat.zero_le _⟩) hI.2 (fun q _ h => h) (fun q h => h) (fun r1 u t H1 locs1 ht hvm hw hB hz1 hk1 hS => ?_)
  obtain ⟨e1, e2⟩ := hw
  subst e1; subst e2
  rw [ht] at hB
  exact kk H1 locs1 ⟨hB, hS⟩
theorem zcSv (cx : zCX p R s m args c own cc nL d G) (hI : zIW G s μ H locs) (hM : zMV l G y bytes maxL ret d' As μ μ') (hm : zMth y C bytes maxL ret n) (hi : Cond.static y ∈ wsL_law) (hl : Cond.methodLink own index y ∈ wsL_law) (hd : d' < d) (hn : As.length = n) (hsz : ls.size = nL) (hst : st = As.reverse ++ rest) (hcat : (rest.map fun v => v.category).sum ≤ 8) (hdg : decode cc pc = .ok (.invokestatic index, 3))
    (kk : ∀ (H1 : Heap) (locs1 : List Loc), zIW G s μ' H1 locs1 → W p l e R s m args below meth c H1 locs1 0 0 Q (F0 m (pc + 3) ls rest)) : W p l e R s m args below meth c H locs 0 0 Q (F0 m pc ls st) := by
  have hb := zcb cx hm hl hd
  have hts := cx.2.2.2.2.1
  subst hst
  refine va_callv (va_runS (As := As) (rest := rest) ⟨cx.1, cx.2.1, cx.2.2.1, cx.2.2.2.1, hts⟩ hM ⟨hb, hts _ hi⟩ (zpreS cx hI) rfl hn hsz rfl (lv_room hcat) hdg ⟨Nat.zero_le _, Nat.zero_le _⟩) hI.2 (fun q _ h => h) (fun q h => h) (fun u t H1 locs1 ht hvm hw hB hz1 hk1 hS => ?_)
  subst hw
  rw [ht] at hB
  exact kk H1 locs1 ⟨hB, hS⟩
/-- a nest mate's private static method -/
theorem zcNi {r : Int32} {host : String} (cx : zCX p R s m args c own cc nL d G) (hI : zIW G s μ H locs) (hM : zMI l G y bytes maxL ret d' As μ r μ') (hm : zMth y C bytes maxL ret n) (hi : Cond.static y ∈ wsL_law) (hl : va_Nw (.methodLinkNest own index y host) s) (hd : d' < d) (hn : As.length = n) (hsz : ls.size = nL) (hst : st = As.reverse ++ rest) (hcat : (rest.map fun v => v.category).sum ≤ 8) (hdg : decode cc pc = .ok (.invokestatic index, 3))
    (kk : ∀ (H1 : Heap) (locs1 : List Loc), zIW G s μ' H1 locs1 → W p l e R s m args below meth c H1 locs1 0 0 Q (F0 m (pc + 3) ls (.int r :: rest))) : W p l e R s m args below meth c H locs 0 0 Q (F0 m pc ls st) := by
  have hb := zcn cx hm hl hd
  have hts := cx.2.2.2.2.1
  subst hst
  refine va_calli (va_runSN (As := As) (rest := rest) ⟨cx.1, cx.2.1, cx.2.2.1, cx.2.2.2.1, hts⟩ hM ⟨hb, hts _ hi, trivial⟩ (zpreS cx hI) rfl hn hsz rfl (lv_room hcat) hdg ⟨Nat.zero_le _, Nat.zero_le _⟩) hI.2 (fun q _ h => h) (fun q h => h) (fun r1 u t H1 locs1 ht hvm hw hB hz1 hk1 hS => ?_)
  obtain ⟨e1, e2⟩ := hw
  subst e1; subst e2
  rw [ht] at hB
  exact kk H1 locs1 ⟨hB, hS⟩
/-- Math.max -/
theorem zcmax {x z : Int32} (cx : zCX p R s m args c own cc nL d G) (hsz : ls.size = nL) (hl : Cond.methodLink own index Lib.Math.max.name ∈ wsL_law) (hd : 1 ≤ d) (hcat : (rest.map fun v => v.category).sum ≤ 8) (hdg : decode cc pc = .ok (.invokestatic index, 3))
    (kk : W p l e R s m args below meth c H locs 0 0 Q (F0 m (pc + 3) ls (.int (if x < z then z else x) :: rest))) : W p l e R s m args below meth c H locs 0 0 Q (F0 m pc ls (.int z :: .int x :: rest)) := by
  obtain ⟨hx, hb, hml, hown, hts, hK, hR⟩ := cx
  exact va_mmax hx hb (hml.trans hsz.symm) hown (hts _ hl) (hts _ (by decide +kernel)) (hts _ (by decide +kernel)) (hts _ (by decide +kernel)) (by rw [hR]; exact hd) (by rw [hR]; show _ ≤ 40 * d; omega) (Nat.zero_le _) (Nat.zero_le _) hdg kk
/-- the end of a method that answers an int -/
def zRi (p : Program) (l : Launch) (e : Env) (R : Room) (s : State) (m : MethodId) (args : Array Value) (below : List Frame) (meth : Method) (c : Code) (cc : ByteArray) (G : zG) (ty : FieldType) (Q : State → Prop) (r : Int32) (μ : zM) : Prop := ∀ (pc : Nat) (ls : Array Slot) (H : Heap) (locs : List Loc), decode cc pc = .ok (.ireturn, 1) → narrow ty (.int r) = .int r → zIW G s μ H locs → W p l e R s m args below meth c H locs 0 0 Q (F0 m pc ls [.int r])
def zRl (p : Program) (l : Launch) (e : Env) (R : Room) (s : State) (m : MethodId) (args : Array Value) (below : List Frame) (meth : Method) (c : Code) (cc : ByteArray) (G : zG) (Q : State → Prop) (r : Int64) (μ : zM) : Prop := ∀ (pc : Nat) (ls : Array Slot) (H : Heap) (locs : List Loc), decode cc pc = .ok (.lreturn, 1) → zIW G s μ H locs → W p l e R s m args below meth c H locs 0 0 Q (F0 m pc ls [.long r])
def zRv (p : Program) (l : Launch) (e : Env) (R : Room) (s : State) (m : MethodId) (args : Array Value) (below : List Frame) (meth : Method) (c : Code) (cc : ByteArray) (G : zG) (Q : State → Prop) (μ : zM) : Prop := ∀ (pc : Nat) (ls : Array Slot) (H : Heap) (locs : List Loc), decode cc pc = .ok (.return_, 1) → zIW G s μ H locs → W p l e R s m args below meth c H locs 0 0 Q (F0 m pc ls [])
end ZC
/-- a contract out of a walk of the method's body -/
theorem zMI.of {l : Launch} {G : zG} {y : MethodName} {cc : ByteArray} {nL d : Nat} {ty : FieldType} {av : List Value} {μ μ' : zM} {r : Int32} (hy : plainName y.cls = true) (hla : (lg_sl av).length ≤ nL)
    (body : ∀ p e s m args below meth c (Q : State → Prop) (ls : Array Slot), zCX p (zrm d) s m args c y.cls cc nL d G → zIW G s μ s.heap [] → lv_has ls nL (lv_args 0 av) → zRi p l e (zrm d) s m args below meth c cc G ty Q r μ' → W p l e (zrm d) s m args below meth c s.heap [] 0 0 Q (F0 m 0 ls [])) : zMI l G y cc nL (some ty) d av μ r μ' := by
  refine Met.ofW (cc := cc) (maxL := nL) (ret := some ty) hy rfl ?_
  intro p e s m args below meth c s₁ B hml hv
  obtain ⟨rfl, hK, hP⟩ := hv
  have hts : ∀ w ∈ zws y cc nL (some ty), w.before av.toArray s = true := atoms_spec (ws := zws y cc nL (some ty)) B.pre
  have hlocks := B.notSynchronized
  have hl := lv_entry av (n := nL) hla
  have hent : entryFrame m av.toArray nL = F0 m 0 ((lg_sl av ++ List.replicate (nL - (lg_sl av).length) Slot.unset).toArray) [] := by
    rw [lg_entry_eq]
  rw [hent]
  refine body p e s m av.toArray below meth c _ _ ⟨B.exec, B.bytes, hml, findClass_of_methodNamed B.named, fun w hw => hts w (List.mem_cons_of_mem _ hw), hK, rfl⟩ ⟨hP, va_S.rf⟩ hl ?_
  intro pc ls H locs hdg hn hI
  exact W.zret B.exec B.bytes B.returns hn (fun t ht hW => ⟨⟨r, μ', rfl, ⟨rfl, rfl⟩, by show va_P G.1 vwCl (zw G μ') t.heap; rw [ht]; exact hI.1⟩, hI.2.F ht⟩) hI.2.2.2 hdg
theorem zML.of {l : Launch} {G : zG} {y : MethodName} {cc : ByteArray} {nL d : Nat} {av : List Value} {μ μ' : zM} {r : Int64} (hy : plainName y.cls = true) (hla : (lg_sl av).length ≤ nL)
    (body : ∀ p e s m args below meth c (Q : State → Prop) (ls : Array Slot), zCX p (zrm d) s m args c y.cls cc nL d G → zIW G s μ s.heap [] → lv_has ls nL (lv_args 0 av) → zRl p l e (zrm d) s m args below meth c cc G Q r μ' → W p l e (zrm d) s m args below meth c s.heap [] 0 0 Q (F0 m 0 ls [])) : zML l G y cc nL (some .long) d av μ r μ' := by
  refine Met.ofW (cc := cc) (maxL := nL) (ret := some .long) hy rfl ?_
  intro p e s m args below meth c s₁ B hml hv
  obtain ⟨rfl, hK, hP⟩ := hv
  have hts : ∀ w ∈ zws y cc nL (some .long), w.before av.toArray s = true := atoms_spec (ws := zws y cc nL (some .long)) B.pre
  have hlocks := B.notSynchronized
  have hl := lv_entry av (n := nL) hla
  have hent : entryFrame m av.toArray nL = F0 m 0 ((lg_sl av ++ List.replicate (nL - (lg_sl av).length) Slot.unset).toArray) [] := by
    rw [lg_entry_eq]
  rw [hent]
  refine body p e s m av.toArray below meth c _ _ ⟨B.exec, B.bytes, hml, findClass_of_methodNamed B.named, fun w hw => hts w (List.mem_cons_of_mem _ hw), hK, rfl⟩ ⟨hP, va_S.rf⟩ hl ?_
  intro pc ls H locs hdg hI
  exact W.lret B.exec B.bytes B.returns (fun t ht hW => ⟨⟨r, μ', rfl, ⟨rfl, rfl⟩, by show va_P G.1 vwCl (zw G μ') t.heap; rw [ht]; exact hI.1⟩, hI.2.F ht⟩) hI.2.2.2 hdg
theorem zMV.of {l : Launch} {G : zG} {y : MethodName} {cc : ByteArray} {nL d : Nat} {av : List Value} {μ μ' : zM} (hy : plainName y.cls = true) (hla : (lg_sl av).length ≤ nL)
    (body : ∀ p e s m args below meth c (Q : State → Prop) (ls : Array Slot), zCX p (zrm d) s m args c y.cls cc nL d G → zIW G s μ s.heap [] → lv_has ls nL (lv_args 0 av) → zRv p l e (zrm d) s m args below meth c cc G Q μ' → W p l e (zrm d) s m args below meth c s.heap [] 0 0 Q (F0 m 0 ls [])) : zMV l G y cc nL none d av μ μ' := by
  refine Met.ofW (cc := cc) (maxL := nL) (ret := none) hy rfl ?_
  intro p e s m args below meth c s₁ B hml hv
  obtain ⟨rfl, hK, hP⟩ := hv
  have hts : ∀ w ∈ zws y cc nL none, w.before av.toArray s = true := atoms_spec (ws := zws y cc nL none) B.pre
  have hlocks := B.notSynchronized
  have hl := lv_entry av (n := nL) hla
  have hent : entryFrame m av.toArray nL = F0 m 0 ((lg_sl av ++ List.replicate (nL - (lg_sl av).length) Slot.unset).toArray) [] := by
    rw [lg_entry_eq]
  rw [hent]
  refine body p e s m av.toArray below meth c _ _ ⟨B.exec, B.bytes, hml, findClass_of_methodNamed B.named, fun w hw => hts w (List.mem_cons_of_mem _ hw), hK, rfl⟩ ⟨hP, va_S.rf⟩ hl ?_
  intro pc ls H locs hdg hI
  exact W.vret B.exec B.bytes B.returns (fun t ht hW => ⟨⟨μ', rfl, rfl, by show va_P G.1 vwCl (zw G μ') t.heap; rw [ht]; exact hI.1⟩, hI.2.F ht⟩) hI.2.2.2 hdg
end
section
/-! THE CLASSES' CELLS: where they lie (k.. ), what they hold (z.. ), their fields read (g.. ) and written (p.. ) -/
theorem zc_lt {o : Nat} (h : zc o ≠ 8) : o < 29 := by
  refine Nat.not_le.mp (fun q => h ?_)
  unfold zc
  rw [if_neg (by omega), if_neg (by omega), if_neg (by omega), if_neg (by omega), if_neg (by omega), if_neg (by omega), if_neg (by omega), if_neg (by omega)]
theorem zss {μ : zM} {o : Nat} {S S' S1 : zOb} (h : S1 = S') : zset (zset μ o S) o S' = zset μ o S1 := by rw [h]; exact zset_ss μ o S S'
theorem it_p {α : Type} {c : Prop} [Decidable c] {A B o : α} (h : (if c then A else B) = o) (hc : c) : A = o := by rw [if_pos hc] at h; exact h
theorem it_n {α : Type} {c : Prop} [Decidable c] {A B o : α} (h : (if c then A else B) = o) (hc : ¬ c) : B = o := by rw [if_neg hc] at h; exact h
theorem zk0 {o : Nat} (hc : zc o = 0) : ∀ j ∈ [0, 1], (o, j) ∈ zK := by
  have h : ∀ o, o < 29 → zc o = 0 → ∀ j ∈ [0, 1], (o, j) ∈ zK := by decide +kernel
  exact h o (zc_lt (by rw [hc]; decide)) hc
theorem zv0 {o : Nat} (hc : zc o = 0) : vwCl[zc o]? = some (RX0, TX0, 2) := by rw [hc]; rfl
theorem k0_0 {o : Nat} (hc : zc o = 0) : (o, 0) ∈ zK := zk0 hc 0 (by decide)
theorem k0_1 {o : Nat} (hc : zc o = 0) : (o, 1) ∈ zK := zk0 hc 1 (by decide)
theorem z0_0 {G : zG} {o : Nat} (hc : zc o = 0) : ∀ S : zOb, zcell G o 0 S = .inr (0, [.ref (G.2.2.1 o 1), .int (S.1 0 1)]) := by
  intro S
  unfold zcell
  rw [hc]
  rfl
theorem z0_1 {G : zG} {o : Nat} (hc : zc o = 0) : ∀ S : zOb, zcell G o 1 S = .inl (G.2.1 1, zlen o, .inl (S.1 1)) := by
  intro S
  unfold zcell
  rw [hc]
  rfl
theorem zk1 {o : Nat} (hc : zc o = 1) : ∀ j ∈ [0], (o, j) ∈ zK := by
  have h : ∀ o, o < 29 → zc o = 1 → ∀ j ∈ [0], (o, j) ∈ zK := by decide +kernel
  exact h o (zc_lt (by rw [hc]; decide)) hc
theorem zv1 {o : Nat} (hc : zc o = 1) : vwCl[zc o]? = some (RX1, TX1, 3) := by rw [hc]; rfl
theorem k1_0 {o : Nat} (hc : zc o = 1) : (o, 0) ∈ zK := zk1 hc 0 (by decide)
theorem z1_0 {G : zG} {o : Nat} (hc : zc o = 1) : ∀ S : zOb, zcell G o 0 S = .inr (1, [.ref (G.2.2.1 19 0), .ref (G.2.2.1 3 0), .int (S.1 0 2)]) := by
  intro S
  unfold zcell
  rw [hc]
  rfl
theorem zk2 {o : Nat} (hc : zc o = 2) : ∀ j ∈ [0, 1], (o, j) ∈ zK := by
  have h : ∀ o, o < 29 → zc o = 2 → ∀ j ∈ [0, 1], (o, j) ∈ zK := by decide +kernel
  exact h o (zc_lt (by rw [hc]; decide)) hc
theorem zv2 {o : Nat} (hc : zc o = 2) : vwCl[zc o]? = some (RX2, TX2, 2) := by rw [hc]; rfl
theorem k2_0 {o : Nat} (hc : zc o = 2) : (o, 0) ∈ zK := zk2 hc 0 (by decide)
theorem k2_1 {o : Nat} (hc : zc o = 2) : (o, 1) ∈ zK := zk2 hc 1 (by decide)
theorem z2_0 {G : zG} {o : Nat} (hc : zc o = 2) : ∀ S : zOb, zcell G o 0 S = .inr (2, [.ref (G.2.2.1 o 1), .int (S.1 0 1)]) := by
  intro S
  unfold zcell
  rw [hc]
  rfl
theorem z2_1 {G : zG} {o : Nat} (hc : zc o = 2) : ∀ S : zOb, zcell G o 1 S = .inl (G.2.1 3, 6, .inr (.inr (.inr (.inr (fun i => some (G.2.2.1 (S.2.2 1 i) 0)))))) := by
  intro S
  unfold zcell
  rw [hc]
  rfl
theorem zk3 {o : Nat} (hc : zc o = 3) : ∀ j ∈ [0, 1, 2, 3, 4, 5, 7, 8, 9, 10, 11, 12, 13, 14, 15, 16, 17], (o, j) ∈ zK := by
  have h : ∀ o, o < 29 → zc o = 3 → ∀ j ∈ [0, 1, 2, 3, 4, 5, 7, 8, 9, 10, 11, 12, 13, 14, 15, 16, 17], (o, j) ∈ zK := by decide +kernel
  exact h o (zc_lt (by rw [hc]; decide)) hc
theorem zv3 {o : Nat} (hc : zc o = 3) : vwCl[zc o]? = some (RX3, TX3, 9) := by rw [hc]; rfl
theorem k3_0 {o : Nat} (hc : zc o = 3) : (o, 0) ∈ zK := zk3 hc 0 (by decide)
theorem k3_1 {o : Nat} (hc : zc o = 3) : (o, 1) ∈ zK := zk3 hc 1 (by decide)
theorem k3_2 {o : Nat} (hc : zc o = 3) : (o, 2) ∈ zK := zk3 hc 2 (by decide)
theorem k3_3 {o : Nat} (hc : zc o = 3) : (o, 3) ∈ zK := zk3 hc 3 (by decide)
theorem k3_4 {o : Nat} (hc : zc o = 3) : (o, 4) ∈ zK := zk3 hc 4 (by decide)
theorem k3_5 {o : Nat} (hc : zc o = 3) : (o, 5) ∈ zK := zk3 hc 5 (by decide)
theorem k3_7 {o : Nat} (hc : zc o = 3) : (o, 7) ∈ zK := zk3 hc 7 (by decide)
theorem k3_8 {o : Nat} (hc : zc o = 3) : (o, 8) ∈ zK := zk3 hc 8 (by decide)
theorem k3_9 {o : Nat} (hc : zc o = 3) : (o, 9) ∈ zK := zk3 hc 9 (by decide)
theorem k3_10 {o : Nat} (hc : zc o = 3) : (o, 10) ∈ zK := zk3 hc 10 (by decide)
theorem k3_11 {o : Nat} (hc : zc o = 3) : (o, 11) ∈ zK := zk3 hc 11 (by decide)
theorem k3_12 {o : Nat} (hc : zc o = 3) : (o, 12) ∈ zK := zk3 hc 12 (by decide)
theorem k3_13 {o : Nat} (hc : zc o = 3) : (o, 13) ∈ zK := zk3 hc 13 (by decide)
theorem k3_14 {o : Nat} (hc : zc o = 3) : (o, 14) ∈ zK := zk3 hc 14 (by decide)
theorem k3_15 {o : Nat} (hc : zc o = 3) : (o, 15) ∈ zK := zk3 hc 15 (by decide)
theorem k3_16 {o : Nat} (hc : zc o = 3) : (o, 16) ∈ zK := zk3 hc 16 (by decide)
theorem k3_17 {o : Nat} (hc : zc o = 3) : (o, 17) ∈ zK := zk3 hc 17 (by decide)
theorem z3_0 {G : zG} {o : Nat} (hc : zc o = 3) : ∀ S : zOb, zcell G o 0 S = .inr (3, [.ref (G.2.2.1 o 1), .ref (G.2.2.1 o 2), .ref (G.2.2.1 o 3), .ref (G.2.2.1 o 4), .ref (G.2.2.1 o 5), .int (S.1 0 5), .ref (G.2.2.1 o 7), .ref (G.2.2.1 o 8), .ref (G.2.2.1 o 9)]) := by
  intro S
  unfold zcell
  rw [hc]
  rfl
theorem z3_1 {G : zG} {o : Nat} (hc : zc o = 3) : ∀ S : zOb, zcell G o 1 S = .inl (G.2.1 0, 10, .inl (S.1 1)) := by
  intro S
  unfold zcell
  rw [hc]
  rfl
theorem z3_2 {G : zG} {o : Nat} (hc : zc o = 3) : ∀ S : zOb, zcell G o 2 S = .inl (G.2.1 0, 8, .inl (S.1 2)) := by
  intro S
  unfold zcell
  rw [hc]
  rfl
theorem z3_3 {G : zG} {o : Nat} (hc : zc o = 3) : ∀ S : zOb, zcell G o 3 S = .inl (G.2.1 0, 8, .inl (S.1 3)) := by
  intro S
  unfold zcell
  rw [hc]
  rfl
theorem z3_4 {G : zG} {o : Nat} (hc : zc o = 3) : ∀ S : zOb, zcell G o 4 S = .inl (G.2.1 0, 8, .inl (S.1 4)) := by
  intro S
  unfold zcell
  rw [hc]
  rfl
theorem z3_5 {G : zG} {o : Nat} (hc : zc o = 3) : ∀ S : zOb, zcell G o 5 S = .inl (G.2.1 5, 8, .inr (.inr (.inr (.inr (fun i => some (G.2.2.1 o (10 + i))))))) := by
  intro S
  unfold zcell
  rw [hc]
  rfl
theorem z3_7 {G : zG} {o : Nat} (hc : zc o = 3) : ∀ S : zOb, zcell G o 7 S = .inl (G.2.1 0, 7, .inl (S.1 7)) := by
  intro S
  unfold zcell
  rw [hc]
  rfl
theorem z3_8 {G : zG} {o : Nat} (hc : zc o = 3) : ∀ S : zOb, zcell G o 8 S = .inl (G.2.1 0, 7, .inl (S.1 8)) := by
  intro S
  unfold zcell
  rw [hc]
  rfl
theorem z3_9 {G : zG} {o : Nat} (hc : zc o = 3) : ∀ S : zOb, zcell G o 9 S = .inl (G.2.1 0, 7, .inl (S.1 9)) := by
  intro S
  unfold zcell
  rw [hc]
  rfl
theorem z3_10 {G : zG} {o : Nat} (hc : zc o = 3) : ∀ S : zOb, zcell G o 10 S = .inl (G.2.1 0, 7, .inl (S.1 10)) := by
  intro S
  unfold zcell
  rw [hc]
  rfl
theorem z3_11 {G : zG} {o : Nat} (hc : zc o = 3) : ∀ S : zOb, zcell G o 11 S = .inl (G.2.1 0, 7, .inl (S.1 11)) := by
  intro S
  unfold zcell
  rw [hc]
  rfl
theorem z3_12 {G : zG} {o : Nat} (hc : zc o = 3) : ∀ S : zOb, zcell G o 12 S = .inl (G.2.1 0, 7, .inl (S.1 12)) := by
  intro S
  unfold zcell
  rw [hc]
  rfl
theorem z3_13 {G : zG} {o : Nat} (hc : zc o = 3) : ∀ S : zOb, zcell G o 13 S = .inl (G.2.1 0, 7, .inl (S.1 13)) := by
  intro S
  unfold zcell
  rw [hc]
  rfl
theorem z3_14 {G : zG} {o : Nat} (hc : zc o = 3) : ∀ S : zOb, zcell G o 14 S = .inl (G.2.1 0, 7, .inl (S.1 14)) := by
  intro S
  unfold zcell
  rw [hc]
  rfl
theorem z3_15 {G : zG} {o : Nat} (hc : zc o = 3) : ∀ S : zOb, zcell G o 15 S = .inl (G.2.1 0, 7, .inl (S.1 15)) := by
  intro S
  unfold zcell
  rw [hc]
  rfl
theorem z3_16 {G : zG} {o : Nat} (hc : zc o = 3) : ∀ S : zOb, zcell G o 16 S = .inl (G.2.1 0, 7, .inl (S.1 16)) := by
  intro S
  unfold zcell
  rw [hc]
  rfl
theorem z3_17 {G : zG} {o : Nat} (hc : zc o = 3) : ∀ S : zOb, zcell G o 17 S = .inl (G.2.1 0, 7, .inl (S.1 17)) := by
  intro S
  unfold zcell
  rw [hc]
  rfl
theorem zk4 {o : Nat} (hc : zc o = 4) : ∀ j ∈ [0, 2, 3, 4, 5, 6, 11], (o, j) ∈ zK := by
  have h : ∀ o, o < 29 → zc o = 4 → ∀ j ∈ [0, 2, 3, 4, 5, 6, 11], (o, j) ∈ zK := by decide +kernel
  exact h o (zc_lt (by rw [hc]; decide)) hc
theorem zv4 {o : Nat} (hc : zc o = 4) : vwCl[zc o]? = some (RX4, TX4, 13) := by rw [hc]; rfl
theorem k4_0 {o : Nat} (hc : zc o = 4) : (o, 0) ∈ zK := zk4 hc 0 (by decide)
theorem k4_2 {o : Nat} (hc : zc o = 4) : (o, 2) ∈ zK := zk4 hc 2 (by decide)
theorem k4_3 {o : Nat} (hc : zc o = 4) : (o, 3) ∈ zK := zk4 hc 3 (by decide)
theorem k4_4 {o : Nat} (hc : zc o = 4) : (o, 4) ∈ zK := zk4 hc 4 (by decide)
theorem k4_5 {o : Nat} (hc : zc o = 4) : (o, 5) ∈ zK := zk4 hc 5 (by decide)
theorem k4_6 {o : Nat} (hc : zc o = 4) : (o, 6) ∈ zK := zk4 hc 6 (by decide)
theorem k4_11 {o : Nat} (hc : zc o = 4) : (o, 11) ∈ zK := zk4 hc 11 (by decide)
theorem z4_0 {G : zG} {o : Nat} (hc : zc o = 4) : ∀ S : zOb, zcell G o 0 S = .inr (4, [.ref (G.2.2.1 22 0), .ref (G.2.2.1 o 2), .ref (G.2.2.1 o 3), .ref (G.2.2.1 o 4), .ref (G.2.2.1 o 5), .ref (G.2.2.1 o 6), .int (S.1 0 6), .int (S.1 0 7), .int (S.1 0 8), .int (S.1 0 9), .ref (G.2.2.1 o 11), .int (S.1 0 11), .int (S.1 0 12)]) := by
  intro S
  unfold zcell
  rw [hc]
  rfl
theorem z4_2 {G : zG} {o : Nat} (hc : zc o = 4) : ∀ S : zOb, zcell G o 2 S = .inl (G.2.1 0, 7, .inl (S.1 2)) := by
  intro S
  unfold zcell
  rw [hc]
  rfl
theorem z4_3 {G : zG} {o : Nat} (hc : zc o = 4) : ∀ S : zOb, zcell G o 3 S = .inl (G.2.1 0, 7, .inl (S.1 3)) := by
  intro S
  unfold zcell
  rw [hc]
  rfl
theorem z4_4 {G : zG} {o : Nat} (hc : zc o = 4) : ∀ S : zOb, zcell G o 4 S = .inl (G.2.1 0, 7, .inl (S.1 4)) := by
  intro S
  unfold zcell
  rw [hc]
  rfl
theorem z4_5 {G : zG} {o : Nat} (hc : zc o = 4) : ∀ S : zOb, zcell G o 5 S = .inl (G.2.1 0, 7, .inl (S.1 5)) := by
  intro S
  unfold zcell
  rw [hc]
  rfl
theorem z4_6 {G : zG} {o : Nat} (hc : zc o = 4) : ∀ S : zOb, zcell G o 6 S = .inl (G.2.1 0, 7, .inl (S.1 6)) := by
  intro S
  unfold zcell
  rw [hc]
  rfl
theorem z4_11 {G : zG} {o : Nat} (hc : zc o = 4) : ∀ S : zOb, zcell G o 11 S = .inl (G.2.1 0, 7, .inl (S.1 11)) := by
  intro S
  unfold zcell
  rw [hc]
  rfl
theorem zk5 {o : Nat} (hc : zc o = 5) : ∀ j ∈ [0, 1], (o, j) ∈ zK := by
  have h : ∀ o, o < 29 → zc o = 5 → ∀ j ∈ [0, 1], (o, j) ∈ zK := by decide +kernel
  exact h o (zc_lt (by rw [hc]; decide)) hc
theorem zv5 {o : Nat} (hc : zc o = 5) : vwCl[zc o]? = some (RX5, TX5, 3) := by rw [hc]; rfl
theorem k5_0 {o : Nat} (hc : zc o = 5) : (o, 0) ∈ zK := zk5 hc 0 (by decide)
theorem k5_1 {o : Nat} (hc : zc o = 5) : (o, 1) ∈ zK := zk5 hc 1 (by decide)
theorem z5_0 {G : zG} {o : Nat} (hc : zc o = 5) : ∀ S : zOb, zcell G o 0 S = .inr (5, [.ref (G.2.2.1 o 1), .int (S.1 0 1), .int (S.1 0 2)]) := by
  intro S
  unfold zcell
  rw [hc]
  rfl
theorem z5_1 {G : zG} {o : Nat} (hc : zc o = 5) : ∀ S : zOb, zcell G o 1 S = .inl (G.2.1 2, 24, .inr (.inl (S.2.1 1))) := by
  intro S
  unfold zcell
  rw [hc]
  rfl
theorem zk6 {o : Nat} (hc : zc o = 6) : ∀ j ∈ [0, 1, 2, 3], (o, j) ∈ zK := by
  have h : ∀ o, o < 29 → zc o = 6 → ∀ j ∈ [0, 1, 2, 3], (o, j) ∈ zK := by decide +kernel
  exact h o (zc_lt (by rw [hc]; decide)) hc
theorem zv6 {o : Nat} (hc : zc o = 6) : vwCl[zc o]? = some (RX6, TX6, 9) := by rw [hc]; rfl
theorem k6_0 {o : Nat} (hc : zc o = 6) : (o, 0) ∈ zK := zk6 hc 0 (by decide)
theorem k6_1 {o : Nat} (hc : zc o = 6) : (o, 1) ∈ zK := zk6 hc 1 (by decide)
theorem k6_2 {o : Nat} (hc : zc o = 6) : (o, 2) ∈ zK := zk6 hc 2 (by decide)
theorem k6_3 {o : Nat} (hc : zc o = 6) : (o, 3) ∈ zK := zk6 hc 3 (by decide)
theorem z6_0 {G : zG} {o : Nat} (hc : zc o = 6) : ∀ S : zOb, zcell G o 0 S = .inr (6, [.ref (G.2.2.1 o 1), .ref (G.2.2.1 o 2), .ref (G.2.2.1 o 3), .int (S.1 0 3), .int (S.1 0 4), .int (S.1 0 5), .int (S.1 0 6), .int (S.1 0 7), .int (S.1 0 8)]) := by
  intro S
  unfold zcell
  rw [hc]
  rfl
theorem z6_1 {G : zG} {o : Nat} (hc : zc o = 6) : ∀ S : zOb, zcell G o 1 S = .inl (G.2.1 0, 7, .inl (S.1 1)) := by
  intro S
  unfold zcell
  rw [hc]
  rfl
theorem z6_2 {G : zG} {o : Nat} (hc : zc o = 6) : ∀ S : zOb, zcell G o 2 S = .inl (G.2.1 0, 7, .inl (S.1 2)) := by
  intro S
  unfold zcell
  rw [hc]
  rfl
theorem z6_3 {G : zG} {o : Nat} (hc : zc o = 6) : ∀ S : zOb, zcell G o 3 S = .inl (G.2.1 0, 7, .inl (S.1 3)) := by
  intro S
  unfold zcell
  rw [hc]
  rfl
theorem zk7 {o : Nat} (hc : zc o = 7) : ∀ j ∈ [0, 11], (o, j) ∈ zK := by
  have h : ∀ o, o < 29 → zc o = 7 → ∀ j ∈ [0, 11], (o, j) ∈ zK := by decide +kernel
  exact h o (zc_lt (by rw [hc]; decide)) hc
theorem zv7 {o : Nat} (hc : zc o = 7) : vwCl[zc o]? = some (RX7, TX7, 11) := by rw [hc]; rfl
theorem k7_0 {o : Nat} (hc : zc o = 7) : (o, 0) ∈ zK := zk7 hc 0 (by decide)
theorem k7_11 {o : Nat} (hc : zc o = 7) : (o, 11) ∈ zK := zk7 hc 11 (by decide)
theorem z7_0 {G : zG} {o : Nat} (hc : zc o = 7) : ∀ S : zOb, zcell G o 0 S = .inr (7, [.ref (G.2.2.1 0 0), .ref (G.2.2.1 1 0), .ref (G.2.2.1 16 0), .ref (G.2.2.1 2 0), .ref (G.2.2.1 17 0), .int (S.1 0 5), .ref (G.2.2.1 20 0), .ref (G.2.2.1 18 0), .ref (G.2.2.1 21 0), .ref (G.2.2.1 23 0), .ref (G.2.2.1 o 11)]) := by
  intro S
  unfold zcell
  rw [hc]
  rfl
theorem z7_11 {G : zG} {o : Nat} (hc : zc o = 7) : ∀ S : zOb, zcell G o 11 S = .inl (G.2.1 4, 4, .inr (.inr (.inr (.inr (fun i => some (G.2.2.1 (24 + i) 0)))))) := by
  intro S
  unfold zcell
  rw [hc]
  rfl
theorem zk8 {o : Nat} (hc : o = 29) : ∀ j ∈ [0, 1, 2, 4, 5, 7, 9, 10, 11, 12, 13, 14, 15, 16, 17, 18, 19, 23, 25], (o, j) ∈ zK := by
  subst hc
  decide +kernel
theorem zv8 {o : Nat} (hc : o = 29) : vwCl[zc o]? = some (RX8, TX8, 27) := by rw [hc]; rfl
theorem k8_0 {o : Nat} (hc : o = 29) : (o, 0) ∈ zK := zk8 hc 0 (by decide)
theorem k8_1 {o : Nat} (hc : o = 29) : (o, 1) ∈ zK := zk8 hc 1 (by decide)
theorem k8_2 {o : Nat} (hc : o = 29) : (o, 2) ∈ zK := zk8 hc 2 (by decide)
theorem k8_4 {o : Nat} (hc : o = 29) : (o, 4) ∈ zK := zk8 hc 4 (by decide)
theorem k8_5 {o : Nat} (hc : o = 29) : (o, 5) ∈ zK := zk8 hc 5 (by decide)
theorem k8_7 {o : Nat} (hc : o = 29) : (o, 7) ∈ zK := zk8 hc 7 (by decide)
theorem k8_9 {o : Nat} (hc : o = 29) : (o, 9) ∈ zK := zk8 hc 9 (by decide)
theorem k8_10 {o : Nat} (hc : o = 29) : (o, 10) ∈ zK := zk8 hc 10 (by decide)
theorem k8_11 {o : Nat} (hc : o = 29) : (o, 11) ∈ zK := zk8 hc 11 (by decide)
theorem k8_12 {o : Nat} (hc : o = 29) : (o, 12) ∈ zK := zk8 hc 12 (by decide)
theorem k8_13 {o : Nat} (hc : o = 29) : (o, 13) ∈ zK := zk8 hc 13 (by decide)
theorem k8_14 {o : Nat} (hc : o = 29) : (o, 14) ∈ zK := zk8 hc 14 (by decide)
theorem k8_15 {o : Nat} (hc : o = 29) : (o, 15) ∈ zK := zk8 hc 15 (by decide)
theorem k8_16 {o : Nat} (hc : o = 29) : (o, 16) ∈ zK := zk8 hc 16 (by decide)
theorem k8_17 {o : Nat} (hc : o = 29) : (o, 17) ∈ zK := zk8 hc 17 (by decide)
theorem k8_18 {o : Nat} (hc : o = 29) : (o, 18) ∈ zK := zk8 hc 18 (by decide)
theorem k8_19 {o : Nat} (hc : o = 29) : (o, 19) ∈ zK := zk8 hc 19 (by decide)
theorem k8_23 {o : Nat} (hc : o = 29) : (o, 23) ∈ zK := zk8 hc 23 (by decide)
theorem k8_25 {o : Nat} (hc : o = 29) : (o, 25) ∈ zK := zk8 hc 25 (by decide)
theorem z8_0 {G : zG} {o : Nat} (hc : o = 29) : ∀ S : zOb, zcell G o 0 S = .inr (8, [.ref (G.2.2.1 o 1), .ref (G.2.2.1 o 2), .int (S.1 0 2), .ref (G.2.2.1 o 4), .ref (G.2.2.1 o 5), .int (S.1 0 5), .ref (G.2.2.1 o 7), .int (S.1 0 7), .ref (G.2.2.1 o 9), .ref (G.2.2.1 o 10), .ref (G.2.2.1 o 11), .ref (G.2.2.1 o 12), .ref (G.2.2.1 o 13), .ref (G.2.2.1 o 14), .ref (G.2.2.1 o 15), .ref (G.2.2.1 o 16), .ref (G.2.2.1 o 17), .ref (G.2.2.1 o 18), .ref (G.2.2.1 o 19), .int (S.1 0 19), .int (S.1 0 20), .int (S.1 0 21), .ref (G.2.2.1 o 23), .int (S.1 0 23), .ref (G.2.2.1 o 25), .int (S.1 0 25), .int (S.1 0 26)]) := by
  subst hc
  intro S
  unfold zcell
  rfl
theorem z8_1 {G : zG} {o : Nat} (hc : o = 29) : ∀ S : zOb, zcell G o 1 S = .inl (G.2.1 0, 27, .inl (S.1 1)) := by
  subst hc
  intro S
  unfold zcell
  rfl
theorem z8_2 {G : zG} {o : Nat} (hc : o = 29) : ∀ S : zOb, zcell G o 2 S = .inl (G.2.1 0, 162, .inl (S.1 2)) := by
  subst hc
  intro S
  unfold zcell
  rfl
theorem z8_4 {G : zG} {o : Nat} (hc : o = 29) : ∀ S : zOb, zcell G o 4 S = .inl (G.2.1 0, 27, .inl (S.1 4)) := by
  subst hc
  intro S
  unfold zcell
  rfl
theorem z8_5 {G : zG} {o : Nat} (hc : o = 29) : ∀ S : zOb, zcell G o 5 S = .inl (G.2.1 0, 162, .inl (S.1 5)) := by
  subst hc
  intro S
  unfold zcell
  rfl
theorem z8_7 {G : zG} {o : Nat} (hc : o = 29) : ∀ S : zOb, zcell G o 7 S = .inl (G.2.1 0, 90, .inl (S.1 7)) := by
  subst hc
  intro S
  unfold zcell
  rfl
theorem z8_9 {G : zG} {o : Nat} (hc : o = 29) : ∀ S : zOb, zcell G o 9 S = .inl (G.2.1 0, 4, .inl (S.1 9)) := by
  subst hc
  intro S
  unfold zcell
  rfl
theorem z8_10 {G : zG} {o : Nat} (hc : o = 29) : ∀ S : zOb, zcell G o 10 S = .inl (G.2.1 0, 4, .inl (S.1 10)) := by
  subst hc
  intro S
  unfold zcell
  rfl
theorem z8_11 {G : zG} {o : Nat} (hc : o = 29) : ∀ S : zOb, zcell G o 11 S = .inl (G.2.1 2, 96, .inr (.inl (S.2.1 11))) := by
  subst hc
  intro S
  unfold zcell
  rfl
theorem z8_12 {G : zG} {o : Nat} (hc : o = 29) : ∀ S : zOb, zcell G o 12 S = .inl (G.2.1 2, 24, .inr (.inl (S.2.1 12))) := by
  subst hc
  intro S
  unfold zcell
  rfl
theorem z8_13 {G : zG} {o : Nat} (hc : o = 29) : ∀ S : zOb, zcell G o 13 S = .inl (G.2.1 0, 7, .inl (S.1 13)) := by
  subst hc
  intro S
  unfold zcell
  rfl
theorem z8_14 {G : zG} {o : Nat} (hc : o = 29) : ∀ S : zOb, zcell G o 14 S = .inl (G.2.1 0, 20, .inl (S.1 14)) := by
  subst hc
  intro S
  unfold zcell
  rfl
theorem z8_15 {G : zG} {o : Nat} (hc : o = 29) : ∀ S : zOb, zcell G o 15 S = .inl (G.2.1 0, 20, .inl (S.1 15)) := by
  subst hc
  intro S
  unfold zcell
  rfl
theorem z8_16 {G : zG} {o : Nat} (hc : o = 29) : ∀ S : zOb, zcell G o 16 S = .inl (G.2.1 0, 7, .inl (S.1 16)) := by
  subst hc
  intro S
  unfold zcell
  rfl
theorem z8_17 {G : zG} {o : Nat} (hc : o = 29) : ∀ S : zOb, zcell G o 17 S = .inl (G.2.1 0, 7, .inl (S.1 17)) := by
  subst hc
  intro S
  unfold zcell
  rfl
theorem z8_18 {G : zG} {o : Nat} (hc : o = 29) : ∀ S : zOb, zcell G o 18 S = .inl (G.2.1 0, 7, .inl (S.1 18)) := by
  subst hc
  intro S
  unfold zcell
  rfl
theorem z8_19 {G : zG} {o : Nat} (hc : o = 29) : ∀ S : zOb, zcell G o 19 S = .inl (G.2.1 0, 7, .inl (S.1 19)) := by
  subst hc
  intro S
  unfold zcell
  rfl
theorem z8_23 {G : zG} {o : Nat} (hc : o = 29) : ∀ S : zOb, zcell G o 23 S = .inl (G.2.1 0, 64, .inl (S.1 23)) := by
  subst hc
  intro S
  unfold zcell
  rfl
theorem z8_25 {G : zG} {o : Nat} (hc : o = 29) : ∀ S : zOb, zcell G o 25 S = .inl (G.2.1 0, 27, .inl (S.1 25)) := by
  subst hc
  intro S
  unfold zcell
  rfl
theorem z3_d {G : zG} {o : Nat} (hc : zc o = 3) {k : Nat} (hk : k < 8) : ∀ S : zOb, zcell G o (10 + k) S = .inl (G.2.1 0, 7, .inl (S.1 (10 + k))) := by
  intro S
  unfold zcell
  rw [hc]
  match k, hk with
  | 0, _ => rfl
  | 1, _ => rfl
  | 2, _ => rfl
  | 3, _ => rfl
  | 4, _ => rfl
  | 5, _ => rfl
  | 6, _ => rfl
  | 7, _ => rfl
  | n + 8, h => exact absurd h (by omega)
theorem k3_d {o : Nat} (hc : zc o = 3) {k : Nat} (hk : k < 8) : (o, 10 + k) ∈ zK := by
  have h : ∀ o, o < 29 → zc o = 3 → ∀ k ∈ List.range 8, (o, 10 + k) ∈ zK := by decide +kernel
  exact h o (zc_lt (by rw [hc]; decide)) hc k (List.mem_range.mpr hk)
theorem z6_r {G : zG} {o : Nat} (hc : zc o = 6) {j : Nat} (hj : 0 < j ∧ j < 4) : ∀ S : zOb, zcell G o j S = .inl (G.2.1 0, 7, .inl (S.1 j)) := by
  intro S
  unfold zcell
  rw [hc]
  match j, hj with
  | 0, h => exact absurd h.1 (by omega)
  | 1, _ => rfl
  | 2, _ => rfl
  | 3, _ => rfl
  | n + 4, h => exact absurd h.2 (by omega)
theorem k6_r {o : Nat} (hc : zc o = 6) {j : Nat} (hj : 0 < j ∧ j < 4) : (o, j) ∈ zK := by
  have h : ∀ o, o < 29 → zc o = 6 → ∀ j ∈ List.range 4, (o, j) ∈ zK := by decide +kernel
  exact h o (zc_lt (by rw [hc]; decide)) hc j (List.mem_range.mpr hj.2)
theorem zin_lt {i : Int32} {n : Nat} (h : zin i n) : i.toNatClampNeg < n := Nat.not_le.mp (fun q => h (Or.inr q))
theorem zc_sheet {k : Nat} (h : k < 4) : zc (24 + k) = 5 := by
  match k, h with
  | 0, _ => rfl
  | 1, _ => rfl
  | 2, _ => rfl
  | 3, _ => rfl
  | n + 4, h => exact absurd h (by omega)
section ZF
variable {p : Program} {l : Launch} {e : Env} {R : Room} {s : State} {m : MethodId} {args : Array Value} {below : List Frame} {meth : Method} {c : Code} {H : Heap} {locs : List Loc} {Q : State → Prop} {cc : ByteArray} {pc : Nat} {ls : Array Slot} {rest : List Value} {own : String} {nL d : Nat} {G : zG} {μ μ' : zM} {S : zOb} {o index : Nat}
theorem g0_0 (cx : zCX p R s m args c own cc nL d G) (hI : zIW G s μ H locs) (hc : zc o = 0) (hS : μ o = S) (hl : Cond.fieldLink own index (TX0 0).1 (TX0 0).2.1 (TX0 0).2.2.1 ∈ wsL_law) (hdg : decode cc pc = .ok (.getfield index, 3)) (kk : W p l e R s m args below meth c H locs 0 0 Q (F0 m (pc + 3) ls (.ref (G.2.2.1 o 1) :: rest))) : W p l e R s m args below meth c H locs 0 0 Q (F0 m pc ls (.ref (G.2.2.1 o 0) :: rest)) := zr_get (k := 0) cx hI (k0_0 hc) hS (z0_0 hc S) rfl inlX0 (by decide) hl rfl hdg kk
theorem g0_1 (cx : zCX p R s m args c own cc nL d G) (hI : zIW G s μ H locs) (hc : zc o = 0) (hS : μ o = S) (hl : Cond.fieldLink own index (TX0 1).1 (TX0 1).2.1 (TX0 1).2.2.1 ∈ wsL_law) (hdg : decode cc pc = .ok (.getfield index, 3)) (kk : W p l e R s m args below meth c H locs 0 0 Q (F0 m (pc + 3) ls (.int (S.1 0 1) :: rest))) : W p l e R s m args below meth c H locs 0 0 Q (F0 m pc ls (.ref (G.2.2.1 o 0) :: rest)) := zr_get (k := 1) cx hI (k0_0 hc) hS (z0_0 hc S) rfl inlX0 (by decide) hl rfl hdg kk
theorem p0_1 {x : Int32} (cx : zCX p R s m args c own cc nL d G) (hI : zIW G s μ H locs) (hc : zc o = 0) (hS : μ o = S) (hl : Cond.fieldLink own index (TX0 1).1 (TX0 1).2.1 (TX0 1).2.2.1 ∈ wsL_law) (hμ : zset μ o (zI S 0 1 x) = μ') (hdg : decode cc pc = .ok (.putfield index, 3)) (kk : ∀ (H1 : Heap) (locs1 : List Loc), zIW G s μ' H1 locs1 → W p l e R s m args below meth c H1 locs1 0 0 Q (F0 m (pc + 3) ls rest)) : W p l e R s m args below meth c H locs 0 0 Q (F0 m pc ls (.int x :: .ref (G.2.2.1 o 0) :: rest)) := zr_put (k := 1) (ty := .int) cx hI (k0_0 hc) hS (z0_0 hc S) rfl inlX0 tyX0_ok nmX0 (by decide) hl rfl rfl rfl rfl (Nat.le_of_ble_eq_true rfl) (z0_0 hc _) hμ hdg kk
theorem g1_0 (cx : zCX p R s m args c own cc nL d G) (hI : zIW G s μ H locs) (hc : zc o = 1) (hS : μ o = S) (hl : Cond.fieldLink own index (TX1 0).1 (TX1 0).2.1 (TX1 0).2.2.1 ∈ wsL_law) (hdg : decode cc pc = .ok (.getfield index, 3)) (kk : W p l e R s m args below meth c H locs 0 0 Q (F0 m (pc + 3) ls (.ref (G.2.2.1 19 0) :: rest))) : W p l e R s m args below meth c H locs 0 0 Q (F0 m pc ls (.ref (G.2.2.1 o 0) :: rest)) := zr_get (k := 0) cx hI (k1_0 hc) hS (z1_0 hc S) rfl inlX1 (by decide) hl rfl hdg kk
theorem g1_1 (cx : zCX p R s m args c own cc nL d G) (hI : zIW G s μ H locs) (hc : zc o = 1) (hS : μ o = S) (hl : Cond.fieldLink own index (TX1 1).1 (TX1 1).2.1 (TX1 1).2.2.1 ∈ wsL_law) (hdg : decode cc pc = .ok (.getfield index, 3)) (kk : W p l e R s m args below meth c H locs 0 0 Q (F0 m (pc + 3) ls (.ref (G.2.2.1 3 0) :: rest))) : W p l e R s m args below meth c H locs 0 0 Q (F0 m pc ls (.ref (G.2.2.1 o 0) :: rest)) := zr_get (k := 1) cx hI (k1_0 hc) hS (z1_0 hc S) rfl inlX1 (by decide) hl rfl hdg kk
theorem g1_2 (cx : zCX p R s m args c own cc nL d G) (hI : zIW G s μ H locs) (hc : zc o = 1) (hS : μ o = S) (hl : Cond.fieldLink own index (TX1 2).1 (TX1 2).2.1 (TX1 2).2.2.1 ∈ wsL_law) (hdg : decode cc pc = .ok (.getfield index, 3)) (kk : W p l e R s m args below meth c H locs 0 0 Q (F0 m (pc + 3) ls (.int (S.1 0 2) :: rest))) : W p l e R s m args below meth c H locs 0 0 Q (F0 m pc ls (.ref (G.2.2.1 o 0) :: rest)) := zr_get (k := 2) cx hI (k1_0 hc) hS (z1_0 hc S) rfl inlX1 (by decide) hl rfl hdg kk
theorem p1_2 {x : Int32} (cx : zCX p R s m args c own cc nL d G) (hI : zIW G s μ H locs) (hc : zc o = 1) (hS : μ o = S) (hl : Cond.fieldLink own index (TX1 2).1 (TX1 2).2.1 (TX1 2).2.2.1 ∈ wsL_law) (hμ : zset μ o (zI S 0 2 x) = μ') (hdg : decode cc pc = .ok (.putfield index, 3)) (kk : ∀ (H1 : Heap) (locs1 : List Loc), zIW G s μ' H1 locs1 → W p l e R s m args below meth c H1 locs1 0 0 Q (F0 m (pc + 3) ls rest)) : W p l e R s m args below meth c H locs 0 0 Q (F0 m pc ls (.int x :: .ref (G.2.2.1 o 0) :: rest)) := zr_put (k := 2) (ty := .int) cx hI (k1_0 hc) hS (z1_0 hc S) rfl inlX1 tyX1_ok nmX1 (by decide) hl rfl rfl rfl rfl (Nat.le_of_ble_eq_true rfl) (z1_0 hc _) hμ hdg kk
theorem g2_0 (cx : zCX p R s m args c own cc nL d G) (hI : zIW G s μ H locs) (hc : zc o = 2) (hS : μ o = S) (hl : Cond.fieldLink own index (TX2 0).1 (TX2 0).2.1 (TX2 0).2.2.1 ∈ wsL_law) (hdg : decode cc pc = .ok (.getfield index, 3)) (kk : W p l e R s m args below meth c H locs 0 0 Q (F0 m (pc + 3) ls (.ref (G.2.2.1 o 1) :: rest))) : W p l e R s m args below meth c H locs 0 0 Q (F0 m pc ls (.ref (G.2.2.1 o 0) :: rest)) := zr_get (k := 0) cx hI (k2_0 hc) hS (z2_0 hc S) rfl inlX2 (by decide) hl rfl hdg kk
theorem g2_1 (cx : zCX p R s m args c own cc nL d G) (hI : zIW G s μ H locs) (hc : zc o = 2) (hS : μ o = S) (hl : Cond.fieldLink own index (TX2 1).1 (TX2 1).2.1 (TX2 1).2.2.1 ∈ wsL_law) (hdg : decode cc pc = .ok (.getfield index, 3)) (kk : W p l e R s m args below meth c H locs 0 0 Q (F0 m (pc + 3) ls (.int (S.1 0 1) :: rest))) : W p l e R s m args below meth c H locs 0 0 Q (F0 m pc ls (.ref (G.2.2.1 o 0) :: rest)) := zr_get (k := 1) cx hI (k2_0 hc) hS (z2_0 hc S) rfl inlX2 (by decide) hl rfl hdg kk
theorem p2_1 {x : Int32} (cx : zCX p R s m args c own cc nL d G) (hI : zIW G s μ H locs) (hc : zc o = 2) (hS : μ o = S) (hl : Cond.fieldLink own index (TX2 1).1 (TX2 1).2.1 (TX2 1).2.2.1 ∈ wsL_law) (hμ : zset μ o (zI S 0 1 x) = μ') (hdg : decode cc pc = .ok (.putfield index, 3)) (kk : ∀ (H1 : Heap) (locs1 : List Loc), zIW G s μ' H1 locs1 → W p l e R s m args below meth c H1 locs1 0 0 Q (F0 m (pc + 3) ls rest)) : W p l e R s m args below meth c H locs 0 0 Q (F0 m pc ls (.int x :: .ref (G.2.2.1 o 0) :: rest)) := zr_put (k := 1) (ty := .int) cx hI (k2_0 hc) hS (z2_0 hc S) rfl inlX2 tyX2_ok nmX2 (by decide) hl rfl rfl rfl rfl (Nat.le_of_ble_eq_true rfl) (z2_0 hc _) hμ hdg kk
theorem g3_0 (cx : zCX p R s m args c own cc nL d G) (hI : zIW G s μ H locs) (hc : zc o = 3) (hS : μ o = S) (hl : Cond.fieldLink own index (TX3 0).1 (TX3 0).2.1 (TX3 0).2.2.1 ∈ wsL_law) (hdg : decode cc pc = .ok (.getfield index, 3)) (kk : W p l e R s m args below meth c H locs 0 0 Q (F0 m (pc + 3) ls (.ref (G.2.2.1 o 1) :: rest))) : W p l e R s m args below meth c H locs 0 0 Q (F0 m pc ls (.ref (G.2.2.1 o 0) :: rest)) := zr_get (k := 0) cx hI (k3_0 hc) hS (z3_0 hc S) rfl inlX3 (by decide) hl rfl hdg kk
theorem g3_1 (cx : zCX p R s m args c own cc nL d G) (hI : zIW G s μ H locs) (hc : zc o = 3) (hS : μ o = S) (hl : Cond.fieldLink own index (TX3 1).1 (TX3 1).2.1 (TX3 1).2.2.1 ∈ wsL_law) (hdg : decode cc pc = .ok (.getfield index, 3)) (kk : W p l e R s m args below meth c H locs 0 0 Q (F0 m (pc + 3) ls (.ref (G.2.2.1 o 2) :: rest))) : W p l e R s m args below meth c H locs 0 0 Q (F0 m pc ls (.ref (G.2.2.1 o 0) :: rest)) := zr_get (k := 1) cx hI (k3_0 hc) hS (z3_0 hc S) rfl inlX3 (by decide) hl rfl hdg kk
theorem g3_2 (cx : zCX p R s m args c own cc nL d G) (hI : zIW G s μ H locs) (hc : zc o = 3) (hS : μ o = S) (hl : Cond.fieldLink own index (TX3 2).1 (TX3 2).2.1 (TX3 2).2.2.1 ∈ wsL_law) (hdg : decode cc pc = .ok (.getfield index, 3)) (kk : W p l e R s m args below meth c H locs 0 0 Q (F0 m (pc + 3) ls (.ref (G.2.2.1 o 3) :: rest))) : W p l e R s m args below meth c H locs 0 0 Q (F0 m pc ls (.ref (G.2.2.1 o 0) :: rest)) := zr_get (k := 2) cx hI (k3_0 hc) hS (z3_0 hc S) rfl inlX3 (by decide) hl rfl hdg kk
theorem g3_3 (cx : zCX p R s m args c own cc nL d G) (hI : zIW G s μ H locs) (hc : zc o = 3) (hS : μ o = S) (hl : Cond.fieldLink own index (TX3 3).1 (TX3 3).2.1 (TX3 3).2.2.1 ∈ wsL_law) (hdg : decode cc pc = .ok (.getfield index, 3)) (kk : W p l e R s m args below meth c H locs 0 0 Q (F0 m (pc + 3) ls (.ref (G.2.2.1 o 4) :: rest))) : W p l e R s m args below meth c H locs 0 0 Q (F0 m pc ls (.ref (G.2.2.1 o 0) :: rest)) := zr_get (k := 3) cx hI (k3_0 hc) hS (z3_0 hc S) rfl inlX3 (by decide) hl rfl hdg kk
theorem g3_4 (cx : zCX p R s m args c own cc nL d G) (hI : zIW G s μ H locs) (hc : zc o = 3) (hS : μ o = S) (hl : Cond.fieldLink own index (TX3 4).1 (TX3 4).2.1 (TX3 4).2.2.1 ∈ wsL_law) (hdg : decode cc pc = .ok (.getfield index, 3)) (kk : W p l e R s m args below meth c H locs 0 0 Q (F0 m (pc + 3) ls (.ref (G.2.2.1 o 5) :: rest))) : W p l e R s m args below meth c H locs 0 0 Q (F0 m pc ls (.ref (G.2.2.1 o 0) :: rest)) := zr_get (k := 4) cx hI (k3_0 hc) hS (z3_0 hc S) rfl inlX3 (by decide) hl rfl hdg kk
theorem g3_5 (cx : zCX p R s m args c own cc nL d G) (hI : zIW G s μ H locs) (hc : zc o = 3) (hS : μ o = S) (hl : Cond.fieldLink own index (TX3 5).1 (TX3 5).2.1 (TX3 5).2.2.1 ∈ wsL_law) (hdg : decode cc pc = .ok (.getfield index, 3)) (kk : W p l e R s m args below meth c H locs 0 0 Q (F0 m (pc + 3) ls (.int (S.1 0 5) :: rest))) : W p l e R s m args below meth c H locs 0 0 Q (F0 m pc ls (.ref (G.2.2.1 o 0) :: rest)) := zr_get (k := 5) cx hI (k3_0 hc) hS (z3_0 hc S) rfl inlX3 (by decide) hl rfl hdg kk
theorem p3_5 {x : Int32} (cx : zCX p R s m args c own cc nL d G) (hI : zIW G s μ H locs) (hc : zc o = 3) (hS : μ o = S) (hl : Cond.fieldLink own index (TX3 5).1 (TX3 5).2.1 (TX3 5).2.2.1 ∈ wsL_law) (hμ : zset μ o (zI S 0 5 x) = μ') (hdg : decode cc pc = .ok (.putfield index, 3)) (kk : ∀ (H1 : Heap) (locs1 : List Loc), zIW G s μ' H1 locs1 → W p l e R s m args below meth c H1 locs1 0 0 Q (F0 m (pc + 3) ls rest)) : W p l e R s m args below meth c H locs 0 0 Q (F0 m pc ls (.int x :: .ref (G.2.2.1 o 0) :: rest)) := zr_put (k := 5) (ty := .int) cx hI (k3_0 hc) hS (z3_0 hc S) rfl inlX3 tyX3_ok nmX3 (by decide) hl rfl rfl rfl rfl (Nat.le_of_ble_eq_true rfl) (z3_0 hc _) hμ hdg kk
theorem g3_6 (cx : zCX p R s m args c own cc nL d G) (hI : zIW G s μ H locs) (hc : zc o = 3) (hS : μ o = S) (hl : Cond.fieldLink own index (TX3 6).1 (TX3 6).2.1 (TX3 6).2.2.1 ∈ wsL_law) (hdg : decode cc pc = .ok (.getfield index, 3)) (kk : W p l e R s m args below meth c H locs 0 0 Q (F0 m (pc + 3) ls (.ref (G.2.2.1 o 7) :: rest))) : W p l e R s m args below meth c H locs 0 0 Q (F0 m pc ls (.ref (G.2.2.1 o 0) :: rest)) := zr_get (k := 6) cx hI (k3_0 hc) hS (z3_0 hc S) rfl inlX3 (by decide) hl rfl hdg kk
theorem g3_7 (cx : zCX p R s m args c own cc nL d G) (hI : zIW G s μ H locs) (hc : zc o = 3) (hS : μ o = S) (hl : Cond.fieldLink own index (TX3 7).1 (TX3 7).2.1 (TX3 7).2.2.1 ∈ wsL_law) (hdg : decode cc pc = .ok (.getfield index, 3)) (kk : W p l e R s m args below meth c H locs 0 0 Q (F0 m (pc + 3) ls (.ref (G.2.2.1 o 8) :: rest))) : W p l e R s m args below meth c H locs 0 0 Q (F0 m pc ls (.ref (G.2.2.1 o 0) :: rest)) := zr_get (k := 7) cx hI (k3_0 hc) hS (z3_0 hc S) rfl inlX3 (by decide) hl rfl hdg kk
theorem g3_8 (cx : zCX p R s m args c own cc nL d G) (hI : zIW G s μ H locs) (hc : zc o = 3) (hS : μ o = S) (hl : Cond.fieldLink own index (TX3 8).1 (TX3 8).2.1 (TX3 8).2.2.1 ∈ wsL_law) (hdg : decode cc pc = .ok (.getfield index, 3)) (kk : W p l e R s m args below meth c H locs 0 0 Q (F0 m (pc + 3) ls (.ref (G.2.2.1 o 9) :: rest))) : W p l e R s m args below meth c H locs 0 0 Q (F0 m pc ls (.ref (G.2.2.1 o 0) :: rest)) := zr_get (k := 8) cx hI (k3_0 hc) hS (z3_0 hc S) rfl inlX3 (by decide) hl rfl hdg kk
theorem g4_0 (cx : zCX p R s m args c own cc nL d G) (hI : zIW G s μ H locs) (hc : zc o = 4) (hS : μ o = S) (hl : Cond.fieldLink own index (TX4 0).1 (TX4 0).2.1 (TX4 0).2.2.1 ∈ wsL_law) (hdg : decode cc pc = .ok (.getfield index, 3)) (kk : W p l e R s m args below meth c H locs 0 0 Q (F0 m (pc + 3) ls (.ref (G.2.2.1 22 0) :: rest))) : W p l e R s m args below meth c H locs 0 0 Q (F0 m pc ls (.ref (G.2.2.1 o 0) :: rest)) := zr_get (k := 0) cx hI (k4_0 hc) hS (z4_0 hc S) rfl inlX4 (by decide) hl rfl hdg kk
theorem g4_1 (cx : zCX p R s m args c own cc nL d G) (hI : zIW G s μ H locs) (hc : zc o = 4) (hS : μ o = S) (hl : Cond.fieldLink own index (TX4 1).1 (TX4 1).2.1 (TX4 1).2.2.1 ∈ wsL_law) (hdg : decode cc pc = .ok (.getfield index, 3)) (kk : W p l e R s m args below meth c H locs 0 0 Q (F0 m (pc + 3) ls (.ref (G.2.2.1 o 2) :: rest))) : W p l e R s m args below meth c H locs 0 0 Q (F0 m pc ls (.ref (G.2.2.1 o 0) :: rest)) := zr_get (k := 1) cx hI (k4_0 hc) hS (z4_0 hc S) rfl inlX4 (by decide) hl rfl hdg kk
theorem g4_2 (cx : zCX p R s m args c own cc nL d G) (hI : zIW G s μ H locs) (hc : zc o = 4) (hS : μ o = S) (hl : Cond.fieldLink own index (TX4 2).1 (TX4 2).2.1 (TX4 2).2.2.1 ∈ wsL_law) (hdg : decode cc pc = .ok (.getfield index, 3)) (kk : W p l e R s m args below meth c H locs 0 0 Q (F0 m (pc + 3) ls (.ref (G.2.2.1 o 3) :: rest))) : W p l e R s m args below meth c H locs 0 0 Q (F0 m pc ls (.ref (G.2.2.1 o 0) :: rest)) := zr_get (k := 2) cx hI (k4_0 hc) hS (z4_0 hc S) rfl inlX4 (by decide) hl rfl hdg kk
theorem g4_3 (cx : zCX p R s m args c own cc nL d G) (hI : zIW G s μ H locs) (hc : zc o = 4) (hS : μ o = S) (hl : Cond.fieldLink own index (TX4 3).1 (TX4 3).2.1 (TX4 3).2.2.1 ∈ wsL_law) (hdg : decode cc pc = .ok (.getfield index, 3)) (kk : W p l e R s m args below meth c H locs 0 0 Q (F0 m (pc + 3) ls (.ref (G.2.2.1 o 4) :: rest))) : W p l e R s m args below meth c H locs 0 0 Q (F0 m pc ls (.ref (G.2.2.1 o 0) :: rest)) := zr_get (k := 3) cx hI (k4_0 hc) hS (z4_0 hc S) rfl inlX4 (by decide) hl rfl hdg kk
theorem g4_4 (cx : zCX p R s m args c own cc nL d G) (hI : zIW G s μ H locs) (hc : zc o = 4) (hS : μ o = S) (hl : Cond.fieldLink own index (TX4 4).1 (TX4 4).2.1 (TX4 4).2.2.1 ∈ wsL_law) (hdg : decode cc pc = .ok (.getfield index, 3)) (kk : W p l e R s m args below meth c H locs 0 0 Q (F0 m (pc + 3) ls (.ref (G.2.2.1 o 5) :: rest))) : W p l e R s m args below meth c H locs 0 0 Q (F0 m pc ls (.ref (G.2.2.1 o 0) :: rest)) := zr_get (k := 4) cx hI (k4_0 hc) hS (z4_0 hc S) rfl inlX4 (by decide) hl rfl hdg kk
theorem g4_5 (cx : zCX p R s m args c own cc nL d G) (hI : zIW G s μ H locs) (hc : zc o = 4) (hS : μ o = S) (hl : Cond.fieldLink own index (TX4 5).1 (TX4 5).2.1 (TX4 5).2.2.1 ∈ wsL_law) (hdg : decode cc pc = .ok (.getfield index, 3)) (kk : W p l e R s m args below meth c H locs 0 0 Q (F0 m (pc + 3) ls (.ref (G.2.2.1 o 6) :: rest))) : W p l e R s m args below meth c H locs 0 0 Q (F0 m pc ls (.ref (G.2.2.1 o 0) :: rest)) := zr_get (k := 5) cx hI (k4_0 hc) hS (z4_0 hc S) rfl inlX4 (by decide) hl rfl hdg kk
theorem g4_6 (cx : zCX p R s m args c own cc nL d G) (hI : zIW G s μ H locs) (hc : zc o = 4) (hS : μ o = S) (hl : Cond.fieldLink own index (TX4 6).1 (TX4 6).2.1 (TX4 6).2.2.1 ∈ wsL_law) (hdg : decode cc pc = .ok (.getfield index, 3)) (kk : W p l e R s m args below meth c H locs 0 0 Q (F0 m (pc + 3) ls (.int (S.1 0 6) :: rest))) : W p l e R s m args below meth c H locs 0 0 Q (F0 m pc ls (.ref (G.2.2.1 o 0) :: rest)) := zr_get (k := 6) cx hI (k4_0 hc) hS (z4_0 hc S) rfl inlX4 (by decide) hl rfl hdg kk
theorem p4_6 {x : Int32} (cx : zCX p R s m args c own cc nL d G) (hI : zIW G s μ H locs) (hc : zc o = 4) (hS : μ o = S) (hl : Cond.fieldLink own index (TX4 6).1 (TX4 6).2.1 (TX4 6).2.2.1 ∈ wsL_law) (hμ : zset μ o (zI S 0 6 x) = μ') (hdg : decode cc pc = .ok (.putfield index, 3)) (kk : ∀ (H1 : Heap) (locs1 : List Loc), zIW G s μ' H1 locs1 → W p l e R s m args below meth c H1 locs1 0 0 Q (F0 m (pc + 3) ls rest)) : W p l e R s m args below meth c H locs 0 0 Q (F0 m pc ls (.int x :: .ref (G.2.2.1 o 0) :: rest)) := zr_put (k := 6) (ty := .int) cx hI (k4_0 hc) hS (z4_0 hc S) rfl inlX4 tyX4_ok nmX4 (by decide) hl rfl rfl rfl rfl (Nat.le_of_ble_eq_true rfl) (z4_0 hc _) hμ hdg kk
theorem g4_7 (cx : zCX p R s m args c own cc nL d G) (hI : zIW G s μ H locs) (hc : zc o = 4) (hS : μ o = S) (hl : Cond.fieldLink own index (TX4 7).1 (TX4 7).2.1 (TX4 7).2.2.1 ∈ wsL_law) (hdg : decode cc pc = .ok (.getfield index, 3)) (kk : W p l e R s m args below meth c H locs 0 0 Q (F0 m (pc + 3) ls (.int (S.1 0 7) :: rest))) : W p l e R s m args below meth c H locs 0 0 Q (F0 m pc ls (.ref (G.2.2.1 o 0) :: rest)) := zr_get (k := 7) cx hI (k4_0 hc) hS (z4_0 hc S) rfl inlX4 (by decide) hl rfl hdg kk
theorem p4_7 {x : Int32} (cx : zCX p R s m args c own cc nL d G) (hI : zIW G s μ H locs) (hc : zc o = 4) (hS : μ o = S) (hb : narrow .boolean (.int x) = .int x) (hf : fits .boolean (.int x) = true) (hl : Cond.fieldLink own index (TX4 7).1 (TX4 7).2.1 (TX4 7).2.2.1 ∈ wsL_law) (hμ : zset μ o (zI S 0 7 x) = μ') (hdg : decode cc pc = .ok (.putfield index, 3)) (kk : ∀ (H1 : Heap) (locs1 : List Loc), zIW G s μ' H1 locs1 → W p l e R s m args below meth c H1 locs1 0 0 Q (F0 m (pc + 3) ls rest)) : W p l e R s m args below meth c H locs 0 0 Q (F0 m pc ls (.int x :: .ref (G.2.2.1 o 0) :: rest)) := zr_put (k := 7) (ty := .boolean) cx hI (k4_0 hc) hS (z4_0 hc S) rfl inlX4 tyX4_ok nmX4 (by decide) hl rfl rfl hb hf (Nat.le_of_ble_eq_true rfl) (z4_0 hc _) hμ hdg kk
theorem g4_8 (cx : zCX p R s m args c own cc nL d G) (hI : zIW G s μ H locs) (hc : zc o = 4) (hS : μ o = S) (hl : Cond.fieldLink own index (TX4 8).1 (TX4 8).2.1 (TX4 8).2.2.1 ∈ wsL_law) (hdg : decode cc pc = .ok (.getfield index, 3)) (kk : W p l e R s m args below meth c H locs 0 0 Q (F0 m (pc + 3) ls (.int (S.1 0 8) :: rest))) : W p l e R s m args below meth c H locs 0 0 Q (F0 m pc ls (.ref (G.2.2.1 o 0) :: rest)) := zr_get (k := 8) cx hI (k4_0 hc) hS (z4_0 hc S) rfl inlX4 (by decide) hl rfl hdg kk
theorem p4_8 {x : Int32} (cx : zCX p R s m args c own cc nL d G) (hI : zIW G s μ H locs) (hc : zc o = 4) (hS : μ o = S) (hl : Cond.fieldLink own index (TX4 8).1 (TX4 8).2.1 (TX4 8).2.2.1 ∈ wsL_law) (hμ : zset μ o (zI S 0 8 x) = μ') (hdg : decode cc pc = .ok (.putfield index, 3)) (kk : ∀ (H1 : Heap) (locs1 : List Loc), zIW G s μ' H1 locs1 → W p l e R s m args below meth c H1 locs1 0 0 Q (F0 m (pc + 3) ls rest)) : W p l e R s m args below meth c H locs 0 0 Q (F0 m pc ls (.int x :: .ref (G.2.2.1 o 0) :: rest)) := zr_put (k := 8) (ty := .int) cx hI (k4_0 hc) hS (z4_0 hc S) rfl inlX4 tyX4_ok nmX4 (by decide) hl rfl rfl rfl rfl (Nat.le_of_ble_eq_true rfl) (z4_0 hc _) hμ hdg kk
theorem g4_9 (cx : zCX p R s m args c own cc nL d G) (hI : zIW G s μ H locs) (hc : zc o = 4) (hS : μ o = S) (hl : Cond.fieldLink own index (TX4 9).1 (TX4 9).2.1 (TX4 9).2.2.1 ∈ wsL_law) (hdg : decode cc pc = .ok (.getfield index, 3)) (kk : W p l e R s m args below meth c H locs 0 0 Q (F0 m (pc + 3) ls (.int (S.1 0 9) :: rest))) : W p l e R s m args below meth c H locs 0 0 Q (F0 m pc ls (.ref (G.2.2.1 o 0) :: rest)) := zr_get (k := 9) cx hI (k4_0 hc) hS (z4_0 hc S) rfl inlX4 (by decide) hl rfl hdg kk
theorem p4_9 {x : Int32} (cx : zCX p R s m args c own cc nL d G) (hI : zIW G s μ H locs) (hc : zc o = 4) (hS : μ o = S) (hl : Cond.fieldLink own index (TX4 9).1 (TX4 9).2.1 (TX4 9).2.2.1 ∈ wsL_law) (hμ : zset μ o (zI S 0 9 x) = μ') (hdg : decode cc pc = .ok (.putfield index, 3)) (kk : ∀ (H1 : Heap) (locs1 : List Loc), zIW G s μ' H1 locs1 → W p l e R s m args below meth c H1 locs1 0 0 Q (F0 m (pc + 3) ls rest)) : W p l e R s m args below meth c H locs 0 0 Q (F0 m pc ls (.int x :: .ref (G.2.2.1 o 0) :: rest)) := zr_put (k := 9) (ty := .int) cx hI (k4_0 hc) hS (z4_0 hc S) rfl inlX4 tyX4_ok nmX4 (by decide) hl rfl rfl rfl rfl (Nat.le_of_ble_eq_true rfl) (z4_0 hc _) hμ hdg kk
theorem g4_10 (cx : zCX p R s m args c own cc nL d G) (hI : zIW G s μ H locs) (hc : zc o = 4) (hS : μ o = S) (hl : Cond.fieldLink own index (TX4 10).1 (TX4 10).2.1 (TX4 10).2.2.1 ∈ wsL_law) (hdg : decode cc pc = .ok (.getfield index, 3)) (kk : W p l e R s m args below meth c H locs 0 0 Q (F0 m (pc + 3) ls (.ref (G.2.2.1 o 11) :: rest))) : W p l e R s m args below meth c H locs 0 0 Q (F0 m pc ls (.ref (G.2.2.1 o 0) :: rest)) := zr_get (k := 10) cx hI (k4_0 hc) hS (z4_0 hc S) rfl inlX4 (by decide) hl rfl hdg kk
theorem g4_11 (cx : zCX p R s m args c own cc nL d G) (hI : zIW G s μ H locs) (hc : zc o = 4) (hS : μ o = S) (hl : Cond.fieldLink own index (TX4 11).1 (TX4 11).2.1 (TX4 11).2.2.1 ∈ wsL_law) (hdg : decode cc pc = .ok (.getfield index, 3)) (kk : W p l e R s m args below meth c H locs 0 0 Q (F0 m (pc + 3) ls (.int (S.1 0 11) :: rest))) : W p l e R s m args below meth c H locs 0 0 Q (F0 m pc ls (.ref (G.2.2.1 o 0) :: rest)) := zr_get (k := 11) cx hI (k4_0 hc) hS (z4_0 hc S) rfl inlX4 (by decide) hl rfl hdg kk
theorem p4_11 {x : Int32} (cx : zCX p R s m args c own cc nL d G) (hI : zIW G s μ H locs) (hc : zc o = 4) (hS : μ o = S) (hl : Cond.fieldLink own index (TX4 11).1 (TX4 11).2.1 (TX4 11).2.2.1 ∈ wsL_law) (hμ : zset μ o (zI S 0 11 x) = μ') (hdg : decode cc pc = .ok (.putfield index, 3)) (kk : ∀ (H1 : Heap) (locs1 : List Loc), zIW G s μ' H1 locs1 → W p l e R s m args below meth c H1 locs1 0 0 Q (F0 m (pc + 3) ls rest)) : W p l e R s m args below meth c H locs 0 0 Q (F0 m pc ls (.int x :: .ref (G.2.2.1 o 0) :: rest)) := zr_put (k := 11) (ty := .int) cx hI (k4_0 hc) hS (z4_0 hc S) rfl inlX4 tyX4_ok nmX4 (by decide) hl rfl rfl rfl rfl (Nat.le_of_ble_eq_true rfl) (z4_0 hc _) hμ hdg kk
theorem g4_12 (cx : zCX p R s m args c own cc nL d G) (hI : zIW G s μ H locs) (hc : zc o = 4) (hS : μ o = S) (hl : Cond.fieldLink own index (TX4 12).1 (TX4 12).2.1 (TX4 12).2.2.1 ∈ wsL_law) (hdg : decode cc pc = .ok (.getfield index, 3)) (kk : W p l e R s m args below meth c H locs 0 0 Q (F0 m (pc + 3) ls (.int (S.1 0 12) :: rest))) : W p l e R s m args below meth c H locs 0 0 Q (F0 m pc ls (.ref (G.2.2.1 o 0) :: rest)) := zr_get (k := 12) cx hI (k4_0 hc) hS (z4_0 hc S) rfl inlX4 (by decide) hl rfl hdg kk
theorem p4_12 {x : Int32} (cx : zCX p R s m args c own cc nL d G) (hI : zIW G s μ H locs) (hc : zc o = 4) (hS : μ o = S) (hl : Cond.fieldLink own index (TX4 12).1 (TX4 12).2.1 (TX4 12).2.2.1 ∈ wsL_law) (hμ : zset μ o (zI S 0 12 x) = μ') (hdg : decode cc pc = .ok (.putfield index, 3)) (kk : ∀ (H1 : Heap) (locs1 : List Loc), zIW G s μ' H1 locs1 → W p l e R s m args below meth c H1 locs1 0 0 Q (F0 m (pc + 3) ls rest)) : W p l e R s m args below meth c H locs 0 0 Q (F0 m pc ls (.int x :: .ref (G.2.2.1 o 0) :: rest)) := zr_put (k := 12) (ty := .int) cx hI (k4_0 hc) hS (z4_0 hc S) rfl inlX4 tyX4_ok nmX4 (by decide) hl rfl rfl rfl rfl (Nat.le_of_ble_eq_true rfl) (z4_0 hc _) hμ hdg kk
theorem g5_0 (cx : zCX p R s m args c own cc nL d G) (hI : zIW G s μ H locs) (hc : zc o = 5) (hS : μ o = S) (hl : Cond.fieldLink own index (TX5 0).1 (TX5 0).2.1 (TX5 0).2.2.1 ∈ wsL_law) (hdg : decode cc pc = .ok (.getfield index, 3)) (kk : W p l e R s m args below meth c H locs 0 0 Q (F0 m (pc + 3) ls (.ref (G.2.2.1 o 1) :: rest))) : W p l e R s m args below meth c H locs 0 0 Q (F0 m pc ls (.ref (G.2.2.1 o 0) :: rest)) := zr_get (k := 0) cx hI (k5_0 hc) hS (z5_0 hc S) rfl inlX5 (by decide) hl rfl hdg kk
theorem g5_1 (cx : zCX p R s m args c own cc nL d G) (hI : zIW G s μ H locs) (hc : zc o = 5) (hS : μ o = S) (hl : Cond.fieldLink own index (TX5 1).1 (TX5 1).2.1 (TX5 1).2.2.1 ∈ wsL_law) (hdg : decode cc pc = .ok (.getfield index, 3)) (kk : W p l e R s m args below meth c H locs 0 0 Q (F0 m (pc + 3) ls (.int (S.1 0 1) :: rest))) : W p l e R s m args below meth c H locs 0 0 Q (F0 m pc ls (.ref (G.2.2.1 o 0) :: rest)) := zr_get (k := 1) cx hI (k5_0 hc) hS (z5_0 hc S) rfl inlX5 (by decide) hl rfl hdg kk
theorem p5_1 {x : Int32} (cx : zCX p R s m args c own cc nL d G) (hI : zIW G s μ H locs) (hc : zc o = 5) (hS : μ o = S) (hl : Cond.fieldLink own index (TX5 1).1 (TX5 1).2.1 (TX5 1).2.2.1 ∈ wsL_law) (hμ : zset μ o (zI S 0 1 x) = μ') (hdg : decode cc pc = .ok (.putfield index, 3)) (kk : ∀ (H1 : Heap) (locs1 : List Loc), zIW G s μ' H1 locs1 → W p l e R s m args below meth c H1 locs1 0 0 Q (F0 m (pc + 3) ls rest)) : W p l e R s m args below meth c H locs 0 0 Q (F0 m pc ls (.int x :: .ref (G.2.2.1 o 0) :: rest)) := zr_put (k := 1) (ty := .int) cx hI (k5_0 hc) hS (z5_0 hc S) rfl inlX5 tyX5_ok nmX5 (by decide) hl rfl rfl rfl rfl (Nat.le_of_ble_eq_true rfl) (z5_0 hc _) hμ hdg kk
theorem g5_2 (cx : zCX p R s m args c own cc nL d G) (hI : zIW G s μ H locs) (hc : zc o = 5) (hS : μ o = S) (hl : Cond.fieldLink own index (TX5 2).1 (TX5 2).2.1 (TX5 2).2.2.1 ∈ wsL_law) (hdg : decode cc pc = .ok (.getfield index, 3)) (kk : W p l e R s m args below meth c H locs 0 0 Q (F0 m (pc + 3) ls (.int (S.1 0 2) :: rest))) : W p l e R s m args below meth c H locs 0 0 Q (F0 m pc ls (.ref (G.2.2.1 o 0) :: rest)) := zr_get (k := 2) cx hI (k5_0 hc) hS (z5_0 hc S) rfl inlX5 (by decide) hl rfl hdg kk
theorem p5_2 {x : Int32} (cx : zCX p R s m args c own cc nL d G) (hI : zIW G s μ H locs) (hc : zc o = 5) (hS : μ o = S) (hl : Cond.fieldLink own index (TX5 2).1 (TX5 2).2.1 (TX5 2).2.2.1 ∈ wsL_law) (hμ : zset μ o (zI S 0 2 x) = μ') (hdg : decode cc pc = .ok (.putfield index, 3)) (kk : ∀ (H1 : Heap) (locs1 : List Loc), zIW G s μ' H1 locs1 → W p l e R s m args below meth c H1 locs1 0 0 Q (F0 m (pc + 3) ls rest)) : W p l e R s m args below meth c H locs 0 0 Q (F0 m pc ls (.int x :: .ref (G.2.2.1 o 0) :: rest)) := zr_put (k := 2) (ty := .int) cx hI (k5_0 hc) hS (z5_0 hc S) rfl inlX5 tyX5_ok nmX5 (by decide) hl rfl rfl rfl rfl (Nat.le_of_ble_eq_true rfl) (z5_0 hc _) hμ hdg kk
theorem g6_0 (cx : zCX p R s m args c own cc nL d G) (hI : zIW G s μ H locs) (hc : zc o = 6) (hS : μ o = S) (hl : Cond.fieldLink own index (TX6 0).1 (TX6 0).2.1 (TX6 0).2.2.1 ∈ wsL_law) (hdg : decode cc pc = .ok (.getfield index, 3)) (kk : W p l e R s m args below meth c H locs 0 0 Q (F0 m (pc + 3) ls (.ref (G.2.2.1 o 1) :: rest))) : W p l e R s m args below meth c H locs 0 0 Q (F0 m pc ls (.ref (G.2.2.1 o 0) :: rest)) := zr_get (k := 0) cx hI (k6_0 hc) hS (z6_0 hc S) rfl inlX6 (by decide) hl rfl hdg kk
theorem g6_1 (cx : zCX p R s m args c own cc nL d G) (hI : zIW G s μ H locs) (hc : zc o = 6) (hS : μ o = S) (hl : Cond.fieldLink own index (TX6 1).1 (TX6 1).2.1 (TX6 1).2.2.1 ∈ wsL_law) (hdg : decode cc pc = .ok (.getfield index, 3)) (kk : W p l e R s m args below meth c H locs 0 0 Q (F0 m (pc + 3) ls (.ref (G.2.2.1 o 2) :: rest))) : W p l e R s m args below meth c H locs 0 0 Q (F0 m pc ls (.ref (G.2.2.1 o 0) :: rest)) := zr_get (k := 1) cx hI (k6_0 hc) hS (z6_0 hc S) rfl inlX6 (by decide) hl rfl hdg kk
theorem g6_2 (cx : zCX p R s m args c own cc nL d G) (hI : zIW G s μ H locs) (hc : zc o = 6) (hS : μ o = S) (hl : Cond.fieldLink own index (TX6 2).1 (TX6 2).2.1 (TX6 2).2.2.1 ∈ wsL_law) (hdg : decode cc pc = .ok (.getfield index, 3)) (kk : W p l e R s m args below meth c H locs 0 0 Q (F0 m (pc + 3) ls (.ref (G.2.2.1 o 3) :: rest))) : W p l e R s m args below meth c H locs 0 0 Q (F0 m pc ls (.ref (G.2.2.1 o 0) :: rest)) := zr_get (k := 2) cx hI (k6_0 hc) hS (z6_0 hc S) rfl inlX6 (by decide) hl rfl hdg kk
theorem g6_3 (cx : zCX p R s m args c own cc nL d G) (hI : zIW G s μ H locs) (hc : zc o = 6) (hS : μ o = S) (hl : Cond.fieldLink own index (TX6 3).1 (TX6 3).2.1 (TX6 3).2.2.1 ∈ wsL_law) (hdg : decode cc pc = .ok (.getfield index, 3)) (kk : W p l e R s m args below meth c H locs 0 0 Q (F0 m (pc + 3) ls (.int (S.1 0 3) :: rest))) : W p l e R s m args below meth c H locs 0 0 Q (F0 m pc ls (.ref (G.2.2.1 o 0) :: rest)) := zr_get (k := 3) cx hI (k6_0 hc) hS (z6_0 hc S) rfl inlX6 (by decide) hl rfl hdg kk
theorem p6_3 {x : Int32} (cx : zCX p R s m args c own cc nL d G) (hI : zIW G s μ H locs) (hc : zc o = 6) (hS : μ o = S) (hl : Cond.fieldLink own index (TX6 3).1 (TX6 3).2.1 (TX6 3).2.2.1 ∈ wsL_law) (hμ : zset μ o (zI S 0 3 x) = μ') (hdg : decode cc pc = .ok (.putfield index, 3)) (kk : ∀ (H1 : Heap) (locs1 : List Loc), zIW G s μ' H1 locs1 → W p l e R s m args below meth c H1 locs1 0 0 Q (F0 m (pc + 3) ls rest)) : W p l e R s m args below meth c H locs 0 0 Q (F0 m pc ls (.int x :: .ref (G.2.2.1 o 0) :: rest)) := zr_put (k := 3) (ty := .int) cx hI (k6_0 hc) hS (z6_0 hc S) rfl inlX6 tyX6_ok nmX6 (by decide) hl rfl rfl rfl rfl (Nat.le_of_ble_eq_true rfl) (z6_0 hc _) hμ hdg kk
theorem g6_4 (cx : zCX p R s m args c own cc nL d G) (hI : zIW G s μ H locs) (hc : zc o = 6) (hS : μ o = S) (hl : Cond.fieldLink own index (TX6 4).1 (TX6 4).2.1 (TX6 4).2.2.1 ∈ wsL_law) (hdg : decode cc pc = .ok (.getfield index, 3)) (kk : W p l e R s m args below meth c H locs 0 0 Q (F0 m (pc + 3) ls (.int (S.1 0 4) :: rest))) : W p l e R s m args below meth c H locs 0 0 Q (F0 m pc ls (.ref (G.2.2.1 o 0) :: rest)) := zr_get (k := 4) cx hI (k6_0 hc) hS (z6_0 hc S) rfl inlX6 (by decide) hl rfl hdg kk
theorem p6_4 {x : Int32} (cx : zCX p R s m args c own cc nL d G) (hI : zIW G s μ H locs) (hc : zc o = 6) (hS : μ o = S) (hl : Cond.fieldLink own index (TX6 4).1 (TX6 4).2.1 (TX6 4).2.2.1 ∈ wsL_law) (hμ : zset μ o (zI S 0 4 x) = μ') (hdg : decode cc pc = .ok (.putfield index, 3)) (kk : ∀ (H1 : Heap) (locs1 : List Loc), zIW G s μ' H1 locs1 → W p l e R s m args below meth c H1 locs1 0 0 Q (F0 m (pc + 3) ls rest)) : W p l e R s m args below meth c H locs 0 0 Q (F0 m pc ls (.int x :: .ref (G.2.2.1 o 0) :: rest)) := zr_put (k := 4) (ty := .int) cx hI (k6_0 hc) hS (z6_0 hc S) rfl inlX6 tyX6_ok nmX6 (by decide) hl rfl rfl rfl rfl (Nat.le_of_ble_eq_true rfl) (z6_0 hc _) hμ hdg kk
theorem g6_5 (cx : zCX p R s m args c own cc nL d G) (hI : zIW G s μ H locs) (hc : zc o = 6) (hS : μ o = S) (hl : Cond.fieldLink own index (TX6 5).1 (TX6 5).2.1 (TX6 5).2.2.1 ∈ wsL_law) (hdg : decode cc pc = .ok (.getfield index, 3)) (kk : W p l e R s m args below meth c H locs 0 0 Q (F0 m (pc + 3) ls (.int (S.1 0 5) :: rest))) : W p l e R s m args below meth c H locs 0 0 Q (F0 m pc ls (.ref (G.2.2.1 o 0) :: rest)) := zr_get (k := 5) cx hI (k6_0 hc) hS (z6_0 hc S) rfl inlX6 (by decide) hl rfl hdg kk
theorem p6_5 {x : Int32} (cx : zCX p R s m args c own cc nL d G) (hI : zIW G s μ H locs) (hc : zc o = 6) (hS : μ o = S) (hl : Cond.fieldLink own index (TX6 5).1 (TX6 5).2.1 (TX6 5).2.2.1 ∈ wsL_law) (hμ : zset μ o (zI S 0 5 x) = μ') (hdg : decode cc pc = .ok (.putfield index, 3)) (kk : ∀ (H1 : Heap) (locs1 : List Loc), zIW G s μ' H1 locs1 → W p l e R s m args below meth c H1 locs1 0 0 Q (F0 m (pc + 3) ls rest)) : W p l e R s m args below meth c H locs 0 0 Q (F0 m pc ls (.int x :: .ref (G.2.2.1 o 0) :: rest)) := zr_put (k := 5) (ty := .int) cx hI (k6_0 hc) hS (z6_0 hc S) rfl inlX6 tyX6_ok nmX6 (by decide) hl rfl rfl rfl rfl (Nat.le_of_ble_eq_true rfl) (z6_0 hc _) hμ hdg kk
theorem g6_6 (cx : zCX p R s m args c own cc nL d G) (hI : zIW G s μ H locs) (hc : zc o = 6) (hS : μ o = S) (hl : Cond.fieldLink own index (TX6 6).1 (TX6 6).2.1 (TX6 6).2.2.1 ∈ wsL_law) (hdg : decode cc pc = .ok (.getfield index, 3)) (kk : W p l e R s m args below meth c H locs 0 0 Q (F0 m (pc + 3) ls (.int (S.1 0 6) :: rest))) : W p l e R s m args below meth c H locs 0 0 Q (F0 m pc ls (.ref (G.2.2.1 o 0) :: rest)) := zr_get (k := 6) cx hI (k6_0 hc) hS (z6_0 hc S) rfl inlX6 (by decide) hl rfl hdg kk
theorem p6_6 {x : Int32} (cx : zCX p R s m args c own cc nL d G) (hI : zIW G s μ H locs) (hc : zc o = 6) (hS : μ o = S) (hl : Cond.fieldLink own index (TX6 6).1 (TX6 6).2.1 (TX6 6).2.2.1 ∈ wsL_law) (hμ : zset μ o (zI S 0 6 x) = μ') (hdg : decode cc pc = .ok (.putfield index, 3)) (kk : ∀ (H1 : Heap) (locs1 : List Loc), zIW G s μ' H1 locs1 → W p l e R s m args below meth c H1 locs1 0 0 Q (F0 m (pc + 3) ls rest)) : W p l e R s m args below meth c H locs 0 0 Q (F0 m pc ls (.int x :: .ref (G.2.2.1 o 0) :: rest)) := zr_put (k := 6) (ty := .int) cx hI (k6_0 hc) hS (z6_0 hc S) rfl inlX6 tyX6_ok nmX6 (by decide) hl rfl rfl rfl rfl (Nat.le_of_ble_eq_true rfl) (z6_0 hc _) hμ hdg kk
theorem g6_7 (cx : zCX p R s m args c own cc nL d G) (hI : zIW G s μ H locs) (hc : zc o = 6) (hS : μ o = S) (hl : Cond.fieldLink own index (TX6 7).1 (TX6 7).2.1 (TX6 7).2.2.1 ∈ wsL_law) (hdg : decode cc pc = .ok (.getfield index, 3)) (kk : W p l e R s m args below meth c H locs 0 0 Q (F0 m (pc + 3) ls (.int (S.1 0 7) :: rest))) : W p l e R s m args below meth c H locs 0 0 Q (F0 m pc ls (.ref (G.2.2.1 o 0) :: rest)) := zr_get (k := 7) cx hI (k6_0 hc) hS (z6_0 hc S) rfl inlX6 (by decide) hl rfl hdg kk
theorem p6_7 {x : Int32} (cx : zCX p R s m args c own cc nL d G) (hI : zIW G s μ H locs) (hc : zc o = 6) (hS : μ o = S) (hl : Cond.fieldLink own index (TX6 7).1 (TX6 7).2.1 (TX6 7).2.2.1 ∈ wsL_law) (hμ : zset μ o (zI S 0 7 x) = μ') (hdg : decode cc pc = .ok (.putfield index, 3)) (kk : ∀ (H1 : Heap) (locs1 : List Loc), zIW G s μ' H1 locs1 → W p l e R s m args below meth c H1 locs1 0 0 Q (F0 m (pc + 3) ls rest)) : W p l e R s m args below meth c H locs 0 0 Q (F0 m pc ls (.int x :: .ref (G.2.2.1 o 0) :: rest)) := zr_put (k := 7) (ty := .int) cx hI (k6_0 hc) hS (z6_0 hc S) rfl inlX6 tyX6_ok nmX6 (by decide) hl rfl rfl rfl rfl (Nat.le_of_ble_eq_true rfl) (z6_0 hc _) hμ hdg kk
theorem g6_8 (cx : zCX p R s m args c own cc nL d G) (hI : zIW G s μ H locs) (hc : zc o = 6) (hS : μ o = S) (hl : Cond.fieldLink own index (TX6 8).1 (TX6 8).2.1 (TX6 8).2.2.1 ∈ wsL_law) (hdg : decode cc pc = .ok (.getfield index, 3)) (kk : W p l e R s m args below meth c H locs 0 0 Q (F0 m (pc + 3) ls (.int (S.1 0 8) :: rest))) : W p l e R s m args below meth c H locs 0 0 Q (F0 m pc ls (.ref (G.2.2.1 o 0) :: rest)) := zr_get (k := 8) cx hI (k6_0 hc) hS (z6_0 hc S) rfl inlX6 (by decide) hl rfl hdg kk
theorem p6_8 {x : Int32} (cx : zCX p R s m args c own cc nL d G) (hI : zIW G s μ H locs) (hc : zc o = 6) (hS : μ o = S) (hl : Cond.fieldLink own index (TX6 8).1 (TX6 8).2.1 (TX6 8).2.2.1 ∈ wsL_law) (hμ : zset μ o (zI S 0 8 x) = μ') (hdg : decode cc pc = .ok (.putfield index, 3)) (kk : ∀ (H1 : Heap) (locs1 : List Loc), zIW G s μ' H1 locs1 → W p l e R s m args below meth c H1 locs1 0 0 Q (F0 m (pc + 3) ls rest)) : W p l e R s m args below meth c H locs 0 0 Q (F0 m pc ls (.int x :: .ref (G.2.2.1 o 0) :: rest)) := zr_put (k := 8) (ty := .int) cx hI (k6_0 hc) hS (z6_0 hc S) rfl inlX6 tyX6_ok nmX6 (by decide) hl rfl rfl rfl rfl (Nat.le_of_ble_eq_true rfl) (z6_0 hc _) hμ hdg kk
theorem g7_0 (cx : zCX p R s m args c own cc nL d G) (hI : zIW G s μ H locs) (hc : zc o = 7) (hS : μ o = S) (hl : Cond.fieldLink own index (TX7 0).1 (TX7 0).2.1 (TX7 0).2.2.1 ∈ wsL_law) (hdg : decode cc pc = .ok (.getfield index, 3)) (kk : W p l e R s m args below meth c H locs 0 0 Q (F0 m (pc + 3) ls (.ref (G.2.2.1 0 0) :: rest))) : W p l e R s m args below meth c H locs 0 0 Q (F0 m pc ls (.ref (G.2.2.1 o 0) :: rest)) := zr_get (k := 0) cx hI (k7_0 hc) hS (z7_0 hc S) rfl inlX7 (by decide) hl rfl hdg kk
theorem g7_1 (cx : zCX p R s m args c own cc nL d G) (hI : zIW G s μ H locs) (hc : zc o = 7) (hS : μ o = S) (hl : Cond.fieldLink own index (TX7 1).1 (TX7 1).2.1 (TX7 1).2.2.1 ∈ wsL_law) (hdg : decode cc pc = .ok (.getfield index, 3)) (kk : W p l e R s m args below meth c H locs 0 0 Q (F0 m (pc + 3) ls (.ref (G.2.2.1 1 0) :: rest))) : W p l e R s m args below meth c H locs 0 0 Q (F0 m pc ls (.ref (G.2.2.1 o 0) :: rest)) := zr_get (k := 1) cx hI (k7_0 hc) hS (z7_0 hc S) rfl inlX7 (by decide) hl rfl hdg kk
theorem g7_2 (cx : zCX p R s m args c own cc nL d G) (hI : zIW G s μ H locs) (hc : zc o = 7) (hS : μ o = S) (hl : Cond.fieldLink own index (TX7 2).1 (TX7 2).2.1 (TX7 2).2.2.1 ∈ wsL_law) (hdg : decode cc pc = .ok (.getfield index, 3)) (kk : W p l e R s m args below meth c H locs 0 0 Q (F0 m (pc + 3) ls (.ref (G.2.2.1 16 0) :: rest))) : W p l e R s m args below meth c H locs 0 0 Q (F0 m pc ls (.ref (G.2.2.1 o 0) :: rest)) := zr_get (k := 2) cx hI (k7_0 hc) hS (z7_0 hc S) rfl inlX7 (by decide) hl rfl hdg kk
theorem g7_3 (cx : zCX p R s m args c own cc nL d G) (hI : zIW G s μ H locs) (hc : zc o = 7) (hS : μ o = S) (hl : Cond.fieldLink own index (TX7 3).1 (TX7 3).2.1 (TX7 3).2.2.1 ∈ wsL_law) (hdg : decode cc pc = .ok (.getfield index, 3)) (kk : W p l e R s m args below meth c H locs 0 0 Q (F0 m (pc + 3) ls (.ref (G.2.2.1 2 0) :: rest))) : W p l e R s m args below meth c H locs 0 0 Q (F0 m pc ls (.ref (G.2.2.1 o 0) :: rest)) := zr_get (k := 3) cx hI (k7_0 hc) hS (z7_0 hc S) rfl inlX7 (by decide) hl rfl hdg kk
theorem g7_4 (cx : zCX p R s m args c own cc nL d G) (hI : zIW G s μ H locs) (hc : zc o = 7) (hS : μ o = S) (hl : Cond.fieldLink own index (TX7 4).1 (TX7 4).2.1 (TX7 4).2.2.1 ∈ wsL_law) (hdg : decode cc pc = .ok (.getfield index, 3)) (kk : W p l e R s m args below meth c H locs 0 0 Q (F0 m (pc + 3) ls (.ref (G.2.2.1 17 0) :: rest))) : W p l e R s m args below meth c H locs 0 0 Q (F0 m pc ls (.ref (G.2.2.1 o 0) :: rest)) := zr_get (k := 4) cx hI (k7_0 hc) hS (z7_0 hc S) rfl inlX7 (by decide) hl rfl hdg kk
theorem g7_5 (cx : zCX p R s m args c own cc nL d G) (hI : zIW G s μ H locs) (hc : zc o = 7) (hS : μ o = S) (hl : Cond.fieldLink own index (TX7 5).1 (TX7 5).2.1 (TX7 5).2.2.1 ∈ wsL_law) (hdg : decode cc pc = .ok (.getfield index, 3)) (kk : W p l e R s m args below meth c H locs 0 0 Q (F0 m (pc + 3) ls (.int (S.1 0 5) :: rest))) : W p l e R s m args below meth c H locs 0 0 Q (F0 m pc ls (.ref (G.2.2.1 o 0) :: rest)) := zr_get (k := 5) cx hI (k7_0 hc) hS (z7_0 hc S) rfl inlX7 (by decide) hl rfl hdg kk
theorem p7_5 {x : Int32} (cx : zCX p R s m args c own cc nL d G) (hI : zIW G s μ H locs) (hc : zc o = 7) (hS : μ o = S) (hb : narrow .boolean (.int x) = .int x) (hf : fits .boolean (.int x) = true) (hl : Cond.fieldLink own index (TX7 5).1 (TX7 5).2.1 (TX7 5).2.2.1 ∈ wsL_law) (hμ : zset μ o (zI S 0 5 x) = μ') (hdg : decode cc pc = .ok (.putfield index, 3)) (kk : ∀ (H1 : Heap) (locs1 : List Loc), zIW G s μ' H1 locs1 → W p l e R s m args below meth c H1 locs1 0 0 Q (F0 m (pc + 3) ls rest)) : W p l e R s m args below meth c H locs 0 0 Q (F0 m pc ls (.int x :: .ref (G.2.2.1 o 0) :: rest)) := zr_put (k := 5) (ty := .boolean) cx hI (k7_0 hc) hS (z7_0 hc S) rfl inlX7 tyX7_ok nmX7 (by decide) hl rfl rfl hb hf (Nat.le_of_ble_eq_true rfl) (z7_0 hc _) hμ hdg kk
theorem g7_6 (cx : zCX p R s m args c own cc nL d G) (hI : zIW G s μ H locs) (hc : zc o = 7) (hS : μ o = S) (hl : Cond.fieldLink own index (TX7 6).1 (TX7 6).2.1 (TX7 6).2.2.1 ∈ wsL_law) (hdg : decode cc pc = .ok (.getfield index, 3)) (kk : W p l e R s m args below meth c H locs 0 0 Q (F0 m (pc + 3) ls (.ref (G.2.2.1 20 0) :: rest))) : W p l e R s m args below meth c H locs 0 0 Q (F0 m pc ls (.ref (G.2.2.1 o 0) :: rest)) := zr_get (k := 6) cx hI (k7_0 hc) hS (z7_0 hc S) rfl inlX7 (by decide) hl rfl hdg kk
theorem g7_7 (cx : zCX p R s m args c own cc nL d G) (hI : zIW G s μ H locs) (hc : zc o = 7) (hS : μ o = S) (hl : Cond.fieldLink own index (TX7 7).1 (TX7 7).2.1 (TX7 7).2.2.1 ∈ wsL_law) (hdg : decode cc pc = .ok (.getfield index, 3)) (kk : W p l e R s m args below meth c H locs 0 0 Q (F0 m (pc + 3) ls (.ref (G.2.2.1 18 0) :: rest))) : W p l e R s m args below meth c H locs 0 0 Q (F0 m pc ls (.ref (G.2.2.1 o 0) :: rest)) := zr_get (k := 7) cx hI (k7_0 hc) hS (z7_0 hc S) rfl inlX7 (by decide) hl rfl hdg kk
theorem g7_8 (cx : zCX p R s m args c own cc nL d G) (hI : zIW G s μ H locs) (hc : zc o = 7) (hS : μ o = S) (hl : Cond.fieldLink own index (TX7 8).1 (TX7 8).2.1 (TX7 8).2.2.1 ∈ wsL_law) (hdg : decode cc pc = .ok (.getfield index, 3)) (kk : W p l e R s m args below meth c H locs 0 0 Q (F0 m (pc + 3) ls (.ref (G.2.2.1 21 0) :: rest))) : W p l e R s m args below meth c H locs 0 0 Q (F0 m pc ls (.ref (G.2.2.1 o 0) :: rest)) := zr_get (k := 8) cx hI (k7_0 hc) hS (z7_0 hc S) rfl inlX7 (by decide) hl rfl hdg kk
theorem g7_9 (cx : zCX p R s m args c own cc nL d G) (hI : zIW G s μ H locs) (hc : zc o = 7) (hS : μ o = S) (hl : Cond.fieldLink own index (TX7 9).1 (TX7 9).2.1 (TX7 9).2.2.1 ∈ wsL_law) (hdg : decode cc pc = .ok (.getfield index, 3)) (kk : W p l e R s m args below meth c H locs 0 0 Q (F0 m (pc + 3) ls (.ref (G.2.2.1 23 0) :: rest))) : W p l e R s m args below meth c H locs 0 0 Q (F0 m pc ls (.ref (G.2.2.1 o 0) :: rest)) := zr_get (k := 9) cx hI (k7_0 hc) hS (z7_0 hc S) rfl inlX7 (by decide) hl rfl hdg kk
theorem g7_10 (cx : zCX p R s m args c own cc nL d G) (hI : zIW G s μ H locs) (hc : zc o = 7) (hS : μ o = S) (hl : Cond.fieldLink own index (TX7 10).1 (TX7 10).2.1 (TX7 10).2.2.1 ∈ wsL_law) (hdg : decode cc pc = .ok (.getfield index, 3)) (kk : W p l e R s m args below meth c H locs 0 0 Q (F0 m (pc + 3) ls (.ref (G.2.2.1 o 11) :: rest))) : W p l e R s m args below meth c H locs 0 0 Q (F0 m pc ls (.ref (G.2.2.1 o 0) :: rest)) := zr_get (k := 10) cx hI (k7_0 hc) hS (z7_0 hc S) rfl inlX7 (by decide) hl rfl hdg kk
theorem g8_0 (cx : zCX p R s m args c own cc nL d G) (hI : zIW G s μ H locs) (hc : o = 29) (hS : μ o = S) (hl : Cond.fieldLink own index (TX8 0).1 (TX8 0).2.1 (TX8 0).2.2.1 ∈ wsL_law) (hdg : decode cc pc = .ok (.getfield index, 3)) (kk : W p l e R s m args below meth c H locs 0 0 Q (F0 m (pc + 3) ls (.ref (G.2.2.1 o 1) :: rest))) : W p l e R s m args below meth c H locs 0 0 Q (F0 m pc ls (.ref (G.2.2.1 o 0) :: rest)) := zr_get (k := 0) cx hI (k8_0 hc) hS (z8_0 hc S) rfl inlX8 (by decide) hl rfl hdg kk
theorem g8_1 (cx : zCX p R s m args c own cc nL d G) (hI : zIW G s μ H locs) (hc : o = 29) (hS : μ o = S) (hl : Cond.fieldLink own index (TX8 1).1 (TX8 1).2.1 (TX8 1).2.2.1 ∈ wsL_law) (hdg : decode cc pc = .ok (.getfield index, 3)) (kk : W p l e R s m args below meth c H locs 0 0 Q (F0 m (pc + 3) ls (.ref (G.2.2.1 o 2) :: rest))) : W p l e R s m args below meth c H locs 0 0 Q (F0 m pc ls (.ref (G.2.2.1 o 0) :: rest)) := zr_get (k := 1) cx hI (k8_0 hc) hS (z8_0 hc S) rfl inlX8 (by decide) hl rfl hdg kk
theorem g8_2 (cx : zCX p R s m args c own cc nL d G) (hI : zIW G s μ H locs) (hc : o = 29) (hS : μ o = S) (hl : Cond.fieldLink own index (TX8 2).1 (TX8 2).2.1 (TX8 2).2.2.1 ∈ wsL_law) (hdg : decode cc pc = .ok (.getfield index, 3)) (kk : W p l e R s m args below meth c H locs 0 0 Q (F0 m (pc + 3) ls (.int (S.1 0 2) :: rest))) : W p l e R s m args below meth c H locs 0 0 Q (F0 m pc ls (.ref (G.2.2.1 o 0) :: rest)) := zr_get (k := 2) cx hI (k8_0 hc) hS (z8_0 hc S) rfl inlX8 (by decide) hl rfl hdg kk
theorem p8_2 {x : Int32} (cx : zCX p R s m args c own cc nL d G) (hI : zIW G s μ H locs) (hc : o = 29) (hS : μ o = S) (hl : Cond.fieldLink own index (TX8 2).1 (TX8 2).2.1 (TX8 2).2.2.1 ∈ wsL_law) (hμ : zset μ o (zI S 0 2 x) = μ') (hdg : decode cc pc = .ok (.putfield index, 3)) (kk : ∀ (H1 : Heap) (locs1 : List Loc), zIW G s μ' H1 locs1 → W p l e R s m args below meth c H1 locs1 0 0 Q (F0 m (pc + 3) ls rest)) : W p l e R s m args below meth c H locs 0 0 Q (F0 m pc ls (.int x :: .ref (G.2.2.1 o 0) :: rest)) := zr_put (k := 2) (ty := .int) cx hI (k8_0 hc) hS (z8_0 hc S) rfl inlX8 tyX8_ok nmX8 (by decide) hl rfl rfl rfl rfl (Nat.le_of_ble_eq_true rfl) (z8_0 hc _) hμ hdg kk
theorem g8_3 (cx : zCX p R s m args c own cc nL d G) (hI : zIW G s μ H locs) (hc : o = 29) (hS : μ o = S) (hl : Cond.fieldLink own index (TX8 3).1 (TX8 3).2.1 (TX8 3).2.2.1 ∈ wsL_law) (hdg : decode cc pc = .ok (.getfield index, 3)) (kk : W p l e R s m args below meth c H locs 0 0 Q (F0 m (pc + 3) ls (.ref (G.2.2.1 o 4) :: rest))) : W p l e R s m args below meth c H locs 0 0 Q (F0 m pc ls (.ref (G.2.2.1 o 0) :: rest)) := zr_get (k := 3) cx hI (k8_0 hc) hS (z8_0 hc S) rfl inlX8 (by decide) hl rfl hdg kk
theorem g8_4 (cx : zCX p R s m args c own cc nL d G) (hI : zIW G s μ H locs) (hc : o = 29) (hS : μ o = S) (hl : Cond.fieldLink own index (TX8 4).1 (TX8 4).2.1 (TX8 4).2.2.1 ∈ wsL_law) (hdg : decode cc pc = .ok (.getfield index, 3)) (kk : W p l e R s m args below meth c H locs 0 0 Q (F0 m (pc + 3) ls (.ref (G.2.2.1 o 5) :: rest))) : W p l e R s m args below meth c H locs 0 0 Q (F0 m pc ls (.ref (G.2.2.1 o 0) :: rest)) := zr_get (k := 4) cx hI (k8_0 hc) hS (z8_0 hc S) rfl inlX8 (by decide) hl rfl hdg kk
theorem g8_5 (cx : zCX p R s m args c own cc nL d G) (hI : zIW G s μ H locs) (hc : o = 29) (hS : μ o = S) (hl : Cond.fieldLink own index (TX8 5).1 (TX8 5).2.1 (TX8 5).2.2.1 ∈ wsL_law) (hdg : decode cc pc = .ok (.getfield index, 3)) (kk : W p l e R s m args below meth c H locs 0 0 Q (F0 m (pc + 3) ls (.int (S.1 0 5) :: rest))) : W p l e R s m args below meth c H locs 0 0 Q (F0 m pc ls (.ref (G.2.2.1 o 0) :: rest)) := zr_get (k := 5) cx hI (k8_0 hc) hS (z8_0 hc S) rfl inlX8 (by decide) hl rfl hdg kk
theorem p8_5 {x : Int32} (cx : zCX p R s m args c own cc nL d G) (hI : zIW G s μ H locs) (hc : o = 29) (hS : μ o = S) (hl : Cond.fieldLink own index (TX8 5).1 (TX8 5).2.1 (TX8 5).2.2.1 ∈ wsL_law) (hμ : zset μ o (zI S 0 5 x) = μ') (hdg : decode cc pc = .ok (.putfield index, 3)) (kk : ∀ (H1 : Heap) (locs1 : List Loc), zIW G s μ' H1 locs1 → W p l e R s m args below meth c H1 locs1 0 0 Q (F0 m (pc + 3) ls rest)) : W p l e R s m args below meth c H locs 0 0 Q (F0 m pc ls (.int x :: .ref (G.2.2.1 o 0) :: rest)) := zr_put (k := 5) (ty := .int) cx hI (k8_0 hc) hS (z8_0 hc S) rfl inlX8 tyX8_ok nmX8 (by decide) hl rfl rfl rfl rfl (Nat.le_of_ble_eq_true rfl) (z8_0 hc _) hμ hdg kk
theorem g8_6 (cx : zCX p R s m args c own cc nL d G) (hI : zIW G s μ H locs) (hc : o = 29) (hS : μ o = S) (hl : Cond.fieldLink own index (TX8 6).1 (TX8 6).2.1 (TX8 6).2.2.1 ∈ wsL_law) (hdg : decode cc pc = .ok (.getfield index, 3)) (kk : W p l e R s m args below meth c H locs 0 0 Q (F0 m (pc + 3) ls (.ref (G.2.2.1 o 7) :: rest))) : W p l e R s m args below meth c H locs 0 0 Q (F0 m pc ls (.ref (G.2.2.1 o 0) :: rest)) := zr_get (k := 6) cx hI (k8_0 hc) hS (z8_0 hc S) rfl inlX8 (by decide) hl rfl hdg kk
theorem g8_7 (cx : zCX p R s m args c own cc nL d G) (hI : zIW G s μ H locs) (hc : o = 29) (hS : μ o = S) (hl : Cond.fieldLink own index (TX8 7).1 (TX8 7).2.1 (TX8 7).2.2.1 ∈ wsL_law) (hdg : decode cc pc = .ok (.getfield index, 3)) (kk : W p l e R s m args below meth c H locs 0 0 Q (F0 m (pc + 3) ls (.int (S.1 0 7) :: rest))) : W p l e R s m args below meth c H locs 0 0 Q (F0 m pc ls (.ref (G.2.2.1 o 0) :: rest)) := zr_get (k := 7) cx hI (k8_0 hc) hS (z8_0 hc S) rfl inlX8 (by decide) hl rfl hdg kk
theorem p8_7 {x : Int32} (cx : zCX p R s m args c own cc nL d G) (hI : zIW G s μ H locs) (hc : o = 29) (hS : μ o = S) (hl : Cond.fieldLink own index (TX8 7).1 (TX8 7).2.1 (TX8 7).2.2.1 ∈ wsL_law) (hμ : zset μ o (zI S 0 7 x) = μ') (hdg : decode cc pc = .ok (.putfield index, 3)) (kk : ∀ (H1 : Heap) (locs1 : List Loc), zIW G s μ' H1 locs1 → W p l e R s m args below meth c H1 locs1 0 0 Q (F0 m (pc + 3) ls rest)) : W p l e R s m args below meth c H locs 0 0 Q (F0 m pc ls (.int x :: .ref (G.2.2.1 o 0) :: rest)) := zr_put (k := 7) (ty := .int) cx hI (k8_0 hc) hS (z8_0 hc S) rfl inlX8 tyX8_ok nmX8 (by decide) hl rfl rfl rfl rfl (Nat.le_of_ble_eq_true rfl) (z8_0 hc _) hμ hdg kk
theorem g8_8 (cx : zCX p R s m args c own cc nL d G) (hI : zIW G s μ H locs) (hc : o = 29) (hS : μ o = S) (hl : Cond.fieldLink own index (TX8 8).1 (TX8 8).2.1 (TX8 8).2.2.1 ∈ wsL_law) (hdg : decode cc pc = .ok (.getfield index, 3)) (kk : W p l e R s m args below meth c H locs 0 0 Q (F0 m (pc + 3) ls (.ref (G.2.2.1 o 9) :: rest))) : W p l e R s m args below meth c H locs 0 0 Q (F0 m pc ls (.ref (G.2.2.1 o 0) :: rest)) := zr_get (k := 8) cx hI (k8_0 hc) hS (z8_0 hc S) rfl inlX8 (by decide) hl rfl hdg kk
theorem g8_9 (cx : zCX p R s m args c own cc nL d G) (hI : zIW G s μ H locs) (hc : o = 29) (hS : μ o = S) (hl : Cond.fieldLink own index (TX8 9).1 (TX8 9).2.1 (TX8 9).2.2.1 ∈ wsL_law) (hdg : decode cc pc = .ok (.getfield index, 3)) (kk : W p l e R s m args below meth c H locs 0 0 Q (F0 m (pc + 3) ls (.ref (G.2.2.1 o 10) :: rest))) : W p l e R s m args below meth c H locs 0 0 Q (F0 m pc ls (.ref (G.2.2.1 o 0) :: rest)) := zr_get (k := 9) cx hI (k8_0 hc) hS (z8_0 hc S) rfl inlX8 (by decide) hl rfl hdg kk
theorem g8_10 (cx : zCX p R s m args c own cc nL d G) (hI : zIW G s μ H locs) (hc : o = 29) (hS : μ o = S) (hl : Cond.fieldLink own index (TX8 10).1 (TX8 10).2.1 (TX8 10).2.2.1 ∈ wsL_law) (hdg : decode cc pc = .ok (.getfield index, 3)) (kk : W p l e R s m args below meth c H locs 0 0 Q (F0 m (pc + 3) ls (.ref (G.2.2.1 o 11) :: rest))) : W p l e R s m args below meth c H locs 0 0 Q (F0 m pc ls (.ref (G.2.2.1 o 0) :: rest)) := zr_get (k := 10) cx hI (k8_0 hc) hS (z8_0 hc S) rfl inlX8 (by decide) hl rfl hdg kk
theorem g8_11 (cx : zCX p R s m args c own cc nL d G) (hI : zIW G s μ H locs) (hc : o = 29) (hS : μ o = S) (hl : Cond.fieldLink own index (TX8 11).1 (TX8 11).2.1 (TX8 11).2.2.1 ∈ wsL_law) (hdg : decode cc pc = .ok (.getfield index, 3)) (kk : W p l e R s m args below meth c H locs 0 0 Q (F0 m (pc + 3) ls (.ref (G.2.2.1 o 12) :: rest))) : W p l e R s m args below meth c H locs 0 0 Q (F0 m pc ls (.ref (G.2.2.1 o 0) :: rest)) := zr_get (k := 11) cx hI (k8_0 hc) hS (z8_0 hc S) rfl inlX8 (by decide) hl rfl hdg kk
theorem g8_12 (cx : zCX p R s m args c own cc nL d G) (hI : zIW G s μ H locs) (hc : o = 29) (hS : μ o = S) (hl : Cond.fieldLink own index (TX8 12).1 (TX8 12).2.1 (TX8 12).2.2.1 ∈ wsL_law) (hdg : decode cc pc = .ok (.getfield index, 3)) (kk : W p l e R s m args below meth c H locs 0 0 Q (F0 m (pc + 3) ls (.ref (G.2.2.1 o 13) :: rest))) : W p l e R s m args below meth c H locs 0 0 Q (F0 m pc ls (.ref (G.2.2.1 o 0) :: rest)) := zr_get (k := 12) cx hI (k8_0 hc) hS (z8_0 hc S) rfl inlX8 (by decide) hl rfl hdg kk
theorem g8_13 (cx : zCX p R s m args c own cc nL d G) (hI : zIW G s μ H locs) (hc : o = 29) (hS : μ o = S) (hl : Cond.fieldLink own index (TX8 13).1 (TX8 13).2.1 (TX8 13).2.2.1 ∈ wsL_law) (hdg : decode cc pc = .ok (.getfield index, 3)) (kk : W p l e R s m args below meth c H locs 0 0 Q (F0 m (pc + 3) ls (.ref (G.2.2.1 o 14) :: rest))) : W p l e R s m args below meth c H locs 0 0 Q (F0 m pc ls (.ref (G.2.2.1 o 0) :: rest)) := zr_get (k := 13) cx hI (k8_0 hc) hS (z8_0 hc S) rfl inlX8 (by decide) hl rfl hdg kk
theorem g8_14 (cx : zCX p R s m args c own cc nL d G) (hI : zIW G s μ H locs) (hc : o = 29) (hS : μ o = S) (hl : Cond.fieldLink own index (TX8 14).1 (TX8 14).2.1 (TX8 14).2.2.1 ∈ wsL_law) (hdg : decode cc pc = .ok (.getfield index, 3)) (kk : W p l e R s m args below meth c H locs 0 0 Q (F0 m (pc + 3) ls (.ref (G.2.2.1 o 15) :: rest))) : W p l e R s m args below meth c H locs 0 0 Q (F0 m pc ls (.ref (G.2.2.1 o 0) :: rest)) := zr_get (k := 14) cx hI (k8_0 hc) hS (z8_0 hc S) rfl inlX8 (by decide) hl rfl hdg kk
theorem g8_15 (cx : zCX p R s m args c own cc nL d G) (hI : zIW G s μ H locs) (hc : o = 29) (hS : μ o = S) (hl : Cond.fieldLink own index (TX8 15).1 (TX8 15).2.1 (TX8 15).2.2.1 ∈ wsL_law) (hdg : decode cc pc = .ok (.getfield index, 3)) (kk : W p l e R s m args below meth c H locs 0 0 Q (F0 m (pc + 3) ls (.ref (G.2.2.1 o 16) :: rest))) : W p l e R s m args below meth c H locs 0 0 Q (F0 m pc ls (.ref (G.2.2.1 o 0) :: rest)) := zr_get (k := 15) cx hI (k8_0 hc) hS (z8_0 hc S) rfl inlX8 (by decide) hl rfl hdg kk
theorem g8_16 (cx : zCX p R s m args c own cc nL d G) (hI : zIW G s μ H locs) (hc : o = 29) (hS : μ o = S) (hl : Cond.fieldLink own index (TX8 16).1 (TX8 16).2.1 (TX8 16).2.2.1 ∈ wsL_law) (hdg : decode cc pc = .ok (.getfield index, 3)) (kk : W p l e R s m args below meth c H locs 0 0 Q (F0 m (pc + 3) ls (.ref (G.2.2.1 o 17) :: rest))) : W p l e R s m args below meth c H locs 0 0 Q (F0 m pc ls (.ref (G.2.2.1 o 0) :: rest)) := zr_get (k := 16) cx hI (k8_0 hc) hS (z8_0 hc S) rfl inlX8 (by decide) hl rfl hdg kk
theorem g8_17 (cx : zCX p R s m args c own cc nL d G) (hI : zIW G s μ H locs) (hc : o = 29) (hS : μ o = S) (hl : Cond.fieldLink own index (TX8 17).1 (TX8 17).2.1 (TX8 17).2.2.1 ∈ wsL_law) (hdg : decode cc pc = .ok (.getfield index, 3)) (kk : W p l e R s m args below meth c H locs 0 0 Q (F0 m (pc + 3) ls (.ref (G.2.2.1 o 18) :: rest))) : W p l e R s m args below meth c H locs 0 0 Q (F0 m pc ls (.ref (G.2.2.1 o 0) :: rest)) := zr_get (k := 17) cx hI (k8_0 hc) hS (z8_0 hc S) rfl inlX8 (by decide) hl rfl hdg kk
theorem g8_18 (cx : zCX p R s m args c own cc nL d G) (hI : zIW G s μ H locs) (hc : o = 29) (hS : μ o = S) (hl : Cond.fieldLink own index (TX8 18).1 (TX8 18).2.1 (TX8 18).2.2.1 ∈ wsL_law) (hdg : decode cc pc = .ok (.getfield index, 3)) (kk : W p l e R s m args below meth c H locs 0 0 Q (F0 m (pc + 3) ls (.ref (G.2.2.1 o 19) :: rest))) : W p l e R s m args below meth c H locs 0 0 Q (F0 m pc ls (.ref (G.2.2.1 o 0) :: rest)) := zr_get (k := 18) cx hI (k8_0 hc) hS (z8_0 hc S) rfl inlX8 (by decide) hl rfl hdg kk
theorem g8_19 (cx : zCX p R s m args c own cc nL d G) (hI : zIW G s μ H locs) (hc : o = 29) (hS : μ o = S) (hl : Cond.fieldLink own index (TX8 19).1 (TX8 19).2.1 (TX8 19).2.2.1 ∈ wsL_law) (hdg : decode cc pc = .ok (.getfield index, 3)) (kk : W p l e R s m args below meth c H locs 0 0 Q (F0 m (pc + 3) ls (.int (S.1 0 19) :: rest))) : W p l e R s m args below meth c H locs 0 0 Q (F0 m pc ls (.ref (G.2.2.1 o 0) :: rest)) := zr_get (k := 19) cx hI (k8_0 hc) hS (z8_0 hc S) rfl inlX8 (by decide) hl rfl hdg kk
theorem p8_19 {x : Int32} (cx : zCX p R s m args c own cc nL d G) (hI : zIW G s μ H locs) (hc : o = 29) (hS : μ o = S) (hl : Cond.fieldLink own index (TX8 19).1 (TX8 19).2.1 (TX8 19).2.2.1 ∈ wsL_law) (hμ : zset μ o (zI S 0 19 x) = μ') (hdg : decode cc pc = .ok (.putfield index, 3)) (kk : ∀ (H1 : Heap) (locs1 : List Loc), zIW G s μ' H1 locs1 → W p l e R s m args below meth c H1 locs1 0 0 Q (F0 m (pc + 3) ls rest)) : W p l e R s m args below meth c H locs 0 0 Q (F0 m pc ls (.int x :: .ref (G.2.2.1 o 0) :: rest)) := zr_put (k := 19) (ty := .int) cx hI (k8_0 hc) hS (z8_0 hc S) rfl inlX8 tyX8_ok nmX8 (by decide) hl rfl rfl rfl rfl (Nat.le_of_ble_eq_true rfl) (z8_0 hc _) hμ hdg kk
theorem g8_20 (cx : zCX p R s m args c own cc nL d G) (hI : zIW G s μ H locs) (hc : o = 29) (hS : μ o = S) (hl : Cond.fieldLink own index (TX8 20).1 (TX8 20).2.1 (TX8 20).2.2.1 ∈ wsL_law) (hdg : decode cc pc = .ok (.getfield index, 3)) (kk : W p l e R s m args below meth c H locs 0 0 Q (F0 m (pc + 3) ls (.int (S.1 0 20) :: rest))) : W p l e R s m args below meth c H locs 0 0 Q (F0 m pc ls (.ref (G.2.2.1 o 0) :: rest)) := zr_get (k := 20) cx hI (k8_0 hc) hS (z8_0 hc S) rfl inlX8 (by decide) hl rfl hdg kk
theorem p8_20 {x : Int32} (cx : zCX p R s m args c own cc nL d G) (hI : zIW G s μ H locs) (hc : o = 29) (hS : μ o = S) (hl : Cond.fieldLink own index (TX8 20).1 (TX8 20).2.1 (TX8 20).2.2.1 ∈ wsL_law) (hμ : zset μ o (zI S 0 20 x) = μ') (hdg : decode cc pc = .ok (.putfield index, 3)) (kk : ∀ (H1 : Heap) (locs1 : List Loc), zIW G s μ' H1 locs1 → W p l e R s m args below meth c H1 locs1 0 0 Q (F0 m (pc + 3) ls rest)) : W p l e R s m args below meth c H locs 0 0 Q (F0 m pc ls (.int x :: .ref (G.2.2.1 o 0) :: rest)) := zr_put (k := 20) (ty := .int) cx hI (k8_0 hc) hS (z8_0 hc S) rfl inlX8 tyX8_ok nmX8 (by decide) hl rfl rfl rfl rfl (Nat.le_of_ble_eq_true rfl) (z8_0 hc _) hμ hdg kk
theorem g8_21 (cx : zCX p R s m args c own cc nL d G) (hI : zIW G s μ H locs) (hc : o = 29) (hS : μ o = S) (hl : Cond.fieldLink own index (TX8 21).1 (TX8 21).2.1 (TX8 21).2.2.1 ∈ wsL_law) (hdg : decode cc pc = .ok (.getfield index, 3)) (kk : W p l e R s m args below meth c H locs 0 0 Q (F0 m (pc + 3) ls (.int (S.1 0 21) :: rest))) : W p l e R s m args below meth c H locs 0 0 Q (F0 m pc ls (.ref (G.2.2.1 o 0) :: rest)) := zr_get (k := 21) cx hI (k8_0 hc) hS (z8_0 hc S) rfl inlX8 (by decide) hl rfl hdg kk
theorem p8_21 {x : Int32} (cx : zCX p R s m args c own cc nL d G) (hI : zIW G s μ H locs) (hc : o = 29) (hS : μ o = S) (hl : Cond.fieldLink own index (TX8 21).1 (TX8 21).2.1 (TX8 21).2.2.1 ∈ wsL_law) (hμ : zset μ o (zI S 0 21 x) = μ') (hdg : decode cc pc = .ok (.putfield index, 3)) (kk : ∀ (H1 : Heap) (locs1 : List Loc), zIW G s μ' H1 locs1 → W p l e R s m args below meth c H1 locs1 0 0 Q (F0 m (pc + 3) ls rest)) : W p l e R s m args below meth c H locs 0 0 Q (F0 m pc ls (.int x :: .ref (G.2.2.1 o 0) :: rest)) := zr_put (k := 21) (ty := .int) cx hI (k8_0 hc) hS (z8_0 hc S) rfl inlX8 tyX8_ok nmX8 (by decide) hl rfl rfl rfl rfl (Nat.le_of_ble_eq_true rfl) (z8_0 hc _) hμ hdg kk
theorem g8_22 (cx : zCX p R s m args c own cc nL d G) (hI : zIW G s μ H locs) (hc : o = 29) (hS : μ o = S) (hl : Cond.fieldLink own index (TX8 22).1 (TX8 22).2.1 (TX8 22).2.2.1 ∈ wsL_law) (hdg : decode cc pc = .ok (.getfield index, 3)) (kk : W p l e R s m args below meth c H locs 0 0 Q (F0 m (pc + 3) ls (.ref (G.2.2.1 o 23) :: rest))) : W p l e R s m args below meth c H locs 0 0 Q (F0 m pc ls (.ref (G.2.2.1 o 0) :: rest)) := zr_get (k := 22) cx hI (k8_0 hc) hS (z8_0 hc S) rfl inlX8 (by decide) hl rfl hdg kk
theorem g8_23 (cx : zCX p R s m args c own cc nL d G) (hI : zIW G s μ H locs) (hc : o = 29) (hS : μ o = S) (hl : Cond.fieldLink own index (TX8 23).1 (TX8 23).2.1 (TX8 23).2.2.1 ∈ wsL_law) (hdg : decode cc pc = .ok (.getfield index, 3)) (kk : W p l e R s m args below meth c H locs 0 0 Q (F0 m (pc + 3) ls (.int (S.1 0 23) :: rest))) : W p l e R s m args below meth c H locs 0 0 Q (F0 m pc ls (.ref (G.2.2.1 o 0) :: rest)) := zr_get (k := 23) cx hI (k8_0 hc) hS (z8_0 hc S) rfl inlX8 (by decide) hl rfl hdg kk
theorem p8_23 {x : Int32} (cx : zCX p R s m args c own cc nL d G) (hI : zIW G s μ H locs) (hc : o = 29) (hS : μ o = S) (hl : Cond.fieldLink own index (TX8 23).1 (TX8 23).2.1 (TX8 23).2.2.1 ∈ wsL_law) (hμ : zset μ o (zI S 0 23 x) = μ') (hdg : decode cc pc = .ok (.putfield index, 3)) (kk : ∀ (H1 : Heap) (locs1 : List Loc), zIW G s μ' H1 locs1 → W p l e R s m args below meth c H1 locs1 0 0 Q (F0 m (pc + 3) ls rest)) : W p l e R s m args below meth c H locs 0 0 Q (F0 m pc ls (.int x :: .ref (G.2.2.1 o 0) :: rest)) := zr_put (k := 23) (ty := .int) cx hI (k8_0 hc) hS (z8_0 hc S) rfl inlX8 tyX8_ok nmX8 (by decide) hl rfl rfl rfl rfl (Nat.le_of_ble_eq_true rfl) (z8_0 hc _) hμ hdg kk
theorem g8_24 (cx : zCX p R s m args c own cc nL d G) (hI : zIW G s μ H locs) (hc : o = 29) (hS : μ o = S) (hl : Cond.fieldLink own index (TX8 24).1 (TX8 24).2.1 (TX8 24).2.2.1 ∈ wsL_law) (hdg : decode cc pc = .ok (.getfield index, 3)) (kk : W p l e R s m args below meth c H locs 0 0 Q (F0 m (pc + 3) ls (.ref (G.2.2.1 o 25) :: rest))) : W p l e R s m args below meth c H locs 0 0 Q (F0 m pc ls (.ref (G.2.2.1 o 0) :: rest)) := zr_get (k := 24) cx hI (k8_0 hc) hS (z8_0 hc S) rfl inlX8 (by decide) hl rfl hdg kk
theorem g8_25 (cx : zCX p R s m args c own cc nL d G) (hI : zIW G s μ H locs) (hc : o = 29) (hS : μ o = S) (hl : Cond.fieldLink own index (TX8 25).1 (TX8 25).2.1 (TX8 25).2.2.1 ∈ wsL_law) (hdg : decode cc pc = .ok (.getfield index, 3)) (kk : W p l e R s m args below meth c H locs 0 0 Q (F0 m (pc + 3) ls (.int (S.1 0 25) :: rest))) : W p l e R s m args below meth c H locs 0 0 Q (F0 m pc ls (.ref (G.2.2.1 o 0) :: rest)) := zr_get (k := 25) cx hI (k8_0 hc) hS (z8_0 hc S) rfl inlX8 (by decide) hl rfl hdg kk
theorem p8_25 {x : Int32} (cx : zCX p R s m args c own cc nL d G) (hI : zIW G s μ H locs) (hc : o = 29) (hS : μ o = S) (hl : Cond.fieldLink own index (TX8 25).1 (TX8 25).2.1 (TX8 25).2.2.1 ∈ wsL_law) (hμ : zset μ o (zI S 0 25 x) = μ') (hdg : decode cc pc = .ok (.putfield index, 3)) (kk : ∀ (H1 : Heap) (locs1 : List Loc), zIW G s μ' H1 locs1 → W p l e R s m args below meth c H1 locs1 0 0 Q (F0 m (pc + 3) ls rest)) : W p l e R s m args below meth c H locs 0 0 Q (F0 m pc ls (.int x :: .ref (G.2.2.1 o 0) :: rest)) := zr_put (k := 25) (ty := .int) cx hI (k8_0 hc) hS (z8_0 hc S) rfl inlX8 tyX8_ok nmX8 (by decide) hl rfl rfl rfl rfl (Nat.le_of_ble_eq_true rfl) (z8_0 hc _) hμ hdg kk
theorem g8_26 (cx : zCX p R s m args c own cc nL d G) (hI : zIW G s μ H locs) (hc : o = 29) (hS : μ o = S) (hl : Cond.fieldLink own index (TX8 26).1 (TX8 26).2.1 (TX8 26).2.2.1 ∈ wsL_law) (hdg : decode cc pc = .ok (.getfield index, 3)) (kk : W p l e R s m args below meth c H locs 0 0 Q (F0 m (pc + 3) ls (.int (S.1 0 26) :: rest))) : W p l e R s m args below meth c H locs 0 0 Q (F0 m pc ls (.ref (G.2.2.1 o 0) :: rest)) := zr_get (k := 26) cx hI (k8_0 hc) hS (z8_0 hc S) rfl inlX8 (by decide) hl rfl hdg kk
theorem p8_26 {x : Int32} (cx : zCX p R s m args c own cc nL d G) (hI : zIW G s μ H locs) (hc : o = 29) (hS : μ o = S) (hl : Cond.fieldLink own index (TX8 26).1 (TX8 26).2.1 (TX8 26).2.2.1 ∈ wsL_law) (hμ : zset μ o (zI S 0 26 x) = μ') (hdg : decode cc pc = .ok (.putfield index, 3)) (kk : ∀ (H1 : Heap) (locs1 : List Loc), zIW G s μ' H1 locs1 → W p l e R s m args below meth c H1 locs1 0 0 Q (F0 m (pc + 3) ls rest)) : W p l e R s m args below meth c H locs 0 0 Q (F0 m pc ls (.int x :: .ref (G.2.2.1 o 0) :: rest)) := zr_put (k := 26) (ty := .int) cx hI (k8_0 hc) hS (z8_0 hc S) rfl inlX8 tyX8_ok nmX8 (by decide) hl rfl rfl rfl rfl (Nat.le_of_ble_eq_true rfl) (z8_0 hc _) hμ hdg kk
end ZF
end
