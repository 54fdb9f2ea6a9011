-- ===== PART A: goes FIRST, ahead of the names: the tables' words, and 'selects' of the private methods out of them =====
/-- a private method of a class that the tables say can be made, by its rows of tables_1 -/
def lw_okq (q : MethodName × Nat) : Prop := (q.1.cls ≠ "java/lang/invoke/MethodHandle" ∧ q.1.cls ≠ "java/lang/invoke/VarHandle") ∧ Cond.instantiable q.1.cls q.2 ∈ tables_1 ∧ Cond.privateMethod q.1 ∈ tables_1 ∧ Cond.instanceMethod q.1 ∈ tables_1
theorem lw_p0 : lw_okq (⟨"MoodFare", "found", "(I)I"⟩, 10) := ⟨⟨by decide +kernel, by decide +kernel⟩, List.mem_of_getElem? (i := 13) (by decide +kernel), List.mem_of_getElem? (i := 266) (by decide +kernel), List.mem_of_getElem? (i := 267) (by decide +kernel)⟩
theorem lw_p1 : lw_okq (⟨"MoodFare", "unfound", "(I)I"⟩, 10) := ⟨⟨by decide +kernel, by decide +kernel⟩, List.mem_of_getElem? (i := 13) (by decide +kernel), List.mem_of_getElem? (i := 275) (by decide +kernel), List.mem_of_getElem? (i := 276) (by decide +kernel)⟩
theorem lw_p2 : lw_okq (⟨"MoodFare$Rows", "spans", "(III)Z"⟩, 3) := ⟨⟨by decide +kernel, by decide +kernel⟩, List.mem_of_getElem? (i := 21) (by decide +kernel), List.mem_of_getElem? (i := 291) (by decide +kernel), List.mem_of_getElem? (i := 292) (by decide +kernel)⟩
theorem lw_p3 : lw_okq (⟨"MoodFare$Tape", "readLaw", "(LMoodFare$Town;)Z"⟩, 5) := ⟨⟨by decide +kernel, by decide +kernel⟩, List.mem_of_getElem? (i := 41) (by decide +kernel), List.mem_of_getElem? (i := 344) (by decide +kernel), List.mem_of_getElem? (i := 345) (by decide +kernel)⟩
theorem lw_p4 : lw_okq (⟨"MoodFare$Tape", "takes", "(I)Z"⟩, 5) := ⟨⟨by decide +kernel, by decide +kernel⟩, List.mem_of_getElem? (i := 41) (by decide +kernel), List.mem_of_getElem? (i := 348) (by decide +kernel), List.mem_of_getElem? (i := 349) (by decide +kernel)⟩
theorem lw_p5 : lw_okq (⟨"MoodFare$Tape", "letterHere", "()I"⟩, 5) := ⟨⟨by decide +kernel, by decide +kernel⟩, List.mem_of_getElem? (i := 41) (by decide +kernel), List.mem_of_getElem? (i := 352) (by decide +kernel), List.mem_of_getElem? (i := 353) (by decide +kernel)⟩
theorem lw_p6 : lw_okq (⟨"MoodFare$Tape", "failsAt", "(II)Z"⟩, 5) := ⟨⟨by decide +kernel, by decide +kernel⟩, List.mem_of_getElem? (i := 41) (by decide +kernel), List.mem_of_getElem? (i := 356) (by decide +kernel), List.mem_of_getElem? (i := 357) (by decide +kernel)⟩
theorem lw_p7 : lw_okq (⟨"MoodFare$Tape", "numberWithin", "(II)I"⟩, 5) := ⟨⟨by decide +kernel, by decide +kernel⟩, List.mem_of_getElem? (i := 41) (by decide +kernel), List.mem_of_getElem? (i := 360) (by decide +kernel), List.mem_of_getElem? (i := 361) (by decide +kernel)⟩
theorem lw_p8 : lw_okq (⟨"MoodFare$Tape", "readCorners", "(LMoodFare$Town;)Z"⟩, 5) := ⟨⟨by decide +kernel, by decide +kernel⟩, List.mem_of_getElem? (i := 41) (by decide +kernel), List.mem_of_getElem? (i := 364) (by decide +kernel), List.mem_of_getElem? (i := 365) (by decide +kernel)⟩
theorem lw_p9 : lw_okq (⟨"MoodFare$Tape", "readStreets", "(LMoodFare$Town;)Z"⟩, 5) := ⟨⟨by decide +kernel, by decide +kernel⟩, List.mem_of_getElem? (i := 41) (by decide +kernel), List.mem_of_getElem? (i := 371) (by decide +kernel), List.mem_of_getElem? (i := 372) (by decide +kernel)⟩
theorem lw_p10 : lw_okq (⟨"MoodFare$Tape", "readEnds", "(LMoodFare$Town;I)Z"⟩, 5) := ⟨⟨by decide +kernel, by decide +kernel⟩, List.mem_of_getElem? (i := 41) (by decide +kernel), List.mem_of_getElem? (i := 375) (by decide +kernel), List.mem_of_getElem? (i := 376) (by decide +kernel)⟩
theorem lw_p11 : lw_okq (⟨"MoodFare", "streetsAt", "(I[I)I"⟩, 10) := ⟨⟨by decide +kernel, by decide +kernel⟩, List.mem_of_getElem? (i := 13) (by decide +kernel), List.mem_of_getElem? (i := 489) (by decide +kernel), List.mem_of_getElem? (i := 490) (by decide +kernel)⟩
theorem lw_p12 : lw_okq (⟨"MoodFare$Search", "walk", "(LMoodFare$Town;IIIII)V"⟩, 11) := ⟨⟨by decide +kernel, by decide +kernel⟩, List.mem_of_getElem? (i := 167) (by decide +kernel), List.mem_of_getElem? (i := 522) (by decide +kernel), List.mem_of_getElem? (i := 523) (by decide +kernel)⟩
theorem lw_p13 : lw_okq (⟨"MoodFare$Search", "weigh", "(IIIII)V"⟩, 11) := ⟨⟨by decide +kernel, by decide +kernel⟩, List.mem_of_getElem? (i := 167) (by decide +kernel), List.mem_of_getElem? (i := 526) (by decide +kernel), List.mem_of_getElem? (i := 527) (by decide +kernel)⟩
theorem lw_p14 : lw_okq (⟨"MoodFare$Search", "keepPath", "(III)V"⟩, 11) := ⟨⟨by decide +kernel, by decide +kernel⟩, List.mem_of_getElem? (i := 167) (by decide +kernel), List.mem_of_getElem? (i := 530) (by decide +kernel), List.mem_of_getElem? (i := 531) (by decide +kernel)⟩
theorem lw_p15 : lw_okq (⟨"MoodFare", "findingOfTwo", "(IIIII)I"⟩, 10) := ⟨⟨by decide +kernel, by decide +kernel⟩, List.mem_of_getElem? (i := 13) (by decide +kernel), List.mem_of_getElem? (i := 562) (by decide +kernel), List.mem_of_getElem? (i := 563) (by decide +kernel)⟩
def lw_privs_1 : List (MethodName × Nat) := [(⟨"MoodFare", "found", "(I)I"⟩, 10), (⟨"MoodFare", "unfound", "(I)I"⟩, 10), (⟨"MoodFare$Rows", "spans", "(III)Z"⟩, 3), (⟨"MoodFare$Tape", "readLaw", "(LMoodFare$Town;)Z"⟩, 5), (⟨"MoodFare$Tape", "takes", "(I)Z"⟩, 5), (⟨"MoodFare$Tape", "letterHere", "()I"⟩, 5), (⟨"MoodFare$Tape", "failsAt", "(II)Z"⟩, 5), (⟨"MoodFare$Tape", "numberWithin", "(II)I"⟩, 5), (⟨"MoodFare$Tape", "readCorners", "(LMoodFare$Town;)Z"⟩, 5), (⟨"MoodFare$Tape", "readStreets", "(LMoodFare$Town;)Z"⟩, 5), (⟨"MoodFare$Tape", "readEnds", "(LMoodFare$Town;I)Z"⟩, 5), (⟨"MoodFare", "streetsAt", "(I[I)I"⟩, 10), (⟨"MoodFare$Search", "walk", "(LMoodFare$Town;IIIII)V"⟩, 11), (⟨"MoodFare$Search", "weigh", "(IIIII)V"⟩, 11), (⟨"MoodFare$Search", "keepPath", "(III)V"⟩, 11), (⟨"MoodFare", "findingOfTwo", "(IIIII)I"⟩, 10)]
theorem lw_r1 : ∀ q ∈ lw_privs_1, lw_okq q := List.forall_mem_cons.mpr ⟨lw_p0, List.forall_mem_cons.mpr ⟨lw_p1, List.forall_mem_cons.mpr ⟨lw_p2, List.forall_mem_cons.mpr ⟨lw_p3, List.forall_mem_cons.mpr ⟨lw_p4, List.forall_mem_cons.mpr ⟨lw_p5, List.forall_mem_cons.mpr ⟨lw_p6, List.forall_mem_cons.mpr ⟨lw_p7, List.forall_mem_cons.mpr ⟨lw_p8, List.forall_mem_cons.mpr ⟨lw_p9, List.forall_mem_cons.mpr ⟨lw_p10, List.forall_mem_cons.mpr ⟨lw_p11, List.forall_mem_cons.mpr ⟨lw_p12, List.forall_mem_cons.mpr ⟨lw_p13, List.forall_mem_cons.mpr ⟨lw_p14, List.forall_mem_cons.mpr ⟨lw_p15, fun _ h => absurd h List.not_mem_nil⟩⟩⟩⟩⟩⟩⟩⟩⟩⟩⟩⟩⟩⟩⟩⟩
theorem lw_p16 : lw_okq (⟨"MoodFare", "isSo", "(IIIII)Z"⟩, 10) := ⟨⟨by decide +kernel, by decide +kernel⟩, List.mem_of_getElem? (i := 13) (by decide +kernel), List.mem_of_getElem? (i := 566) (by decide +kernel), List.mem_of_getElem? (i := 567) (by decide +kernel)⟩
theorem lw_p17 : lw_okq (⟨"MoodFare", "owedFrom", "(IIII)I"⟩, 10) := ⟨⟨by decide +kernel, by decide +kernel⟩, List.mem_of_getElem? (i := 13) (by decide +kernel), List.mem_of_getElem? (i := 578) (by decide +kernel), List.mem_of_getElem? (i := 579) (by decide +kernel)⟩
theorem lw_p18 : lw_okq (⟨"MoodFare$Asker", "gives", "(ILMoodFare$Town;II)I"⟩, 2) := ⟨⟨by decide +kernel, by decide +kernel⟩, List.mem_of_getElem? (i := 212) (by decide +kernel), List.mem_of_getElem? (i := 654) (by decide +kernel), List.mem_of_getElem? (i := 655) (by decide +kernel)⟩
theorem lw_p19 : lw_okq (⟨"MoodFare$Asker", "leave", "(I)V"⟩, 2) := ⟨⟨by decide +kernel, by decide +kernel⟩, List.mem_of_getElem? (i := 212) (by decide +kernel), List.mem_of_getElem? (i := 658) (by decide +kernel), List.mem_of_getElem? (i := 659) (by decide +kernel)⟩
theorem lw_p20 : lw_okq (⟨"MoodFareModel", "found", "(I)I"⟩, 32) := ⟨⟨by decide +kernel, by decide +kernel⟩, List.mem_of_getElem? (i := 678) (by decide +kernel), List.mem_of_getElem? (i := 793) (by decide +kernel), List.mem_of_getElem? (i := 794) (by decide +kernel)⟩
theorem lw_p21 : lw_okq (⟨"MoodFareModel", "well", "(I)I"⟩, 32) := ⟨⟨by decide +kernel, by decide +kernel⟩, List.mem_of_getElem? (i := 678) (by decide +kernel), List.mem_of_getElem? (i := 798) (by decide +kernel), List.mem_of_getElem? (i := 799) (by decide +kernel)⟩
theorem lw_p22 : lw_okq (⟨"MoodFareModel", "isMissing", "(I)Z"⟩, 32) := ⟨⟨by decide +kernel, by decide +kernel⟩, List.mem_of_getElem? (i := 678) (by decide +kernel), List.mem_of_getElem? (i := 806) (by decide +kernel), List.mem_of_getElem? (i := 807) (by decide +kernel)⟩
theorem lw_p23 : lw_okq (⟨"MoodFareModel", "isPart", "(III)Z"⟩, 32) := ⟨⟨by decide +kernel, by decide +kernel⟩, List.mem_of_getElem? (i := 678) (by decide +kernel), List.mem_of_getElem? (i := 817) (by decide +kernel), List.mem_of_getElem? (i := 818) (by decide +kernel)⟩
theorem lw_p24 : lw_okq (⟨"MoodFareModel", "advances", "()V"⟩, 32) := ⟨⟨by decide +kernel, by decide +kernel⟩, List.mem_of_getElem? (i := 678) (by decide +kernel), List.mem_of_getElem? (i := 834) (by decide +kernel), List.mem_of_getElem? (i := 835) (by decide +kernel)⟩
theorem lw_p25 : lw_okq (⟨"MoodFareModel", "byteAt", "(I)I"⟩, 32) := ⟨⟨by decide +kernel, by decide +kernel⟩, List.mem_of_getElem? (i := 678) (by decide +kernel), List.mem_of_getElem? (i := 838) (by decide +kernel), List.mem_of_getElem? (i := 839) (by decide +kernel)⟩
theorem lw_p26 : lw_okq (⟨"MoodFareModel", "takes", "(ZI)I"⟩, 32) := ⟨⟨by decide +kernel, by decide +kernel⟩, List.mem_of_getElem? (i := 678) (by decide +kernel), List.mem_of_getElem? (i := 842) (by decide +kernel), List.mem_of_getElem? (i := 843) (by decide +kernel)⟩
theorem lw_p27 : lw_okq (⟨"MoodFareModel", "isWell", "()Z"⟩, 32) := ⟨⟨by decide +kernel, by decide +kernel⟩, List.mem_of_getElem? (i := 678) (by decide +kernel), List.mem_of_getElem? (i := 846) (by decide +kernel), List.mem_of_getElem? (i := 847) (by decide +kernel)⟩
theorem lw_p28 : lw_okq (⟨"MoodFareModel", "figure", "(II)I"⟩, 32) := ⟨⟨by decide +kernel, by decide +kernel⟩, List.mem_of_getElem? (i := 678) (by decide +kernel), List.mem_of_getElem? (i := 850) (by decide +kernel), List.mem_of_getElem? (i := 851) (by decide +kernel)⟩
theorem lw_p29 : lw_okq (⟨"MoodFareModel", "follows", "(II)I"⟩, 32) := ⟨⟨by decide +kernel, by decide +kernel⟩, List.mem_of_getElem? (i := 678) (by decide +kernel), List.mem_of_getElem? (i := 854) (by decide +kernel), List.mem_of_getElem? (i := 855) (by decide +kernel)⟩
theorem lw_p30 : lw_okq (⟨"MoodFareModel", "readsCorner", "()V"⟩, 32) := ⟨⟨by decide +kernel, by decide +kernel⟩, List.mem_of_getElem? (i := 678) (by decide +kernel), List.mem_of_getElem? (i := 861) (by decide +kernel), List.mem_of_getElem? (i := 862) (by decide +kernel)⟩
theorem lw_p31 : lw_okq (⟨"MoodFareModel", "readsStreet", "()V"⟩, 32) := ⟨⟨by decide +kernel, by decide +kernel⟩, List.mem_of_getElem? (i := 678) (by decide +kernel), List.mem_of_getElem? (i := 865) (by decide +kernel), List.mem_of_getElem? (i := 866) (by decide +kernel)⟩
def lw_privs_2 : List (MethodName × Nat) := [(⟨"MoodFare", "isSo", "(IIIII)Z"⟩, 10), (⟨"MoodFare", "owedFrom", "(IIII)I"⟩, 10), (⟨"MoodFare$Asker", "gives", "(ILMoodFare$Town;II)I"⟩, 2), (⟨"MoodFare$Asker", "leave", "(I)V"⟩, 2), (⟨"MoodFareModel", "found", "(I)I"⟩, 32), (⟨"MoodFareModel", "well", "(I)I"⟩, 32), (⟨"MoodFareModel", "isMissing", "(I)Z"⟩, 32), (⟨"MoodFareModel", "isPart", "(III)Z"⟩, 32), (⟨"MoodFareModel", "advances", "()V"⟩, 32), (⟨"MoodFareModel", "byteAt", "(I)I"⟩, 32), (⟨"MoodFareModel", "takes", "(ZI)I"⟩, 32), (⟨"MoodFareModel", "isWell", "()Z"⟩, 32), (⟨"MoodFareModel", "figure", "(II)I"⟩, 32), (⟨"MoodFareModel", "follows", "(II)I"⟩, 32), (⟨"MoodFareModel", "readsCorner", "()V"⟩, 32), (⟨"MoodFareModel", "readsStreet", "()V"⟩, 32)]
theorem lw_r2 : ∀ q ∈ lw_privs_2, lw_okq q := List.forall_mem_cons.mpr ⟨lw_p16, List.forall_mem_cons.mpr ⟨lw_p17, List.forall_mem_cons.mpr ⟨lw_p18, List.forall_mem_cons.mpr ⟨lw_p19, List.forall_mem_cons.mpr ⟨lw_p20, List.forall_mem_cons.mpr ⟨lw_p21, List.forall_mem_cons.mpr ⟨lw_p22, List.forall_mem_cons.mpr ⟨lw_p23, List.forall_mem_cons.mpr ⟨lw_p24, List.forall_mem_cons.mpr ⟨lw_p25, List.forall_mem_cons.mpr ⟨lw_p26, List.forall_mem_cons.mpr ⟨lw_p27, List.forall_mem_cons.mpr ⟨lw_p28, List.forall_mem_cons.mpr ⟨lw_p29, List.forall_mem_cons.mpr ⟨lw_p30, List.forall_mem_cons.mpr ⟨lw_p31, fun _ h => absurd h List.not_mem_nil⟩⟩⟩⟩⟩⟩⟩⟩⟩⟩⟩⟩⟩⟩⟩⟩
theorem lw_p32 : lw_okq (⟨"MoodFareModel", "toFigure", "(I)I"⟩, 32) := ⟨⟨by decide +kernel, by decide +kernel⟩, List.mem_of_getElem? (i := 678) (by decide +kernel), List.mem_of_getElem? (i := 869) (by decide +kernel), List.mem_of_getElem? (i := 870) (by decide +kernel)⟩
theorem lw_p33 : lw_okq (⟨"MoodFareModel", "isStreetTold", "(II)Z"⟩, 32) := ⟨⟨by decide +kernel, by decide +kernel⟩, List.mem_of_getElem? (i := 678) (by decide +kernel), List.mem_of_getElem? (i := 873) (by decide +kernel), List.mem_of_getElem? (i := 874) (by decide +kernel)⟩
theorem lw_p34 : lw_okq (⟨"MoodFareModel", "isStreet", "(I)Z"⟩, 32) := ⟨⟨by decide +kernel, by decide +kernel⟩, List.mem_of_getElem? (i := 678) (by decide +kernel), List.mem_of_getElem? (i := 889) (by decide +kernel), List.mem_of_getElem? (i := 890) (by decide +kernel)⟩
theorem lw_p35 : lw_okq (⟨"MoodFareModel", "notes", "()V"⟩, 32) := ⟨⟨by decide +kernel, by decide +kernel⟩, List.mem_of_getElem? (i := 678) (by decide +kernel), List.mem_of_getElem? (i := 900) (by decide +kernel), List.mem_of_getElem? (i := 901) (by decide +kernel)⟩
theorem lw_p36 : lw_okq (⟨"MoodFareModel", "isCorner", "(I)Z"⟩, 32) := ⟨⟨by decide +kernel, by decide +kernel⟩, List.mem_of_getElem? (i := 678) (by decide +kernel), List.mem_of_getElem? (i := 917) (by decide +kernel), List.mem_of_getElem? (i := 918) (by decide +kernel)⟩
theorem lw_p37 : lw_okq (⟨"MoodFareModel", "isTown", "()Z"⟩, 32) := ⟨⟨by decide +kernel, by decide +kernel⟩, List.mem_of_getElem? (i := 678) (by decide +kernel), List.mem_of_getElem? (i := 925) (by decide +kernel), List.mem_of_getElem? (i := 926) (by decide +kernel)⟩
theorem lw_p38 : lw_okq (⟨"MoodFareModel", "ends", "(II)I"⟩, 32) := ⟨⟨by decide +kernel, by decide +kernel⟩, List.mem_of_getElem? (i := 678) (by decide +kernel), List.mem_of_getElem? (i := 941) (by decide +kernel), List.mem_of_getElem? (i := 942) (by decide +kernel)⟩
theorem lw_p39 : lw_okq (⟨"MoodFareModel", "finds", "(II)V"⟩, 32) := ⟨⟨by decide +kernel, by decide +kernel⟩, List.mem_of_getElem? (i := 678) (by decide +kernel), List.mem_of_getElem? (i := 961) (by decide +kernel), List.mem_of_getElem? (i := 962) (by decide +kernel)⟩
theorem lw_p40 : lw_okq (⟨"MoodFareModel", "begins", "()V"⟩, 32) := ⟨⟨by decide +kernel, by decide +kernel⟩, List.mem_of_getElem? (i := 678) (by decide +kernel), List.mem_of_getElem? (i := 965) (by decide +kernel), List.mem_of_getElem? (i := 966) (by decide +kernel)⟩
theorem lw_p41 : lw_okq (⟨"MoodFareModel", "keeps", "(I)V"⟩, 32) := ⟨⟨by decide +kernel, by decide +kernel⟩, List.mem_of_getElem? (i := 678) (by decide +kernel), List.mem_of_getElem? (i := 969) (by decide +kernel), List.mem_of_getElem? (i := 970) (by decide +kernel)⟩
theorem lw_p42 : lw_okq (⟨"MoodFareModel", "goesOn", "(I)Z"⟩, 32) := ⟨⟨by decide +kernel, by decide +kernel⟩, List.mem_of_getElem? (i := 678) (by decide +kernel), List.mem_of_getElem? (i := 973) (by decide +kernel), List.mem_of_getElem? (i := 974) (by decide +kernel)⟩
theorem lw_p43 : lw_okq (⟨"MoodFareModel", "adds", "(I)V"⟩, 32) := ⟨⟨by decide +kernel, by decide +kernel⟩, List.mem_of_getElem? (i := 678) (by decide +kernel), List.mem_of_getElem? (i := 977) (by decide +kernel), List.mem_of_getElem? (i := 978) (by decide +kernel)⟩
theorem lw_p44 : lw_okq (⟨"MoodFareModel", "told", "(II)I"⟩, 32) := ⟨⟨by decide +kernel, by decide +kernel⟩, List.mem_of_getElem? (i := 678) (by decide +kernel), List.mem_of_getElem? (i := 981) (by decide +kernel), List.mem_of_getElem? (i := 982) (by decide +kernel)⟩
theorem lw_p45 : lw_okq (⟨"MoodFareModel", "bar", "(IIIII)I"⟩, 32) := ⟨⟨by decide +kernel, by decide +kernel⟩, List.mem_of_getElem? (i := 678) (by decide +kernel), List.mem_of_getElem? (i := 1001) (by decide +kernel), List.mem_of_getElem? (i := 1002) (by decide +kernel)⟩
theorem lw_p46 : lw_okq (⟨"MoodFareModel", "all", "(IIIIII)I"⟩, 32) := ⟨⟨by decide +kernel, by decide +kernel⟩, List.mem_of_getElem? (i := 678) (by decide +kernel), List.mem_of_getElem? (i := 1005) (by decide +kernel), List.mem_of_getElem? (i := 1006) (by decide +kernel)⟩
theorem lw_p47 : lw_okq (⟨"MoodFareModel", "goesSo", "(III)Z"⟩, 32) := ⟨⟨by decide +kernel, by decide +kernel⟩, List.mem_of_getElem? (i := 678) (by decide +kernel), List.mem_of_getElem? (i := 1009) (by decide +kernel), List.mem_of_getElem? (i := 1010) (by decide +kernel)⟩
def lw_privs_3 : List (MethodName × Nat) := [(⟨"MoodFareModel", "toFigure", "(I)I"⟩, 32), (⟨"MoodFareModel", "isStreetTold", "(II)Z"⟩, 32), (⟨"MoodFareModel", "isStreet", "(I)Z"⟩, 32), (⟨"MoodFareModel", "notes", "()V"⟩, 32), (⟨"MoodFareModel", "isCorner", "(I)Z"⟩, 32), (⟨"MoodFareModel", "isTown", "()Z"⟩, 32), (⟨"MoodFareModel", "ends", "(II)I"⟩, 32), (⟨"MoodFareModel", "finds", "(II)V"⟩, 32), (⟨"MoodFareModel", "begins", "()V"⟩, 32), (⟨"MoodFareModel", "keeps", "(I)V"⟩, 32), (⟨"MoodFareModel", "goesOn", "(I)Z"⟩, 32), (⟨"MoodFareModel", "adds", "(I)V"⟩, 32), (⟨"MoodFareModel", "told", "(II)I"⟩, 32), (⟨"MoodFareModel", "bar", "(IIIII)I"⟩, 32), (⟨"MoodFareModel", "all", "(IIIIII)I"⟩, 32), (⟨"MoodFareModel", "goesSo", "(III)Z"⟩, 32)]
theorem lw_r3 : ∀ q ∈ lw_privs_3, lw_okq q := List.forall_mem_cons.mpr ⟨lw_p32, List.forall_mem_cons.mpr ⟨lw_p33, List.forall_mem_cons.mpr ⟨lw_p34, List.forall_mem_cons.mpr ⟨lw_p35, List.forall_mem_cons.mpr ⟨lw_p36, List.forall_mem_cons.mpr ⟨lw_p37, List.forall_mem_cons.mpr ⟨lw_p38, List.forall_mem_cons.mpr ⟨lw_p39, List.forall_mem_cons.mpr ⟨lw_p40, List.forall_mem_cons.mpr ⟨lw_p41, List.forall_mem_cons.mpr ⟨lw_p42, List.forall_mem_cons.mpr ⟨lw_p43, List.forall_mem_cons.mpr ⟨lw_p44, List.forall_mem_cons.mpr ⟨lw_p45, List.forall_mem_cons.mpr ⟨lw_p46, List.forall_mem_cons.mpr ⟨lw_p47, fun _ h => absurd h List.not_mem_nil⟩⟩⟩⟩⟩⟩⟩⟩⟩⟩⟩⟩⟩⟩⟩⟩
theorem lw_p48 : lw_okq (⟨"MoodFareModel", "streetAfter", "(I)I"⟩, 32) := ⟨⟨by decide +kernel, by decide +kernel⟩, List.mem_of_getElem? (i := 678) (by decide +kernel), List.mem_of_getElem? (i := 1032) (by decide +kernel), List.mem_of_getElem? (i := 1033) (by decide +kernel)⟩
theorem lw_p49 : lw_okq (⟨"MoodFareModel", "kindIn", "(I)I"⟩, 32) := ⟨⟨by decide +kernel, by decide +kernel⟩, List.mem_of_getElem? (i := 678) (by decide +kernel), List.mem_of_getElem? (i := 1048) (by decide +kernel), List.mem_of_getElem? (i := 1049) (by decide +kernel)⟩
theorem lw_p50 : lw_okq (⟨"MoodFareModel", "griefSize", "(I)I"⟩, 32) := ⟨⟨by decide +kernel, by decide +kernel⟩, List.mem_of_getElem? (i := 678) (by decide +kernel), List.mem_of_getElem? (i := 1060) (by decide +kernel), List.mem_of_getElem? (i := 1061) (by decide +kernel)⟩
theorem lw_p51 : lw_okq (⟨"MoodFareModel", "leaves", "(I)V"⟩, 32) := ⟨⟨by decide +kernel, by decide +kernel⟩, List.mem_of_getElem? (i := 678) (by decide +kernel), List.mem_of_getElem? (i := 1064) (by decide +kernel), List.mem_of_getElem? (i := 1065) (by decide +kernel)⟩
theorem lw_p52 : lw_okq (⟨"MoodFareModel", "joySize", "(I)I"⟩, 32) := ⟨⟨by decide +kernel, by decide +kernel⟩, List.mem_of_getElem? (i := 678) (by decide +kernel), List.mem_of_getElem? (i := 1068) (by decide +kernel), List.mem_of_getElem? (i := 1069) (by decide +kernel)⟩
theorem lw_p53 : lw_okq (⟨"MoodFareModel", "joyMark", "(I)I"⟩, 32) := ⟨⟨by decide +kernel, by decide +kernel⟩, List.mem_of_getElem? (i := 678) (by decide +kernel), List.mem_of_getElem? (i := 1072) (by decide +kernel), List.mem_of_getElem? (i := 1073) (by decide +kernel)⟩
theorem lw_p54 : lw_okq (⟨"MoodFareModel", "griefMark", "(I)I"⟩, 32) := ⟨⟨by decide +kernel, by decide +kernel⟩, List.mem_of_getElem? (i := 678) (by decide +kernel), List.mem_of_getElem? (i := 1076) (by decide +kernel), List.mem_of_getElem? (i := 1077) (by decide +kernel)⟩
def lw_privs_4 : List (MethodName × Nat) := [(⟨"MoodFareModel", "streetAfter", "(I)I"⟩, 32), (⟨"MoodFareModel", "kindIn", "(I)I"⟩, 32), (⟨"MoodFareModel", "griefSize", "(I)I"⟩, 32), (⟨"MoodFareModel", "leaves", "(I)V"⟩, 32), (⟨"MoodFareModel", "joySize", "(I)I"⟩, 32), (⟨"MoodFareModel", "joyMark", "(I)I"⟩, 32), (⟨"MoodFareModel", "griefMark", "(I)I"⟩, 32)]
theorem lw_r4 : ∀ q ∈ lw_privs_4, lw_okq q := List.forall_mem_cons.mpr ⟨lw_p48, List.forall_mem_cons.mpr ⟨lw_p49, List.forall_mem_cons.mpr ⟨lw_p50, List.forall_mem_cons.mpr ⟨lw_p51, List.forall_mem_cons.mpr ⟨lw_p52, List.forall_mem_cons.mpr ⟨lw_p53, List.forall_mem_cons.mpr ⟨lw_p54, fun _ h => absurd h List.not_mem_nil⟩⟩⟩⟩⟩⟩⟩
def lw_privs : List (MethodName × Nat) := lw_privs_1 ++ (lw_privs_2 ++ (lw_privs_3 ++ (lw_privs_4)))
def lw_tbl : List Cond := k2_sels lw_privs ++ tables_1
theorem lw_privs_ok : ∀ q ∈ lw_privs, lw_okq q := by
  show ∀ q ∈ lw_privs_1 ++ (lw_privs_2 ++ (lw_privs_3 ++ (lw_privs_4))), lw_okq q
  exact List.forall_mem_append.mpr ⟨lw_r1, List.forall_mem_append.mpr ⟨lw_r2, List.forall_mem_append.mpr ⟨lw_r3, lw_r4⟩⟩⟩

/-! ===== BEGIN words of one list among another's, by their places ===== -/
theorem goodIn_r {big : List Cond} (ws : List Cond) (ps : List Nat) (hp : ws = ps.filterMap (fun i => big[i]?)) (h : ws.all goodWord = true) : GoodIn big ws := by
  intro w hw
  have h1 := List.all_eq_true.mp h w hw
  rw [hp] at hw
  obtain ⟨i, -, hi⟩ := List.mem_filterMap.mp hw
  have hm : w ∈ big := by first | exact List.mem_of_getElem? hi | exact List.getElem?_mem hi
  exact ⟨hm, good_of_word h1⟩
theorem goodIn_app {big a b : List Cond} (ha : GoodIn big a) (hb : GoodIn big b) : GoodIn big (a ++ b) := fun w h => (List.mem_append.mp h).elim (ha w) (hb w)
theorem goodIn_ca {big a b : List Cond} {c : Cond} (ha : GoodIn big (c :: a)) (hb : GoodIn big b) : GoodIn big (c :: (a ++ b)) := fun w h => (List.mem_cons.mp h).elim (fun e => ha w (List.mem_cons.mpr (Or.inl e))) (fun h => (List.mem_append.mp h).elim (fun h => ha w (List.mem_cons.mpr (Or.inr h))) (hb w))
theorem goodIn_sub {big ws : List Cond} (hm : ∀ w ∈ ws, w ∈ big) (h : ws.all goodWord = true) : GoodIn big ws := fun w hw => ⟨hm w hw, good_of_word (List.all_eq_true.mp h w hw)⟩
/-! ===== END ===== -/
def RX0 : String := "MoodFare$Acts"
def TX0 : u_T := fun k => match k with
  | 0 => ("MoodFare$Acts", "ring", "[[I", true)
  | 1 => ("MoodFare$Acts", "oldest", "I", false)
  | _ => ("MoodFare$Acts", "kept", "I", false)
def tyX0 : Nat → FieldType := fun k => match k with
  | 0 => .array (.array .int)
  | 1 => .int
  | _ => .int
abbrev wsX00 : List Cond := u_ws RX0 TX0 3
theorem nmX0 : ∀ a, a < 3 → ∀ b, b < 3 → a ≠ b → (TX0 a).2.1 ≠ (TX0 b).2.1 := by decide +kernel
theorem tyX0_ok : ∀ k, k < 3 → parseFieldDescriptor (TX0 k).2.2.1 = some (tyX0 k) := by decide +kernel
abbrev cX0_init : ByteArray := prog_2_method_1_code
def yX0_init : MethodName := ⟨RX0, "<init>", "()V"⟩
abbrev cX0_forget : ByteArray := prog_2_method_2_code
def yX0_forget : MethodName := ⟨RX0, "forget", "()V"⟩
abbrev cX0_keep : ByteArray := prog_2_method_3_code
def yX0_keep : MethodName := ⟨RX0, "keep", "(IIII)V"⟩
abbrev cX0_takeBack : ByteArray := prog_2_method_4_code
def yX0_takeBack : MethodName := ⟨RX0, "takeBack", "(LMoodFare$Town;)V"⟩
def RX1 : String := "MoodFare$Asker"
def TX1 : u_T := fun k => match k with
  | 0 => ("MoodFare$Asker", "numbers", "[I", true)
  | _ => ("MoodFare$Asker", "begun", "I", false)
def tyX1 : Nat → FieldType := fun k => match k with
  | 0 => .array .int
  | _ => .int
abbrev wsX10 : List Cond := u_ws RX1 TX1 2
theorem nmX1 : ∀ a, a < 2 → ∀ b, b < 2 → a ≠ b → (TX1 a).2.1 ≠ (TX1 b).2.1 := by decide +kernel
theorem tyX1_ok : ∀ k, k < 2 → parseFieldDescriptor (TX1 k).2.2.1 = some (tyX1 k) := by decide +kernel
abbrev cX1_init : ByteArray := prog_3_method_1_code
def yX1_init : MethodName := ⟨RX1, "<init>", "()V"⟩
abbrev cX1_answerOf : ByteArray := prog_3_method_2_code
def yX1_answerOf : MethodName := ⟨RX1, "answerOf", "(LMoodFare$Town;II)I"⟩
abbrev cX1_gives : ByteArray := prog_3_method_3_code
def yX1_gives : MethodName := ⟨RX1, "gives", "(ILMoodFare$Town;II)I"⟩
abbrev cX1_leave : ByteArray := prog_3_method_4_code
def yX1_leave : MethodName := ⟨RX1, "leave", "(I)V"⟩
def RX2 : String := "MoodFare$Rows"
def TX2 : u_T := fun k => match k with
  | 0 => ("MoodFare$Rows", "lanes", "[I", true)
  | 1 => ("MoodFare$Rows", "lengths", "[I", true)
  | _ => ("MoodFare$Rows", "items", "[[I", true)
def tyX2 : Nat → FieldType := fun k => match k with
  | 0 => .array .int
  | 1 => .array .int
  | _ => .array (.array .int)
abbrev wsX20 : List Cond := u_ws RX2 TX2 3
theorem nmX2 : ∀ a, a < 3 → ∀ b, b < 3 → a ≠ b → (TX2 a).2.1 ≠ (TX2 b).2.1 := by decide +kernel
theorem tyX2_ok : ∀ k, k < 3 → parseFieldDescriptor (TX2 k).2.2.1 = some (tyX2 k) := by decide +kernel
abbrev cX2_init : ByteArray := prog_4_method_1_code
def yX2_init : MethodName := ⟨RX2, "<init>", "()V"⟩
abbrev cX2_isRow : ByteArray := prog_4_method_2_code
def yX2_isRow : MethodName := ⟨RX2, "isRow", "(I)Z"⟩
abbrev cX2_isMissing : ByteArray := prog_4_method_3_code
def yX2_isMissing : MethodName := ⟨RX2, "isMissing", "(I)Z"⟩
abbrev cX2_howMany : ByteArray := prog_4_method_4_code
def yX2_howMany : MethodName := ⟨RX2, "howMany", "()I"⟩
abbrev cX2_lay : ByteArray := prog_4_method_5_code
def yX2_lay : MethodName := ⟨RX2, "lay", "(III)V"⟩
abbrev cX2_lose : ByteArray := prog_4_method_6_code
def yX2_lose : MethodName := ⟨RX2, "lose", "(I)I"⟩
abbrev cX2_put : ByteArray := prog_4_method_7_code
def yX2_put : MethodName := ⟨RX2, "put", "(III)I"⟩
abbrev cX2_move : ByteArray := prog_4_method_8_code
def yX2_move : MethodName := ⟨RX2, "move", "(IIIII)V"⟩
abbrev cX2_findingOf : ByteArray := prog_4_method_9_code
def yX2_findingOf : MethodName := ⟨RX2, "findingOf", "(III)I"⟩
abbrev cX2_findingOfMove : ByteArray := prog_4_method_10_code
def yX2_findingOfMove : MethodName := ⟨RX2, "findingOfMove", "(IIIII)I"⟩
abbrev cX2_spans : ByteArray := prog_4_method_11_code
def yX2_spans : MethodName := ⟨RX2, "spans", "(III)Z"⟩
def RX3 : String := "MoodFare$Search"
def TX3 : u_T := fun k => match k with
  | 0 => ("MoodFare$Search", "path", "[I", true)
  | 1 => ("MoodFare$Search", "best", "[I", true)
  | 2 => ("MoodFare$Search", "enough", "[Z", true)
  | 3 => ("MoodFare$Search", "purpose", "I", false)
  | 4 => ("MoodFare$Search", "aim", "I", false)
  | 5 => ("MoodFare$Search", "limit", "I", false)
  | 6 => ("MoodFare$Search", "growthMost", "I", false)
  | 7 => ("MoodFare$Search", "length", "I", false)
  | 8 => ("MoodFare$Search", "cost", "I", false)
  | 9 => ("MoodFare$Search", "end", "I", false)
  | _ => ("MoodFare$Search", "moodBits", "I", false)
def tyX3 : Nat → FieldType := fun k => match k with
  | 0 => .array .int
  | 1 => .array .int
  | 2 => .array .boolean
  | 3 => .int
  | 4 => .int
  | 5 => .int
  | 6 => .int
  | 7 => .int
  | 8 => .int
  | 9 => .int
  | _ => .int
abbrev wsX30 : List Cond := u_ws RX3 TX3 11
theorem nmX3 : ∀ a, a < 11 → ∀ b, b < 11 → a ≠ b → (TX3 a).2.1 ≠ (TX3 b).2.1 := by decide +kernel
theorem tyX3_ok : ∀ k, k < 11 → parseFieldDescriptor (TX3 k).2.2.1 = some (tyX3 k) := by decide +kernel
abbrev cX3_init : ByteArray := prog_5_method_1_code
def yX3_init : MethodName := ⟨RX3, "<init>", "()V"⟩
abbrev cX3_seek : ByteArray := prog_5_method_2_code
def yX3_seek : MethodName := ⟨RX3, "seek", "(LMoodFare$Town;III)V"⟩
abbrev cX3_seekWithin : ByteArray := prog_5_method_3_code
def yX3_seekWithin : MethodName := ⟨RX3, "seekWithin", "(LMoodFare$Town;II)V"⟩
abbrev cX3_weightOfEnough : ByteArray := prog_5_method_4_code
def yX3_weightOfEnough : MethodName := ⟨RX3, "weightOfEnough", "(II)I"⟩
abbrev cX3_streetOf : ByteArray := prog_5_method_5_code
def yX3_streetOf : MethodName := ⟨RX3, "streetOf", "(I)I"⟩
abbrev cX3_walk : ByteArray := prog_5_method_6_code
def yX3_walk : MethodName := ⟨RX3, "walk", "(LMoodFare$Town;IIIII)V"⟩
abbrev cX3_weigh : ByteArray := prog_5_method_7_code
def yX3_weigh : MethodName := ⟨RX3, "weigh", "(IIIII)V"⟩
abbrev cX3_keepPath : ByteArray := prog_5_method_8_code
def yX3_keepPath : MethodName := ⟨RX3, "keepPath", "(III)V"⟩
def RX4 : String := "MoodFare$Tape"
def TX4 : u_T := fun k => match k with
  | 0 => ("MoodFare$Tape", "bytes", "[I", true)
  | 1 => ("MoodFare$Tape", "length", "I", false)
  | 2 => ("MoodFare$Tape", "faultNumber", "I", false)
  | 3 => ("MoodFare$Tape", "faultPlace", "I", false)
  | _ => ("MoodFare$Tape", "place", "I", false)
def tyX4 : Nat → FieldType := fun k => match k with
  | 0 => .array .int
  | 1 => .int
  | 2 => .int
  | 3 => .int
  | _ => .int
abbrev wsX40 : List Cond := u_ws RX4 TX4 5
theorem nmX4 : ∀ a, a < 5 → ∀ b, b < 5 → a ≠ b → (TX4 a).2.1 ≠ (TX4 b).2.1 := by decide +kernel
theorem tyX4_ok : ∀ k, k < 5 → parseFieldDescriptor (TX4 k).2.2.1 = some (tyX4 k) := by decide +kernel
abbrev cX4_init : ByteArray := prog_6_method_1_code
def yX4_init : MethodName := ⟨RX4, "<init>", "()V"⟩
abbrev cX4_put : ByteArray := prog_6_method_2_code
def yX4_put : MethodName := ⟨RX4, "put", "(I)I"⟩
abbrev cX4_readInto : ByteArray := prog_6_method_3_code
def yX4_readInto : MethodName := ⟨RX4, "readInto", "(LMoodFare$Town;)Z"⟩
abbrev cX4_readLaw : ByteArray := prog_6_method_4_code
def yX4_readLaw : MethodName := ⟨RX4, "readLaw", "(LMoodFare$Town;)Z"⟩
abbrev cX4_readCorners : ByteArray := prog_6_method_5_code
def yX4_readCorners : MethodName := ⟨RX4, "readCorners", "(LMoodFare$Town;)Z"⟩
abbrev cX4_readStreets : ByteArray := prog_6_method_6_code
def yX4_readStreets : MethodName := ⟨RX4, "readStreets", "(LMoodFare$Town;)Z"⟩
abbrev cX4_readEnds : ByteArray := prog_6_method_7_code
def yX4_readEnds : MethodName := ⟨RX4, "readEnds", "(LMoodFare$Town;I)Z"⟩
abbrev cX4_isTold : ByteArray := prog_6_method_8_code
def yX4_isTold : MethodName := ⟨RX4, "isTold", "(LMoodFare$Town;II)Z"⟩
abbrev cX4_kindOf : ByteArray := prog_6_method_9_code
def yX4_kindOf : MethodName := ⟨RX4, "kindOf", "(I)I"⟩
abbrev cX4_letterHere : ByteArray := prog_6_method_10_code
def yX4_letterHere : MethodName := ⟨RX4, "letterHere", "()I"⟩
abbrev cX4_takes : ByteArray := prog_6_method_11_code
def yX4_takes : MethodName := ⟨RX4, "takes", "(I)Z"⟩
abbrev cX4_numberWithin : ByteArray := prog_6_method_12_code
def yX4_numberWithin : MethodName := ⟨RX4, "numberWithin", "(II)I"⟩
abbrev cX4_failsAt : ByteArray := prog_6_method_13_code
def yX4_failsAt : MethodName := ⟨RX4, "failsAt", "(II)Z"⟩
def RX5 : String := "MoodFare$Town"
def TX5 : u_T := fun k => match k with
  | 0 => ("MoodFare$Town", "kinds", "[I", true)
  | 1 => ("MoodFare$Town", "muches", "[I", true)
  | 2 => ("MoodFare$Town", "fees", "[I", true)
  | 3 => ("MoodFare$Town", "froms", "[I", true)
  | 4 => ("MoodFare$Town", "tos", "[I", true)
  | 5 => ("MoodFare$Town", "corners", "I", false)
  | 6 => ("MoodFare$Town", "streets", "I", false)
  | 7 => ("MoodFare$Town", "rate", "I", false)
  | 8 => ("MoodFare$Town", "open", "I", false)
  | 9 => ("MoodFare$Town", "at", "I", false)
  | 10 => ("MoodFare$Town", "mood", "I", false)
  | 11 => ("MoodFare$Town", "meter", "I", false)
  | _ => ("MoodFare$Town", "step", "I", false)
def tyX5 : Nat → FieldType := fun k => match k with
  | 0 => .array .int
  | 1 => .array .int
  | 2 => .array .int
  | 3 => .array .int
  | 4 => .array .int
  | 5 => .int
  | 6 => .int
  | 7 => .int
  | 8 => .int
  | 9 => .int
  | 10 => .int
  | 11 => .int
  | _ => .int
abbrev wsX50 : List Cond := u_ws RX5 TX5 13
theorem nmX5 : ∀ a, a < 13 → ∀ b, b < 13 → a ≠ b → (TX5 a).2.1 ≠ (TX5 b).2.1 := by decide +kernel
theorem tyX5_ok : ∀ k, k < 13 → parseFieldDescriptor (TX5 k).2.2.1 = some (tyX5 k) := by decide +kernel
abbrev cX5_init : ByteArray := prog_7_method_1_code
def yX5_init : MethodName := ⟨RX5, "<init>", "()V"⟩
abbrev cX5_become : ByteArray := prog_7_method_2_code
def yX5_become : MethodName := ⟨RX5, "become", "(LMoodFare$Town;)V"⟩
abbrev cX5_clear : ByteArray := prog_7_method_3_code
def yX5_clear : MethodName := ⟨RX5, "clear", "()V"⟩
abbrev cX5_stands : ByteArray := prog_7_method_4_code
def yX5_stands : MethodName := ⟨RX5, "stands", "()Z"⟩
abbrev cX5_hasCorner : ByteArray := prog_7_method_5_code
def yX5_hasCorner : MethodName := ⟨RX5, "hasCorner", "(I)Z"⟩
abbrev cX5_hasStreet : ByteArray := prog_7_method_6_code
def yX5_hasStreet : MethodName := ⟨RX5, "hasStreet", "(I)Z"⟩
abbrev cX5_isOpen : ByteArray := prog_7_method_7_code
def yX5_isOpen : MethodName := ⟨RX5, "isOpen", "(I)Z"⟩
abbrev cX5_turn : ByteArray := prog_7_method_8_code
def yX5_turn : MethodName := ⟨RX5, "turn", "(I)V"⟩
abbrev cX5_leads : ByteArray := prog_7_method_9_code
def yX5_leads : MethodName := ⟨RX5, "leads", "(I)Z"⟩
abbrev cX5_leadsFrom : ByteArray := prog_7_method_10_code
def yX5_leadsFrom : MethodName := ⟨RX5, "leadsFrom", "(II)Z"⟩
abbrev cX5_moodBehind : ByteArray := prog_7_method_11_code
def yX5_moodBehind : MethodName := ⟨RX5, "moodBehind", "(III)I"⟩
abbrev cX5_costBetween : ByteArray := prog_7_method_12_code
def yX5_costBetween : MethodName := ⟨RX5, "costBetween", "(III)I"⟩
abbrev cX5_moodBy : ByteArray := prog_7_method_13_code
def yX5_moodBy : MethodName := ⟨RX5, "moodBy", "(I)I"⟩
abbrev cX5_costBy : ByteArray := prog_7_method_14_code
def yX5_costBy : MethodName := ⟨RX5, "costBy", "(I)I"⟩
abbrev cX5_goBy : ByteArray := prog_7_method_15_code
def yX5_goBy : MethodName := ⟨RX5, "goBy", "(I)V"⟩
abbrev cX5_goByDraw : ByteArray := prog_7_method_16_code
def yX5_goByDraw : MethodName := ⟨RX5, "goByDraw", "(J)V"⟩
abbrev cX5_openWays : ByteArray := prog_7_method_17_code
def yX5_openWays : MethodName := ⟨RX5, "openWays", "()I"⟩
def RX6 : String := "MoodFare"
def TX6 : u_T := fun k => match k with
  | 0 => ("MoodFare", "rows", "LMoodFare$Rows;", true)
  | 1 => ("MoodFare", "tape", "LMoodFare$Tape;", true)
  | 2 => ("MoodFare", "town", "LMoodFare$Town;", true)
  | 3 => ("MoodFare", "trial", "LMoodFare$Town;", true)
  | 4 => ("MoodFare", "images", "[LMoodFare$Town;", true)
  | 5 => ("MoodFare", "acts", "LMoodFare$Acts;", true)
  | 6 => ("MoodFare", "search", "LMoodFare$Search;", true)
  | 7 => ("MoodFare", "asker", "LMoodFare$Asker;", true)
  | 8 => ("MoodFare", "status", "I", false)
  | _ => ("MoodFare", "fault", "I", false)
def tyX6 : Nat → FieldType := fun k => match k with
  | 0 => .object "MoodFare$Rows"
  | 1 => .object "MoodFare$Tape"
  | 2 => .object "MoodFare$Town"
  | 3 => .object "MoodFare$Town"
  | 4 => .array (.object "MoodFare$Town")
  | 5 => .object "MoodFare$Acts"
  | 6 => .object "MoodFare$Search"
  | 7 => .object "MoodFare$Asker"
  | 8 => .int
  | _ => .int
abbrev wsX60 : List Cond := u_ws RX6 TX6 10
theorem nmX6 : ∀ a, a < 10 → ∀ b, b < 10 → a ≠ b → (TX6 a).2.1 ≠ (TX6 b).2.1 := by decide +kernel
theorem tyX6_ok : ∀ k, k < 10 → parseFieldDescriptor (TX6 k).2.2.1 = some (tyX6 k) := by decide +kernel
abbrev cX6_init : ByteArray := prog_1_method_1_code
def yX6_init : MethodName := ⟨RX6, "<init>", "()V"⟩
abbrev cX6_row : ByteArray := prog_1_method_2_code
def yX6_row : MethodName := ⟨RX6, "row", "(III)I"⟩
abbrev cX6_set : ByteArray := prog_1_method_3_code
def yX6_set : MethodName := ⟨RX6, "set", "(III)I"⟩
abbrev cX6_copy : ByteArray := prog_1_method_4_code
def yX6_copy : MethodName := ⟨RX6, "copy", "(IIIII)I"⟩
abbrev cX6_drop : ByteArray := prog_1_method_5_code
def yX6_drop : MethodName := ⟨RX6, "drop", "(I)I"⟩
abbrev cX6_feed : ByteArray := prog_1_method_6_code
def yX6_feed : MethodName := ⟨RX6, "feed", "(I)I"⟩
abbrev cX6_town : ByteArray := prog_1_method_7_code
def yX6_town : MethodName := ⟨RX6, "town", "()I"⟩
abbrev cX6_fault : ByteArray := prog_1_method_8_code
def yX6_fault : MethodName := ⟨RX6, "fault", "()I"⟩
abbrev cX6_ride : ByteArray := prog_1_method_9_code
def yX6_ride : MethodName := ⟨RX6, "ride", "(I)I"⟩
abbrev cX6_lesson : ByteArray := prog_1_method_10_code
def yX6_lesson : MethodName := ⟨RX6, "lesson", "(II)I"⟩
abbrev cX6_reset : ByteArray := prog_1_method_11_code
def yX6_reset : MethodName := ⟨RX6, "reset", "()I"⟩
abbrev cX6_street : ByteArray := prog_1_method_12_code
def yX6_street : MethodName := ⟨RX6, "street", "(II)I"⟩
abbrev cX6_undo : ByteArray := prog_1_method_13_code
def yX6_undo : MethodName := ⟨RX6, "undo", "()I"⟩
abbrev cX6_corner : ByteArray := prog_1_method_14_code
def yX6_corner : MethodName := ⟨RX6, "corner", "(II)I"⟩
abbrev cX6_way : ByteArray := prog_1_method_15_code
def yX6_way : MethodName := ⟨RX6, "way", "(II)I"⟩
abbrev cX6_would : ByteArray := prog_1_method_16_code
def yX6_would : MethodName := ⟨RX6, "would", "(II)I"⟩
abbrev cX6_reach : ByteArray := prog_1_method_17_code
def yX6_reach : MethodName := ⟨RX6, "reach", "()I"⟩
abbrev cX6_cheapest : ByteArray := prog_1_method_18_code
def yX6_cheapest : MethodName := ⟨RX6, "cheapest", "(II)I"⟩
abbrev cX6_dearest : ByteArray := prog_1_method_19_code
def yX6_dearest : MethodName := ⟨RX6, "dearest", "(II)I"⟩
abbrev cX6_moods : ByteArray := prog_1_method_20_code
def yX6_moods : MethodName := ⟨RX6, "moods", "(II)I"⟩
abbrev cX6_gets : ByteArray := prog_1_method_21_code
def yX6_gets : MethodName := ⟨RX6, "gets", "(II)I"⟩
abbrev cX6_fits : ByteArray := prog_1_method_22_code
def yX6_fits : MethodName := ⟨RX6, "fits", "(IIIIII)I"⟩
abbrev cX6_fitsOf : ByteArray := prog_1_method_23_code
def yX6_fitsOf : MethodName := ⟨RX6, "fitsOf", "(IIIIIII)I"⟩
abbrev cX6_share : ByteArray := prog_1_method_24_code
def yX6_share : MethodName := ⟨RX6, "share", "(IIII)I"⟩
abbrev cX6_shut : ByteArray := prog_1_method_25_code
def yX6_shut : MethodName := ⟨RX6, "shut", "(IIII)I"⟩
abbrev cX6_drawn : ByteArray := prog_1_method_26_code
def yX6_drawn : MethodName := ⟨RX6, "drawn", "(III)I"⟩
abbrev cX6_image : ByteArray := prog_1_method_27_code
def yX6_image : MethodName := ⟨RX6, "image", "(I)I"⟩
abbrev cX6_restore : ByteArray := prog_1_method_28_code
def yX6_restore : MethodName := ⟨RX6, "restore", "(I)I"⟩
abbrev cX6_kind : ByteArray := prog_1_method_29_code
def yX6_kind : MethodName := ⟨RX6, "kind", "(I)I"⟩
abbrev cX6_as : ByteArray := prog_1_method_30_code
def yX6_as : MethodName := ⟨RX6, "as", "(II)I"⟩
abbrev cX6_ask : ByteArray := prog_1_method_31_code
def yX6_ask : MethodName := ⟨RX6, "ask", "(II)I"⟩
abbrev cX6_trace : ByteArray := prog_1_method_32_code
def yX6_trace : MethodName := ⟨RX6, "trace", "(I)I"⟩
abbrev cX6_count : ByteArray := prog_1_method_33_code
def yX6_count : MethodName := ⟨RX6, "count", "(I)I"⟩
abbrev cX6_status : ByteArray := prog_1_method_34_code
def yX6_status : MethodName := ⟨RX6, "status", "()I"⟩
abbrev cX6_found : ByteArray := prog_1_method_35_code
def yX6_found : MethodName := ⟨RX6, "found", "(I)I"⟩
abbrev cX6_unfound : ByteArray := prog_1_method_36_code
def yX6_unfound : MethodName := ⟨RX6, "unfound", "(I)I"⟩
abbrev cX6_streetsAt : ByteArray := prog_1_method_37_code
def yX6_streetsAt : MethodName := ⟨RX6, "streetsAt", "(I[I)I"⟩
abbrev cX6_areFitting : ByteArray := prog_1_method_38_code
def yX6_areFitting : MethodName := ⟨RX6, "areFitting", "(IIII)Z"⟩
abbrev cX6_findingOfTwo : ByteArray := prog_1_method_39_code
def yX6_findingOfTwo : MethodName := ⟨RX6, "findingOfTwo", "(IIIII)I"⟩
abbrev cX6_isSo : ByteArray := prog_1_method_40_code
def yX6_isSo : MethodName := ⟨RX6, "isSo", "(IIIII)Z"⟩
abbrev cX6_owedFrom : ByteArray := prog_1_method_41_code
def yX6_owedFrom : MethodName := ⟨RX6, "owedFrom", "(IIII)I"⟩
abbrev cX6_isOfKind : ByteArray := prog_1_method_42_code
def yX6_isOfKind : MethodName := ⟨RX6, "isOfKind", "(II)Z"⟩
abbrev cX6_power : ByteArray := prog_1_method_43_code
def yX6_power : MethodName := ⟨RX6, "power", "(II)I"⟩
abbrev cX6_commonDivisor : ByteArray := prog_1_method_44_code
def yX6_commonDivisor : MethodName := ⟨RX6, "commonDivisor", "(II)I"⟩
def RX7 : String := "MoodFareModel"
def TX7 : u_T := fun k => match k with
  | 0 => ("MoodFareModel", "lane", "[I", true)
  | 1 => ("MoodFareModel", "many", "[I", true)
  | 2 => ("MoodFareModel", "items", "[I", true)
  | 3 => ("MoodFareModel", "spare", "[I", true)
  | 4 => ("MoodFareModel", "status", "I", false)
  | 5 => ("MoodFareModel", "tape", "[I", true)
  | 6 => ("MoodFareModel", "taped", "I", false)
  | 7 => ("MoodFareModel", "faultKind", "I", false)
  | 8 => ("MoodFareModel", "faultPlace", "I", false)
  | 9 => ("MoodFareModel", "at", "I", false)
  | 10 => ("MoodFareModel", "start", "I", false)
  | 11 => ("MoodFareModel", "token", "I", false)
  | 12 => ("MoodFareModel", "value", "I", false)
  | 13 => ("MoodFareModel", "now", "[I", true)
  | 14 => ("MoodFareModel", "draft", "[I", true)
  | 15 => ("MoodFareModel", "tried", "[I", true)
  | 16 => ("MoodFareModel", "past", "[I", true)
  | 17 => ("MoodFareModel", "acts", "I", false)
  | 18 => ("MoodFareModel", "images", "[I", true)
  | 19 => ("MoodFareModel", "kept", "[Z", true)
  | 20 => ("MoodFareModel", "depth", "I", false)
  | 21 => ("MoodFareModel", "path", "[I", true)
  | 22 => ("MoodFareModel", "next", "[I", true)
  | 23 => ("MoodFareModel", "where", "[I", true)
  | 24 => ("MoodFareModel", "moods", "[I", true)
  | 25 => ("MoodFareModel", "costs", "[I", true)
  | 26 => ("MoodFareModel", "best", "[I", true)
  | 27 => ("MoodFareModel", "bestCost", "I", false)
  | 28 => ("MoodFareModel", "bestSize", "I", false)
  | 29 => ("MoodFareModel", "bestWhere", "I", false)
  | 30 => ("MoodFareModel", "trace", "[I", true)
  | _ => ("MoodFareModel", "traced", "I", false)
def tyX7 : Nat → FieldType := fun k => match k with
  | 0 => .array .int
  | 1 => .array .int
  | 2 => .array .int
  | 3 => .array .int
  | 4 => .int
  | 5 => .array .int
  | 6 => .int
  | 7 => .int
  | 8 => .int
  | 9 => .int
  | 10 => .int
  | 11 => .int
  | 12 => .int
  | 13 => .array .int
  | 14 => .array .int
  | 15 => .array .int
  | 16 => .array .int
  | 17 => .int
  | 18 => .array .int
  | 19 => .array .boolean
  | 20 => .int
  | 21 => .array .int
  | 22 => .array .int
  | 23 => .array .int
  | 24 => .array .int
  | 25 => .array .int
  | 26 => .array .int
  | 27 => .int
  | 28 => .int
  | 29 => .int
  | 30 => .array .int
  | _ => .int
abbrev wsX70 : List Cond := u_ws RX7 TX7 32
theorem nmX7 : ∀ a, a < 32 → ∀ b, b < 32 → a ≠ b → (TX7 a).2.1 ≠ (TX7 b).2.1 := by decide +kernel
theorem tyX7_ok : ∀ k, k < 32 → parseFieldDescriptor (TX7 k).2.2.1 = some (tyX7 k) := by decide +kernel
abbrev cX7_init : ByteArray := prog_9_method_1_code
def yX7_init : MethodName := ⟨RX7, "<init>", "()V"⟩
abbrev cX7_in : ByteArray := prog_9_method_3_code
def yX7_in : MethodName := ⟨RX7, "in", "(III)Z"⟩
abbrev cX7_has : ByteArray := prog_9_method_4_code
def yX7_has : MethodName := ⟨RX7, "has", "(II)Z"⟩
abbrev cX7_found : ByteArray := prog_9_method_5_code
def yX7_found : MethodName := ⟨RX7, "found", "(I)I"⟩
abbrev cX7_well : ByteArray := prog_9_method_6_code
def yX7_well : MethodName := ⟨RX7, "well", "(I)I"⟩
abbrev cX7_copies : ByteArray := prog_9_method_7_code
def yX7_copies : MethodName := ⟨RX7, "copies", "([II[II)V"⟩
abbrev cX7_isRow : ByteArray := prog_9_method_8_code
def yX7_isRow : MethodName := ⟨RX7, "isRow", "(I)Z"⟩
abbrev cX7_isMissing : ByteArray := prog_9_method_9_code
def yX7_isMissing : MethodName := ⟨RX7, "isMissing", "(I)Z"⟩
abbrev cX7_cut : ByteArray := prog_9_method_10_code
def yX7_cut : MethodName := ⟨RX7, "cut", "(II)I"⟩
abbrev cX7_row : ByteArray := prog_9_method_11_code
def yX7_row : MethodName := ⟨RX7, "row", "(III)I"⟩
abbrev cX7_set : ByteArray := prog_9_method_12_code
def yX7_set : MethodName := ⟨RX7, "set", "(III)I"⟩
abbrev cX7_isPart : ByteArray := prog_9_method_13_code
def yX7_isPart : MethodName := ⟨RX7, "isPart", "(III)Z"⟩
abbrev cX7_copy : ByteArray := prog_9_method_14_code
def yX7_copy : MethodName := ⟨RX7, "copy", "(IIIII)I"⟩
abbrev cX7_drop : ByteArray := prog_9_method_15_code
def yX7_drop : MethodName := ⟨RX7, "drop", "(I)I"⟩
abbrev cX7_feed : ByteArray := prog_9_method_16_code
def yX7_feed : MethodName := ⟨RX7, "feed", "(I)I"⟩
abbrev cX7_byteAt : ByteArray := prog_9_method_17_code
def yX7_byteAt : MethodName := ⟨RX7, "byteAt", "(I)I"⟩
abbrev cX7_advances : ByteArray := prog_9_method_18_code
def yX7_advances : MethodName := ⟨RX7, "advances", "()V"⟩
abbrev cX7_isWell : ByteArray := prog_9_method_19_code
def yX7_isWell : MethodName := ⟨RX7, "isWell", "()Z"⟩
abbrev cX7_takes : ByteArray := prog_9_method_20_code
def yX7_takes : MethodName := ⟨RX7, "takes", "(ZI)I"⟩
abbrev cX7_figure : ByteArray := prog_9_method_21_code
def yX7_figure : MethodName := ⟨RX7, "figure", "(II)I"⟩
abbrev cX7_kindOf : ByteArray := prog_9_method_22_code
def yX7_kindOf : MethodName := ⟨RX7, "kindOf", "(I)I"⟩
abbrev cX7_follows : ByteArray := prog_9_method_23_code
def yX7_follows : MethodName := ⟨RX7, "follows", "(II)I"⟩
abbrev cX7_readsCorner : ByteArray := prog_9_method_24_code
def yX7_readsCorner : MethodName := ⟨RX7, "readsCorner", "()V"⟩
abbrev cX7_isStreetTold : ByteArray := prog_9_method_25_code
def yX7_isStreetTold : MethodName := ⟨RX7, "isStreetTold", "(II)Z"⟩
abbrev cX7_toFigure : ByteArray := prog_9_method_26_code
def yX7_toFigure : MethodName := ⟨RX7, "toFigure", "(I)I"⟩
abbrev cX7_readsStreet : ByteArray := prog_9_method_27_code
def yX7_readsStreet : MethodName := ⟨RX7, "readsStreet", "()V"⟩
abbrev cX7_town : ByteArray := prog_9_method_28_code
def yX7_town : MethodName := ⟨RX7, "town", "()I"⟩
abbrev cX7_fault : ByteArray := prog_9_method_29_code
def yX7_fault : MethodName := ⟨RX7, "fault", "()I"⟩
abbrev cX7_isTown : ByteArray := prog_9_method_30_code
def yX7_isTown : MethodName := ⟨RX7, "isTown", "()Z"⟩
abbrev cX7_isCorner : ByteArray := prog_9_method_31_code
def yX7_isCorner : MethodName := ⟨RX7, "isCorner", "(I)Z"⟩
abbrev cX7_isStreet : ByteArray := prog_9_method_32_code
def yX7_isStreet : MethodName := ⟨RX7, "isStreet", "(I)Z"⟩
abbrev cX7_passed : ByteArray := prog_9_method_33_code
def yX7_passed : MethodName := ⟨RX7, "passed", "([IIII)I"⟩
abbrev cX7_cost : ByteArray := prog_9_method_34_code
def yX7_cost : MethodName := ⟨RX7, "cost", "([IIII)I"⟩
abbrev cX7_goes : ByteArray := prog_9_method_35_code
def yX7_goes : MethodName := ⟨RX7, "goes", "([III)Z"⟩
abbrev cX7_rides : ByteArray := prog_9_method_36_code
def yX7_rides : MethodName := ⟨RX7, "rides", "([II)V"⟩
abbrev cX7_notes : ByteArray := prog_9_method_37_code
def yX7_notes : MethodName := ⟨RX7, "notes", "()V"⟩
abbrev cX7_ride : ByteArray := prog_9_method_38_code
def yX7_ride : MethodName := ⟨RX7, "ride", "(I)I"⟩
abbrev cX7_lesson : ByteArray := prog_9_method_39_code
def yX7_lesson : MethodName := ⟨RX7, "lesson", "(II)I"⟩
abbrev cX7_reset : ByteArray := prog_9_method_40_code
def yX7_reset : MethodName := ⟨RX7, "reset", "()I"⟩
abbrev cX7_street : ByteArray := prog_9_method_41_code
def yX7_street : MethodName := ⟨RX7, "street", "(II)I"⟩
abbrev cX7_undo : ByteArray := prog_9_method_42_code
def yX7_undo : MethodName := ⟨RX7, "undo", "()I"⟩
abbrev cX7_ends : ByteArray := prog_9_method_43_code
def yX7_ends : MethodName := ⟨RX7, "ends", "(II)I"⟩
abbrev cX7_corner : ByteArray := prog_9_method_44_code
def yX7_corner : MethodName := ⟨RX7, "corner", "(II)I"⟩
abbrev cX7_way : ByteArray := prog_9_method_45_code
def yX7_way : MethodName := ⟨RX7, "way", "(II)I"⟩
abbrev cX7_would : ByteArray := prog_9_method_46_code
def yX7_would : MethodName := ⟨RX7, "would", "(II)I"⟩
abbrev cX7_reach : ByteArray := prog_9_method_47_code
def yX7_reach : MethodName := ⟨RX7, "reach", "()I"⟩
abbrev cX7_begins : ByteArray := prog_9_method_48_code
def yX7_begins : MethodName := ⟨RX7, "begins", "()V"⟩
abbrev cX7_adds : ByteArray := prog_9_method_49_code
def yX7_adds : MethodName := ⟨RX7, "adds", "(I)V"⟩
abbrev cX7_goesOn : ByteArray := prog_9_method_50_code
def yX7_goesOn : MethodName := ⟨RX7, "goesOn", "(I)Z"⟩
abbrev cX7_keeps : ByteArray := prog_9_method_51_code
def yX7_keeps : MethodName := ⟨RX7, "keeps", "(I)V"⟩
abbrev cX7_finds : ByteArray := prog_9_method_52_code
def yX7_finds : MethodName := ⟨RX7, "finds", "(II)V"⟩
abbrev cX7_told : ByteArray := prog_9_method_53_code
def yX7_told : MethodName := ⟨RX7, "told", "(II)I"⟩
abbrev cX7_cheapest : ByteArray := prog_9_method_54_code
def yX7_cheapest : MethodName := ⟨RX7, "cheapest", "(II)I"⟩
abbrev cX7_dearest : ByteArray := prog_9_method_55_code
def yX7_dearest : MethodName := ⟨RX7, "dearest", "(II)I"⟩
abbrev cX7_moods : ByteArray := prog_9_method_56_code
def yX7_moods : MethodName := ⟨RX7, "moods", "(II)I"⟩
abbrev cX7_gets : ByteArray := prog_9_method_57_code
def yX7_gets : MethodName := ⟨RX7, "gets", "(II)I"⟩
abbrev cX7_goesSo : ByteArray := prog_9_method_58_code
def yX7_goesSo : MethodName := ⟨RX7, "goesSo", "(III)Z"⟩
abbrev cX7_bar : ByteArray := prog_9_method_59_code
def yX7_bar : MethodName := ⟨RX7, "bar", "(IIIII)I"⟩
abbrev cX7_all : ByteArray := prog_9_method_60_code
def yX7_all : MethodName := ⟨RX7, "all", "(IIIIII)I"⟩
abbrev cX7_fits : ByteArray := prog_9_method_61_code
def yX7_fits : MethodName := ⟨RX7, "fits", "(IIIIII)I"⟩
abbrev cX7_fitsOf : ByteArray := prog_9_method_62_code
def yX7_fitsOf : MethodName := ⟨RX7, "fitsOf", "(IIIIIII)I"⟩
abbrev cX7_share : ByteArray := prog_9_method_63_code
def yX7_share : MethodName := ⟨RX7, "share", "(IIII)I"⟩
abbrev cX7_shut : ByteArray := prog_9_method_64_code
def yX7_shut : MethodName := ⟨RX7, "shut", "(IIII)I"⟩
abbrev cX7_streetAfter : ByteArray := prog_9_method_65_code
def yX7_streetAfter : MethodName := ⟨RX7, "streetAfter", "(I)I"⟩
abbrev cX7_drawn : ByteArray := prog_9_method_66_code
def yX7_drawn : MethodName := ⟨RX7, "drawn", "(III)I"⟩
abbrev cX7_image : ByteArray := prog_9_method_67_code
def yX7_image : MethodName := ⟨RX7, "image", "(I)I"⟩
abbrev cX7_restore : ByteArray := prog_9_method_68_code
def yX7_restore : MethodName := ⟨RX7, "restore", "(I)I"⟩
abbrev cX7_kindIn : ByteArray := prog_9_method_69_code
def yX7_kindIn : MethodName := ⟨RX7, "kindIn", "(I)I"⟩
abbrev cX7_kind : ByteArray := prog_9_method_70_code
def yX7_kind : MethodName := ⟨RX7, "kind", "(I)I"⟩
abbrev cX7_as : ByteArray := prog_9_method_71_code
def yX7_as : MethodName := ⟨RX7, "as", "(II)I"⟩
abbrev cX7_leaves : ByteArray := prog_9_method_72_code
def yX7_leaves : MethodName := ⟨RX7, "leaves", "(I)V"⟩
abbrev cX7_joyMark : ByteArray := prog_9_method_73_code
def yX7_joyMark : MethodName := ⟨RX7, "joyMark", "(I)I"⟩
abbrev cX7_griefSize : ByteArray := prog_9_method_74_code
def yX7_griefSize : MethodName := ⟨RX7, "griefSize", "(I)I"⟩
abbrev cX7_joySize : ByteArray := prog_9_method_75_code
def yX7_joySize : MethodName := ⟨RX7, "joySize", "(I)I"⟩
abbrev cX7_griefMark : ByteArray := prog_9_method_76_code
def yX7_griefMark : MethodName := ⟨RX7, "griefMark", "(I)I"⟩
abbrev cX7_ask : ByteArray := prog_9_method_77_code
def yX7_ask : MethodName := ⟨RX7, "ask", "(II)I"⟩
abbrev cX7_trace : ByteArray := prog_9_method_78_code
def yX7_trace : MethodName := ⟨RX7, "trace", "(I)I"⟩
abbrev cX7_count : ByteArray := prog_9_method_79_code
def yX7_count : MethodName := ⟨RX7, "count", "(I)I"⟩
abbrev cX7_status : ByteArray := prog_9_method_80_code
def yX7_status : MethodName := ⟨RX7, "status", "()I"⟩
def RJ6 : String := "java/lang/Integer"
def TJ6 : u_T := fun k => match k with
  | _ => ("", "", "", false)
def tyJ6 : Nat → FieldType := fun k => match k with
  | _ => .int
abbrev wsJ60 : List Cond := u_ws RJ6 TJ6 0
theorem nmJ6 : ∀ a, a < 0 → ∀ b, b < 0 → a ≠ b → (TJ6 a).2.1 ≠ (TJ6 b).2.1 := by decide +kernel
theorem tyJ6_ok : ∀ k, k < 0 → parseFieldDescriptor (TJ6 k).2.2.1 = some (tyJ6 k) := by decide +kernel
abbrev cJ6_bitCount_0f7a4 : ByteArray := prog_10_method_49_code
def yJ6_bitCount_0f7a4 : MethodName := ⟨RJ6, "bitCount", "(I)I"⟩
def RJ9 : String := "java/lang/Math"
def TJ9 : u_T := fun k => match k with
  | _ => ("", "", "", false)
def tyJ9 : Nat → FieldType := fun k => match k with
  | _ => .int
abbrev wsJ90 : List Cond := u_ws RJ9 TJ9 0
theorem nmJ9 : ∀ a, a < 0 → ∀ b, b < 0 → a ≠ b → (TJ9 a).2.1 ≠ (TJ9 b).2.1 := by decide +kernel
theorem tyJ9_ok : ∀ k, k < 0 → parseFieldDescriptor (TJ9 k).2.2.1 = some (tyJ9 k) := by decide +kernel
abbrev cJ9_abs_0f7a4 : ByteArray := prog_11_method_59_code
def yJ9_abs_0f7a4 : MethodName := ⟨RJ9, "abs", "(I)I"⟩
abbrev cJ9_max_7cf53 : ByteArray := prog_11_method_65_code
def yJ9_max_7cf53 : MethodName := ⟨RJ9, "max", "(II)I"⟩
abbrev cJ9_min_7cf53 : ByteArray := prog_11_method_69_code
def yJ9_min_7cf53 : MethodName := ⟨RJ9, "min", "(II)I"⟩
def RJ10 : String := "java/lang/System"
def TJ10 : u_T := fun k => match k with
  | _ => ("", "", "", false)
def tyJ10 : Nat → FieldType := fun k => match k with
  | _ => .int
abbrev wsJ100 : List Cond := u_ws RJ10 TJ10 0
theorem nmJ10 : ∀ a, a < 0 → ∀ b, b < 0 → a ≠ b → (TJ10 a).2.1 ≠ (TJ10 b).2.1 := by decide +kernel
theorem tyJ10_ok : ∀ k, k < 0 → parseFieldDescriptor (TJ10 k).2.2.1 = some (tyJ10 k) := by decide +kernel
def RL : String := "MoodFareLaw"
abbrev cL_law : ByteArray := code
def yL_law : MethodName := ⟨RL, "law", "([I)Z"⟩
