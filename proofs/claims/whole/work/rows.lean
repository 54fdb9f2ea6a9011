section
-- ===== PART A: goes FIRST, ahead of the names: the tables' words, and 'selects' of the private methods out of them =====
/-- a private method of a class that the tables say can be made, by its rows of tables_1 -/
def lw_okq (q : MethodName × Nat) : Prop := (q.1.cls ≠ "java/lang/invoke/MethodHandle" ∧ q.1.cls ≠ "java/lang/invoke/VarHandle") ∧ Cond.instantiable q.1.cls q.2 ∈ tables_1 ∧ Cond.privateMethod q.1 ∈ tables_1 ∧ Cond.instanceMethod q.1 ∈ tables_1
theorem lw_p0 : lw_okq (⟨"MoodFare", "found", "(I)I"⟩, 10) := ⟨⟨by decide +kernel, by decide +kernel⟩, List.mem_of_getElem? (i := 13) (by decide +kernel), List.mem_of_getElem? (i := 266) (by decide +kernel), List.mem_of_getElem? (i := 267) (by decide +kernel)⟩
theorem lw_p1 : lw_okq (⟨"MoodFare", "unfound", "(I)I"⟩, 10) := ⟨⟨by decide +kernel, by decide +kernel⟩, List.mem_of_getElem? (i := 13) (by decide +kernel), List.mem_of_getElem? (i := 275) (by decide +kernel), List.mem_of_getElem? (i := 276) (by decide +kernel)⟩
theorem lw_p2 : lw_okq (⟨"MoodFare$Rows", "spans", "(III)Z"⟩, 3) := ⟨⟨by decide +kernel, by decide +kernel⟩, List.mem_of_getElem? (i := 21) (by decide +kernel), List.mem_of_getElem? (i := 291) (by decide +kernel), List.mem_of_getElem? (i := 292) (by decide +kernel)⟩
theorem lw_p3 : lw_okq (⟨"MoodFare$Tape", "readLaw", "(LMoodFare$Town;)Z"⟩, 5) := ⟨⟨by decide +kernel, by decide +kernel⟩, List.mem_of_getElem? (i := 41) (by decide +kernel), List.mem_of_getElem? (i := 344) (by decide +kernel), List.mem_of_getElem? (i := 345) (by decide +kernel)⟩
theorem lw_p4 : lw_okq (⟨"MoodFare$Tape", "takes", "(I)Z"⟩, 5) := ⟨⟨by decide +kernel, by decide +kernel⟩, List.mem_of_getElem? (i := 41) (by decide +kernel), List.mem_of_getElem? (i := 348) (by decide +kernel), List.mem_of_getElem? (i := 349) (by decide +kernel)⟩
theorem lw_p5 : lw_okq (⟨"MoodFare$Tape", "letterHere", "()I"⟩, 5) := ⟨⟨by decide +kernel, by decide +kernel⟩, List.mem_of_getElem? (i := 41) (by decide +kernel), List.mem_of_getElem? (i := 352) (by decide +kernel), List.mem_of_getElem? (i := 353) (by decide +kernel)⟩
theorem lw_p6 : lw_okq (⟨"MoodFare$Tape", "failsAt", "(II)Z"⟩, 5) := ⟨⟨by decide +kernel, by decide +kernel⟩, List.mem_of_getElem? (i := 41) (by decide +kernel), List.mem_of_getElem? (i := 356) (by decide +kernel), List.mem_of_getElem? (i := 357) (by decide +kernel)⟩
theorem lw_p7 : lw_okq (⟨"MoodFare$Tape", "numberWithin", "(II)I"⟩, 5) := ⟨⟨by decide +kernel, by decide +kernel⟩, List.mem_of_getElem? (i := 41) (by decide +kernel), List.mem_of_getElem? (i := 360) (by decide +kernel), List.mem_of_getElem? (i := 361) (by decide +kernel)⟩
theorem lw_p8 : lw_okq (⟨"MoodFare$Tape", "readCorners", "(LMoodFare$Town;)Z"⟩, 5) := ⟨⟨by decide +kernel, by decide +kernel⟩, List.mem_of_getElem? (i := 41) (by decide +kernel), List.mem_of_getElem? (i := 364) (by decide +kernel), List.mem_of_getElem? (i := 365) (by decide +kernel)⟩
theorem lw_p9 : lw_okq (⟨"MoodFare$Tape", "readStreets", "(LMoodFare$Town;)Z"⟩, 5) := ⟨⟨by decide +kernel, by decide +kernel⟩, List.mem_of_getElem? (i := 41) (by decide +kernel), List.mem_of_getElem? (i := 371) (by decide +kernel), List.mem_of_getElem? (i := 372) (by decide +kernel)⟩
theorem lw_p10 : lw_okq (⟨"MoodFare$Tape", "readEnds", "(LMoodFare$Town;I)Z"⟩, 5) := ⟨⟨by decide +kernel, by decide +kernel⟩, List.mem_of_getElem? (i := 41) (by decide +kernel), List.mem_of_getElem? (i := 375) (by decide +kernel), List.mem_of_getElem? (i := 376) (by decide +kernel)⟩
theorem lw_p11 : lw_okq (⟨"MoodFare", "streetsAt", "(I[I)I"⟩, 10) := ⟨⟨by decide +kernel, by decide +kernel⟩, List.mem_of_getElem? (i := 13) (by decide +kernel), List.mem_of_getElem? (i := 489) (by decide +kernel), List.mem_of_getElem? (i := 490) (by decide +kernel)⟩
theorem lw_p12 : lw_okq (⟨"MoodFare$Search", "walk", "(LMoodFare$Town;IIIII)V"⟩, 11) := ⟨⟨by decide +kernel, by decide +kernel⟩, List.mem_of_getElem? (i := 167) (by decide +kernel), List.mem_of_getElem? (i := 522) (by decide +kernel), List.mem_of_getElem? (i := 523) (by decide +kernel)⟩
theorem lw_p13 : lw_okq (⟨"MoodFare$Search", "weigh", "(IIIII)V"⟩, 11) := ⟨⟨by decide +kernel, by decide +kernel⟩, List.mem_of_getElem? (i := 167) (by decide +kernel), List.mem_of_getElem? (i := 526) (by decide +kernel), List.mem_of_getElem? (i := 527) (by decide +kernel)⟩
theorem lw_p14 : lw_okq (⟨"MoodFare$Search", "keepPath", "(III)V"⟩, 11) := ⟨⟨by decide +kernel, by decide +kernel⟩, List.mem_of_getElem? (i := 167) (by decide +kernel), List.mem_of_getElem? (i := 530) (by decide +kernel), List.mem_of_getElem? (i := 531) (by decide +kernel)⟩
theorem lw_p15 : lw_okq (⟨"MoodFare", "findingOfTwo", "(IIIII)I"⟩, 10) := ⟨⟨by decide +kernel, by decide +kernel⟩, List.mem_of_getElem? (i := 13) (by decide +kernel), List.mem_of_getElem? (i := 562) (by decide +kernel), List.mem_of_getElem? (i := 563) (by decide +kernel)⟩
def lw_privs_1 : List (MethodName × Nat) := [(⟨"MoodFare", "found", "(I)I"⟩, 10), (⟨"MoodFare", "unfound", "(I)I"⟩, 10), (⟨"MoodFare$Rows", "spans", "(III)Z"⟩, 3), (⟨"MoodFare$Tape", "readLaw", "(LMoodFare$Town;)Z"⟩, 5), (⟨"MoodFare$Tape", "takes", "(I)Z"⟩, 5), (⟨"MoodFare$Tape", "letterHere", "()I"⟩, 5), (⟨"MoodFare$Tape", "failsAt", "(II)Z"⟩, 5), (⟨"MoodFare$Tape", "numberWithin", "(II)I"⟩, 5), (⟨"MoodFare$Tape", "readCorners", "(LMoodFare$Town;)Z"⟩, 5), (⟨"MoodFare$Tape", "readStreets", "(LMoodFare$Town;)Z"⟩, 5), (⟨"MoodFare$Tape", "readEnds", "(LMoodFare$Town;I)Z"⟩, 5), (⟨"MoodFare", "streetsAt", "(I[I)I"⟩, 10), (⟨"MoodFare$Search", "walk", "(LMoodFare$Town;IIIII)V"⟩, 11), (⟨"MoodFare$Search", "weigh", "(IIIII)V"⟩, 11), (⟨"MoodFare$Search", "keepPath", "(III)V"⟩, 11), (⟨"MoodFare", "findingOfTwo", "(IIIII)I"⟩, 10)]
theorem lw_r1 : ∀ q ∈ lw_privs_1, lw_okq q := List.forall_mem_cons.mpr ⟨lw_p0, List.forall_mem_cons.mpr ⟨lw_p1, List.forall_mem_cons.mpr ⟨lw_p2, List.forall_mem_cons.mpr ⟨lw_p3, List.forall_mem_cons.mpr ⟨lw_p4, List.forall_mem_cons.mpr ⟨lw_p5, List.forall_mem_cons.mpr ⟨lw_p6, List.forall_mem_cons.mpr ⟨lw_p7, List.forall_mem_cons.mpr ⟨lw_p8, List.forall_mem_cons.mpr ⟨lw_p9, List.forall_mem_cons.mpr ⟨lw_p10, List.forall_mem_cons.mpr ⟨lw_p11, List.forall_mem_cons.mpr ⟨lw_p12, List.forall_mem_cons.mpr ⟨lw_p13, List.forall_mem_cons.mpr ⟨lw_p14, List.forall_mem_cons.mpr ⟨lw_p15, fun _ h => absurd h List.not_mem_nil⟩⟩⟩⟩⟩⟩⟩⟩⟩⟩⟩⟩⟩⟩⟩⟩
theorem lw_p16 : lw_okq (⟨"MoodFare", "isSo", "(IIIII)Z"⟩, 10) := ⟨⟨by decide +kernel, by decide +kernel⟩, List.mem_of_getElem? (i := 13) (by decide +kernel), List.mem_of_getElem? (i := 566) (by decide +kernel), List.mem_of_getElem? (i := 567) (by decide +kernel)⟩
theorem lw_p17 : lw_okq (⟨"MoodFare", "owedFrom", "(IIII)I"⟩, 10) := ⟨⟨by decide +kernel, by decide +kernel⟩, List.mem_of_getElem? (i := 13) (by decide +kernel), List.mem_of_getElem? (i := 578) (by decide +kernel), List.mem_of_getElem? (i := 579) (by decide +kernel)⟩
theorem lw_p18 : lw_okq (⟨"MoodFare$Asker", "gives", "(ILMoodFare$Town;II)I"⟩, 2) := ⟨⟨by decide +kernel, by decide +kernel⟩, List.mem_of_getElem? (i := 212) (by decide +kernel), List.mem_of_getElem? (i := 654) (by decide +kernel), List.mem_of_getElem? (i := 655) (by decide +kernel)⟩
theorem lw_p19 : lw_okq (⟨"MoodFare$Asker", "leave", "(I)V"⟩, 2) := ⟨⟨by decide +kernel, by decide +kernel⟩, List.mem_of_getElem? (i := 212) (by decide +kernel), List.mem_of_getElem? (i := 658) (by decide +kernel), List.mem_of_getElem? (i := 659) (by decide +kernel)⟩
theorem lw_p20 : lw_okq (⟨"MoodFareModel", "found", "(I)I"⟩, 32) := ⟨⟨by decide +kernel, by decide +kernel⟩, List.mem_of_getElem? (i := 678) (by decide +kernel), List.mem_of_getElem? (i := 793) (by decide +kernel), List.mem_of_getElem? (i := 794) (by decide +kernel)⟩
theorem lw_p21 : lw_okq (⟨"MoodFareModel", "well", "(I)I"⟩, 32) := ⟨⟨by decide +kernel, by decide +kernel⟩, List.mem_of_getElem? (i := 678) (by decide +kernel), List.mem_of_getElem? (i := 798) (by decide +kernel), List.mem_of_getElem? (i := 799) (by decide +kernel)⟩
theorem lw_p22 : lw_okq (⟨"MoodFareModel", "isMissing", "(I)Z"⟩, 32) := ⟨⟨by decide +kernel, by decide +kernel⟩, List.mem_of_getElem? (i := 678) (by decide +kernel), List.mem_of_getElem? (i := 806) (by decide +kernel), List.mem_of_getElem? (i := 807) (by decide +kernel)⟩
theorem lw_p23 : lw_okq (⟨"MoodFareModel", "isPart", "(III)Z"⟩, 32) := ⟨⟨by decide +kernel, by decide +kernel⟩, List.mem_of_getElem? (i := 678) (by decide +kernel), List.mem_of_getElem? (i := 817) (by decide +kernel), List.mem_of_getElem? (i := 818) (by decide +kernel)⟩
theorem lw_p24 : lw_okq (⟨"MoodFareModel", "advances", "()V"⟩, 32) := ⟨⟨by decide +kernel, by decide +kernel⟩, List.mem_of_getElem? (i := 678) (by decide +kernel), List.mem_of_getElem? (i := 834) (by decide +kernel), List.mem_of_getElem? (i := 835) (by decide +kernel)⟩
theorem lw_p25 : lw_okq (⟨"MoodFareModel", "byteAt", "(I)I"⟩, 32) := ⟨⟨by decide +kernel, by decide +kernel⟩, List.mem_of_getElem? (i := 678) (by decide +kernel), List.mem_of_getElem? (i := 838) (by decide +kernel), List.mem_of_getElem? (i := 839) (by decide +kernel)⟩
theorem lw_p26 : lw_okq (⟨"MoodFareModel", "takes", "(ZI)I"⟩, 32) := ⟨⟨by decide +kernel, by decide +kernel⟩, List.mem_of_getElem? (i := 678) (by decide +kernel), List.mem_of_getElem? (i := 842) (by decide +kernel), List.mem_of_getElem? (i := 843) (by decide +kernel)⟩
theorem lw_p27 : lw_okq (⟨"MoodFareModel", "isWell", "()Z"⟩, 32) := ⟨⟨by decide +kernel, by decide +kernel⟩, List.mem_of_getElem? (i := 678) (by decide +kernel), List.mem_of_getElem? (i := 846) (by decide +kernel), List.mem_of_getElem? (i := 847) (by decide +kernel)⟩
theorem lw_p28 : lw_okq (⟨"MoodFareModel", "figure", "(II)I"⟩, 32) := ⟨⟨by decide +kernel, by decide +kernel⟩, List.mem_of_getElem? (i := 678) (by decide +kernel), List.mem_of_getElem? (i := 850) (by decide +kernel), List.mem_of_getElem? (i := 851) (by decide +kernel)⟩
theorem lw_p29 : lw_okq (⟨"MoodFareModel", "follows", "(II)I"⟩, 32) := ⟨⟨by decide +kernel, by decide +kernel⟩, List.mem_of_getElem? (i := 678) (by decide +kernel), List.mem_of_getElem? (i := 854) (by decide +kernel), List.mem_of_getElem? (i := 855) (by decide +kernel)⟩
theorem lw_p30 : lw_okq (⟨"MoodFareModel", "readsCorner", "()V"⟩, 32) := ⟨⟨by decide +kernel, by decide +kernel⟩, List.mem_of_getElem? (i := 678) (by decide +kernel), List.mem_of_getElem? (i := 861) (by decide +kernel), List.mem_of_getElem? (i := 862) (by decide +kernel)⟩
theorem lw_p31 : lw_okq (⟨"MoodFareModel", "readsStreet", "()V"⟩, 32) := ⟨⟨by decide +kernel, by decide +kernel⟩, List.mem_of_getElem? (i := 678) (by decide +kernel), List.mem_of_getElem? (i := 865) (by decide +kernel), List.mem_of_getElem? (i := 866) (by decide +kernel)⟩
def lw_privs_2 : List (MethodName × Nat) := [(⟨"MoodFare", "isSo", "(IIIII)Z"⟩, 10), (⟨"MoodFare", "owedFrom", "(IIII)I"⟩, 10), (⟨"MoodFare$Asker", "gives", "(ILMoodFare$Town;II)I"⟩, 2), (⟨"MoodFare$Asker", "leave", "(I)V"⟩, 2), (⟨"MoodFareModel", "found", "(I)I"⟩, 32), (⟨"MoodFareModel", "well", "(I)I"⟩, 32), (⟨"MoodFareModel", "isMissing", "(I)Z"⟩, 32), (⟨"MoodFareModel", "isPart", "(III)Z"⟩, 32), (⟨"MoodFareModel", "advances", "()V"⟩, 32), (⟨"MoodFareModel", "byteAt", "(I)I"⟩, 32), (⟨"MoodFareModel", "takes", "(ZI)I"⟩, 32), (⟨"MoodFareModel", "isWell", "()Z"⟩, 32), (⟨"MoodFareModel", "figure", "(II)I"⟩, 32), (⟨"MoodFareModel", "follows", "(II)I"⟩, 32), (⟨"MoodFareModel", "readsCorner", "()V"⟩, 32), (⟨"MoodFareModel", "readsStreet", "()V"⟩, 32)]
theorem lw_r2 : ∀ q ∈ lw_privs_2, lw_okq q := List.forall_mem_cons.mpr ⟨lw_p16, List.forall_mem_cons.mpr ⟨lw_p17, List.forall_mem_cons.mpr ⟨lw_p18, List.forall_mem_cons.mpr ⟨lw_p19, List.forall_mem_cons.mpr ⟨lw_p20, List.forall_mem_cons.mpr ⟨lw_p21, List.forall_mem_cons.mpr ⟨lw_p22, List.forall_mem_cons.mpr ⟨lw_p23, List.forall_mem_cons.mpr ⟨lw_p24, List.forall_mem_cons.mpr ⟨lw_p25, List.forall_mem_cons.mpr ⟨lw_p26, List.forall_mem_cons.mpr ⟨lw_p27, List.forall_mem_cons.mpr ⟨lw_p28, List.forall_mem_cons.mpr ⟨lw_p29, List.forall_mem_cons.mpr ⟨lw_p30, List.forall_mem_cons.mpr ⟨lw_p31, fun _ h => absurd h List.not_mem_nil⟩⟩⟩⟩⟩⟩⟩⟩⟩⟩⟩⟩⟩⟩⟩⟩
theorem lw_p32 : lw_okq (⟨"MoodFareModel", "toFigure", "(I)I"⟩, 32) := ⟨⟨by decide +kernel, by decide +kernel⟩, List.mem_of_getElem? (i := 678) (by decide +kernel), List.mem_of_getElem? (i := 869) (by decide +kernel), List.mem_of_getElem? (i := 870) (by decide +kernel)⟩
theorem lw_p33 : lw_okq (⟨"MoodFareModel", "isStreetTold", "(II)Z"⟩, 32) := ⟨⟨by decide +kernel, by decide +kernel⟩, List.mem_of_getElem? (i := 678) (by decide +kernel), List.mem_of_getElem? (i := 873) (by decide +kernel), List.mem_of_getElem? (i := 874) (by decide +kernel)⟩
theorem lw_p34 : lw_okq (⟨"MoodFareModel", "isStreet", "(I)Z"⟩, 32) := ⟨⟨by decide +kernel, by decide +kernel⟩, List.mem_of_getElem? (i := 678) (by decide +kernel), List.mem_of_getElem? (i := 889) (by decide +kernel), List.mem_of_getElem? (i := 890) (by decide +kernel)⟩
theorem lw_p35 : lw_okq (⟨"MoodFareModel", "notes", "()V"⟩, 32) := ⟨⟨by decide +kernel, by decide +kernel⟩, List.mem_of_getElem? (i := 678) (by decide +kernel), List.mem_of_getElem? (i := 900) (by decide +kernel), List.mem_of_getElem? (i := 901) (by decide +kernel)⟩
theorem lw_p36 : lw_okq (⟨"MoodFareModel", "isCorner", "(I)Z"⟩, 32) := ⟨⟨by decide +kernel, by decide +kernel⟩, List.mem_of_getElem? (i := 678) (by decide +kernel), List.mem_of_getElem? (i := 917) (by decide +kernel), List.mem_of_getElem? (i := 918) (by decide +kernel)⟩
theorem lw_p37 : lw_okq (⟨"MoodFareModel", "isTown", "()Z"⟩, 32) := ⟨⟨by decide +kernel, by decide +kernel⟩, List.mem_of_getElem? (i := 678) (by decide +kernel), List.mem_of_getElem? (i := 925) (by decide +kernel), List.mem_of_getElem? (i := 926) (by decide +kernel)⟩
theorem lw_p38 : lw_okq (⟨"MoodFareModel", "ends", "(II)I"⟩, 32) := ⟨⟨by decide +kernel, by decide +kernel⟩, List.mem_of_getElem? (i := 678) (by decide +kernel), List.mem_of_getElem? (i := 941) (by decide +kernel), List.mem_of_getElem? (i := 942) (by decide +kernel)⟩
theorem lw_p39 : lw_okq (⟨"MoodFareModel", "finds", "(II)V"⟩, 32) := ⟨⟨by decide +kernel, by decide +kernel⟩, List.mem_of_getElem? (i := 678) (by decide +kernel), List.mem_of_getElem? (i := 961) (by decide +kernel), List.mem_of_getElem? (i := 962) (by decide +kernel)⟩
theorem lw_p40 : lw_okq (⟨"MoodFareModel", "begins", "()V"⟩, 32) := ⟨⟨by decide +kernel, by decide +kernel⟩, List.mem_of_getElem? (i := 678) (by decide +kernel), List.mem_of_getElem? (i := 965) (by decide +kernel), List.mem_of_getElem? (i := 966) (by decide +kernel)⟩
theorem lw_p41 : lw_okq (⟨"MoodFareModel", "keeps", "(I)V"⟩, 32) := ⟨⟨by decide +kernel, by decide +kernel⟩, List.mem_of_getElem? (i := 678) (by decide +kernel), List.mem_of_getElem? (i := 969) (by decide +kernel), List.mem_of_getElem? (i := 970) (by decide +kernel)⟩
theorem lw_p42 : lw_okq (⟨"MoodFareModel", "goesOn", "(I)Z"⟩, 32) := ⟨⟨by decide +kernel, by decide +kernel⟩, List.mem_of_getElem? (i := 678) (by decide +kernel), List.mem_of_getElem? (i := 973) (by decide +kernel), List.mem_of_getElem? (i := 974) (by decide +kernel)⟩
theorem lw_p43 : lw_okq (⟨"MoodFareModel", "adds", "(I)V"⟩, 32) := ⟨⟨by decide +kernel, by decide +kernel⟩, List.mem_of_getElem? (i := 678) (by decide +kernel), List.mem_of_getElem? (i := 977) (by decide +kernel), List.mem_of_getElem? (i := 978) (by decide +kernel)⟩
theorem lw_p44 : lw_okq (⟨"MoodFareModel", "told", "(II)I"⟩, 32) := ⟨⟨by decide +kernel, by decide +kernel⟩, List.mem_of_getElem? (i := 678) (by decide +kernel), List.mem_of_getElem? (i := 981) (by decide +kernel), List.mem_of_getElem? (i := 982) (by decide +kernel)⟩
theorem lw_p45 : lw_okq (⟨"MoodFareModel", "bar", "(IIIII)I"⟩, 32) := ⟨⟨by decide +kernel, by decide +kernel⟩, List.mem_of_getElem? (i := 678) (by decide +kernel), List.mem_of_getElem? (i := 1001) (by decide +kernel), List.mem_of_getElem? (i := 1002) (by decide +kernel)⟩
theorem lw_p46 : lw_okq (⟨"MoodFareModel", "all", "(IIIIII)I"⟩, 32) := ⟨⟨by decide +kernel, by decide +kernel⟩, List.mem_of_getElem? (i := 678) (by decide +kernel), List.mem_of_getElem? (i := 1005) (by decide +kernel), List.mem_of_getElem? (i := 1006) (by decide +kernel)⟩
theorem lw_p47 : lw_okq (⟨"MoodFareModel", "goesSo", "(III)Z"⟩, 32) := ⟨⟨by decide +kernel, by decide +kernel⟩, List.mem_of_getElem? (i := 678) (by decide +kernel), List.mem_of_getElem? (i := 1009) (by decide +kernel), List.mem_of_getElem? (i := 1010) (by decide +kernel)⟩
def lw_privs_3 : List (MethodName × Nat) := [(⟨"MoodFareModel", "toFigure", "(I)I"⟩, 32), (⟨"MoodFareModel", "isStreetTold", "(II)Z"⟩, 32), (⟨"MoodFareModel", "isStreet", "(I)Z"⟩, 32), (⟨"MoodFareModel", "notes", "()V"⟩, 32), (⟨"MoodFareModel", "isCorner", "(I)Z"⟩, 32), (⟨"MoodFareModel", "isTown", "()Z"⟩, 32), (⟨"MoodFareModel", "ends", "(II)I"⟩, 32), (⟨"MoodFareModel", "finds", "(II)V"⟩, 32), (⟨"MoodFareModel", "begins", "()V"⟩, 32), (⟨"MoodFareModel", "keeps", "(I)V"⟩, 32), (⟨"MoodFareModel", "goesOn", "(I)Z"⟩, 32), (⟨"MoodFareModel", "adds", "(I)V"⟩, 32), (⟨"MoodFareModel", "told", "(II)I"⟩, 32), (⟨"MoodFareModel", "bar", "(IIIII)I"⟩, 32), (⟨"MoodFareModel", "all", "(IIIIII)I"⟩, 32), (⟨"MoodFareModel", "goesSo", "(III)Z"⟩, 32)]
theorem lw_r3 : ∀ q ∈ lw_privs_3, lw_okq q := List.forall_mem_cons.mpr ⟨lw_p32, List.forall_mem_cons.mpr ⟨lw_p33, List.forall_mem_cons.mpr ⟨lw_p34, List.forall_mem_cons.mpr ⟨lw_p35, List.forall_mem_cons.mpr ⟨lw_p36, List.forall_mem_cons.mpr ⟨lw_p37, List.forall_mem_cons.mpr ⟨lw_p38, List.forall_mem_cons.mpr ⟨lw_p39, List.forall_mem_cons.mpr ⟨lw_p40, List.forall_mem_cons.mpr ⟨lw_p41, List.forall_mem_cons.mpr ⟨lw_p42, List.forall_mem_cons.mpr ⟨lw_p43, List.forall_mem_cons.mpr ⟨lw_p44, List.forall_mem_cons.mpr ⟨lw_p45, List.forall_mem_cons.mpr ⟨lw_p46, List.forall_mem_cons.mpr ⟨lw_p47, fun _ h => absurd h List.not_mem_nil⟩⟩⟩⟩⟩⟩⟩⟩⟩⟩⟩⟩⟩⟩⟩⟩
theorem lw_p48 : lw_okq (⟨"MoodFareModel", "streetAfter", "(I)I"⟩, 32) := ⟨⟨by decide +kernel, by decide +kernel⟩, List.mem_of_getElem? (i := 678) (by decide +kernel), List.mem_of_getElem? (i := 1032) (by decide +kernel), List.mem_of_getElem? (i := 1033) (by decide +kernel)⟩
theorem lw_p49 : lw_okq (⟨"MoodFareModel", "kindIn", "(I)I"⟩, 32) := ⟨⟨by decide +kernel, by decide +kernel⟩, List.mem_of_getElem? (i := 678) (by decide +kernel), List.mem_of_getElem? (i := 1048) (by decide +kernel), List.mem_of_getElem? (i := 1049) (by decide +kernel)⟩
theorem lw_p50 : lw_okq (⟨"MoodFareModel", "griefSize", "(I)I"⟩, 32) := ⟨⟨by decide +kernel, by decide +kernel⟩, List.mem_of_getElem? (i := 678) (by decide +kernel), List.mem_of_getElem? (i := 1060) (by decide +kernel), List.mem_of_getElem? (i := 1061) (by decide +kernel)⟩
theorem lw_p51 : lw_okq (⟨"MoodFareModel", "leaves", "(I)V"⟩, 32) := ⟨⟨by decide +kernel, by decide +kernel⟩, List.mem_of_getElem? (i := 678) (by decide +kernel), List.mem_of_getElem? (i := 1064) (by decide +kernel), List.mem_of_getElem? (i := 1065) (by decide +kernel)⟩
theorem lw_p52 : lw_okq (⟨"MoodFareModel", "joySize", "(I)I"⟩, 32) := ⟨⟨by decide +kernel, by decide +kernel⟩, List.mem_of_getElem? (i := 678) (by decide +kernel), List.mem_of_getElem? (i := 1068) (by decide +kernel), List.mem_of_getElem? (i := 1069) (by decide +kernel)⟩
theorem lw_p53 : lw_okq (⟨"MoodFareModel", "joyMark", "(I)I"⟩, 32) := ⟨⟨by decide +kernel, by decide +kernel⟩, List.mem_of_getElem? (i := 678) (by decide +kernel), List.mem_of_getElem? (i := 1072) (by decide +kernel), List.mem_of_getElem? (i := 1073) (by decide +kernel)⟩
theorem lw_p54 : lw_okq (⟨"MoodFareModel", "griefMark", "(I)I"⟩, 32) := ⟨⟨by decide +kernel, by decide +kernel⟩, List.mem_of_getElem? (i := 678) (by decide +kernel), List.mem_of_getElem? (i := 1076) (by decide +kernel), List.mem_of_getElem? (i := 1077) (by decide +kernel)⟩
def lw_privs_4 : List (MethodName × Nat) := [(⟨"MoodFareModel", "streetAfter", "(I)I"⟩, 32), (⟨"MoodFareModel", "kindIn", "(I)I"⟩, 32), (⟨"MoodFareModel", "griefSize", "(I)I"⟩, 32), (⟨"MoodFareModel", "leaves", "(I)V"⟩, 32), (⟨"MoodFareModel", "joySize", "(I)I"⟩, 32), (⟨"MoodFareModel", "joyMark", "(I)I"⟩, 32), (⟨"MoodFareModel", "griefMark", "(I)I"⟩, 32)]
theorem lw_r4 : ∀ q ∈ lw_privs_4, lw_okq q := List.forall_mem_cons.mpr ⟨lw_p48, List.forall_mem_cons.mpr ⟨lw_p49, List.forall_mem_cons.mpr ⟨lw_p50, List.forall_mem_cons.mpr ⟨lw_p51, List.forall_mem_cons.mpr ⟨lw_p52, List.forall_mem_cons.mpr ⟨lw_p53, List.forall_mem_cons.mpr ⟨lw_p54, fun _ h => absurd h List.not_mem_nil⟩⟩⟩⟩⟩⟩⟩
def lw_privs : List (MethodName × Nat) := lw_privs_1 ++ (lw_privs_2 ++ (lw_privs_3 ++ (lw_privs_4)))
def lw_tbl : List Cond := k2_sels lw_privs ++ tables_1
theorem lw_privs_ok : ∀ q ∈ lw_privs, lw_okq q := by
  show ∀ q ∈ lw_privs_1 ++ (lw_privs_2 ++ (lw_privs_3 ++ (lw_privs_4))), lw_okq q
  exact List.forall_mem_append.mpr ⟨lw_r1, List.forall_mem_append.mpr ⟨lw_r2, List.forall_mem_append.mpr ⟨lw_r3, lw_r4⟩⟩⟩

/-! ===== BEGIN words of one list among another's, by their places ===== -/
theorem goodIn_r {big : List Cond} (ws : List Cond) (ps : List Nat) (hp : ws = ps.filterMap (fun i => big[i]?)) (h : ws.all goodWord = true) : GoodIn big ws := by
  intro w hw
  have h1 := List.all_eq_true.mp h w hw
  rw [hp] at hw
  obtain ⟨i, -, hi⟩ := List.mem_filterMap.mp hw
  have hm : w ∈ big := by first | exact List.mem_of_getElem? hi | exact List.getElem?_mem hi
  exact ⟨hm, good_of_word h1⟩
theorem goodIn_app {big a b : List Cond} (ha : GoodIn big a) (hb : GoodIn big b) : GoodIn big (a ++ b) := fun w h => (List.mem_append.mp h).elim (ha w) (hb w)
theorem goodIn_ca {big a b : List Cond} {c : Cond} (ha : GoodIn big (c :: a)) (hb : GoodIn big b) : GoodIn big (c :: (a ++ b)) := fun w h => (List.mem_cons.mp h).elim (fun e => ha w (List.mem_cons.mpr (Or.inl e))) (fun h => (List.mem_append.mp h).elim (fun h => ha w (List.mem_cons.mpr (Or.inr h))) (hb w))
theorem goodIn_sub {big ws : List Cond} (hm : ∀ w ∈ ws, w ∈ big) (h : ws.all goodWord = true) : GoodIn big ws := fun w hw => ⟨hm w hw, good_of_word (List.all_eq_true.mp h w hw)⟩
/-! ===== END ===== -/
def RX0 : String := "MoodFare$Acts"
def TX0 : u_T := fun k => match k with
  | 0 => ("MoodFare$Acts", "ring", "[[I", true)
  | 1 => ("MoodFare$Acts", "oldest", "I", false)
  | _ => ("MoodFare$Acts", "kept", "I", false)
def tyX0 : Nat → FieldType := fun k => match k with
  | 0 => .array (.array .int)
  | 1 => .int
  | _ => .int
abbrev wsX00 : List Cond := u_ws RX0 TX0 3
theorem nmX0 : ∀ a, a < 3 → ∀ b, b < 3 → a ≠ b → (TX0 a).2.1 ≠ (TX0 b).2.1 := by decide +kernel
theorem tyX0_ok : ∀ k, k < 3 → parseFieldDescriptor (TX0 k).2.2.1 = some (tyX0 k) := by decide +kernel
abbrev cX0_init : ByteArray := prog_2_method_1_code
def yX0_init : MethodName := ⟨RX0, "<init>", "()V"⟩
abbrev cX0_forget : ByteArray := prog_2_method_2_code
def yX0_forget : MethodName := ⟨RX0, "forget", "()V"⟩
abbrev cX0_keep : ByteArray := prog_2_method_3_code
def yX0_keep : MethodName := ⟨RX0, "keep", "(IIII)V"⟩
abbrev cX0_takeBack : ByteArray := prog_2_method_4_code
def yX0_takeBack : MethodName := ⟨RX0, "takeBack", "(LMoodFare$Town;)V"⟩
def RX1 : String := "MoodFare$Asker"
def TX1 : u_T := fun k => match k with
  | 0 => ("MoodFare$Asker", "numbers", "[I", true)
  | _ => ("MoodFare$Asker", "begun", "I", false)
def tyX1 : Nat → FieldType := fun k => match k with
  | 0 => .array .int
  | _ => .int
abbrev wsX10 : List Cond := u_ws RX1 TX1 2
theorem nmX1 : ∀ a, a < 2 → ∀ b, b < 2 → a ≠ b → (TX1 a).2.1 ≠ (TX1 b).2.1 := by decide +kernel
theorem tyX1_ok : ∀ k, k < 2 → parseFieldDescriptor (TX1 k).2.2.1 = some (tyX1 k) := by decide +kernel
abbrev cX1_init : ByteArray := prog_3_method_1_code
def yX1_init : MethodName := ⟨RX1, "<init>", "()V"⟩
abbrev cX1_answerOf : ByteArray := prog_3_method_2_code
def yX1_answerOf : MethodName := ⟨RX1, "answerOf", "(LMoodFare$Town;II)I"⟩
abbrev cX1_gives : ByteArray := prog_3_method_3_code
def yX1_gives : MethodName := ⟨RX1, "gives", "(ILMoodFare$Town;II)I"⟩
abbrev cX1_leave : ByteArray := prog_3_method_4_code
def yX1_leave : MethodName := ⟨RX1, "leave", "(I)V"⟩
def RX2 : String := "MoodFare$Rows"
def TX2 : u_T := fun k => match k with
  | 0 => ("MoodFare$Rows", "lanes", "[I", true)
  | 1 => ("MoodFare$Rows", "lengths", "[I", true)
  | _ => ("MoodFare$Rows", "items", "[[I", true)
def tyX2 : Nat → FieldType := fun k => match k with
  | 0 => .array .int
  | 1 => .array .int
  | _ => .array (.array .int)
abbrev wsX20 : List Cond := u_ws RX2 TX2 3
theorem nmX2 : ∀ a, a < 3 → ∀ b, b < 3 → a ≠ b → (TX2 a).2.1 ≠ (TX2 b).2.1 := by decide +kernel
theorem tyX2_ok : ∀ k, k < 3 → parseFieldDescriptor (TX2 k).2.2.1 = some (tyX2 k) := by decide +kernel
abbrev cX2_init : ByteArray := prog_4_method_1_code
def yX2_init : MethodName := ⟨RX2, "<init>", "()V"⟩
abbrev cX2_isRow : ByteArray := prog_4_method_2_code
def yX2_isRow : MethodName := ⟨RX2, "isRow", "(I)Z"⟩
abbrev cX2_isMissing : ByteArray := prog_4_method_3_code
def yX2_isMissing : MethodName := ⟨RX2, "isMissing", "(I)Z"⟩
abbrev cX2_howMany : ByteArray := prog_4_method_4_code
def yX2_howMany : MethodName := ⟨RX2, "howMany", "()I"⟩
abbrev cX2_lay : ByteArray := prog_4_method_5_code
def yX2_lay : MethodName := ⟨RX2, "lay", "(III)V"⟩
abbrev cX2_lose : ByteArray := prog_4_method_6_code
def yX2_lose : MethodName := ⟨RX2, "lose", "(I)I"⟩
abbrev cX2_put : ByteArray := prog_4_method_7_code
def yX2_put : MethodName := ⟨RX2, "put", "(III)I"⟩
abbrev cX2_move : ByteArray := prog_4_method_8_code
def yX2_move : MethodName := ⟨RX2, "move", "(IIIII)V"⟩
abbrev cX2_findingOf : ByteArray := prog_4_method_9_code
def yX2_findingOf : MethodName := ⟨RX2, "findingOf", "(III)I"⟩
abbrev cX2_findingOfMove : ByteArray := prog_4_method_10_code
def yX2_findingOfMove : MethodName := ⟨RX2, "findingOfMove", "(IIIII)I"⟩
abbrev cX2_spans : ByteArray := prog_4_method_11_code
def yX2_spans : MethodName := ⟨RX2, "spans", "(III)Z"⟩
def RX3 : String := "MoodFare$Search"
def TX3 : u_T := fun k => match k with
  | 0 => ("MoodFare$Search", "path", "[I", true)
  | 1 => ("MoodFare$Search", "best", "[I", true)
  | 2 => ("MoodFare$Search", "enough", "[Z", true)
  | 3 => ("MoodFare$Search", "purpose", "I", false)
  | 4 => ("MoodFare$Search", "aim", "I", false)
  | 5 => ("MoodFare$Search", "limit", "I", false)
  | 6 => ("MoodFare$Search", "growthMost", "I", false)
  | 7 => ("MoodFare$Search", "length", "I", false)
  | 8 => ("MoodFare$Search", "cost", "I", false)
  | 9 => ("MoodFare$Search", "end", "I", false)
  | _ => ("MoodFare$Search", "moodBits", "I", false)
def tyX3 : Nat → FieldType := fun k => match k with
  | 0 => .array .int
  | 1 => .array .int
  | 2 => .array .boolean
  | 3 => .int
  | 4 => .int
  | 5 => .int
  | 6 => .int
  | 7 => .int
  | 8 => .int
  | 9 => .int
  | _ => .int
abbrev wsX30 : List Cond := u_ws RX3 TX3 11
theorem nmX3 : ∀ a, a < 11 → ∀ b, b < 11 → a ≠ b → (TX3 a).2.1 ≠ (TX3 b).2.1 := by decide +kernel
theorem tyX3_ok : ∀ k, k < 11 → parseFieldDescriptor (TX3 k).2.2.1 = some (tyX3 k) := by decide +kernel
abbrev cX3_init : ByteArray := prog_5_method_1_code
def yX3_init : MethodName := ⟨RX3, "<init>", "()V"⟩
abbrev cX3_seek : ByteArray := prog_5_method_2_code
def yX3_seek : MethodName := ⟨RX3, "seek", "(LMoodFare$Town;III)V"⟩
abbrev cX3_seekWithin : ByteArray := prog_5_method_3_code
def yX3_seekWithin : MethodName := ⟨RX3, "seekWithin", "(LMoodFare$Town;II)V"⟩
abbrev cX3_weightOfEnough : ByteArray := prog_5_method_4_code
def yX3_weightOfEnough : MethodName := ⟨RX3, "weightOfEnough", "(II)I"⟩
abbrev cX3_streetOf : ByteArray := prog_5_method_5_code
def yX3_streetOf : MethodName := ⟨RX3, "streetOf", "(I)I"⟩
abbrev cX3_walk : ByteArray := prog_5_method_6_code
def yX3_walk : MethodName := ⟨RX3, "walk", "(LMoodFare$Town;IIIII)V"⟩
abbrev cX3_weigh : ByteArray := prog_5_method_7_code
def yX3_weigh : MethodName := ⟨RX3, "weigh", "(IIIII)V"⟩
abbrev cX3_keepPath : ByteArray := prog_5_method_8_code
def yX3_keepPath : MethodName := ⟨RX3, "keepPath", "(III)V"⟩
def RX4 : String := "MoodFare$Tape"
def TX4 : u_T := fun k => match k with
  | 0 => ("MoodFare$Tape", "bytes", "[I", true)
  | 1 => ("MoodFare$Tape", "length", "I", false)
  | 2 => ("MoodFare$Tape", "faultNumber", "I", false)
  | 3 => ("MoodFare$Tape", "faultPlace", "I", false)
  | _ => ("MoodFare$Tape", "place", "I", false)
def tyX4 : Nat → FieldType := fun k => match k with
  | 0 => .array .int
  | 1 => .int
  | 2 => .int
  | 3 => .int
  | _ => .int
abbrev wsX40 : List Cond := u_ws RX4 TX4 5
theorem nmX4 : ∀ a, a < 5 → ∀ b, b < 5 → a ≠ b → (TX4 a).2.1 ≠ (TX4 b).2.1 := by decide +kernel
theorem tyX4_ok : ∀ k, k < 5 → parseFieldDescriptor (TX4 k).2.2.1 = some (tyX4 k) := by decide +kernel
abbrev cX4_init : ByteArray := prog_6_method_1_code
def yX4_init : MethodName := ⟨RX4, "<init>", "()V"⟩
abbrev cX4_put : ByteArray := prog_6_method_2_code
def yX4_put : MethodName := ⟨RX4, "put", "(I)I"⟩
abbrev cX4_readInto : ByteArray := prog_6_method_3_code
def yX4_readInto : MethodName := ⟨RX4, "readInto", "(LMoodFare$Town;)Z"⟩
abbrev cX4_readLaw : ByteArray := prog_6_method_4_code
def yX4_readLaw : MethodName := ⟨RX4, "readLaw", "(LMoodFare$Town;)Z"⟩
abbrev cX4_readCorners : ByteArray := prog_6_method_5_code
def yX4_readCorners : MethodName := ⟨RX4, "readCorners", "(LMoodFare$Town;)Z"⟩
abbrev cX4_readStreets : ByteArray := prog_6_method_6_code
def yX4_readStreets : MethodName := ⟨RX4, "readStreets", "(LMoodFare$Town;)Z"⟩
abbrev cX4_readEnds : ByteArray := prog_6_method_7_code
def yX4_readEnds : MethodName := ⟨RX4, "readEnds", "(LMoodFare$Town;I)Z"⟩
abbrev cX4_isTold : ByteArray := prog_6_method_8_code
def yX4_isTold : MethodName := ⟨RX4, "isTold", "(LMoodFare$Town;II)Z"⟩
abbrev cX4_kindOf : ByteArray := prog_6_method_9_code
def yX4_kindOf : MethodName := ⟨RX4, "kindOf", "(I)I"⟩
abbrev cX4_letterHere : ByteArray := prog_6_method_10_code
def yX4_letterHere : MethodName := ⟨RX4, "letterHere", "()I"⟩
abbrev cX4_takes : ByteArray := prog_6_method_11_code
def yX4_takes : MethodName := ⟨RX4, "takes", "(I)Z"⟩
abbrev cX4_numberWithin : ByteArray := prog_6_method_12_code
def yX4_numberWithin : MethodName := ⟨RX4, "numberWithin", "(II)I"⟩
abbrev cX4_failsAt : ByteArray := prog_6_method_13_code
def yX4_failsAt : MethodName := ⟨RX4, "failsAt", "(II)Z"⟩
def RX5 : String := "MoodFare$Town"
def TX5 : u_T := fun k => match k with
  | 0 => ("MoodFare$Town", "kinds", "[I", true)
  | 1 => ("MoodFare$Town", "muches", "[I", true)
  | 2 => ("MoodFare$Town", "fees", "[I", true)
  | 3 => ("MoodFare$Town", "froms", "[I", true)
  | 4 => ("MoodFare$Town", "tos", "[I", true)
  | 5 => ("MoodFare$Town", "corners", "I", false)
  | 6 => ("MoodFare$Town", "streets", "I", false)
  | 7 => ("MoodFare$Town", "rate", "I", false)
  | 8 => ("MoodFare$Town", "open", "I", false)
  | 9 => ("MoodFare$Town", "at", "I", false)
  | 10 => ("MoodFare$Town", "mood", "I", false)
  | 11 => ("MoodFare$Town", "meter", "I", false)
  | _ => ("MoodFare$Town", "step", "I", false)
def tyX5 : Nat → FieldType := fun k => match k with
  | 0 => .array .int
  | 1 => .array .int
  | 2 => .array .int
  | 3 => .array .int
  | 4 => .array .int
  | 5 => .int
  | 6 => .int
  | 7 => .int
  | 8 => .int
  | 9 => .int
  | 10 => .int
  | 11 => .int
  | _ => .int
abbrev wsX50 : List Cond := u_ws RX5 TX5 13
theorem nmX5 : ∀ a, a < 13 → ∀ b, b < 13 → a ≠ b → (TX5 a).2.1 ≠ (TX5 b).2.1 := by decide +kernel
theorem tyX5_ok : ∀ k, k < 13 → parseFieldDescriptor (TX5 k).2.2.1 = some (tyX5 k) := by decide +kernel
abbrev cX5_init : ByteArray := prog_7_method_1_code
def yX5_init : MethodName := ⟨RX5, "<init>", "()V"⟩
abbrev cX5_become : ByteArray := prog_7_method_2_code
def yX5_become : MethodName := ⟨RX5, "become", "(LMoodFare$Town;)V"⟩
abbrev cX5_clear : ByteArray := prog_7_method_3_code
def yX5_clear : MethodName := ⟨RX5, "clear", "()V"⟩
abbrev cX5_stands : ByteArray := prog_7_method_4_code
def yX5_stands : MethodName := ⟨RX5, "stands", "()Z"⟩
abbrev cX5_hasCorner : ByteArray := prog_7_method_5_code
def yX5_hasCorner : MethodName := ⟨RX5, "hasCorner", "(I)Z"⟩
abbrev cX5_hasStreet : ByteArray := prog_7_method_6_code
def yX5_hasStreet : MethodName := ⟨RX5, "hasStreet", "(I)Z"⟩
abbrev cX5_isOpen : ByteArray := prog_7_method_7_code
def yX5_isOpen : MethodName := ⟨RX5, "isOpen", "(I)Z"⟩
abbrev cX5_turn : ByteArray := prog_7_method_8_code
def yX5_turn : MethodName := ⟨RX5, "turn", "(I)V"⟩
abbrev cX5_leads : ByteArray := prog_7_method_9_code
def yX5_leads : MethodName := ⟨RX5, "leads", "(I)Z"⟩
abbrev cX5_leadsFrom : ByteArray := prog_7_method_10_code
def yX5_leadsFrom : MethodName := ⟨RX5, "leadsFrom", "(II)Z"⟩
abbrev cX5_moodBehind : ByteArray := prog_7_method_11_code
def yX5_moodBehind : MethodName := ⟨RX5, "moodBehind", "(III)I"⟩
abbrev cX5_costBetween : ByteArray := prog_7_method_12_code
def yX5_costBetween : MethodName := ⟨RX5, "costBetween", "(III)I"⟩
abbrev cX5_moodBy : ByteArray := prog_7_method_13_code
def yX5_moodBy : MethodName := ⟨RX5, "moodBy", "(I)I"⟩
abbrev cX5_costBy : ByteArray := prog_7_method_14_code
def yX5_costBy : MethodName := ⟨RX5, "costBy", "(I)I"⟩
abbrev cX5_goBy : ByteArray := prog_7_method_15_code
def yX5_goBy : MethodName := ⟨RX5, "goBy", "(I)V"⟩
abbrev cX5_goByDraw : ByteArray := prog_7_method_16_code
def yX5_goByDraw : MethodName := ⟨RX5, "goByDraw", "(J)V"⟩
abbrev cX5_openWays : ByteArray := prog_7_method_17_code
def yX5_openWays : MethodName := ⟨RX5, "openWays", "()I"⟩
def RX6 : String := "MoodFare"
def TX6 : u_T := fun k => match k with
  | 0 => ("MoodFare", "rows", "LMoodFare$Rows;", true)
  | 1 => ("MoodFare", "tape", "LMoodFare$Tape;", true)
  | 2 => ("MoodFare", "town", "LMoodFare$Town;", true)
  | 3 => ("MoodFare", "trial", "LMoodFare$Town;", true)
  | 4 => ("MoodFare", "images", "[LMoodFare$Town;", true)
  | 5 => ("MoodFare", "acts", "LMoodFare$Acts;", true)
  | 6 => ("MoodFare", "search", "LMoodFare$Search;", true)
  | 7 => ("MoodFare", "asker", "LMoodFare$Asker;", true)
  | 8 => ("MoodFare", "status", "I", false)
  | _ => ("MoodFare", "fault", "I", false)
def tyX6 : Nat → FieldType := fun k => match k with
  | 0 => .object "MoodFare$Rows"
  | 1 => .object "MoodFare$Tape"
  | 2 => .object "MoodFare$Town"
  | 3 => .object "MoodFare$Town"
  | 4 => .array (.object "MoodFare$Town")
  | 5 => .object "MoodFare$Acts"
  | 6 => .object "MoodFare$Search"
  | 7 => .object "MoodFare$Asker"
  | 8 => .int
  | _ => .int
abbrev wsX60 : List Cond := u_ws RX6 TX6 10
theorem nmX6 : ∀ a, a < 10 → ∀ b, b < 10 → a ≠ b → (TX6 a).2.1 ≠ (TX6 b).2.1 := by decide +kernel
theorem tyX6_ok : ∀ k, k < 10 → parseFieldDescriptor (TX6 k).2.2.1 = some (tyX6 k) := by decide +kernel
abbrev cX6_init : ByteArray := prog_1_method_1_code
def yX6_init : MethodName := ⟨RX6, "<init>", "()V"⟩
abbrev cX6_row : ByteArray := prog_1_method_2_code
def yX6_row : MethodName := ⟨RX6, "row", "(III)I"⟩
abbrev cX6_set : ByteArray := prog_1_method_3_code
def yX6_set : MethodName := ⟨RX6, "set", "(III)I"⟩
abbrev cX6_copy : ByteArray := prog_1_method_4_code
def yX6_copy : MethodName := ⟨RX6, "copy", "(IIIII)I"⟩
abbrev cX6_drop : ByteArray := prog_1_method_5_code
def yX6_drop : MethodName := ⟨RX6, "drop", "(I)I"⟩
abbrev cX6_feed : ByteArray := prog_1_method_6_code
def yX6_feed : MethodName := ⟨RX6, "feed", "(I)I"⟩
abbrev cX6_town : ByteArray := prog_1_method_7_code
def yX6_town : MethodName := ⟨RX6, "town", "()I"⟩
abbrev cX6_fault : ByteArray := prog_1_method_8_code
def yX6_fault : MethodName := ⟨RX6, "fault", "()I"⟩
abbrev cX6_ride : ByteArray := prog_1_method_9_code
def yX6_ride : MethodName := ⟨RX6, "ride", "(I)I"⟩
abbrev cX6_lesson : ByteArray := prog_1_method_10_code
def yX6_lesson : MethodName := ⟨RX6, "lesson", "(II)I"⟩
abbrev cX6_reset : ByteArray := prog_1_method_11_code
def yX6_reset : MethodName := ⟨RX6, "reset", "()I"⟩
abbrev cX6_street : ByteArray := prog_1_method_12_code
def yX6_street : MethodName := ⟨RX6, "street", "(II)I"⟩
abbrev cX6_undo : ByteArray := prog_1_method_13_code
def yX6_undo : MethodName := ⟨RX6, "undo", "()I"⟩
abbrev cX6_corner : ByteArray := prog_1_method_14_code
def yX6_corner : MethodName := ⟨RX6, "corner", "(II)I"⟩
abbrev cX6_way : ByteArray := prog_1_method_15_code
def yX6_way : MethodName := ⟨RX6, "way", "(II)I"⟩
abbrev cX6_would : ByteArray := prog_1_method_16_code
def yX6_would : MethodName := ⟨RX6, "would", "(II)I"⟩
abbrev cX6_reach : ByteArray := prog_1_method_17_code
def yX6_reach : MethodName := ⟨RX6, "reach", "()I"⟩
abbrev cX6_cheapest : ByteArray := prog_1_method_18_code
def yX6_cheapest : MethodName := ⟨RX6, "cheapest", "(II)I"⟩
abbrev cX6_dearest : ByteArray := prog_1_method_19_code
def yX6_dearest : MethodName := ⟨RX6, "dearest", "(II)I"⟩
abbrev cX6_moods : ByteArray := prog_1_method_20_code
def yX6_moods : MethodName := ⟨RX6, "moods", "(II)I"⟩
abbrev cX6_gets : ByteArray := prog_1_method_21_code
def yX6_gets : MethodName := ⟨RX6, "gets", "(II)I"⟩
abbrev cX6_fits : ByteArray := prog_1_method_22_code
def yX6_fits : MethodName := ⟨RX6, "fits", "(IIIIII)I"⟩
abbrev cX6_fitsOf : ByteArray := prog_1_method_23_code
def yX6_fitsOf : MethodName := ⟨RX6, "fitsOf", "(IIIIIII)I"⟩
abbrev cX6_share : ByteArray := prog_1_method_24_code
def yX6_share : MethodName := ⟨RX6, "share", "(IIII)I"⟩
abbrev cX6_shut : ByteArray := prog_1_method_25_code
def yX6_shut : MethodName := ⟨RX6, "shut", "(IIII)I"⟩
abbrev cX6_drawn : ByteArray := prog_1_method_26_code
def yX6_drawn : MethodName := ⟨RX6, "drawn", "(III)I"⟩
abbrev cX6_image : ByteArray := prog_1_method_27_code
def yX6_image : MethodName := ⟨RX6, "image", "(I)I"⟩
abbrev cX6_restore : ByteArray := prog_1_method_28_code
def yX6_restore : MethodName := ⟨RX6, "restore", "(I)I"⟩
abbrev cX6_kind : ByteArray := prog_1_method_29_code
def yX6_kind : MethodName := ⟨RX6, "kind", "(I)I"⟩
abbrev cX6_as : ByteArray := prog_1_method_30_code
def yX6_as : MethodName := ⟨RX6, "as", "(II)I"⟩
abbrev cX6_ask : ByteArray := prog_1_method_31_code
def yX6_ask : MethodName := ⟨RX6, "ask", "(II)I"⟩
abbrev cX6_trace : ByteArray := prog_1_method_32_code
def yX6_trace : MethodName := ⟨RX6, "trace", "(I)I"⟩
abbrev cX6_count : ByteArray := prog_1_method_33_code
def yX6_count : MethodName := ⟨RX6, "count", "(I)I"⟩
abbrev cX6_status : ByteArray := prog_1_method_34_code
def yX6_status : MethodName := ⟨RX6, "status", "()I"⟩
abbrev cX6_found : ByteArray := prog_1_method_35_code
def yX6_found : MethodName := ⟨RX6, "found", "(I)I"⟩
abbrev cX6_unfound : ByteArray := prog_1_method_36_code
def yX6_unfound : MethodName := ⟨RX6, "unfound", "(I)I"⟩
abbrev cX6_streetsAt : ByteArray := prog_1_method_37_code
def yX6_streetsAt : MethodName := ⟨RX6, "streetsAt", "(I[I)I"⟩
abbrev cX6_areFitting : ByteArray := prog_1_method_38_code
def yX6_areFitting : MethodName := ⟨RX6, "areFitting", "(IIII)Z"⟩
abbrev cX6_findingOfTwo : ByteArray := prog_1_method_39_code
def yX6_findingOfTwo : MethodName := ⟨RX6, "findingOfTwo", "(IIIII)I"⟩
abbrev cX6_isSo : ByteArray := prog_1_method_40_code
def yX6_isSo : MethodName := ⟨RX6, "isSo", "(IIIII)Z"⟩
abbrev cX6_owedFrom : ByteArray := prog_1_method_41_code
def yX6_owedFrom : MethodName := ⟨RX6, "owedFrom", "(IIII)I"⟩
abbrev cX6_isOfKind : ByteArray := prog_1_method_42_code
def yX6_isOfKind : MethodName := ⟨RX6, "isOfKind", "(II)Z"⟩
abbrev cX6_power : ByteArray := prog_1_method_43_code
def yX6_power : MethodName := ⟨RX6, "power", "(II)I"⟩
abbrev cX6_commonDivisor : ByteArray := prog_1_method_44_code
def yX6_commonDivisor : MethodName := ⟨RX6, "commonDivisor", "(II)I"⟩
def RX7 : String := "MoodFareModel"
def TX7 : u_T := fun k => match k with
  | 0 => ("MoodFareModel", "lane", "[I", true)
  | 1 => ("MoodFareModel", "many", "[I", true)
  | 2 => ("MoodFareModel", "items", "[I", true)
  | 3 => ("MoodFareModel", "spare", "[I", true)
  | 4 => ("MoodFareModel", "status", "I", false)
  | 5 => ("MoodFareModel", "tape", "[I", true)
  | 6 => ("MoodFareModel", "taped", "I", false)
  | 7 => ("MoodFareModel", "faultKind", "I", false)
  | 8 => ("MoodFareModel", "faultPlace", "I", false)
  | 9 => ("MoodFareModel", "at", "I", false)
  | 10 => ("MoodFareModel", "start", "I", false)
  | 11 => ("MoodFareModel", "token", "I", false)
  | 12 => ("MoodFareModel", "value", "I", false)
  | 13 => ("MoodFareModel", "now", "[I", true)
  | 14 => ("MoodFareModel", "draft", "[I", true)
  | 15 => ("MoodFareModel", "tried", "[I", true)
  | 16 => ("MoodFareModel", "past", "[I", true)
  | 17 => ("MoodFareModel", "acts", "I", false)
  | 18 => ("MoodFareModel", "images", "[I", true)
  | 19 => ("MoodFareModel", "kept", "[Z", true)
  | 20 => ("MoodFareModel", "depth", "I", false)
  | 21 => ("MoodFareModel", "path", "[I", true)
  | 22 => ("MoodFareModel", "next", "[I", true)
  | 23 => ("MoodFareModel", "where", "[I", true)
  | 24 => ("MoodFareModel", "moods", "[I", true)
  | 25 => ("MoodFareModel", "costs", "[I", true)
  | 26 => ("MoodFareModel", "best", "[I", true)
  | 27 => ("MoodFareModel", "bestCost", "I", false)
  | 28 => ("MoodFareModel", "bestSize", "I", false)
  | 29 => ("MoodFareModel", "bestWhere", "I", false)
  | 30 => ("MoodFareModel", "trace", "[I", true)
  | _ => ("MoodFareModel", "traced", "I", false)
def tyX7 : Nat → FieldType := fun k => match k with
  | 0 => .array .int
  | 1 => .array .int
  | 2 => .array .int
  | 3 => .array .int
  | 4 => .int
  | 5 => .array .int
  | 6 => .int
  | 7 => .int
  | 8 => .int
  | 9 => .int
  | 10 => .int
  | 11 => .int
  | 12 => .int
  | 13 => .array .int
  | 14 => .array .int
  | 15 => .array .int
  | 16 => .array .int
  | 17 => .int
  | 18 => .array .int
  | 19 => .array .boolean
  | 20 => .int
  | 21 => .array .int
  | 22 => .array .int
  | 23 => .array .int
  | 24 => .array .int
  | 25 => .array .int
  | 26 => .array .int
  | 27 => .int
  | 28 => .int
  | 29 => .int
  | 30 => .array .int
  | _ => .int
abbrev wsX70 : List Cond := u_ws RX7 TX7 32
theorem nmX7 : ∀ a, a < 32 → ∀ b, b < 32 → a ≠ b → (TX7 a).2.1 ≠ (TX7 b).2.1 := by decide +kernel
theorem tyX7_ok : ∀ k, k < 32 → parseFieldDescriptor (TX7 k).2.2.1 = some (tyX7 k) := by decide +kernel
abbrev cX7_init : ByteArray := prog_9_method_1_code
def yX7_init : MethodName := ⟨RX7, "<init>", "()V"⟩
abbrev cX7_in : ByteArray := prog_9_method_3_code
def yX7_in : MethodName := ⟨RX7, "in", "(III)Z"⟩
abbrev cX7_has : ByteArray := prog_9_method_4_code
def yX7_has : MethodName := ⟨RX7, "has", "(II)Z"⟩
abbrev cX7_found : ByteArray := prog_9_method_5_code
def yX7_found : MethodName := ⟨RX7, "found", "(I)I"⟩
abbrev cX7_well : ByteArray := prog_9_method_6_code
def yX7_well : MethodName := ⟨RX7, "well", "(I)I"⟩
abbrev cX7_copies : ByteArray := prog_9_method_7_code
def yX7_copies : MethodName := ⟨RX7, "copies", "([II[II)V"⟩
abbrev cX7_isRow : ByteArray := prog_9_method_8_code
def yX7_isRow : MethodName := ⟨RX7, "isRow", "(I)Z"⟩
abbrev cX7_isMissing : ByteArray := prog_9_method_9_code
def yX7_isMissing : MethodName := ⟨RX7, "isMissing", "(I)Z"⟩
abbrev cX7_cut : ByteArray := prog_9_method_10_code
def yX7_cut : MethodName := ⟨RX7, "cut", "(II)I"⟩
abbrev cX7_row : ByteArray := prog_9_method_11_code
def yX7_row : MethodName := ⟨RX7, "row", "(III)I"⟩
abbrev cX7_set : ByteArray := prog_9_method_12_code
def yX7_set : MethodName := ⟨RX7, "set", "(III)I"⟩
abbrev cX7_isPart : ByteArray := prog_9_method_13_code
def yX7_isPart : MethodName := ⟨RX7, "isPart", "(III)Z"⟩
abbrev cX7_copy : ByteArray := prog_9_method_14_code
def yX7_copy : MethodName := ⟨RX7, "copy", "(IIIII)I"⟩
abbrev cX7_drop : ByteArray := prog_9_method_15_code
def yX7_drop : MethodName := ⟨RX7, "drop", "(I)I"⟩
abbrev cX7_feed : ByteArray := prog_9_method_16_code
def yX7_feed : MethodName := ⟨RX7, "feed", "(I)I"⟩
abbrev cX7_byteAt : ByteArray := prog_9_method_17_code
def yX7_byteAt : MethodName := ⟨RX7, "byteAt", "(I)I"⟩
abbrev cX7_advances : ByteArray := prog_9_method_18_code
def yX7_advances : MethodName := ⟨RX7, "advances", "()V"⟩
abbrev cX7_isWell : ByteArray := prog_9_method_19_code
def yX7_isWell : MethodName := ⟨RX7, "isWell", "()Z"⟩
abbrev cX7_takes : ByteArray := prog_9_method_20_code
def yX7_takes : MethodName := ⟨RX7, "takes", "(ZI)I"⟩
abbrev cX7_figure : ByteArray := prog_9_method_21_code
def yX7_figure : MethodName := ⟨RX7, "figure", "(II)I"⟩
abbrev cX7_kindOf : ByteArray := prog_9_method_22_code
def yX7_kindOf : MethodName := ⟨RX7, "kindOf", "(I)I"⟩
abbrev cX7_follows : ByteArray := prog_9_method_23_code
def yX7_follows : MethodName := ⟨RX7, "follows", "(II)I"⟩
abbrev cX7_readsCorner : ByteArray := prog_9_method_24_code
def yX7_readsCorner : MethodName := ⟨RX7, "readsCorner", "()V"⟩
abbrev cX7_isStreetTold : ByteArray := prog_9_method_25_code
def yX7_isStreetTold : MethodName := ⟨RX7, "isStreetTold", "(II)Z"⟩
abbrev cX7_toFigure : ByteArray := prog_9_method_26_code
def yX7_toFigure : MethodName := ⟨RX7, "toFigure", "(I)I"⟩
abbrev cX7_readsStreet : ByteArray := prog_9_method_27_code
def yX7_readsStreet : MethodName := ⟨RX7, "readsStreet", "()V"⟩
abbrev cX7_town : ByteArray := prog_9_method_28_code
def yX7_town : MethodName := ⟨RX7, "town", "()I"⟩
abbrev cX7_fault : ByteArray := prog_9_method_29_code
def yX7_fault : MethodName := ⟨RX7, "fault", "()I"⟩
abbrev cX7_isTown : ByteArray := prog_9_method_30_code
def yX7_isTown : MethodName := ⟨RX7, "isTown", "()Z"⟩
abbrev cX7_isCorner : ByteArray := prog_9_method_31_code
def yX7_isCorner : MethodName := ⟨RX7, "isCorner", "(I)Z"⟩
abbrev cX7_isStreet : ByteArray := prog_9_method_32_code
def yX7_isStreet : MethodName := ⟨RX7, "isStreet", "(I)Z"⟩
abbrev cX7_passed : ByteArray := prog_9_method_33_code
def yX7_passed : MethodName := ⟨RX7, "passed", "([IIII)I"⟩
abbrev cX7_cost : ByteArray := prog_9_method_34_code
def yX7_cost : MethodName := ⟨RX7, "cost", "([IIII)I"⟩
abbrev cX7_goes : ByteArray := prog_9_method_35_code
def yX7_goes : MethodName := ⟨RX7, "goes", "([III)Z"⟩
abbrev cX7_rides : ByteArray := prog_9_method_36_code
def yX7_rides : MethodName := ⟨RX7, "rides", "([II)V"⟩
abbrev cX7_notes : ByteArray := prog_9_method_37_code
def yX7_notes : MethodName := ⟨RX7, "notes", "()V"⟩
abbrev cX7_ride : ByteArray := prog_9_method_38_code
def yX7_ride : MethodName := ⟨RX7, "ride", "(I)I"⟩
abbrev cX7_lesson : ByteArray := prog_9_method_39_code
def yX7_lesson : MethodName := ⟨RX7, "lesson", "(II)I"⟩
abbrev cX7_reset : ByteArray := prog_9_method_40_code
def yX7_reset : MethodName := ⟨RX7, "reset", "()I"⟩
abbrev cX7_street : ByteArray := prog_9_method_41_code
def yX7_street : MethodName := ⟨RX7, "street", "(II)I"⟩
abbrev cX7_undo : ByteArray := prog_9_method_42_code
def yX7_undo : MethodName := ⟨RX7, "undo", "()I"⟩
abbrev cX7_ends : ByteArray := prog_9_method_43_code
def yX7_ends : MethodName := ⟨RX7, "ends", "(II)I"⟩
abbrev cX7_corner : ByteArray := prog_9_method_44_code
def yX7_corner : MethodName := ⟨RX7, "corner", "(II)I"⟩
abbrev cX7_way : ByteArray := prog_9_method_45_code
def yX7_way : MethodName := ⟨RX7, "way", "(II)I"⟩
abbrev cX7_would : ByteArray := prog_9_method_46_code
def yX7_would : MethodName := ⟨RX7, "would", "(II)I"⟩
abbrev cX7_reach : ByteArray := prog_9_method_47_code
def yX7_reach : MethodName := ⟨RX7, "reach", "()I"⟩
abbrev cX7_begins : ByteArray := prog_9_method_48_code
def yX7_begins : MethodName := ⟨RX7, "begins", "()V"⟩
abbrev cX7_adds : ByteArray := prog_9_method_49_code
def yX7_adds : MethodName := ⟨RX7, "adds", "(I)V"⟩
abbrev cX7_goesOn : ByteArray := prog_9_method_50_code
def yX7_goesOn : MethodName := ⟨RX7, "goesOn", "(I)Z"⟩
abbrev cX7_keeps : ByteArray := prog_9_method_51_code
def yX7_keeps : MethodName := ⟨RX7, "keeps", "(I)V"⟩
abbrev cX7_finds : ByteArray := prog_9_method_52_code
def yX7_finds : MethodName := ⟨RX7, "finds", "(II)V"⟩
abbrev cX7_told : ByteArray := prog_9_method_53_code
def yX7_told : MethodName := ⟨RX7, "told", "(II)I"⟩
abbrev cX7_cheapest : ByteArray := prog_9_method_54_code
def yX7_cheapest : MethodName := ⟨RX7, "cheapest", "(II)I"⟩
abbrev cX7_dearest : ByteArray := prog_9_method_55_code
def yX7_dearest : MethodName := ⟨RX7, "dearest", "(II)I"⟩
abbrev cX7_moods : ByteArray := prog_9_method_56_code
def yX7_moods : MethodName := ⟨RX7, "moods", "(II)I"⟩
abbrev cX7_gets : ByteArray := prog_9_method_57_code
def yX7_gets : MethodName := ⟨RX7, "gets", "(II)I"⟩
abbrev cX7_goesSo : ByteArray := prog_9_method_58_code
def yX7_goesSo : MethodName := ⟨RX7, "goesSo", "(III)Z"⟩
abbrev cX7_bar : ByteArray := prog_9_method_59_code
def yX7_bar : MethodName := ⟨RX7, "bar", "(IIIII)I"⟩
abbrev cX7_all : ByteArray := prog_9_method_60_code
def yX7_all : MethodName := ⟨RX7, "all", "(IIIIII)I"⟩
abbrev cX7_fits : ByteArray := prog_9_method_61_code
def yX7_fits : MethodName := ⟨RX7, "fits", "(IIIIII)I"⟩
abbrev cX7_fitsOf : ByteArray := prog_9_method_62_code
def yX7_fitsOf : MethodName := ⟨RX7, "fitsOf", "(IIIIIII)I"⟩
abbrev cX7_share : ByteArray := prog_9_method_63_code
def yX7_share : MethodName := ⟨RX7, "share", "(IIII)I"⟩
abbrev cX7_shut : ByteArray := prog_9_method_64_code
def yX7_shut : MethodName := ⟨RX7, "shut", "(IIII)I"⟩
abbrev cX7_streetAfter : ByteArray := prog_9_method_65_code
def yX7_streetAfter : MethodName := ⟨RX7, "streetAfter", "(I)I"⟩
abbrev cX7_drawn : ByteArray := prog_9_method_66_code
def yX7_drawn : MethodName := ⟨RX7, "drawn", "(III)I"⟩
abbrev cX7_image : ByteArray := prog_9_method_67_code
def yX7_image : MethodName := ⟨RX7, "image", "(I)I"⟩
abbrev cX7_restore : ByteArray := prog_9_method_68_code
def yX7_restore : MethodName := ⟨RX7, "restore", "(I)I"⟩
abbrev cX7_kindIn : ByteArray := prog_9_method_69_code
def yX7_kindIn : MethodName := ⟨RX7, "kindIn", "(I)I"⟩
abbrev cX7_kind : ByteArray := prog_9_method_70_code
def yX7_kind : MethodName := ⟨RX7, "kind", "(I)I"⟩
abbrev cX7_as : ByteArray := prog_9_method_71_code
def yX7_as : MethodName := ⟨RX7, "as", "(II)I"⟩
abbrev cX7_leaves : ByteArray := prog_9_method_72_code
def yX7_leaves : MethodName := ⟨RX7, "leaves", "(I)V"⟩
abbrev cX7_joyMark : ByteArray := prog_9_method_73_code
def yX7_joyMark : MethodName := ⟨RX7, "joyMark", "(I)I"⟩
abbrev cX7_griefSize : ByteArray := prog_9_method_74_code
def yX7_griefSize : MethodName := ⟨RX7, "griefSize", "(I)I"⟩
abbrev cX7_joySize : ByteArray := prog_9_method_75_code
def yX7_joySize : MethodName := ⟨RX7, "joySize", "(I)I"⟩
abbrev cX7_griefMark : ByteArray := prog_9_method_76_code
def yX7_griefMark : MethodName := ⟨RX7, "griefMark", "(I)I"⟩
abbrev cX7_ask : ByteArray := prog_9_method_77_code
def yX7_ask : MethodName := ⟨RX7, "ask", "(II)I"⟩
abbrev cX7_trace : ByteArray := prog_9_method_78_code
def yX7_trace : MethodName := ⟨RX7, "trace", "(I)I"⟩
abbrev cX7_count : ByteArray := prog_9_method_79_code
def yX7_count : MethodName := ⟨RX7, "count", "(I)I"⟩
abbrev cX7_status : ByteArray := prog_9_method_80_code
def yX7_status : MethodName := ⟨RX7, "status", "()I"⟩
def RJ6 : String := "java/lang/Integer"
def TJ6 : u_T := fun k => match k with
  | _ => ("", "", "", false)
def tyJ6 : Nat → FieldType := fun k => match k with
  | _ => .int
abbrev wsJ60 : List Cond := u_ws RJ6 TJ6 0
theorem nmJ6 : ∀ a, a < 0 → ∀ b, b < 0 → a ≠ b → (TJ6 a).2.1 ≠ (TJ6 b).2.1 := by decide +kernel
theorem tyJ6_ok : ∀ k, k < 0 → parseFieldDescriptor (TJ6 k).2.2.1 = some (tyJ6 k) := by decide +kernel
abbrev cJ6_bitCount_0f7a4 : ByteArray := prog_10_method_49_code
def yJ6_bitCount_0f7a4 : MethodName := ⟨RJ6, "bitCount", "(I)I"⟩
def RJ9 : String := "java/lang/Math"
def TJ9 : u_T := fun k => match k with
  | _ => ("", "", "", false)
def tyJ9 : Nat → FieldType := fun k => match k with
  | _ => .int
abbrev wsJ90 : List Cond := u_ws RJ9 TJ9 0
theorem nmJ9 : ∀ a, a < 0 → ∀ b, b < 0 → a ≠ b → (TJ9 a).2.1 ≠ (TJ9 b).2.1 := by decide +kernel
theorem tyJ9_ok : ∀ k, k < 0 → parseFieldDescriptor (TJ9 k).2.2.1 = some (tyJ9 k) := by decide +kernel
abbrev cJ9_abs_0f7a4 : ByteArray := prog_11_method_59_code
def yJ9_abs_0f7a4 : MethodName := ⟨RJ9, "abs", "(I)I"⟩
abbrev cJ9_max_7cf53 : ByteArray := prog_11_method_65_code
def yJ9_max_7cf53 : MethodName := ⟨RJ9, "max", "(II)I"⟩
abbrev cJ9_min_7cf53 : ByteArray := prog_11_method_69_code
def yJ9_min_7cf53 : MethodName := ⟨RJ9, "min", "(II)I"⟩
def RJ10 : String := "java/lang/System"
def TJ10 : u_T := fun k => match k with
  | _ => ("", "", "", false)
def tyJ10 : Nat → FieldType := fun k => match k with
  | _ => .int
abbrev wsJ100 : List Cond := u_ws RJ10 TJ10 0
theorem nmJ10 : ∀ a, a < 0 → ∀ b, b < 0 → a ≠ b → (TJ10 a).2.1 ≠ (TJ10 b).2.1 := by decide +kernel
theorem tyJ10_ok : ∀ k, k < 0 → parseFieldDescriptor (TJ10 k).2.2.1 = some (tyJ10 k) := by decide +kernel
def RL : String := "MoodFareLaw"
abbrev cL_law : ByteArray := code
def yL_law : MethodName := ⟨RL, "law", "([I)Z"⟩
end
section
theorem dX0_init_0 : decode cX0_init 0 = .ok (.aload_n 0, 1) := by decide +kernel
theorem dX0_init_1 : decode cX0_init 1 = .ok (.invokespecial 3, 3) := by decide +kernel
theorem dX0_init_4 : decode cX0_init 4 = .ok (.aload_n 0, 1) := by decide +kernel
theorem dX0_init_5 : decode cX0_init 5 = .ok (.bipush 24, 2) := by decide +kernel
theorem dX0_init_7 : decode cX0_init 7 = .ok (.iconst 4, 1) := by decide +kernel
theorem dX0_init_8 : decode cX0_init 8 = .ok (.multianewarray 9 2, 4) := by decide +kernel
theorem dX0_init_12 : decode cX0_init 12 = .ok (.putfield 11, 3) := by decide +kernel
theorem dX0_init_15 : decode cX0_init 15 = .ok (.return_, 1) := by decide +kernel
theorem dX0_forget_0 : decode cX0_forget 0 = .ok (.aload_n 0, 1) := by decide +kernel
theorem dX0_forget_1 : decode cX0_forget 1 = .ok (.iconst 0, 1) := by decide +kernel
theorem dX0_forget_2 : decode cX0_forget 2 = .ok (.putfield 16, 3) := by decide +kernel
theorem dX0_forget_5 : decode cX0_forget 5 = .ok (.aload_n 0, 1) := by decide +kernel
theorem dX0_forget_6 : decode cX0_forget 6 = .ok (.iconst 0, 1) := by decide +kernel
theorem dX0_forget_7 : decode cX0_forget 7 = .ok (.putfield 20, 3) := by decide +kernel
theorem dX0_forget_10 : decode cX0_forget 10 = .ok (.return_, 1) := by decide +kernel
theorem dX0_keep_0 : decode cX0_keep 0 = .ok (.aload_n 0, 1) := by decide +kernel
theorem dX0_keep_1 : decode cX0_keep 1 = .ok (.getfield 20, 3) := by decide +kernel
theorem dX0_keep_4 : decode cX0_keep 4 = .ok (.bipush 24, 2) := by decide +kernel
theorem dX0_keep_6 : decode cX0_keep 6 = .ok (.if_icmp .ne 26, 3) := by decide +kernel
theorem dX0_keep_9 : decode cX0_keep 9 = .ok (.aload_n 0, 1) := by decide +kernel
theorem dX0_keep_10 : decode cX0_keep 10 = .ok (.aload_n 0, 1) := by decide +kernel
theorem dX0_keep_11 : decode cX0_keep 11 = .ok (.getfield 16, 3) := by decide +kernel
theorem dX0_keep_14 : decode cX0_keep 14 = .ok (.iconst 1, 1) := by decide +kernel
theorem dX0_keep_15 : decode cX0_keep 15 = .ok (.iadd, 1) := by decide +kernel
theorem dX0_keep_16 : decode cX0_keep 16 = .ok (.bipush 24, 2) := by decide +kernel
theorem dX0_keep_18 : decode cX0_keep 18 = .ok (.irem, 1) := by decide +kernel
theorem dX0_keep_19 : decode cX0_keep 19 = .ok (.putfield 16, 3) := by decide +kernel
theorem dX0_keep_22 : decode cX0_keep 22 = .ok (.aload_n 0, 1) := by decide +kernel
theorem dX0_keep_23 : decode cX0_keep 23 = .ok (.dup, 1) := by decide +kernel
theorem dX0_keep_24 : decode cX0_keep 24 = .ok (.getfield 20, 3) := by decide +kernel
theorem dX0_keep_27 : decode cX0_keep 27 = .ok (.iconst 1, 1) := by decide +kernel
theorem dX0_keep_28 : decode cX0_keep 28 = .ok (.isub, 1) := by decide +kernel
theorem dX0_keep_29 : decode cX0_keep 29 = .ok (.putfield 20, 3) := by decide +kernel
theorem dX0_keep_32 : decode cX0_keep 32 = .ok (.aload_n 0, 1) := by decide +kernel
theorem dX0_keep_33 : decode cX0_keep 33 = .ok (.getfield 11, 3) := by decide +kernel
theorem dX0_keep_36 : decode cX0_keep 36 = .ok (.aload_n 0, 1) := by decide +kernel
theorem dX0_keep_37 : decode cX0_keep 37 = .ok (.getfield 16, 3) := by decide +kernel
theorem dX0_keep_40 : decode cX0_keep 40 = .ok (.aload_n 0, 1) := by decide +kernel
theorem dX0_keep_41 : decode cX0_keep 41 = .ok (.getfield 20, 3) := by decide +kernel
theorem dX0_keep_44 : decode cX0_keep 44 = .ok (.iadd, 1) := by decide +kernel
theorem dX0_keep_45 : decode cX0_keep 45 = .ok (.bipush 24, 2) := by decide +kernel
theorem dX0_keep_47 : decode cX0_keep 47 = .ok (.irem, 1) := by decide +kernel
theorem dX0_keep_48 : decode cX0_keep 48 = .ok (.aaload, 1) := by decide +kernel
theorem dX0_keep_49 : decode cX0_keep 49 = .ok (.astore 5, 2) := by decide +kernel
theorem dX0_keep_51 : decode cX0_keep 51 = .ok (.aload 5, 2) := by decide +kernel
theorem dX0_keep_53 : decode cX0_keep 53 = .ok (.iconst 0, 1) := by decide +kernel
theorem dX0_keep_54 : decode cX0_keep 54 = .ok (.iload_n 1, 1) := by decide +kernel
theorem dX0_keep_55 : decode cX0_keep 55 = .ok (.iastore, 1) := by decide +kernel
theorem dX0_keep_56 : decode cX0_keep 56 = .ok (.aload 5, 2) := by decide +kernel
theorem dX0_keep_58 : decode cX0_keep 58 = .ok (.iconst 1, 1) := by decide +kernel
theorem dX0_keep_59 : decode cX0_keep 59 = .ok (.iload_n 2, 1) := by decide +kernel
theorem dX0_keep_60 : decode cX0_keep 60 = .ok (.iastore, 1) := by decide +kernel
theorem dX0_keep_61 : decode cX0_keep 61 = .ok (.aload 5, 2) := by decide +kernel
theorem dX0_keep_63 : decode cX0_keep 63 = .ok (.iconst 2, 1) := by decide +kernel
theorem dX0_keep_64 : decode cX0_keep 64 = .ok (.iload_n 3, 1) := by decide +kernel
theorem dX0_keep_65 : decode cX0_keep 65 = .ok (.iastore, 1) := by decide +kernel
theorem dX0_keep_66 : decode cX0_keep 66 = .ok (.aload 5, 2) := by decide +kernel
theorem dX0_keep_68 : decode cX0_keep 68 = .ok (.iconst 3, 1) := by decide +kernel
theorem dX0_keep_69 : decode cX0_keep 69 = .ok (.iload 4, 2) := by decide +kernel
theorem dX0_keep_71 : decode cX0_keep 71 = .ok (.iastore, 1) := by decide +kernel
theorem dX0_keep_72 : decode cX0_keep 72 = .ok (.aload_n 0, 1) := by decide +kernel
theorem dX0_keep_73 : decode cX0_keep 73 = .ok (.dup, 1) := by decide +kernel
theorem dX0_keep_74 : decode cX0_keep 74 = .ok (.getfield 20, 3) := by decide +kernel
theorem dX0_keep_77 : decode cX0_keep 77 = .ok (.iconst 1, 1) := by decide +kernel
theorem dX0_keep_78 : decode cX0_keep 78 = .ok (.iadd, 1) := by decide +kernel
theorem dX0_keep_79 : decode cX0_keep 79 = .ok (.putfield 20, 3) := by decide +kernel
theorem dX0_keep_82 : decode cX0_keep 82 = .ok (.return_, 1) := by decide +kernel
theorem dX0_takeBack_0 : decode cX0_takeBack 0 = .ok (.aload_n 0, 1) := by decide +kernel
theorem dX0_takeBack_1 : decode cX0_takeBack 1 = .ok (.getfield 20, 3) := by decide +kernel
theorem dX0_takeBack_4 : decode cX0_takeBack 4 = .ok (.ifCond .ne 4, 3) := by decide +kernel
theorem dX0_takeBack_7 : decode cX0_takeBack 7 = .ok (.return_, 1) := by decide +kernel
theorem dX0_takeBack_8 : decode cX0_takeBack 8 = .ok (.aload_n 0, 1) := by decide +kernel
theorem dX0_takeBack_9 : decode cX0_takeBack 9 = .ok (.dup, 1) := by decide +kernel
theorem dX0_takeBack_10 : decode cX0_takeBack 10 = .ok (.getfield 20, 3) := by decide +kernel
theorem dX0_takeBack_13 : decode cX0_takeBack 13 = .ok (.iconst 1, 1) := by decide +kernel
theorem dX0_takeBack_14 : decode cX0_takeBack 14 = .ok (.isub, 1) := by decide +kernel
theorem dX0_takeBack_15 : decode cX0_takeBack 15 = .ok (.putfield 20, 3) := by decide +kernel
theorem dX0_takeBack_18 : decode cX0_takeBack 18 = .ok (.aload_n 0, 1) := by decide +kernel
theorem dX0_takeBack_19 : decode cX0_takeBack 19 = .ok (.getfield 11, 3) := by decide +kernel
theorem dX0_takeBack_22 : decode cX0_takeBack 22 = .ok (.aload_n 0, 1) := by decide +kernel
theorem dX0_takeBack_23 : decode cX0_takeBack 23 = .ok (.getfield 16, 3) := by decide +kernel
theorem dX0_takeBack_26 : decode cX0_takeBack 26 = .ok (.aload_n 0, 1) := by decide +kernel
theorem dX0_takeBack_27 : decode cX0_takeBack 27 = .ok (.getfield 20, 3) := by decide +kernel
theorem dX0_takeBack_30 : decode cX0_takeBack 30 = .ok (.iadd, 1) := by decide +kernel
theorem dX0_takeBack_31 : decode cX0_takeBack 31 = .ok (.bipush 24, 2) := by decide +kernel
theorem dX0_takeBack_33 : decode cX0_takeBack 33 = .ok (.irem, 1) := by decide +kernel
theorem dX0_takeBack_34 : decode cX0_takeBack 34 = .ok (.aaload, 1) := by decide +kernel
theorem dX0_takeBack_35 : decode cX0_takeBack 35 = .ok (.astore_n 2, 1) := by decide +kernel
theorem dX0_takeBack_36 : decode cX0_takeBack 36 = .ok (.aload_n 2, 1) := by decide +kernel
theorem dX0_takeBack_37 : decode cX0_takeBack 37 = .ok (.iconst 0, 1) := by decide +kernel
theorem dX0_takeBack_38 : decode cX0_takeBack 38 = .ok (.iaload, 1) := by decide +kernel
theorem dX0_takeBack_39 : decode cX0_takeBack 39 = .ok (.tableswitch 83 0 2 #[25, 59, 73], 25) := by decide +kernel
theorem dX0_takeBack_64 : decode cX0_takeBack 64 = .ok (.aload_n 1, 1) := by decide +kernel
theorem dX0_takeBack_65 : decode cX0_takeBack 65 = .ok (.aload_n 2, 1) := by decide +kernel
theorem dX0_takeBack_66 : decode cX0_takeBack 66 = .ok (.iconst 1, 1) := by decide +kernel
theorem dX0_takeBack_67 : decode cX0_takeBack 67 = .ok (.iaload, 1) := by decide +kernel
theorem dX0_takeBack_68 : decode cX0_takeBack 68 = .ok (.putfield 23, 3) := by decide +kernel
theorem dX0_takeBack_71 : decode cX0_takeBack 71 = .ok (.aload_n 1, 1) := by decide +kernel
theorem dX0_takeBack_72 : decode cX0_takeBack 72 = .ok (.aload_n 2, 1) := by decide +kernel
theorem dX0_takeBack_73 : decode cX0_takeBack 73 = .ok (.iconst 2, 1) := by decide +kernel
theorem dX0_takeBack_74 : decode cX0_takeBack 74 = .ok (.iaload, 1) := by decide +kernel
theorem dX0_takeBack_75 : decode cX0_takeBack 75 = .ok (.putfield 28, 3) := by decide +kernel
theorem dX0_takeBack_78 : decode cX0_takeBack 78 = .ok (.aload_n 1, 1) := by decide +kernel
theorem dX0_takeBack_79 : decode cX0_takeBack 79 = .ok (.aload_n 2, 1) := by decide +kernel
theorem dX0_takeBack_80 : decode cX0_takeBack 80 = .ok (.iconst 3, 1) := by decide +kernel
theorem dX0_takeBack_81 : decode cX0_takeBack 81 = .ok (.iaload, 1) := by decide +kernel
theorem dX0_takeBack_82 : decode cX0_takeBack 82 = .ok (.putfield 31, 3) := by decide +kernel
theorem dX0_takeBack_85 : decode cX0_takeBack 85 = .ok (.aload_n 1, 1) := by decide +kernel
theorem dX0_takeBack_86 : decode cX0_takeBack 86 = .ok (.dup, 1) := by decide +kernel
theorem dX0_takeBack_87 : decode cX0_takeBack 87 = .ok (.getfield 34, 3) := by decide +kernel
theorem dX0_takeBack_90 : decode cX0_takeBack 90 = .ok (.iconst 1, 1) := by decide +kernel
theorem dX0_takeBack_91 : decode cX0_takeBack 91 = .ok (.isub, 1) := by decide +kernel
theorem dX0_takeBack_92 : decode cX0_takeBack 92 = .ok (.putfield 34, 3) := by decide +kernel
theorem dX0_takeBack_95 : decode cX0_takeBack 95 = .ok (.goto 34, 3) := by decide +kernel
theorem dX0_takeBack_98 : decode cX0_takeBack 98 = .ok (.aload_n 1, 1) := by decide +kernel
theorem dX0_takeBack_99 : decode cX0_takeBack 99 = .ok (.getfield 37, 3) := by decide +kernel
theorem dX0_takeBack_102 : decode cX0_takeBack 102 = .ok (.aload_n 2, 1) := by decide +kernel
theorem dX0_takeBack_103 : decode cX0_takeBack 103 = .ok (.iconst 1, 1) := by decide +kernel
theorem dX0_takeBack_104 : decode cX0_takeBack 104 = .ok (.iaload, 1) := by decide +kernel
theorem dX0_takeBack_105 : decode cX0_takeBack 105 = .ok (.aload_n 2, 1) := by decide +kernel
theorem dX0_takeBack_106 : decode cX0_takeBack 106 = .ok (.iconst 2, 1) := by decide +kernel
theorem dX0_takeBack_107 : decode cX0_takeBack 107 = .ok (.iaload, 1) := by decide +kernel
theorem dX0_takeBack_108 : decode cX0_takeBack 108 = .ok (.iastore, 1) := by decide +kernel
theorem dX0_takeBack_109 : decode cX0_takeBack 109 = .ok (.goto 20, 3) := by decide +kernel
theorem dX0_takeBack_112 : decode cX0_takeBack 112 = .ok (.aload_n 1, 1) := by decide +kernel
theorem dX0_takeBack_113 : decode cX0_takeBack 113 = .ok (.aload_n 2, 1) := by decide +kernel
theorem dX0_takeBack_114 : decode cX0_takeBack 114 = .ok (.iconst 1, 1) := by decide +kernel
theorem dX0_takeBack_115 : decode cX0_takeBack 115 = .ok (.iaload, 1) := by decide +kernel
theorem dX0_takeBack_116 : decode cX0_takeBack 116 = .ok (.putfield 31, 3) := by decide +kernel
theorem dX0_takeBack_119 : decode cX0_takeBack 119 = .ok (.goto 10, 3) := by decide +kernel
theorem dX0_takeBack_122 : decode cX0_takeBack 122 = .ok (.aload_n 1, 1) := by decide +kernel
theorem dX0_takeBack_123 : decode cX0_takeBack 123 = .ok (.aload_n 2, 1) := by decide +kernel
theorem dX0_takeBack_124 : decode cX0_takeBack 124 = .ok (.iconst 1, 1) := by decide +kernel
theorem dX0_takeBack_125 : decode cX0_takeBack 125 = .ok (.iaload, 1) := by decide +kernel
theorem dX0_takeBack_126 : decode cX0_takeBack 126 = .ok (.invokevirtual 41, 3) := by decide +kernel
theorem dX0_takeBack_129 : decode cX0_takeBack 129 = .ok (.return_, 1) := by decide +kernel
theorem dX1_init_0 : decode cX1_init 0 = .ok (.aload_n 0, 1) := by decide +kernel
theorem dX1_init_1 : decode cX1_init 1 = .ok (.invokespecial 3, 3) := by decide +kernel
theorem dX1_init_4 : decode cX1_init 4 = .ok (.aload_n 0, 1) := by decide +kernel
theorem dX1_init_5 : decode cX1_init 5 = .ok (.bipush 16, 2) := by decide +kernel
theorem dX1_init_7 : decode cX1_init 7 = .ok (.newarray .int, 2) := by decide +kernel
theorem dX1_init_9 : decode cX1_init 9 = .ok (.putfield 9, 3) := by decide +kernel
theorem dX1_init_12 : decode cX1_init 12 = .ok (.return_, 1) := by decide +kernel
theorem dX1_answerOf_0 : decode cX1_answerOf 0 = .ok (.aload_n 0, 1) := by decide +kernel
theorem dX1_answerOf_1 : decode cX1_answerOf 1 = .ok (.iconst 0, 1) := by decide +kernel
theorem dX1_answerOf_2 : decode cX1_answerOf 2 = .ok (.putfield 15, 3) := by decide +kernel
theorem dX1_answerOf_5 : decode cX1_answerOf 5 = .ok (.aload_n 1, 1) := by decide +kernel
theorem dX1_answerOf_6 : decode cX1_answerOf 6 = .ok (.getfield 19, 3) := by decide +kernel
theorem dX1_answerOf_9 : decode cX1_answerOf 9 = .ok (.iload_n 2, 1) := by decide +kernel
theorem dX1_answerOf_10 : decode cX1_answerOf 10 = .ok (.iaload, 1) := by decide +kernel
theorem dX1_answerOf_11 : decode cX1_answerOf 11 = .ok (.istore 4, 2) := by decide +kernel
theorem dX1_answerOf_13 : decode cX1_answerOf 13 = .ok (.iload_n 3, 1) := by decide +kernel
theorem dX1_answerOf_14 : decode cX1_answerOf 14 = .ok (.ifCond .ne 12, 3) := by decide +kernel
theorem dX1_answerOf_17 : decode cX1_answerOf 17 = .ok (.getstatic 24, 3) := by decide +kernel
theorem dX1_answerOf_20 : decode cX1_answerOf 20 = .ok (.iload 4, 2) := by decide +kernel
theorem dX1_answerOf_22 : decode cX1_answerOf 22 = .ok (.iaload, 1) := by decide +kernel
theorem dX1_answerOf_23 : decode cX1_answerOf 23 = .ok (.goto 9, 3) := by decide +kernel
theorem dX1_answerOf_26 : decode cX1_answerOf 26 = .ok (.getstatic 27, 3) := by decide +kernel
theorem dX1_answerOf_29 : decode cX1_answerOf 29 = .ok (.iload 4, 2) := by decide +kernel
theorem dX1_answerOf_31 : decode cX1_answerOf 31 = .ok (.iaload, 1) := by decide +kernel
theorem dX1_answerOf_32 : decode cX1_answerOf 32 = .ok (.istore 5, 2) := by decide +kernel
theorem dX1_answerOf_34 : decode cX1_answerOf 34 = .ok (.aload_n 0, 1) := by decide +kernel
theorem dX1_answerOf_35 : decode cX1_answerOf 35 = .ok (.iload 5, 2) := by decide +kernel
theorem dX1_answerOf_37 : decode cX1_answerOf 37 = .ok (.aload_n 1, 1) := by decide +kernel
theorem dX1_answerOf_38 : decode cX1_answerOf 38 = .ok (.iload_n 2, 1) := by decide +kernel
theorem dX1_answerOf_39 : decode cX1_answerOf 39 = .ok (.iconst 0, 1) := by decide +kernel
theorem dX1_answerOf_40 : decode cX1_answerOf 40 = .ok (.invokevirtual 30, 3) := by decide +kernel
theorem dX1_answerOf_43 : decode cX1_answerOf 43 = .ok (.ireturn, 1) := by decide +kernel
theorem dX1_gives_0 : decode cX1_gives 0 = .ok (.iload 4, 2) := by decide +kernel
theorem dX1_gives_2 : decode cX1_gives 2 = .ok (.bipush 16, 2) := by decide +kernel
theorem dX1_gives_4 : decode cX1_gives 4 = .ok (.if_icmp .lt 5, 3) := by decide +kernel
theorem dX1_gives_7 : decode cX1_gives 7 = .ok (.iconst 0, 1) := by decide +kernel
theorem dX1_gives_8 : decode cX1_gives 8 = .ok (.ireturn, 1) := by decide +kernel
theorem dX1_gives_9 : decode cX1_gives 9 = .ok (.aload_n 0, 1) := by decide +kernel
theorem dX1_gives_10 : decode cX1_gives 10 = .ok (.iload_n 1, 1) := by decide +kernel
theorem dX1_gives_11 : decode cX1_gives 11 = .ok (.invokevirtual 34, 3) := by decide +kernel
theorem dX1_gives_14 : decode cX1_gives 14 = .ok (.iload 4, 2) := by decide +kernel
theorem dX1_gives_16 : decode cX1_gives 16 = .ok (.iconst 1, 1) := by decide +kernel
theorem dX1_gives_17 : decode cX1_gives 17 = .ok (.iadd, 1) := by decide +kernel
theorem dX1_gives_18 : decode cX1_gives 18 = .ok (.istore 5, 2) := by decide +kernel
theorem dX1_gives_20 : decode cX1_gives 20 = .ok (.aload_n 2, 1) := by decide +kernel
theorem dX1_gives_21 : decode cX1_gives 21 = .ok (.getfield 19, 3) := by decide +kernel
theorem dX1_gives_24 : decode cX1_gives 24 = .ok (.iload_n 3, 1) := by decide +kernel
theorem dX1_gives_25 : decode cX1_gives 25 = .ok (.iaload, 1) := by decide +kernel
theorem dX1_gives_26 : decode cX1_gives 26 = .ok (.istore 6, 2) := by decide +kernel
theorem dX1_gives_28 : decode cX1_gives 28 = .ok (.iload_n 1, 1) := by decide +kernel
theorem dX1_gives_29 : decode cX1_gives 29 = .ok (.tableswitch 221 10 24 #[75, 82, 108, 120, 134, 221, 221, 221, 221, 221, 147, 149, 167, 182, 208], 75) := by decide +kernel
theorem dX1_gives_104 : decode cX1_gives 104 = .ok (.aload_n 2, 1) := by decide +kernel
theorem dX1_gives_105 : decode cX1_gives 105 = .ok (.getfield 38, 3) := by decide +kernel
theorem dX1_gives_108 : decode cX1_gives 108 = .ok (.iload_n 3, 1) := by decide +kernel
theorem dX1_gives_109 : decode cX1_gives 109 = .ok (.iaload, 1) := by decide +kernel
theorem dX1_gives_110 : decode cX1_gives 110 = .ok (.ireturn, 1) := by decide +kernel
theorem dX1_gives_111 : decode cX1_gives 111 = .ok (.aload_n 0, 1) := by decide +kernel
theorem dX1_gives_112 : decode cX1_gives 112 = .ok (.bipush 10, 2) := by decide +kernel
theorem dX1_gives_114 : decode cX1_gives 114 = .ok (.aload_n 2, 1) := by decide +kernel
theorem dX1_gives_115 : decode cX1_gives 115 = .ok (.iload_n 3, 1) := by decide +kernel
theorem dX1_gives_116 : decode cX1_gives 116 = .ok (.iload 5, 2) := by decide +kernel
theorem dX1_gives_118 : decode cX1_gives 118 = .ok (.invokevirtual 30, 3) := by decide +kernel
theorem dX1_gives_121 : decode cX1_gives 121 = .ok (.aload_n 0, 1) := by decide +kernel
theorem dX1_gives_122 : decode cX1_gives 122 = .ok (.getstatic 27, 3) := by decide +kernel
theorem dX1_gives_125 : decode cX1_gives 125 = .ok (.iload 6, 2) := by decide +kernel
theorem dX1_gives_127 : decode cX1_gives 127 = .ok (.iaload, 1) := by decide +kernel
theorem dX1_gives_128 : decode cX1_gives 128 = .ok (.aload_n 2, 1) := by decide +kernel
theorem dX1_gives_129 : decode cX1_gives 129 = .ok (.iload_n 3, 1) := by decide +kernel
theorem dX1_gives_130 : decode cX1_gives 130 = .ok (.iload 5, 2) := by decide +kernel
theorem dX1_gives_132 : decode cX1_gives 132 = .ok (.invokevirtual 30, 3) := by decide +kernel
theorem dX1_gives_135 : decode cX1_gives 135 = .ok (.iadd, 1) := by decide +kernel
theorem dX1_gives_136 : decode cX1_gives 136 = .ok (.ireturn, 1) := by decide +kernel
theorem dX1_gives_137 : decode cX1_gives 137 = .ok (.aload_n 0, 1) := by decide +kernel
theorem dX1_gives_138 : decode cX1_gives 138 = .ok (.bipush 11, 2) := by decide +kernel
theorem dX1_gives_140 : decode cX1_gives 140 = .ok (.aload_n 2, 1) := by decide +kernel
theorem dX1_gives_141 : decode cX1_gives 141 = .ok (.iload_n 3, 1) := by decide +kernel
theorem dX1_gives_142 : decode cX1_gives 142 = .ok (.iload 5, 2) := by decide +kernel
theorem dX1_gives_144 : decode cX1_gives 144 = .ok (.invokevirtual 30, 3) := by decide +kernel
theorem dX1_gives_147 : decode cX1_gives 147 = .ok (.ineg, 1) := by decide +kernel
theorem dX1_gives_148 : decode cX1_gives 148 = .ok (.ireturn, 1) := by decide +kernel
theorem dX1_gives_149 : decode cX1_gives 149 = .ok (.aload_n 0, 1) := by decide +kernel
theorem dX1_gives_150 : decode cX1_gives 150 = .ok (.bipush 10, 2) := by decide +kernel
theorem dX1_gives_152 : decode cX1_gives 152 = .ok (.aload_n 2, 1) := by decide +kernel
theorem dX1_gives_153 : decode cX1_gives 153 = .ok (.iload_n 3, 1) := by decide +kernel
theorem dX1_gives_154 : decode cX1_gives 154 = .ok (.iload 5, 2) := by decide +kernel
theorem dX1_gives_156 : decode cX1_gives 156 = .ok (.invokevirtual 30, 3) := by decide +kernel
theorem dX1_gives_159 : decode cX1_gives 159 = .ok (.bipush 100, 2) := by decide +kernel
theorem dX1_gives_161 : decode cX1_gives 161 = .ok (.isub, 1) := by decide +kernel
theorem dX1_gives_162 : decode cX1_gives 162 = .ok (.ireturn, 1) := by decide +kernel
theorem dX1_gives_163 : decode cX1_gives 163 = .ok (.iconst 2, 1) := by decide +kernel
theorem dX1_gives_164 : decode cX1_gives 164 = .ok (.aload_n 0, 1) := by decide +kernel
theorem dX1_gives_165 : decode cX1_gives 165 = .ok (.bipush 13, 2) := by decide +kernel
theorem dX1_gives_167 : decode cX1_gives 167 = .ok (.aload_n 2, 1) := by decide +kernel
theorem dX1_gives_168 : decode cX1_gives 168 = .ok (.iload_n 3, 1) := by decide +kernel
theorem dX1_gives_169 : decode cX1_gives 169 = .ok (.iload 5, 2) := by decide +kernel
theorem dX1_gives_171 : decode cX1_gives 171 = .ok (.invokevirtual 30, 3) := by decide +kernel
theorem dX1_gives_174 : decode cX1_gives 174 = .ok (.imul, 1) := by decide +kernel
theorem dX1_gives_175 : decode cX1_gives 175 = .ok (.ireturn, 1) := by decide +kernel
theorem dX1_gives_176 : decode cX1_gives 176 = .ok (.iload_n 3, 1) := by decide +kernel
theorem dX1_gives_177 : decode cX1_gives 177 = .ok (.ireturn, 1) := by decide +kernel
theorem dX1_gives_178 : decode cX1_gives 178 = .ok (.aload_n 0, 1) := by decide +kernel
theorem dX1_gives_179 : decode cX1_gives 179 = .ok (.bipush 20, 2) := by decide +kernel
theorem dX1_gives_181 : decode cX1_gives 181 = .ok (.aload_n 2, 1) := by decide +kernel
theorem dX1_gives_182 : decode cX1_gives 182 = .ok (.iload_n 3, 1) := by decide +kernel
theorem dX1_gives_183 : decode cX1_gives 183 = .ok (.iload 5, 2) := by decide +kernel
theorem dX1_gives_185 : decode cX1_gives 185 = .ok (.invokevirtual 30, 3) := by decide +kernel
theorem dX1_gives_188 : decode cX1_gives 188 = .ok (.aload_n 2, 1) := by decide +kernel
theorem dX1_gives_189 : decode cX1_gives 189 = .ok (.getfield 41, 3) := by decide +kernel
theorem dX1_gives_192 : decode cX1_gives 192 = .ok (.iload_n 3, 1) := by decide +kernel
theorem dX1_gives_193 : decode cX1_gives 193 = .ok (.iaload, 1) := by decide +kernel
theorem dX1_gives_194 : decode cX1_gives 194 = .ok (.iadd, 1) := by decide +kernel
theorem dX1_gives_195 : decode cX1_gives 195 = .ok (.ireturn, 1) := by decide +kernel
theorem dX1_gives_196 : decode cX1_gives 196 = .ok (.aload_n 0, 1) := by decide +kernel
theorem dX1_gives_197 : decode cX1_gives 197 = .ok (.bipush 21, 2) := by decide +kernel
theorem dX1_gives_199 : decode cX1_gives 199 = .ok (.aload_n 2, 1) := by decide +kernel
theorem dX1_gives_200 : decode cX1_gives 200 = .ok (.iload_n 3, 1) := by decide +kernel
theorem dX1_gives_201 : decode cX1_gives 201 = .ok (.iload 5, 2) := by decide +kernel
theorem dX1_gives_203 : decode cX1_gives 203 = .ok (.invokevirtual 30, 3) := by decide +kernel
theorem dX1_gives_206 : decode cX1_gives 206 = .ok (.sipush 1000, 3) := by decide +kernel
theorem dX1_gives_209 : decode cX1_gives 209 = .ok (.isub, 1) := by decide +kernel
theorem dX1_gives_210 : decode cX1_gives 210 = .ok (.ireturn, 1) := by decide +kernel
theorem dX1_gives_211 : decode cX1_gives 211 = .ok (.aload_n 0, 1) := by decide +kernel
theorem dX1_gives_212 : decode cX1_gives 212 = .ok (.bipush 20, 2) := by decide +kernel
theorem dX1_gives_214 : decode cX1_gives 214 = .ok (.aload_n 2, 1) := by decide +kernel
theorem dX1_gives_215 : decode cX1_gives 215 = .ok (.iload_n 3, 1) := by decide +kernel
theorem dX1_gives_216 : decode cX1_gives 216 = .ok (.iload 5, 2) := by decide +kernel
theorem dX1_gives_218 : decode cX1_gives 218 = .ok (.invokevirtual 30, 3) := by decide +kernel
theorem dX1_gives_221 : decode cX1_gives 221 = .ok (.aload_n 0, 1) := by decide +kernel
theorem dX1_gives_222 : decode cX1_gives 222 = .ok (.getstatic 24, 3) := by decide +kernel
theorem dX1_gives_225 : decode cX1_gives 225 = .ok (.iload 6, 2) := by decide +kernel
theorem dX1_gives_227 : decode cX1_gives 227 = .ok (.iaload, 1) := by decide +kernel
theorem dX1_gives_228 : decode cX1_gives 228 = .ok (.aload_n 2, 1) := by decide +kernel
theorem dX1_gives_229 : decode cX1_gives 229 = .ok (.iload_n 3, 1) := by decide +kernel
theorem dX1_gives_230 : decode cX1_gives 230 = .ok (.iload 5, 2) := by decide +kernel
theorem dX1_gives_232 : decode cX1_gives 232 = .ok (.invokevirtual 30, 3) := by decide +kernel
theorem dX1_gives_235 : decode cX1_gives 235 = .ok (.isub, 1) := by decide +kernel
theorem dX1_gives_236 : decode cX1_gives 236 = .ok (.ireturn, 1) := by decide +kernel
theorem dX1_gives_237 : decode cX1_gives 237 = .ok (.iconst 2, 1) := by decide +kernel
theorem dX1_gives_238 : decode cX1_gives 238 = .ok (.aload_n 0, 1) := by decide +kernel
theorem dX1_gives_239 : decode cX1_gives 239 = .ok (.bipush 21, 2) := by decide +kernel
theorem dX1_gives_241 : decode cX1_gives 241 = .ok (.aload_n 2, 1) := by decide +kernel
theorem dX1_gives_242 : decode cX1_gives 242 = .ok (.iload_n 3, 1) := by decide +kernel
theorem dX1_gives_243 : decode cX1_gives 243 = .ok (.iload 5, 2) := by decide +kernel
theorem dX1_gives_245 : decode cX1_gives 245 = .ok (.invokevirtual 30, 3) := by decide +kernel
theorem dX1_gives_248 : decode cX1_gives 248 = .ok (.imul, 1) := by decide +kernel
theorem dX1_gives_249 : decode cX1_gives 249 = .ok (.ireturn, 1) := by decide +kernel
theorem dX1_gives_250 : decode cX1_gives 250 = .ok (.iconst 0, 1) := by decide +kernel
theorem dX1_gives_251 : decode cX1_gives 251 = .ok (.ireturn, 1) := by decide +kernel
theorem dX1_leave_0 : decode cX1_leave 0 = .ok (.aload_n 0, 1) := by decide +kernel
theorem dX1_leave_1 : decode cX1_leave 1 = .ok (.getfield 15, 3) := by decide +kernel
theorem dX1_leave_4 : decode cX1_leave 4 = .ok (.bipush 16, 2) := by decide +kernel
theorem dX1_leave_6 : decode cX1_leave 6 = .ok (.if_icmp .ge 23, 3) := by decide +kernel
theorem dX1_leave_9 : decode cX1_leave 9 = .ok (.aload_n 0, 1) := by decide +kernel
theorem dX1_leave_10 : decode cX1_leave 10 = .ok (.getfield 9, 3) := by decide +kernel
theorem dX1_leave_13 : decode cX1_leave 13 = .ok (.aload_n 0, 1) := by decide +kernel
theorem dX1_leave_14 : decode cX1_leave 14 = .ok (.getfield 15, 3) := by decide +kernel
theorem dX1_leave_17 : decode cX1_leave 17 = .ok (.iload_n 1, 1) := by decide +kernel
theorem dX1_leave_18 : decode cX1_leave 18 = .ok (.iastore, 1) := by decide +kernel
theorem dX1_leave_19 : decode cX1_leave 19 = .ok (.aload_n 0, 1) := by decide +kernel
theorem dX1_leave_20 : decode cX1_leave 20 = .ok (.dup, 1) := by decide +kernel
theorem dX1_leave_21 : decode cX1_leave 21 = .ok (.getfield 15, 3) := by decide +kernel
theorem dX1_leave_24 : decode cX1_leave 24 = .ok (.iconst 1, 1) := by decide +kernel
theorem dX1_leave_25 : decode cX1_leave 25 = .ok (.iadd, 1) := by decide +kernel
theorem dX1_leave_26 : decode cX1_leave 26 = .ok (.putfield 15, 3) := by decide +kernel
theorem dX1_leave_29 : decode cX1_leave 29 = .ok (.return_, 1) := by decide +kernel
theorem dX2_init_0 : decode cX2_init 0 = .ok (.aload_n 0, 1) := by decide +kernel
theorem dX2_init_1 : decode cX2_init 1 = .ok (.invokespecial 3, 3) := by decide +kernel
theorem dX2_init_4 : decode cX2_init 4 = .ok (.aload_n 0, 1) := by decide +kernel
theorem dX2_init_5 : decode cX2_init 5 = .ok (.bipush 8, 2) := by decide +kernel
theorem dX2_init_7 : decode cX2_init 7 = .ok (.newarray .int, 2) := by decide +kernel
theorem dX2_init_9 : decode cX2_init 9 = .ok (.putfield 9, 3) := by decide +kernel
theorem dX2_init_12 : decode cX2_init 12 = .ok (.aload_n 0, 1) := by decide +kernel
theorem dX2_init_13 : decode cX2_init 13 = .ok (.bipush 8, 2) := by decide +kernel
theorem dX2_init_15 : decode cX2_init 15 = .ok (.newarray .int, 2) := by decide +kernel
theorem dX2_init_17 : decode cX2_init 17 = .ok (.putfield 15, 3) := by decide +kernel
theorem dX2_init_20 : decode cX2_init 20 = .ok (.aload_n 0, 1) := by decide +kernel
theorem dX2_init_21 : decode cX2_init 21 = .ok (.bipush 8, 2) := by decide +kernel
theorem dX2_init_23 : decode cX2_init 23 = .ok (.bipush 40, 2) := by decide +kernel
theorem dX2_init_25 : decode cX2_init 25 = .ok (.multianewarray 18 2, 4) := by decide +kernel
theorem dX2_init_29 : decode cX2_init 29 = .ok (.putfield 20, 3) := by decide +kernel
theorem dX2_init_32 : decode cX2_init 32 = .ok (.iconst 0, 1) := by decide +kernel
theorem dX2_init_33 : decode cX2_init 33 = .ok (.istore_n 1, 1) := by decide +kernel
theorem dX2_init_34 : decode cX2_init 34 = .ok (.iload_n 1, 1) := by decide +kernel
theorem dX2_init_35 : decode cX2_init 35 = .ok (.bipush 8, 2) := by decide +kernel
theorem dX2_init_37 : decode cX2_init 37 = .ok (.if_icmp .ge 16, 3) := by decide +kernel
theorem dX2_init_40 : decode cX2_init 40 = .ok (.aload_n 0, 1) := by decide +kernel
theorem dX2_init_41 : decode cX2_init 41 = .ok (.getfield 15, 3) := by decide +kernel
theorem dX2_init_44 : decode cX2_init 44 = .ok (.iload_n 1, 1) := by decide +kernel
theorem dX2_init_45 : decode cX2_init 45 = .ok (.iconst (-1), 1) := by decide +kernel
theorem dX2_init_46 : decode cX2_init 46 = .ok (.iastore, 1) := by decide +kernel
theorem dX2_init_47 : decode cX2_init 47 = .ok (.iinc 1 1, 3) := by decide +kernel
theorem dX2_init_50 : decode cX2_init 50 = .ok (.goto (-16), 3) := by decide +kernel
theorem dX2_init_53 : decode cX2_init 53 = .ok (.return_, 1) := by decide +kernel
theorem dX2_isRow_0 : decode cX2_isRow 0 = .ok (.iload_n 0, 1) := by decide +kernel
theorem dX2_isRow_1 : decode cX2_isRow 1 = .ok (.ifCond .lt 13, 3) := by decide +kernel
theorem dX2_isRow_4 : decode cX2_isRow 4 = .ok (.iload_n 0, 1) := by decide +kernel
theorem dX2_isRow_5 : decode cX2_isRow 5 = .ok (.bipush 8, 2) := by decide +kernel
theorem dX2_isRow_7 : decode cX2_isRow 7 = .ok (.if_icmp .ge 7, 3) := by decide +kernel
theorem dX2_isRow_10 : decode cX2_isRow 10 = .ok (.iconst 1, 1) := by decide +kernel
theorem dX2_isRow_11 : decode cX2_isRow 11 = .ok (.goto 4, 3) := by decide +kernel
theorem dX2_isRow_14 : decode cX2_isRow 14 = .ok (.iconst 0, 1) := by decide +kernel
theorem dX2_isRow_15 : decode cX2_isRow 15 = .ok (.ireturn, 1) := by decide +kernel
theorem dX2_isMissing_0 : decode cX2_isMissing 0 = .ok (.aload_n 0, 1) := by decide +kernel
theorem dX2_isMissing_1 : decode cX2_isMissing 1 = .ok (.getfield 15, 3) := by decide +kernel
theorem dX2_isMissing_4 : decode cX2_isMissing 4 = .ok (.iload_n 1, 1) := by decide +kernel
theorem dX2_isMissing_5 : decode cX2_isMissing 5 = .ok (.iaload, 1) := by decide +kernel
theorem dX2_isMissing_6 : decode cX2_isMissing 6 = .ok (.iconst (-1), 1) := by decide +kernel
theorem dX2_isMissing_7 : decode cX2_isMissing 7 = .ok (.if_icmp .ne 7, 3) := by decide +kernel
theorem dX2_isMissing_10 : decode cX2_isMissing 10 = .ok (.iconst 1, 1) := by decide +kernel
theorem dX2_isMissing_11 : decode cX2_isMissing 11 = .ok (.goto 4, 3) := by decide +kernel
theorem dX2_isMissing_14 : decode cX2_isMissing 14 = .ok (.iconst 0, 1) := by decide +kernel
theorem dX2_isMissing_15 : decode cX2_isMissing 15 = .ok (.ireturn, 1) := by decide +kernel
theorem dX2_howMany_0 : decode cX2_howMany 0 = .ok (.iconst 0, 1) := by decide +kernel
theorem dX2_howMany_1 : decode cX2_howMany 1 = .ok (.istore_n 1, 1) := by decide +kernel
theorem dX2_howMany_2 : decode cX2_howMany 2 = .ok (.iconst 0, 1) := by decide +kernel
theorem dX2_howMany_3 : decode cX2_howMany 3 = .ok (.istore_n 2, 1) := by decide +kernel
theorem dX2_howMany_4 : decode cX2_howMany 4 = .ok (.iload_n 2, 1) := by decide +kernel
theorem dX2_howMany_5 : decode cX2_howMany 5 = .ok (.bipush 8, 2) := by decide +kernel
theorem dX2_howMany_7 : decode cX2_howMany 7 = .ok (.if_icmp .ge 20, 3) := by decide +kernel
theorem dX2_howMany_10 : decode cX2_howMany 10 = .ok (.aload_n 0, 1) := by decide +kernel
theorem dX2_howMany_11 : decode cX2_howMany 11 = .ok (.iload_n 2, 1) := by decide +kernel
theorem dX2_howMany_12 : decode cX2_howMany 12 = .ok (.invokevirtual 23, 3) := by decide +kernel
theorem dX2_howMany_15 : decode cX2_howMany 15 = .ok (.ifCond .ne 6, 3) := by decide +kernel
theorem dX2_howMany_18 : decode cX2_howMany 18 = .ok (.iinc 1 1, 3) := by decide +kernel
theorem dX2_howMany_21 : decode cX2_howMany 21 = .ok (.iinc 2 1, 3) := by decide +kernel
theorem dX2_howMany_24 : decode cX2_howMany 24 = .ok (.goto (-20), 3) := by decide +kernel
theorem dX2_howMany_27 : decode cX2_howMany 27 = .ok (.iload_n 1, 1) := by decide +kernel
theorem dX2_howMany_28 : decode cX2_howMany 28 = .ok (.ireturn, 1) := by decide +kernel
theorem dX2_lay_0 : decode cX2_lay 0 = .ok (.aload_n 0, 1) := by decide +kernel
theorem dX2_lay_1 : decode cX2_lay 1 = .ok (.getfield 9, 3) := by decide +kernel
theorem dX2_lay_4 : decode cX2_lay 4 = .ok (.iload_n 1, 1) := by decide +kernel
theorem dX2_lay_5 : decode cX2_lay 5 = .ok (.iload_n 2, 1) := by decide +kernel
theorem dX2_lay_6 : decode cX2_lay 6 = .ok (.iastore, 1) := by decide +kernel
theorem dX2_lay_7 : decode cX2_lay 7 = .ok (.aload_n 0, 1) := by decide +kernel
theorem dX2_lay_8 : decode cX2_lay 8 = .ok (.getfield 15, 3) := by decide +kernel
theorem dX2_lay_11 : decode cX2_lay 11 = .ok (.iload_n 1, 1) := by decide +kernel
theorem dX2_lay_12 : decode cX2_lay 12 = .ok (.iload_n 3, 1) := by decide +kernel
theorem dX2_lay_13 : decode cX2_lay 13 = .ok (.iastore, 1) := by decide +kernel
theorem dX2_lay_14 : decode cX2_lay 14 = .ok (.iconst 0, 1) := by decide +kernel
theorem dX2_lay_15 : decode cX2_lay 15 = .ok (.istore 4, 2) := by decide +kernel
theorem dX2_lay_17 : decode cX2_lay 17 = .ok (.iload 4, 2) := by decide +kernel
theorem dX2_lay_19 : decode cX2_lay 19 = .ok (.iload_n 3, 1) := by decide +kernel
theorem dX2_lay_20 : decode cX2_lay 20 = .ok (.if_icmp .ge 19, 3) := by decide +kernel
theorem dX2_lay_23 : decode cX2_lay 23 = .ok (.aload_n 0, 1) := by decide +kernel
theorem dX2_lay_24 : decode cX2_lay 24 = .ok (.getfield 20, 3) := by decide +kernel
theorem dX2_lay_27 : decode cX2_lay 27 = .ok (.iload_n 1, 1) := by decide +kernel
theorem dX2_lay_28 : decode cX2_lay 28 = .ok (.aaload, 1) := by decide +kernel
theorem dX2_lay_29 : decode cX2_lay 29 = .ok (.iload 4, 2) := by decide +kernel
theorem dX2_lay_31 : decode cX2_lay 31 = .ok (.iconst 0, 1) := by decide +kernel
theorem dX2_lay_32 : decode cX2_lay 32 = .ok (.iastore, 1) := by decide +kernel
theorem dX2_lay_33 : decode cX2_lay 33 = .ok (.iinc 4 1, 3) := by decide +kernel
theorem dX2_lay_36 : decode cX2_lay 36 = .ok (.goto (-19), 3) := by decide +kernel
theorem dX2_lay_39 : decode cX2_lay 39 = .ok (.return_, 1) := by decide +kernel
theorem dX2_lose_0 : decode cX2_lose 0 = .ok (.aload_n 0, 1) := by decide +kernel
theorem dX2_lose_1 : decode cX2_lose 1 = .ok (.getfield 15, 3) := by decide +kernel
theorem dX2_lose_4 : decode cX2_lose 4 = .ok (.iload_n 1, 1) := by decide +kernel
theorem dX2_lose_5 : decode cX2_lose 5 = .ok (.iaload, 1) := by decide +kernel
theorem dX2_lose_6 : decode cX2_lose 6 = .ok (.istore_n 2, 1) := by decide +kernel
theorem dX2_lose_7 : decode cX2_lose 7 = .ok (.aload_n 0, 1) := by decide +kernel
theorem dX2_lose_8 : decode cX2_lose 8 = .ok (.getfield 15, 3) := by decide +kernel
theorem dX2_lose_11 : decode cX2_lose 11 = .ok (.iload_n 1, 1) := by decide +kernel
theorem dX2_lose_12 : decode cX2_lose 12 = .ok (.iconst (-1), 1) := by decide +kernel
theorem dX2_lose_13 : decode cX2_lose 13 = .ok (.iastore, 1) := by decide +kernel
theorem dX2_lose_14 : decode cX2_lose 14 = .ok (.iload_n 2, 1) := by decide +kernel
theorem dX2_lose_15 : decode cX2_lose 15 = .ok (.ireturn, 1) := by decide +kernel
theorem dX2_put_0 : decode cX2_put 0 = .ok (.iload_n 3, 1) := by decide +kernel
theorem dX2_put_1 : decode cX2_put 1 = .ok (.istore 4, 2) := by decide +kernel
theorem dX2_put_3 : decode cX2_put 3 = .ok (.aload_n 0, 1) := by decide +kernel
theorem dX2_put_4 : decode cX2_put 4 = .ok (.getfield 9, 3) := by decide +kernel
theorem dX2_put_7 : decode cX2_put 7 = .ok (.iload_n 1, 1) := by decide +kernel
theorem dX2_put_8 : decode cX2_put 8 = .ok (.iaload, 1) := by decide +kernel
theorem dX2_put_9 : decode cX2_put 9 = .ok (.ifCond .ne 10, 3) := by decide +kernel
theorem dX2_put_12 : decode cX2_put 12 = .ok (.iload_n 3, 1) := by decide +kernel
theorem dX2_put_13 : decode cX2_put 13 = .ok (.i2b, 1) := by decide +kernel
theorem dX2_put_14 : decode cX2_put 14 = .ok (.istore 4, 2) := by decide +kernel
theorem dX2_put_16 : decode cX2_put 16 = .ok (.goto 17, 3) := by decide +kernel
theorem dX2_put_19 : decode cX2_put 19 = .ok (.aload_n 0, 1) := by decide +kernel
theorem dX2_put_20 : decode cX2_put 20 = .ok (.getfield 9, 3) := by decide +kernel
theorem dX2_put_23 : decode cX2_put 23 = .ok (.iload_n 1, 1) := by decide +kernel
theorem dX2_put_24 : decode cX2_put 24 = .ok (.iaload, 1) := by decide +kernel
theorem dX2_put_25 : decode cX2_put 25 = .ok (.iconst 1, 1) := by decide +kernel
theorem dX2_put_26 : decode cX2_put 26 = .ok (.if_icmp .ne 7, 3) := by decide +kernel
theorem dX2_put_29 : decode cX2_put 29 = .ok (.iload_n 3, 1) := by decide +kernel
theorem dX2_put_30 : decode cX2_put 30 = .ok (.i2s, 1) := by decide +kernel
theorem dX2_put_31 : decode cX2_put 31 = .ok (.istore 4, 2) := by decide +kernel
theorem dX2_put_33 : decode cX2_put 33 = .ok (.aload_n 0, 1) := by decide +kernel
theorem dX2_put_34 : decode cX2_put 34 = .ok (.getfield 20, 3) := by decide +kernel
theorem dX2_put_37 : decode cX2_put 37 = .ok (.iload_n 1, 1) := by decide +kernel
theorem dX2_put_38 : decode cX2_put 38 = .ok (.aaload, 1) := by decide +kernel
theorem dX2_put_39 : decode cX2_put 39 = .ok (.iload_n 2, 1) := by decide +kernel
theorem dX2_put_40 : decode cX2_put 40 = .ok (.iload 4, 2) := by decide +kernel
theorem dX2_put_42 : decode cX2_put 42 = .ok (.iastore, 1) := by decide +kernel
theorem dX2_put_43 : decode cX2_put 43 = .ok (.iload 4, 2) := by decide +kernel
theorem dX2_put_45 : decode cX2_put 45 = .ok (.ireturn, 1) := by decide +kernel
theorem dX2_move_0 : decode cX2_move 0 = .ok (.aload_n 0, 1) := by decide +kernel
theorem dX2_move_1 : decode cX2_move 1 = .ok (.getfield 20, 3) := by decide +kernel
theorem dX2_move_4 : decode cX2_move 4 = .ok (.iload_n 1, 1) := by decide +kernel
theorem dX2_move_5 : decode cX2_move 5 = .ok (.aaload, 1) := by decide +kernel
theorem dX2_move_6 : decode cX2_move 6 = .ok (.iload_n 2, 1) := by decide +kernel
theorem dX2_move_7 : decode cX2_move 7 = .ok (.aload_n 0, 1) := by decide +kernel
theorem dX2_move_8 : decode cX2_move 8 = .ok (.getfield 20, 3) := by decide +kernel
theorem dX2_move_11 : decode cX2_move 11 = .ok (.iload_n 3, 1) := by decide +kernel
theorem dX2_move_12 : decode cX2_move 12 = .ok (.aaload, 1) := by decide +kernel
theorem dX2_move_13 : decode cX2_move 13 = .ok (.iload 4, 2) := by decide +kernel
theorem dX2_move_15 : decode cX2_move 15 = .ok (.iload 5, 2) := by decide +kernel
theorem dX2_move_17 : decode cX2_move 17 = .ok (.invokestatic 27, 3) := by decide +kernel
theorem dX2_move_20 : decode cX2_move 20 = .ok (.return_, 1) := by decide +kernel
theorem dX2_findingOf_0 : decode cX2_findingOf 0 = .ok (.aload_n 0, 1) := by decide +kernel
theorem dX2_findingOf_1 : decode cX2_findingOf 1 = .ok (.iload_n 1, 1) := by decide +kernel
theorem dX2_findingOf_2 : decode cX2_findingOf 2 = .ok (.invokevirtual 23, 3) := by decide +kernel
theorem dX2_findingOf_5 : decode cX2_findingOf 5 = .ok (.ifCond .eq 5, 3) := by decide +kernel
theorem dX2_findingOf_8 : decode cX2_findingOf 8 = .ok (.iconst 1, 1) := by decide +kernel
theorem dX2_findingOf_9 : decode cX2_findingOf 9 = .ok (.ireturn, 1) := by decide +kernel
theorem dX2_findingOf_10 : decode cX2_findingOf 10 = .ok (.aload_n 0, 1) := by decide +kernel
theorem dX2_findingOf_11 : decode cX2_findingOf 11 = .ok (.iload_n 1, 1) := by decide +kernel
theorem dX2_findingOf_12 : decode cX2_findingOf 12 = .ok (.iload_n 2, 1) := by decide +kernel
theorem dX2_findingOf_13 : decode cX2_findingOf 13 = .ok (.iload_n 3, 1) := by decide +kernel
theorem dX2_findingOf_14 : decode cX2_findingOf 14 = .ok (.invokevirtual 33, 3) := by decide +kernel
theorem dX2_findingOf_17 : decode cX2_findingOf 17 = .ok (.ifCond .eq 7, 3) := by decide +kernel
theorem dX2_findingOf_20 : decode cX2_findingOf 20 = .ok (.iconst 0, 1) := by decide +kernel
theorem dX2_findingOf_21 : decode cX2_findingOf 21 = .ok (.goto 4, 3) := by decide +kernel
theorem dX2_findingOf_24 : decode cX2_findingOf 24 = .ok (.iconst 2, 1) := by decide +kernel
theorem dX2_findingOf_25 : decode cX2_findingOf 25 = .ok (.ireturn, 1) := by decide +kernel
theorem dX2_findingOfMove_0 : decode cX2_findingOfMove 0 = .ok (.aload_n 0, 1) := by decide +kernel
theorem dX2_findingOfMove_1 : decode cX2_findingOfMove 1 = .ok (.iload_n 1, 1) := by decide +kernel
theorem dX2_findingOfMove_2 : decode cX2_findingOfMove 2 = .ok (.invokevirtual 23, 3) := by decide +kernel
theorem dX2_findingOfMove_5 : decode cX2_findingOfMove 5 = .ok (.ifCond .ne 11, 3) := by decide +kernel
theorem dX2_findingOfMove_8 : decode cX2_findingOfMove 8 = .ok (.aload_n 0, 1) := by decide +kernel
theorem dX2_findingOfMove_9 : decode cX2_findingOfMove 9 = .ok (.iload_n 3, 1) := by decide +kernel
theorem dX2_findingOfMove_10 : decode cX2_findingOfMove 10 = .ok (.invokevirtual 23, 3) := by decide +kernel
theorem dX2_findingOfMove_13 : decode cX2_findingOfMove 13 = .ok (.ifCond .eq 5, 3) := by decide +kernel
theorem dX2_findingOfMove_16 : decode cX2_findingOfMove 16 = .ok (.iconst 1, 1) := by decide +kernel
theorem dX2_findingOfMove_17 : decode cX2_findingOfMove 17 = .ok (.ireturn, 1) := by decide +kernel
theorem dX2_findingOfMove_18 : decode cX2_findingOfMove 18 = .ok (.aload_n 0, 1) := by decide +kernel
theorem dX2_findingOfMove_19 : decode cX2_findingOfMove 19 = .ok (.getfield 9, 3) := by decide +kernel
theorem dX2_findingOfMove_22 : decode cX2_findingOfMove 22 = .ok (.iload_n 1, 1) := by decide +kernel
theorem dX2_findingOfMove_23 : decode cX2_findingOfMove 23 = .ok (.iaload, 1) := by decide +kernel
theorem dX2_findingOfMove_24 : decode cX2_findingOfMove 24 = .ok (.aload_n 0, 1) := by decide +kernel
theorem dX2_findingOfMove_25 : decode cX2_findingOfMove 25 = .ok (.getfield 9, 3) := by decide +kernel
theorem dX2_findingOfMove_28 : decode cX2_findingOfMove 28 = .ok (.iload_n 3, 1) := by decide +kernel
theorem dX2_findingOfMove_29 : decode cX2_findingOfMove 29 = .ok (.iaload, 1) := by decide +kernel
theorem dX2_findingOfMove_30 : decode cX2_findingOfMove 30 = .ok (.if_icmp .eq 5, 3) := by decide +kernel
theorem dX2_findingOfMove_33 : decode cX2_findingOfMove 33 = .ok (.iconst 5, 1) := by decide +kernel
theorem dX2_findingOfMove_34 : decode cX2_findingOfMove 34 = .ok (.ireturn, 1) := by decide +kernel
theorem dX2_findingOfMove_35 : decode cX2_findingOfMove 35 = .ok (.aload_n 0, 1) := by decide +kernel
theorem dX2_findingOfMove_36 : decode cX2_findingOfMove 36 = .ok (.iload_n 1, 1) := by decide +kernel
theorem dX2_findingOfMove_37 : decode cX2_findingOfMove 37 = .ok (.iload_n 2, 1) := by decide +kernel
theorem dX2_findingOfMove_38 : decode cX2_findingOfMove 38 = .ok (.iload 5, 2) := by decide +kernel
theorem dX2_findingOfMove_40 : decode cX2_findingOfMove 40 = .ok (.invokevirtual 33, 3) := by decide +kernel
theorem dX2_findingOfMove_43 : decode cX2_findingOfMove 43 = .ok (.ifCond .eq 19, 3) := by decide +kernel
theorem dX2_findingOfMove_46 : decode cX2_findingOfMove 46 = .ok (.aload_n 0, 1) := by decide +kernel
theorem dX2_findingOfMove_47 : decode cX2_findingOfMove 47 = .ok (.iload_n 3, 1) := by decide +kernel
theorem dX2_findingOfMove_48 : decode cX2_findingOfMove 48 = .ok (.iload 4, 2) := by decide +kernel
theorem dX2_findingOfMove_50 : decode cX2_findingOfMove 50 = .ok (.iload 5, 2) := by decide +kernel
theorem dX2_findingOfMove_52 : decode cX2_findingOfMove 52 = .ok (.invokevirtual 33, 3) := by decide +kernel
theorem dX2_findingOfMove_55 : decode cX2_findingOfMove 55 = .ok (.ifCond .eq 7, 3) := by decide +kernel
theorem dX2_findingOfMove_58 : decode cX2_findingOfMove 58 = .ok (.iconst 0, 1) := by decide +kernel
theorem dX2_findingOfMove_59 : decode cX2_findingOfMove 59 = .ok (.goto 4, 3) := by decide +kernel
theorem dX2_findingOfMove_62 : decode cX2_findingOfMove 62 = .ok (.iconst 2, 1) := by decide +kernel
theorem dX2_findingOfMove_63 : decode cX2_findingOfMove 63 = .ok (.ireturn, 1) := by decide +kernel
theorem dX2_spans_0 : decode cX2_spans 0 = .ok (.iload_n 2, 1) := by decide +kernel
theorem dX2_spans_1 : decode cX2_spans 1 = .ok (.ifCond .lt 23, 3) := by decide +kernel
theorem dX2_spans_4 : decode cX2_spans 4 = .ok (.iload_n 3, 1) := by decide +kernel
theorem dX2_spans_5 : decode cX2_spans 5 = .ok (.ifCond .lt 19, 3) := by decide +kernel
theorem dX2_spans_8 : decode cX2_spans 8 = .ok (.iload_n 2, 1) := by decide +kernel
theorem dX2_spans_9 : decode cX2_spans 9 = .ok (.aload_n 0, 1) := by decide +kernel
theorem dX2_spans_10 : decode cX2_spans 10 = .ok (.getfield 15, 3) := by decide +kernel
theorem dX2_spans_13 : decode cX2_spans 13 = .ok (.iload_n 1, 1) := by decide +kernel
theorem dX2_spans_14 : decode cX2_spans 14 = .ok (.iaload, 1) := by decide +kernel
theorem dX2_spans_15 : decode cX2_spans 15 = .ok (.iload_n 3, 1) := by decide +kernel
theorem dX2_spans_16 : decode cX2_spans 16 = .ok (.isub, 1) := by decide +kernel
theorem dX2_spans_17 : decode cX2_spans 17 = .ok (.if_icmp .gt 7, 3) := by decide +kernel
theorem dX2_spans_20 : decode cX2_spans 20 = .ok (.iconst 1, 1) := by decide +kernel
theorem dX2_spans_21 : decode cX2_spans 21 = .ok (.goto 4, 3) := by decide +kernel
theorem dX2_spans_24 : decode cX2_spans 24 = .ok (.iconst 0, 1) := by decide +kernel
theorem dX2_spans_25 : decode cX2_spans 25 = .ok (.ireturn, 1) := by decide +kernel
theorem dX3_init_0 : decode cX3_init 0 = .ok (.aload_n 0, 1) := by decide +kernel
theorem dX3_init_1 : decode cX3_init 1 = .ok (.invokespecial 3, 3) := by decide +kernel
theorem dX3_init_4 : decode cX3_init 4 = .ok (.aload_n 0, 1) := by decide +kernel
theorem dX3_init_5 : decode cX3_init 5 = .ok (.bipush 8, 2) := by decide +kernel
theorem dX3_init_7 : decode cX3_init 7 = .ok (.newarray .int, 2) := by decide +kernel
theorem dX3_init_9 : decode cX3_init 9 = .ok (.putfield 9, 3) := by decide +kernel
theorem dX3_init_12 : decode cX3_init 12 = .ok (.aload_n 0, 1) := by decide +kernel
theorem dX3_init_13 : decode cX3_init 13 = .ok (.bipush 8, 2) := by decide +kernel
theorem dX3_init_15 : decode cX3_init 15 = .ok (.newarray .int, 2) := by decide +kernel
theorem dX3_init_17 : decode cX3_init 17 = .ok (.putfield 15, 3) := by decide +kernel
theorem dX3_init_20 : decode cX3_init 20 = .ok (.aload_n 0, 1) := by decide +kernel
theorem dX3_init_21 : decode cX3_init 21 = .ok (.sipush 256, 3) := by decide +kernel
theorem dX3_init_24 : decode cX3_init 24 = .ok (.newarray .boolean, 2) := by decide +kernel
theorem dX3_init_26 : decode cX3_init 26 = .ok (.putfield 18, 3) := by decide +kernel
theorem dX3_init_29 : decode cX3_init 29 = .ok (.return_, 1) := by decide +kernel
theorem dX3_seek_0 : decode cX3_seek 0 = .ok (.aload_n 0, 1) := by decide +kernel
theorem dX3_seek_1 : decode cX3_seek 1 = .ok (.iload_n 2, 1) := by decide +kernel
theorem dX3_seek_2 : decode cX3_seek 2 = .ok (.putfield 22, 3) := by decide +kernel
theorem dX3_seek_5 : decode cX3_seek 5 = .ok (.aload_n 0, 1) := by decide +kernel
theorem dX3_seek_6 : decode cX3_seek 6 = .ok (.iload_n 3, 1) := by decide +kernel
theorem dX3_seek_7 : decode cX3_seek 7 = .ok (.putfield 26, 3) := by decide +kernel
theorem dX3_seek_10 : decode cX3_seek 10 = .ok (.aload_n 0, 1) := by decide +kernel
theorem dX3_seek_11 : decode cX3_seek 11 = .ok (.iload 4, 2) := by decide +kernel
theorem dX3_seek_13 : decode cX3_seek 13 = .ok (.bipush 8, 2) := by decide +kernel
theorem dX3_seek_15 : decode cX3_seek 15 = .ok (.invokestatic 29, 3) := by decide +kernel
theorem dX3_seek_18 : decode cX3_seek 18 = .ok (.putfield 35, 3) := by decide +kernel
theorem dX3_seek_21 : decode cX3_seek 21 = .ok (.aload_n 0, 1) := by decide +kernel
theorem dX3_seek_22 : decode cX3_seek 22 = .ok (.iconst (-1), 1) := by decide +kernel
theorem dX3_seek_23 : decode cX3_seek 23 = .ok (.putfield 38, 3) := by decide +kernel
theorem dX3_seek_26 : decode cX3_seek 26 = .ok (.aload_n 0, 1) := by decide +kernel
theorem dX3_seek_27 : decode cX3_seek 27 = .ok (.iconst 0, 1) := by decide +kernel
theorem dX3_seek_28 : decode cX3_seek 28 = .ok (.putfield 41, 3) := by decide +kernel
theorem dX3_seek_31 : decode cX3_seek 31 = .ok (.aload_n 0, 1) := by decide +kernel
theorem dX3_seek_32 : decode cX3_seek 32 = .ok (.iconst 0, 1) := by decide +kernel
theorem dX3_seek_33 : decode cX3_seek 33 = .ok (.putfield 44, 3) := by decide +kernel
theorem dX3_seek_36 : decode cX3_seek 36 = .ok (.aload_n 0, 1) := by decide +kernel
theorem dX3_seek_37 : decode cX3_seek 37 = .ok (.iconst 0, 1) := by decide +kernel
theorem dX3_seek_38 : decode cX3_seek 38 = .ok (.putfield 47, 3) := by decide +kernel
theorem dX3_seek_41 : decode cX3_seek 41 = .ok (.aload_n 0, 1) := by decide +kernel
theorem dX3_seek_42 : decode cX3_seek 42 = .ok (.aload_n 1, 1) := by decide +kernel
theorem dX3_seek_43 : decode cX3_seek 43 = .ok (.iconst 0, 1) := by decide +kernel
theorem dX3_seek_44 : decode cX3_seek 44 = .ok (.aload_n 1, 1) := by decide +kernel
theorem dX3_seek_45 : decode cX3_seek 45 = .ok (.getfield 50, 3) := by decide +kernel
theorem dX3_seek_48 : decode cX3_seek 48 = .ok (.aload_n 1, 1) := by decide +kernel
theorem dX3_seek_49 : decode cX3_seek 49 = .ok (.getfield 55, 3) := by decide +kernel
theorem dX3_seek_52 : decode cX3_seek 52 = .ok (.iconst 0, 1) := by decide +kernel
theorem dX3_seek_53 : decode cX3_seek 53 = .ok (.iconst 0, 1) := by decide +kernel
theorem dX3_seek_54 : decode cX3_seek 54 = .ok (.invokevirtual 58, 3) := by decide +kernel
theorem dX3_seek_57 : decode cX3_seek 57 = .ok (.return_, 1) := by decide +kernel
theorem dX3_seekWithin_0 : decode cX3_seekWithin 0 = .ok (.aload_n 0, 1) := by decide +kernel
theorem dX3_seekWithin_1 : decode cX3_seekWithin 1 = .ok (.iload_n 3, 1) := by decide +kernel
theorem dX3_seekWithin_2 : decode cX3_seekWithin 2 = .ok (.putfield 62, 3) := by decide +kernel
theorem dX3_seekWithin_5 : decode cX3_seekWithin 5 = .ok (.iconst 0, 1) := by decide +kernel
theorem dX3_seekWithin_6 : decode cX3_seekWithin 6 = .ok (.istore 4, 2) := by decide +kernel
theorem dX3_seekWithin_8 : decode cX3_seekWithin 8 = .ok (.iload 4, 2) := by decide +kernel
theorem dX3_seekWithin_10 : decode cX3_seekWithin 10 = .ok (.aload_n 0, 1) := by decide +kernel
theorem dX3_seekWithin_11 : decode cX3_seekWithin 11 = .ok (.getfield 18, 3) := by decide +kernel
theorem dX3_seekWithin_14 : decode cX3_seekWithin 14 = .ok (.arraylength, 1) := by decide +kernel
theorem dX3_seekWithin_15 : decode cX3_seekWithin 15 = .ok (.if_icmp .ge 17, 3) := by decide +kernel
theorem dX3_seekWithin_18 : decode cX3_seekWithin 18 = .ok (.aload_n 0, 1) := by decide +kernel
theorem dX3_seekWithin_19 : decode cX3_seekWithin 19 = .ok (.getfield 18, 3) := by decide +kernel
theorem dX3_seekWithin_22 : decode cX3_seekWithin 22 = .ok (.iload 4, 2) := by decide +kernel
theorem dX3_seekWithin_24 : decode cX3_seekWithin 24 = .ok (.iconst 0, 1) := by decide +kernel
theorem dX3_seekWithin_25 : decode cX3_seekWithin 25 = .ok (.bastore, 1) := by decide +kernel
theorem dX3_seekWithin_26 : decode cX3_seekWithin 26 = .ok (.iinc 4 1, 3) := by decide +kernel
theorem dX3_seekWithin_29 : decode cX3_seekWithin 29 = .ok (.goto (-21), 3) := by decide +kernel
theorem dX3_seekWithin_32 : decode cX3_seekWithin 32 = .ok (.aload_n 0, 1) := by decide +kernel
theorem dX3_seekWithin_33 : decode cX3_seekWithin 33 = .ok (.aload_n 1, 1) := by decide +kernel
theorem dX3_seekWithin_34 : decode cX3_seekWithin 34 = .ok (.iconst 4, 1) := by decide +kernel
theorem dX3_seekWithin_35 : decode cX3_seekWithin 35 = .ok (.iload_n 2, 1) := by decide +kernel
theorem dX3_seekWithin_36 : decode cX3_seekWithin 36 = .ok (.bipush 8, 2) := by decide +kernel
theorem dX3_seekWithin_38 : decode cX3_seekWithin 38 = .ok (.invokevirtual 65, 3) := by decide +kernel
theorem dX3_seekWithin_41 : decode cX3_seekWithin 41 = .ok (.iconst 0, 1) := by decide +kernel
theorem dX3_seekWithin_42 : decode cX3_seekWithin 42 = .ok (.istore 4, 2) := by decide +kernel
theorem dX3_seekWithin_44 : decode cX3_seekWithin 44 = .ok (.iload 4, 2) := by decide +kernel
theorem dX3_seekWithin_46 : decode cX3_seekWithin 46 = .ok (.aload_n 0, 1) := by decide +kernel
theorem dX3_seekWithin_47 : decode cX3_seekWithin 47 = .ok (.getfield 18, 3) := by decide +kernel
theorem dX3_seekWithin_50 : decode cX3_seekWithin 50 = .ok (.arraylength, 1) := by decide +kernel
theorem dX3_seekWithin_51 : decode cX3_seekWithin 51 = .ok (.if_icmp .ge 50, 3) := by decide +kernel
theorem dX3_seekWithin_54 : decode cX3_seekWithin 54 = .ok (.iconst 0, 1) := by decide +kernel
theorem dX3_seekWithin_55 : decode cX3_seekWithin 55 = .ok (.istore 5, 2) := by decide +kernel
theorem dX3_seekWithin_57 : decode cX3_seekWithin 57 = .ok (.iload 5, 2) := by decide +kernel
theorem dX3_seekWithin_59 : decode cX3_seekWithin 59 = .ok (.bipush 8, 2) := by decide +kernel
theorem dX3_seekWithin_61 : decode cX3_seekWithin 61 = .ok (.if_icmp .ge 34, 3) := by decide +kernel
theorem dX3_seekWithin_64 : decode cX3_seekWithin 64 = .ok (.aload_n 0, 1) := by decide +kernel
theorem dX3_seekWithin_65 : decode cX3_seekWithin 65 = .ok (.getfield 18, 3) := by decide +kernel
theorem dX3_seekWithin_68 : decode cX3_seekWithin 68 = .ok (.iload 4, 2) := by decide +kernel
theorem dX3_seekWithin_70 : decode cX3_seekWithin 70 = .ok (.iconst 1, 1) := by decide +kernel
theorem dX3_seekWithin_71 : decode cX3_seekWithin 71 = .ok (.iload 5, 2) := by decide +kernel
theorem dX3_seekWithin_73 : decode cX3_seekWithin 73 = .ok (.ishl, 1) := by decide +kernel
theorem dX3_seekWithin_74 : decode cX3_seekWithin 74 = .ok (.iconst (-1), 1) := by decide +kernel
theorem dX3_seekWithin_75 : decode cX3_seekWithin 75 = .ok (.ixor, 1) := by decide +kernel
theorem dX3_seekWithin_76 : decode cX3_seekWithin 76 = .ok (.iand, 1) := by decide +kernel
theorem dX3_seekWithin_77 : decode cX3_seekWithin 77 = .ok (.baload, 1) := by decide +kernel
theorem dX3_seekWithin_78 : decode cX3_seekWithin 78 = .ok (.ifCond .eq 11, 3) := by decide +kernel
theorem dX3_seekWithin_81 : decode cX3_seekWithin 81 = .ok (.aload_n 0, 1) := by decide +kernel
theorem dX3_seekWithin_82 : decode cX3_seekWithin 82 = .ok (.getfield 18, 3) := by decide +kernel
theorem dX3_seekWithin_85 : decode cX3_seekWithin 85 = .ok (.iload 4, 2) := by decide +kernel
theorem dX3_seekWithin_87 : decode cX3_seekWithin 87 = .ok (.iconst 1, 1) := by decide +kernel
theorem dX3_seekWithin_88 : decode cX3_seekWithin 88 = .ok (.bastore, 1) := by decide +kernel
theorem dX3_seekWithin_89 : decode cX3_seekWithin 89 = .ok (.iinc 5 1, 3) := by decide +kernel
theorem dX3_seekWithin_92 : decode cX3_seekWithin 92 = .ok (.goto (-35), 3) := by decide +kernel
theorem dX3_seekWithin_95 : decode cX3_seekWithin 95 = .ok (.iinc 4 1, 3) := by decide +kernel
theorem dX3_seekWithin_98 : decode cX3_seekWithin 98 = .ok (.goto (-54), 3) := by decide +kernel
theorem dX3_seekWithin_101 : decode cX3_seekWithin 101 = .ok (.return_, 1) := by decide +kernel
theorem dX3_weightOfEnough_0 : decode cX3_weightOfEnough 0 = .ok (.iconst 0, 1) := by decide +kernel
theorem dX3_weightOfEnough_1 : decode cX3_weightOfEnough 1 = .ok (.istore_n 3, 1) := by decide +kernel
theorem dX3_weightOfEnough_2 : decode cX3_weightOfEnough 2 = .ok (.iload_n 1, 1) := by decide +kernel
theorem dX3_weightOfEnough_3 : decode cX3_weightOfEnough 3 = .ok (.invokestatic 69, 3) := by decide +kernel
theorem dX3_weightOfEnough_6 : decode cX3_weightOfEnough 6 = .ok (.istore 4, 2) := by decide +kernel
theorem dX3_weightOfEnough_8 : decode cX3_weightOfEnough 8 = .ok (.iconst 0, 1) := by decide +kernel
theorem dX3_weightOfEnough_9 : decode cX3_weightOfEnough 9 = .ok (.istore 5, 2) := by decide +kernel
theorem dX3_weightOfEnough_11 : decode cX3_weightOfEnough 11 = .ok (.iload 5, 2) := by decide +kernel
theorem dX3_weightOfEnough_13 : decode cX3_weightOfEnough 13 = .ok (.aload_n 0, 1) := by decide +kernel
theorem dX3_weightOfEnough_14 : decode cX3_weightOfEnough 14 = .ok (.getfield 18, 3) := by decide +kernel
theorem dX3_weightOfEnough_17 : decode cX3_weightOfEnough 17 = .ok (.arraylength, 1) := by decide +kernel
theorem dX3_weightOfEnough_18 : decode cX3_weightOfEnough 18 = .ok (.if_icmp .ge 57, 3) := by decide +kernel
theorem dX3_weightOfEnough_21 : decode cX3_weightOfEnough 21 = .ok (.iload 5, 2) := by decide +kernel
theorem dX3_weightOfEnough_23 : decode cX3_weightOfEnough 23 = .ok (.iload_n 1, 1) := by decide +kernel
theorem dX3_weightOfEnough_24 : decode cX3_weightOfEnough 24 = .ok (.iconst (-1), 1) := by decide +kernel
theorem dX3_weightOfEnough_25 : decode cX3_weightOfEnough 25 = .ok (.ixor, 1) := by decide +kernel
theorem dX3_weightOfEnough_26 : decode cX3_weightOfEnough 26 = .ok (.iand, 1) := by decide +kernel
theorem dX3_weightOfEnough_27 : decode cX3_weightOfEnough 27 = .ok (.ifCond .ne 42, 3) := by decide +kernel
theorem dX3_weightOfEnough_30 : decode cX3_weightOfEnough 30 = .ok (.aload_n 0, 1) := by decide +kernel
theorem dX3_weightOfEnough_31 : decode cX3_weightOfEnough 31 = .ok (.getfield 18, 3) := by decide +kernel
theorem dX3_weightOfEnough_34 : decode cX3_weightOfEnough 34 = .ok (.iload 5, 2) := by decide +kernel
theorem dX3_weightOfEnough_36 : decode cX3_weightOfEnough 36 = .ok (.baload, 1) := by decide +kernel
theorem dX3_weightOfEnough_37 : decode cX3_weightOfEnough 37 = .ok (.ifCond .eq 32, 3) := by decide +kernel
theorem dX3_weightOfEnough_40 : decode cX3_weightOfEnough 40 = .ok (.iload 5, 2) := by decide +kernel
theorem dX3_weightOfEnough_42 : decode cX3_weightOfEnough 42 = .ok (.invokestatic 69, 3) := by decide +kernel
theorem dX3_weightOfEnough_45 : decode cX3_weightOfEnough 45 = .ok (.istore 6, 2) := by decide +kernel
theorem dX3_weightOfEnough_47 : decode cX3_weightOfEnough 47 = .ok (.iload_n 3, 1) := by decide +kernel
theorem dX3_weightOfEnough_48 : decode cX3_weightOfEnough 48 = .ok (.bipush 10, 2) := by decide +kernel
theorem dX3_weightOfEnough_50 : decode cX3_weightOfEnough 50 = .ok (.iload_n 2, 1) := by decide +kernel
theorem dX3_weightOfEnough_51 : decode cX3_weightOfEnough 51 = .ok (.isub, 1) := by decide +kernel
theorem dX3_weightOfEnough_52 : decode cX3_weightOfEnough 52 = .ok (.iload 6, 2) := by decide +kernel
theorem dX3_weightOfEnough_54 : decode cX3_weightOfEnough 54 = .ok (.invokestatic 75, 3) := by decide +kernel
theorem dX3_weightOfEnough_57 : decode cX3_weightOfEnough 57 = .ok (.iload_n 2, 1) := by decide +kernel
theorem dX3_weightOfEnough_58 : decode cX3_weightOfEnough 58 = .ok (.iload 4, 2) := by decide +kernel
theorem dX3_weightOfEnough_60 : decode cX3_weightOfEnough 60 = .ok (.iload 6, 2) := by decide +kernel
theorem dX3_weightOfEnough_62 : decode cX3_weightOfEnough 62 = .ok (.isub, 1) := by decide +kernel
theorem dX3_weightOfEnough_63 : decode cX3_weightOfEnough 63 = .ok (.invokestatic 75, 3) := by decide +kernel
theorem dX3_weightOfEnough_66 : decode cX3_weightOfEnough 66 = .ok (.imul, 1) := by decide +kernel
theorem dX3_weightOfEnough_67 : decode cX3_weightOfEnough 67 = .ok (.iadd, 1) := by decide +kernel
theorem dX3_weightOfEnough_68 : decode cX3_weightOfEnough 68 = .ok (.istore_n 3, 1) := by decide +kernel
theorem dX3_weightOfEnough_69 : decode cX3_weightOfEnough 69 = .ok (.iinc 5 1, 3) := by decide +kernel
theorem dX3_weightOfEnough_72 : decode cX3_weightOfEnough 72 = .ok (.goto (-61), 3) := by decide +kernel
theorem dX3_weightOfEnough_75 : decode cX3_weightOfEnough 75 = .ok (.iload_n 3, 1) := by decide +kernel
theorem dX3_weightOfEnough_76 : decode cX3_weightOfEnough 76 = .ok (.ireturn, 1) := by decide +kernel
theorem dX3_streetOf_0 : decode cX3_streetOf 0 = .ok (.iload_n 1, 1) := by decide +kernel
theorem dX3_streetOf_1 : decode cX3_streetOf 1 = .ok (.ifCond .lt 20, 3) := by decide +kernel
theorem dX3_streetOf_4 : decode cX3_streetOf 4 = .ok (.iload_n 1, 1) := by decide +kernel
theorem dX3_streetOf_5 : decode cX3_streetOf 5 = .ok (.aload_n 0, 1) := by decide +kernel
theorem dX3_streetOf_6 : decode cX3_streetOf 6 = .ok (.getfield 38, 3) := by decide +kernel
theorem dX3_streetOf_9 : decode cX3_streetOf 9 = .ok (.if_icmp .ge 12, 3) := by decide +kernel
theorem dX3_streetOf_12 : decode cX3_streetOf 12 = .ok (.aload_n 0, 1) := by decide +kernel
theorem dX3_streetOf_13 : decode cX3_streetOf 13 = .ok (.getfield 15, 3) := by decide +kernel
theorem dX3_streetOf_16 : decode cX3_streetOf 16 = .ok (.iload_n 1, 1) := by decide +kernel
theorem dX3_streetOf_17 : decode cX3_streetOf 17 = .ok (.iaload, 1) := by decide +kernel
theorem dX3_streetOf_18 : decode cX3_streetOf 18 = .ok (.goto 5, 3) := by decide +kernel
theorem dX3_streetOf_21 : decode cX3_streetOf 21 = .ok (.ldc 78, 2) := by decide +kernel
theorem dX3_streetOf_23 : decode cX3_streetOf 23 = .ok (.ireturn, 1) := by decide +kernel
theorem dX3_walk_0 : decode cX3_walk 0 = .ok (.aload_n 0, 1) := by decide +kernel
theorem dX3_walk_1 : decode cX3_walk 1 = .ok (.iload_n 2, 1) := by decide +kernel
theorem dX3_walk_2 : decode cX3_walk 2 = .ok (.iload_n 3, 1) := by decide +kernel
theorem dX3_walk_3 : decode cX3_walk 3 = .ok (.iload 4, 2) := by decide +kernel
theorem dX3_walk_5 : decode cX3_walk 5 = .ok (.iload 5, 2) := by decide +kernel
theorem dX3_walk_7 : decode cX3_walk 7 = .ok (.iload 6, 2) := by decide +kernel
theorem dX3_walk_9 : decode cX3_walk 9 = .ok (.invokevirtual 79, 3) := by decide +kernel
theorem dX3_walk_12 : decode cX3_walk 12 = .ok (.iload_n 2, 1) := by decide +kernel
theorem dX3_walk_13 : decode cX3_walk 13 = .ok (.aload_n 0, 1) := by decide +kernel
theorem dX3_walk_14 : decode cX3_walk 14 = .ok (.getfield 35, 3) := by decide +kernel
theorem dX3_walk_17 : decode cX3_walk 17 = .ok (.if_icmp .lt 4, 3) := by decide +kernel
theorem dX3_walk_20 : decode cX3_walk 20 = .ok (.return_, 1) := by decide +kernel
theorem dX3_walk_21 : decode cX3_walk 21 = .ok (.iconst 0, 1) := by decide +kernel
theorem dX3_walk_22 : decode cX3_walk 22 = .ok (.istore 7, 2) := by decide +kernel
theorem dX3_walk_24 : decode cX3_walk 24 = .ok (.iload 7, 2) := by decide +kernel
theorem dX3_walk_26 : decode cX3_walk 26 = .ok (.aload_n 1, 1) := by decide +kernel
theorem dX3_walk_27 : decode cX3_walk 27 = .ok (.getfield 83, 3) := by decide +kernel
theorem dX3_walk_30 : decode cX3_walk 30 = .ok (.if_icmp .ge 88, 3) := by decide +kernel
theorem dX3_walk_33 : decode cX3_walk 33 = .ok (.aload_n 1, 1) := by decide +kernel
theorem dX3_walk_34 : decode cX3_walk 34 = .ok (.iload_n 3, 1) := by decide +kernel
theorem dX3_walk_35 : decode cX3_walk 35 = .ok (.iload 7, 2) := by decide +kernel
theorem dX3_walk_37 : decode cX3_walk 37 = .ok (.invokevirtual 86, 3) := by decide +kernel
theorem dX3_walk_40 : decode cX3_walk 40 = .ok (.ifCond .eq 72, 3) := by decide +kernel
theorem dX3_walk_43 : decode cX3_walk 43 = .ok (.aload_n 1, 1) := by decide +kernel
theorem dX3_walk_44 : decode cX3_walk 44 = .ok (.getfield 90, 3) := by decide +kernel
theorem dX3_walk_47 : decode cX3_walk 47 = .ok (.iload 7, 2) := by decide +kernel
theorem dX3_walk_49 : decode cX3_walk 49 = .ok (.iaload, 1) := by decide +kernel
theorem dX3_walk_50 : decode cX3_walk 50 = .ok (.istore 8, 2) := by decide +kernel
theorem dX3_walk_52 : decode cX3_walk 52 = .ok (.aload_n 1, 1) := by decide +kernel
theorem dX3_walk_53 : decode cX3_walk 53 = .ok (.iload 8, 2) := by decide +kernel
theorem dX3_walk_55 : decode cX3_walk 55 = .ok (.iload 4, 2) := by decide +kernel
theorem dX3_walk_57 : decode cX3_walk 57 = .ok (.aload_n 1, 1) := by decide +kernel
theorem dX3_walk_58 : decode cX3_walk 58 = .ok (.getfield 93, 3) := by decide +kernel
theorem dX3_walk_61 : decode cX3_walk 61 = .ok (.iload_n 2, 1) := by decide +kernel
theorem dX3_walk_62 : decode cX3_walk 62 = .ok (.iadd, 1) := by decide +kernel
theorem dX3_walk_63 : decode cX3_walk 63 = .ok (.invokevirtual 96, 3) := by decide +kernel
theorem dX3_walk_66 : decode cX3_walk 66 = .ok (.istore 9, 2) := by decide +kernel
theorem dX3_walk_68 : decode cX3_walk 68 = .ok (.aload_n 1, 1) := by decide +kernel
theorem dX3_walk_69 : decode cX3_walk 69 = .ok (.iload 8, 2) := by decide +kernel
theorem dX3_walk_71 : decode cX3_walk 71 = .ok (.iload 4, 2) := by decide +kernel
theorem dX3_walk_73 : decode cX3_walk 73 = .ok (.iload 9, 2) := by decide +kernel
theorem dX3_walk_75 : decode cX3_walk 75 = .ok (.invokevirtual 100, 3) := by decide +kernel
theorem dX3_walk_78 : decode cX3_walk 78 = .ok (.istore 10, 2) := by decide +kernel
theorem dX3_walk_80 : decode cX3_walk 80 = .ok (.aload_n 0, 1) := by decide +kernel
theorem dX3_walk_81 : decode cX3_walk 81 = .ok (.getfield 9, 3) := by decide +kernel
theorem dX3_walk_84 : decode cX3_walk 84 = .ok (.iload_n 2, 1) := by decide +kernel
theorem dX3_walk_85 : decode cX3_walk 85 = .ok (.iload 7, 2) := by decide +kernel
theorem dX3_walk_87 : decode cX3_walk 87 = .ok (.iastore, 1) := by decide +kernel
theorem dX3_walk_88 : decode cX3_walk 88 = .ok (.aload_n 0, 1) := by decide +kernel
theorem dX3_walk_89 : decode cX3_walk 89 = .ok (.aload_n 1, 1) := by decide +kernel
theorem dX3_walk_90 : decode cX3_walk 90 = .ok (.iload_n 2, 1) := by decide +kernel
theorem dX3_walk_91 : decode cX3_walk 91 = .ok (.iconst 1, 1) := by decide +kernel
theorem dX3_walk_92 : decode cX3_walk 92 = .ok (.iadd, 1) := by decide +kernel
theorem dX3_walk_93 : decode cX3_walk 93 = .ok (.iload 8, 2) := by decide +kernel
theorem dX3_walk_95 : decode cX3_walk 95 = .ok (.iload 9, 2) := by decide +kernel
theorem dX3_walk_97 : decode cX3_walk 97 = .ok (.iload 5, 2) := by decide +kernel
theorem dX3_walk_99 : decode cX3_walk 99 = .ok (.iload 10, 2) := by decide +kernel
theorem dX3_walk_101 : decode cX3_walk 101 = .ok (.iadd, 1) := by decide +kernel
theorem dX3_walk_102 : decode cX3_walk 102 = .ok (.iload 6, 2) := by decide +kernel
theorem dX3_walk_104 : decode cX3_walk 104 = .ok (.iconst 1, 1) := by decide +kernel
theorem dX3_walk_105 : decode cX3_walk 105 = .ok (.iload 7, 2) := by decide +kernel
theorem dX3_walk_107 : decode cX3_walk 107 = .ok (.ishl, 1) := by decide +kernel
theorem dX3_walk_108 : decode cX3_walk 108 = .ok (.ior, 1) := by decide +kernel
theorem dX3_walk_109 : decode cX3_walk 109 = .ok (.invokevirtual 58, 3) := by decide +kernel
theorem dX3_walk_112 : decode cX3_walk 112 = .ok (.iinc 7 1, 3) := by decide +kernel
theorem dX3_walk_115 : decode cX3_walk 115 = .ok (.goto (-91), 3) := by decide +kernel
theorem dX3_walk_118 : decode cX3_walk 118 = .ok (.return_, 1) := by decide +kernel
theorem dX3_weigh_0 : decode cX3_weigh 0 = .ok (.aload_n 0, 1) := by decide +kernel
theorem dX3_weigh_1 : decode cX3_weigh 1 = .ok (.getfield 38, 3) := by decide +kernel
theorem dX3_weigh_4 : decode cX3_weigh 4 = .ok (.ifCond .ge 7, 3) := by decide +kernel
theorem dX3_weigh_7 : decode cX3_weigh 7 = .ok (.iconst 1, 1) := by decide +kernel
theorem dX3_weigh_8 : decode cX3_weigh 8 = .ok (.goto 4, 3) := by decide +kernel
theorem dX3_weigh_11 : decode cX3_weigh 11 = .ok (.iconst 0, 1) := by decide +kernel
theorem dX3_weigh_12 : decode cX3_weigh 12 = .ok (.istore 6, 2) := by decide +kernel
theorem dX3_weigh_14 : decode cX3_weigh 14 = .ok (.iload 4, 2) := by decide +kernel
theorem dX3_weigh_16 : decode cX3_weigh 16 = .ok (.aload_n 0, 1) := by decide +kernel
theorem dX3_weigh_17 : decode cX3_weigh 17 = .ok (.getfield 41, 3) := by decide +kernel
theorem dX3_weigh_20 : decode cX3_weigh 20 = .ok (.if_icmp .lt 20, 3) := by decide +kernel
theorem dX3_weigh_23 : decode cX3_weigh 23 = .ok (.iload 4, 2) := by decide +kernel
theorem dX3_weigh_25 : decode cX3_weigh 25 = .ok (.aload_n 0, 1) := by decide +kernel
theorem dX3_weigh_26 : decode cX3_weigh 26 = .ok (.getfield 41, 3) := by decide +kernel
theorem dX3_weigh_29 : decode cX3_weigh 29 = .ok (.if_icmp .ne 15, 3) := by decide +kernel
theorem dX3_weigh_32 : decode cX3_weigh 32 = .ok (.iload_n 1, 1) := by decide +kernel
theorem dX3_weigh_33 : decode cX3_weigh 33 = .ok (.aload_n 0, 1) := by decide +kernel
theorem dX3_weigh_34 : decode cX3_weigh 34 = .ok (.getfield 38, 3) := by decide +kernel
theorem dX3_weigh_37 : decode cX3_weigh 37 = .ok (.if_icmp .ge 7, 3) := by decide +kernel
theorem dX3_weigh_40 : decode cX3_weigh 40 = .ok (.iconst 1, 1) := by decide +kernel
theorem dX3_weigh_41 : decode cX3_weigh 41 = .ok (.goto 4, 3) := by decide +kernel
theorem dX3_weigh_44 : decode cX3_weigh 44 = .ok (.iconst 0, 1) := by decide +kernel
theorem dX3_weigh_45 : decode cX3_weigh 45 = .ok (.istore 7, 2) := by decide +kernel
theorem dX3_weigh_47 : decode cX3_weigh 47 = .ok (.aload_n 0, 1) := by decide +kernel
theorem dX3_weigh_48 : decode cX3_weigh 48 = .ok (.getfield 22, 3) := by decide +kernel
theorem dX3_weigh_51 : decode cX3_weigh 51 = .ok (.tableswitch 154 0 3 #[29, 58, 91, 122], 29) := by decide +kernel
theorem dX3_weigh_80 : decode cX3_weigh 80 = .ok (.iload_n 2, 1) := by decide +kernel
theorem dX3_weigh_81 : decode cX3_weigh 81 = .ok (.aload_n 0, 1) := by decide +kernel
theorem dX3_weigh_82 : decode cX3_weigh 82 = .ok (.getfield 26, 3) := by decide +kernel
theorem dX3_weigh_85 : decode cX3_weigh 85 = .ok (.if_icmp .ne 145, 3) := by decide +kernel
theorem dX3_weigh_88 : decode cX3_weigh 88 = .ok (.iload 6, 2) := by decide +kernel
theorem dX3_weigh_90 : decode cX3_weigh 90 = .ok (.ifCond .ne 8, 3) := by decide +kernel
theorem dX3_weigh_93 : decode cX3_weigh 93 = .ok (.iload 7, 2) := by decide +kernel
theorem dX3_weigh_95 : decode cX3_weigh 95 = .ok (.ifCond .eq 135, 3) := by decide +kernel
theorem dX3_weigh_98 : decode cX3_weigh 98 = .ok (.aload_n 0, 1) := by decide +kernel
theorem dX3_weigh_99 : decode cX3_weigh 99 = .ok (.iload_n 1, 1) := by decide +kernel
theorem dX3_weigh_100 : decode cX3_weigh 100 = .ok (.iload_n 2, 1) := by decide +kernel
theorem dX3_weigh_101 : decode cX3_weigh 101 = .ok (.iload 4, 2) := by decide +kernel
theorem dX3_weigh_103 : decode cX3_weigh 103 = .ok (.invokevirtual 103, 3) := by decide +kernel
theorem dX3_weigh_106 : decode cX3_weigh 106 = .ok (.goto 124, 3) := by decide +kernel
theorem dX3_weigh_109 : decode cX3_weigh 109 = .ok (.iload_n 1, 1) := by decide +kernel
theorem dX3_weigh_110 : decode cX3_weigh 110 = .ok (.aload_n 0, 1) := by decide +kernel
theorem dX3_weigh_111 : decode cX3_weigh 111 = .ok (.getfield 35, 3) := by decide +kernel
theorem dX3_weigh_114 : decode cX3_weigh 114 = .ok (.if_icmp .ne 116, 3) := by decide +kernel
theorem dX3_weigh_117 : decode cX3_weigh 117 = .ok (.iload 6, 2) := by decide +kernel
theorem dX3_weigh_119 : decode cX3_weigh 119 = .ok (.ifCond .ne 12, 3) := by decide +kernel
theorem dX3_weigh_122 : decode cX3_weigh 122 = .ok (.iload 4, 2) := by decide +kernel
theorem dX3_weigh_124 : decode cX3_weigh 124 = .ok (.aload_n 0, 1) := by decide +kernel
theorem dX3_weigh_125 : decode cX3_weigh 125 = .ok (.getfield 41, 3) := by decide +kernel
theorem dX3_weigh_128 : decode cX3_weigh 128 = .ok (.if_icmp .le 102, 3) := by decide +kernel
theorem dX3_weigh_131 : decode cX3_weigh 131 = .ok (.aload_n 0, 1) := by decide +kernel
theorem dX3_weigh_132 : decode cX3_weigh 132 = .ok (.iload_n 1, 1) := by decide +kernel
theorem dX3_weigh_133 : decode cX3_weigh 133 = .ok (.iload_n 2, 1) := by decide +kernel
theorem dX3_weigh_134 : decode cX3_weigh 134 = .ok (.iload 4, 2) := by decide +kernel
theorem dX3_weigh_136 : decode cX3_weigh 136 = .ok (.invokevirtual 103, 3) := by decide +kernel
theorem dX3_weigh_139 : decode cX3_weigh 139 = .ok (.goto 91, 3) := by decide +kernel
theorem dX3_weigh_142 : decode cX3_weigh 142 = .ok (.iload_n 1, 1) := by decide +kernel
theorem dX3_weigh_143 : decode cX3_weigh 143 = .ok (.aload_n 0, 1) := by decide +kernel
theorem dX3_weigh_144 : decode cX3_weigh 144 = .ok (.getfield 35, 3) := by decide +kernel
theorem dX3_weigh_147 : decode cX3_weigh 147 = .ok (.if_icmp .ne 83, 3) := by decide +kernel
theorem dX3_weigh_150 : decode cX3_weigh 150 = .ok (.iload_n 2, 1) := by decide +kernel
theorem dX3_weigh_151 : decode cX3_weigh 151 = .ok (.aload_n 0, 1) := by decide +kernel
theorem dX3_weigh_152 : decode cX3_weigh 152 = .ok (.getfield 26, 3) := by decide +kernel
theorem dX3_weigh_155 : decode cX3_weigh 155 = .ok (.if_icmp .ne 75, 3) := by decide +kernel
theorem dX3_weigh_158 : decode cX3_weigh 158 = .ok (.aload_n 0, 1) := by decide +kernel
theorem dX3_weigh_159 : decode cX3_weigh 159 = .ok (.dup, 1) := by decide +kernel
theorem dX3_weigh_160 : decode cX3_weigh 160 = .ok (.getfield 47, 3) := by decide +kernel
theorem dX3_weigh_163 : decode cX3_weigh 163 = .ok (.iconst 1, 1) := by decide +kernel
theorem dX3_weigh_164 : decode cX3_weigh 164 = .ok (.iload_n 3, 1) := by decide +kernel
theorem dX3_weigh_165 : decode cX3_weigh 165 = .ok (.ishl, 1) := by decide +kernel
theorem dX3_weigh_166 : decode cX3_weigh 166 = .ok (.ior, 1) := by decide +kernel
theorem dX3_weigh_167 : decode cX3_weigh 167 = .ok (.putfield 47, 3) := by decide +kernel
theorem dX3_weigh_170 : decode cX3_weigh 170 = .ok (.goto 60, 3) := by decide +kernel
theorem dX3_weigh_173 : decode cX3_weigh 173 = .ok (.iload_n 3, 1) := by decide +kernel
theorem dX3_weigh_174 : decode cX3_weigh 174 = .ok (.aload_n 0, 1) := by decide +kernel
theorem dX3_weigh_175 : decode cX3_weigh 175 = .ok (.getfield 26, 3) := by decide +kernel
theorem dX3_weigh_178 : decode cX3_weigh 178 = .ok (.if_icmp .ne 52, 3) := by decide +kernel
theorem dX3_weigh_181 : decode cX3_weigh 181 = .ok (.iload 6, 2) := by decide +kernel
theorem dX3_weigh_183 : decode cX3_weigh 183 = .ok (.ifCond .ne 11, 3) := by decide +kernel
theorem dX3_weigh_186 : decode cX3_weigh 186 = .ok (.iload_n 1, 1) := by decide +kernel
theorem dX3_weigh_187 : decode cX3_weigh 187 = .ok (.aload_n 0, 1) := by decide +kernel
theorem dX3_weigh_188 : decode cX3_weigh 188 = .ok (.getfield 38, 3) := by decide +kernel
theorem dX3_weigh_191 : decode cX3_weigh 191 = .ok (.if_icmp .ge 39, 3) := by decide +kernel
theorem dX3_weigh_194 : decode cX3_weigh 194 = .ok (.aload_n 0, 1) := by decide +kernel
theorem dX3_weigh_195 : decode cX3_weigh 195 = .ok (.iload_n 1, 1) := by decide +kernel
theorem dX3_weigh_196 : decode cX3_weigh 196 = .ok (.iload_n 2, 1) := by decide +kernel
theorem dX3_weigh_197 : decode cX3_weigh 197 = .ok (.iload 4, 2) := by decide +kernel
theorem dX3_weigh_199 : decode cX3_weigh 199 = .ok (.invokevirtual 103, 3) := by decide +kernel
theorem dX3_weigh_202 : decode cX3_weigh 202 = .ok (.goto 28, 3) := by decide +kernel
theorem dX3_weigh_205 : decode cX3_weigh 205 = .ok (.iload_n 2, 1) := by decide +kernel
theorem dX3_weigh_206 : decode cX3_weigh 206 = .ok (.aload_n 0, 1) := by decide +kernel
theorem dX3_weigh_207 : decode cX3_weigh 207 = .ok (.getfield 26, 3) := by decide +kernel
theorem dX3_weigh_210 : decode cX3_weigh 210 = .ok (.if_icmp .ne 20, 3) := by decide +kernel
theorem dX3_weigh_213 : decode cX3_weigh 213 = .ok (.iload 4, 2) := by decide +kernel
theorem dX3_weigh_215 : decode cX3_weigh 215 = .ok (.aload_n 0, 1) := by decide +kernel
theorem dX3_weigh_216 : decode cX3_weigh 216 = .ok (.getfield 62, 3) := by decide +kernel
theorem dX3_weigh_219 : decode cX3_weigh 219 = .ok (.if_icmp .gt 11, 3) := by decide +kernel
theorem dX3_weigh_222 : decode cX3_weigh 222 = .ok (.aload_n 0, 1) := by decide +kernel
theorem dX3_weigh_223 : decode cX3_weigh 223 = .ok (.getfield 18, 3) := by decide +kernel
theorem dX3_weigh_226 : decode cX3_weigh 226 = .ok (.iload 5, 2) := by decide +kernel
theorem dX3_weigh_228 : decode cX3_weigh 228 = .ok (.iconst 1, 1) := by decide +kernel
theorem dX3_weigh_229 : decode cX3_weigh 229 = .ok (.bastore, 1) := by decide +kernel
theorem dX3_weigh_230 : decode cX3_weigh 230 = .ok (.return_, 1) := by decide +kernel
theorem dX3_keepPath_0 : decode cX3_keepPath 0 = .ok (.aload_n 0, 1) := by decide +kernel
theorem dX3_keepPath_1 : decode cX3_keepPath 1 = .ok (.getfield 9, 3) := by decide +kernel
theorem dX3_keepPath_4 : decode cX3_keepPath 4 = .ok (.iconst 0, 1) := by decide +kernel
theorem dX3_keepPath_5 : decode cX3_keepPath 5 = .ok (.aload_n 0, 1) := by decide +kernel
theorem dX3_keepPath_6 : decode cX3_keepPath 6 = .ok (.getfield 15, 3) := by decide +kernel
theorem dX3_keepPath_9 : decode cX3_keepPath 9 = .ok (.iconst 0, 1) := by decide +kernel
theorem dX3_keepPath_10 : decode cX3_keepPath 10 = .ok (.iload_n 1, 1) := by decide +kernel
theorem dX3_keepPath_11 : decode cX3_keepPath 11 = .ok (.invokestatic 107, 3) := by decide +kernel
theorem dX3_keepPath_14 : decode cX3_keepPath 14 = .ok (.aload_n 0, 1) := by decide +kernel
theorem dX3_keepPath_15 : decode cX3_keepPath 15 = .ok (.iload_n 1, 1) := by decide +kernel
theorem dX3_keepPath_16 : decode cX3_keepPath 16 = .ok (.putfield 38, 3) := by decide +kernel
theorem dX3_keepPath_19 : decode cX3_keepPath 19 = .ok (.aload_n 0, 1) := by decide +kernel
theorem dX3_keepPath_20 : decode cX3_keepPath 20 = .ok (.iload_n 2, 1) := by decide +kernel
theorem dX3_keepPath_21 : decode cX3_keepPath 21 = .ok (.putfield 44, 3) := by decide +kernel
theorem dX3_keepPath_24 : decode cX3_keepPath 24 = .ok (.aload_n 0, 1) := by decide +kernel
theorem dX3_keepPath_25 : decode cX3_keepPath 25 = .ok (.iload_n 3, 1) := by decide +kernel
theorem dX3_keepPath_26 : decode cX3_keepPath 26 = .ok (.putfield 41, 3) := by decide +kernel
theorem dX3_keepPath_29 : decode cX3_keepPath 29 = .ok (.return_, 1) := by decide +kernel
theorem dX4_init_0 : decode cX4_init 0 = .ok (.aload_n 0, 1) := by decide +kernel
theorem dX4_init_1 : decode cX4_init 1 = .ok (.invokespecial 3, 3) := by decide +kernel
theorem dX4_init_4 : decode cX4_init 4 = .ok (.aload_n 0, 1) := by decide +kernel
theorem dX4_init_5 : decode cX4_init 5 = .ok (.bipush 120, 2) := by decide +kernel
theorem dX4_init_7 : decode cX4_init 7 = .ok (.newarray .int, 2) := by decide +kernel
theorem dX4_init_9 : decode cX4_init 9 = .ok (.putfield 9, 3) := by decide +kernel
theorem dX4_init_12 : decode cX4_init 12 = .ok (.return_, 1) := by decide +kernel
theorem dX4_put_0 : decode cX4_put 0 = .ok (.aload_n 0, 1) := by decide +kernel
theorem dX4_put_1 : decode cX4_put 1 = .ok (.getfield 9, 3) := by decide +kernel
theorem dX4_put_4 : decode cX4_put 4 = .ok (.aload_n 0, 1) := by decide +kernel
theorem dX4_put_5 : decode cX4_put 5 = .ok (.getfield 15, 3) := by decide +kernel
theorem dX4_put_8 : decode cX4_put 8 = .ok (.iload_n 1, 1) := by decide +kernel
theorem dX4_put_9 : decode cX4_put 9 = .ok (.iastore, 1) := by decide +kernel
theorem dX4_put_10 : decode cX4_put 10 = .ok (.aload_n 0, 1) := by decide +kernel
theorem dX4_put_11 : decode cX4_put 11 = .ok (.dup, 1) := by decide +kernel
theorem dX4_put_12 : decode cX4_put 12 = .ok (.getfield 15, 3) := by decide +kernel
theorem dX4_put_15 : decode cX4_put 15 = .ok (.iconst 1, 1) := by decide +kernel
theorem dX4_put_16 : decode cX4_put 16 = .ok (.iadd, 1) := by decide +kernel
theorem dX4_put_17 : decode cX4_put 17 = .ok (.putfield 15, 3) := by decide +kernel
theorem dX4_put_20 : decode cX4_put 20 = .ok (.aload_n 0, 1) := by decide +kernel
theorem dX4_put_21 : decode cX4_put 21 = .ok (.getfield 15, 3) := by decide +kernel
theorem dX4_put_24 : decode cX4_put 24 = .ok (.ireturn, 1) := by decide +kernel
theorem dX4_readInto_0 : decode cX4_readInto 0 = .ok (.aload_n 1, 1) := by decide +kernel
theorem dX4_readInto_1 : decode cX4_readInto 1 = .ok (.invokevirtual 19, 3) := by decide +kernel
theorem dX4_readInto_4 : decode cX4_readInto 4 = .ok (.aload_n 0, 1) := by decide +kernel
theorem dX4_readInto_5 : decode cX4_readInto 5 = .ok (.iconst 0, 1) := by decide +kernel
theorem dX4_readInto_6 : decode cX4_readInto 6 = .ok (.putfield 24, 3) := by decide +kernel
theorem dX4_readInto_9 : decode cX4_readInto 9 = .ok (.aload_n 0, 1) := by decide +kernel
theorem dX4_readInto_10 : decode cX4_readInto 10 = .ok (.aload_n 1, 1) := by decide +kernel
theorem dX4_readInto_11 : decode cX4_readInto 11 = .ok (.invokevirtual 27, 3) := by decide +kernel
theorem dX4_readInto_14 : decode cX4_readInto 14 = .ok (.ifCond .eq 19, 3) := by decide +kernel
theorem dX4_readInto_17 : decode cX4_readInto 17 = .ok (.aload_n 0, 1) := by decide +kernel
theorem dX4_readInto_18 : decode cX4_readInto 18 = .ok (.aload_n 1, 1) := by decide +kernel
theorem dX4_readInto_19 : decode cX4_readInto 19 = .ok (.invokevirtual 31, 3) := by decide +kernel
theorem dX4_readInto_22 : decode cX4_readInto 22 = .ok (.ifCond .eq 11, 3) := by decide +kernel
theorem dX4_readInto_25 : decode cX4_readInto 25 = .ok (.aload_n 0, 1) := by decide +kernel
theorem dX4_readInto_26 : decode cX4_readInto 26 = .ok (.aload_n 1, 1) := by decide +kernel
theorem dX4_readInto_27 : decode cX4_readInto 27 = .ok (.invokevirtual 34, 3) := by decide +kernel
theorem dX4_readInto_30 : decode cX4_readInto 30 = .ok (.ifCond .ne 5, 3) := by decide +kernel
theorem dX4_readInto_33 : decode cX4_readInto 33 = .ok (.iconst 0, 1) := by decide +kernel
theorem dX4_readInto_34 : decode cX4_readInto 34 = .ok (.ireturn, 1) := by decide +kernel
theorem dX4_readInto_35 : decode cX4_readInto 35 = .ok (.aload_n 1, 1) := by decide +kernel
theorem dX4_readInto_36 : decode cX4_readInto 36 = .ok (.iconst 1, 1) := by decide +kernel
theorem dX4_readInto_37 : decode cX4_readInto 37 = .ok (.aload_n 1, 1) := by decide +kernel
theorem dX4_readInto_38 : decode cX4_readInto 38 = .ok (.getfield 37, 3) := by decide +kernel
theorem dX4_readInto_41 : decode cX4_readInto 41 = .ok (.ishl, 1) := by decide +kernel
theorem dX4_readInto_42 : decode cX4_readInto 42 = .ok (.iconst 1, 1) := by decide +kernel
theorem dX4_readInto_43 : decode cX4_readInto 43 = .ok (.isub, 1) := by decide +kernel
theorem dX4_readInto_44 : decode cX4_readInto 44 = .ok (.putfield 40, 3) := by decide +kernel
theorem dX4_readInto_47 : decode cX4_readInto 47 = .ok (.iconst 1, 1) := by decide +kernel
theorem dX4_readInto_48 : decode cX4_readInto 48 = .ok (.ireturn, 1) := by decide +kernel
theorem dX4_readLaw_0 : decode cX4_readLaw 0 = .ok (.aload_n 0, 1) := by decide +kernel
theorem dX4_readLaw_1 : decode cX4_readLaw 1 = .ok (.bipush 116, 2) := by decide +kernel
theorem dX4_readLaw_3 : decode cX4_readLaw 3 = .ok (.invokevirtual 43, 3) := by decide +kernel
theorem dX4_readLaw_6 : decode cX4_readLaw 6 = .ok (.ifCond .ne 5, 3) := by decide +kernel
theorem dX4_readLaw_9 : decode cX4_readLaw 9 = .ok (.iconst 0, 1) := by decide +kernel
theorem dX4_readLaw_10 : decode cX4_readLaw 10 = .ok (.ireturn, 1) := by decide +kernel
theorem dX4_readLaw_11 : decode cX4_readLaw 11 = .ok (.aload_n 1, 1) := by decide +kernel
theorem dX4_readLaw_12 : decode cX4_readLaw 12 = .ok (.aload_n 0, 1) := by decide +kernel
theorem dX4_readLaw_13 : decode cX4_readLaw 13 = .ok (.iconst 1, 1) := by decide +kernel
theorem dX4_readLaw_14 : decode cX4_readLaw 14 = .ok (.bipush 9, 2) := by decide +kernel
theorem dX4_readLaw_16 : decode cX4_readLaw 16 = .ok (.invokevirtual 47, 3) := by decide +kernel
theorem dX4_readLaw_19 : decode cX4_readLaw 19 = .ok (.putfield 51, 3) := by decide +kernel
theorem dX4_readLaw_22 : decode cX4_readLaw 22 = .ok (.aload_n 1, 1) := by decide +kernel
theorem dX4_readLaw_23 : decode cX4_readLaw 23 = .ok (.getfield 51, 3) := by decide +kernel
theorem dX4_readLaw_26 : decode cX4_readLaw 26 = .ok (.ifCond .lt 12, 3) := by decide +kernel
theorem dX4_readLaw_29 : decode cX4_readLaw 29 = .ok (.aload_n 0, 1) := by decide +kernel
theorem dX4_readLaw_30 : decode cX4_readLaw 30 = .ok (.bipush 44, 2) := by decide +kernel
theorem dX4_readLaw_32 : decode cX4_readLaw 32 = .ok (.invokevirtual 43, 3) := by decide +kernel
theorem dX4_readLaw_35 : decode cX4_readLaw 35 = .ok (.ifCond .ne 5, 3) := by decide +kernel
theorem dX4_readLaw_38 : decode cX4_readLaw 38 = .ok (.iconst 0, 1) := by decide +kernel
theorem dX4_readLaw_39 : decode cX4_readLaw 39 = .ok (.ireturn, 1) := by decide +kernel
theorem dX4_readLaw_40 : decode cX4_readLaw 40 = .ok (.aload_n 1, 1) := by decide +kernel
theorem dX4_readLaw_41 : decode cX4_readLaw 41 = .ok (.aload_n 0, 1) := by decide +kernel
theorem dX4_readLaw_42 : decode cX4_readLaw 42 = .ok (.iconst 0, 1) := by decide +kernel
theorem dX4_readLaw_43 : decode cX4_readLaw 43 = .ok (.bipush 9, 2) := by decide +kernel
theorem dX4_readLaw_45 : decode cX4_readLaw 45 = .ok (.invokevirtual 47, 3) := by decide +kernel
theorem dX4_readLaw_48 : decode cX4_readLaw 48 = .ok (.putfield 54, 3) := by decide +kernel
theorem dX4_readLaw_51 : decode cX4_readLaw 51 = .ok (.aload_n 1, 1) := by decide +kernel
theorem dX4_readLaw_52 : decode cX4_readLaw 52 = .ok (.getfield 54, 3) := by decide +kernel
theorem dX4_readLaw_55 : decode cX4_readLaw 55 = .ok (.ifCond .lt 16, 3) := by decide +kernel
theorem dX4_readLaw_58 : decode cX4_readLaw 58 = .ok (.aload_n 0, 1) := by decide +kernel
theorem dX4_readLaw_59 : decode cX4_readLaw 59 = .ok (.bipush 59, 2) := by decide +kernel
theorem dX4_readLaw_61 : decode cX4_readLaw 61 = .ok (.invokevirtual 43, 3) := by decide +kernel
theorem dX4_readLaw_64 : decode cX4_readLaw 64 = .ok (.ifCond .eq 7, 3) := by decide +kernel
theorem dX4_readLaw_67 : decode cX4_readLaw 67 = .ok (.iconst 1, 1) := by decide +kernel
theorem dX4_readLaw_68 : decode cX4_readLaw 68 = .ok (.goto 4, 3) := by decide +kernel
theorem dX4_readLaw_71 : decode cX4_readLaw 71 = .ok (.iconst 0, 1) := by decide +kernel
theorem dX4_readLaw_72 : decode cX4_readLaw 72 = .ok (.ireturn, 1) := by decide +kernel
theorem dX4_readCorners_0 : decode cX4_readCorners 0 = .ok (.iconst 0, 1) := by decide +kernel
theorem dX4_readCorners_1 : decode cX4_readCorners 1 = .ok (.istore_n 2, 1) := by decide +kernel
theorem dX4_readCorners_2 : decode cX4_readCorners 2 = .ok (.iload_n 2, 1) := by decide +kernel
theorem dX4_readCorners_3 : decode cX4_readCorners 3 = .ok (.bipush 6, 2) := by decide +kernel
theorem dX4_readCorners_5 : decode cX4_readCorners 5 = .ok (.if_icmp .gt 152, 3) := by decide +kernel
theorem dX4_readCorners_8 : decode cX4_readCorners 8 = .ok (.aload_n 0, 1) := by decide +kernel
theorem dX4_readCorners_9 : decode cX4_readCorners 9 = .ok (.invokevirtual 57, 3) := by decide +kernel
theorem dX4_readCorners_12 : decode cX4_readCorners 12 = .ok (.invokestatic 61, 3) := by decide +kernel
theorem dX4_readCorners_15 : decode cX4_readCorners 15 = .ok (.istore_n 3, 1) := by decide +kernel
theorem dX4_readCorners_16 : decode cX4_readCorners 16 = .ok (.iload_n 3, 1) := by decide +kernel
theorem dX4_readCorners_17 : decode cX4_readCorners 17 = .ok (.ifCond .ne 25, 3) := by decide +kernel
theorem dX4_readCorners_20 : decode cX4_readCorners 20 = .ok (.iload_n 2, 1) := by decide +kernel
theorem dX4_readCorners_21 : decode cX4_readCorners 21 = .ok (.ifCond .gt 15, 3) := by decide +kernel
theorem dX4_readCorners_24 : decode cX4_readCorners 24 = .ok (.aload_n 0, 1) := by decide +kernel
theorem dX4_readCorners_25 : decode cX4_readCorners 25 = .ok (.aload_n 0, 1) := by decide +kernel
theorem dX4_readCorners_26 : decode cX4_readCorners 26 = .ok (.getfield 24, 3) := by decide +kernel
theorem dX4_readCorners_29 : decode cX4_readCorners 29 = .ok (.iconst 1, 1) := by decide +kernel
theorem dX4_readCorners_30 : decode cX4_readCorners 30 = .ok (.invokevirtual 65, 3) := by decide +kernel
theorem dX4_readCorners_33 : decode cX4_readCorners 33 = .ok (.ifCond .eq 7, 3) := by decide +kernel
theorem dX4_readCorners_36 : decode cX4_readCorners 36 = .ok (.iconst 1, 1) := by decide +kernel
theorem dX4_readCorners_37 : decode cX4_readCorners 37 = .ok (.goto 4, 3) := by decide +kernel
theorem dX4_readCorners_40 : decode cX4_readCorners 40 = .ok (.iconst 0, 1) := by decide +kernel
theorem dX4_readCorners_41 : decode cX4_readCorners 41 = .ok (.ireturn, 1) := by decide +kernel
theorem dX4_readCorners_42 : decode cX4_readCorners 42 = .ok (.iload_n 2, 1) := by decide +kernel
theorem dX4_readCorners_43 : decode cX4_readCorners 43 = .ok (.bipush 6, 2) := by decide +kernel
theorem dX4_readCorners_45 : decode cX4_readCorners 45 = .ok (.if_icmp .ne 13, 3) := by decide +kernel
theorem dX4_readCorners_48 : decode cX4_readCorners 48 = .ok (.aload_n 0, 1) := by decide +kernel
theorem dX4_readCorners_49 : decode cX4_readCorners 49 = .ok (.aload_n 0, 1) := by decide +kernel
theorem dX4_readCorners_50 : decode cX4_readCorners 50 = .ok (.getfield 24, 3) := by decide +kernel
theorem dX4_readCorners_53 : decode cX4_readCorners 53 = .ok (.iconst 3, 1) := by decide +kernel
theorem dX4_readCorners_54 : decode cX4_readCorners 54 = .ok (.invokevirtual 65, 3) := by decide +kernel
theorem dX4_readCorners_57 : decode cX4_readCorners 57 = .ok (.ireturn, 1) := by decide +kernel
theorem dX4_readCorners_58 : decode cX4_readCorners 58 = .ok (.aload_n 0, 1) := by decide +kernel
theorem dX4_readCorners_59 : decode cX4_readCorners 59 = .ok (.dup, 1) := by decide +kernel
theorem dX4_readCorners_60 : decode cX4_readCorners 60 = .ok (.getfield 24, 3) := by decide +kernel
theorem dX4_readCorners_63 : decode cX4_readCorners 63 = .ok (.iconst 1, 1) := by decide +kernel
theorem dX4_readCorners_64 : decode cX4_readCorners 64 = .ok (.iadd, 1) := by decide +kernel
theorem dX4_readCorners_65 : decode cX4_readCorners 65 = .ok (.putfield 24, 3) := by decide +kernel
theorem dX4_readCorners_68 : decode cX4_readCorners 68 = .ok (.aload_n 1, 1) := by decide +kernel
theorem dX4_readCorners_69 : decode cX4_readCorners 69 = .ok (.getfield 69, 3) := by decide +kernel
theorem dX4_readCorners_72 : decode cX4_readCorners 72 = .ok (.iload_n 2, 1) := by decide +kernel
theorem dX4_readCorners_73 : decode cX4_readCorners 73 = .ok (.iload_n 3, 1) := by decide +kernel
theorem dX4_readCorners_74 : decode cX4_readCorners 74 = .ok (.iastore, 1) := by decide +kernel
theorem dX4_readCorners_75 : decode cX4_readCorners 75 = .ok (.aload_n 1, 1) := by decide +kernel
theorem dX4_readCorners_76 : decode cX4_readCorners 76 = .ok (.getfield 72, 3) := by decide +kernel
theorem dX4_readCorners_79 : decode cX4_readCorners 79 = .ok (.iload_n 2, 1) := by decide +kernel
theorem dX4_readCorners_80 : decode cX4_readCorners 80 = .ok (.aload_n 0, 1) := by decide +kernel
theorem dX4_readCorners_81 : decode cX4_readCorners 81 = .ok (.iconst 0, 1) := by decide +kernel
theorem dX4_readCorners_82 : decode cX4_readCorners 82 = .ok (.bipush 9, 2) := by decide +kernel
theorem dX4_readCorners_84 : decode cX4_readCorners 84 = .ok (.invokevirtual 47, 3) := by decide +kernel
theorem dX4_readCorners_87 : decode cX4_readCorners 87 = .ok (.iastore, 1) := by decide +kernel
theorem dX4_readCorners_88 : decode cX4_readCorners 88 = .ok (.aload_n 1, 1) := by decide +kernel
theorem dX4_readCorners_89 : decode cX4_readCorners 89 = .ok (.getfield 72, 3) := by decide +kernel
theorem dX4_readCorners_92 : decode cX4_readCorners 92 = .ok (.iload_n 2, 1) := by decide +kernel
theorem dX4_readCorners_93 : decode cX4_readCorners 93 = .ok (.iaload, 1) := by decide +kernel
theorem dX4_readCorners_94 : decode cX4_readCorners 94 = .ok (.ifCond .lt 12, 3) := by decide +kernel
theorem dX4_readCorners_97 : decode cX4_readCorners 97 = .ok (.aload_n 0, 1) := by decide +kernel
theorem dX4_readCorners_98 : decode cX4_readCorners 98 = .ok (.bipush 44, 2) := by decide +kernel
theorem dX4_readCorners_100 : decode cX4_readCorners 100 = .ok (.invokevirtual 43, 3) := by decide +kernel
theorem dX4_readCorners_103 : decode cX4_readCorners 103 = .ok (.ifCond .ne 5, 3) := by decide +kernel
theorem dX4_readCorners_106 : decode cX4_readCorners 106 = .ok (.iconst 0, 1) := by decide +kernel
theorem dX4_readCorners_107 : decode cX4_readCorners 107 = .ok (.ireturn, 1) := by decide +kernel
theorem dX4_readCorners_108 : decode cX4_readCorners 108 = .ok (.aload_n 1, 1) := by decide +kernel
theorem dX4_readCorners_109 : decode cX4_readCorners 109 = .ok (.getfield 75, 3) := by decide +kernel
theorem dX4_readCorners_112 : decode cX4_readCorners 112 = .ok (.iload_n 2, 1) := by decide +kernel
theorem dX4_readCorners_113 : decode cX4_readCorners 113 = .ok (.aload_n 0, 1) := by decide +kernel
theorem dX4_readCorners_114 : decode cX4_readCorners 114 = .ok (.iconst 0, 1) := by decide +kernel
theorem dX4_readCorners_115 : decode cX4_readCorners 115 = .ok (.bipush 9, 2) := by decide +kernel
theorem dX4_readCorners_117 : decode cX4_readCorners 117 = .ok (.invokevirtual 47, 3) := by decide +kernel
theorem dX4_readCorners_120 : decode cX4_readCorners 120 = .ok (.iastore, 1) := by decide +kernel
theorem dX4_readCorners_121 : decode cX4_readCorners 121 = .ok (.aload_n 1, 1) := by decide +kernel
theorem dX4_readCorners_122 : decode cX4_readCorners 122 = .ok (.getfield 75, 3) := by decide +kernel
theorem dX4_readCorners_125 : decode cX4_readCorners 125 = .ok (.iload_n 2, 1) := by decide +kernel
theorem dX4_readCorners_126 : decode cX4_readCorners 126 = .ok (.iaload, 1) := by decide +kernel
theorem dX4_readCorners_127 : decode cX4_readCorners 127 = .ok (.ifCond .lt 12, 3) := by decide +kernel
theorem dX4_readCorners_130 : decode cX4_readCorners 130 = .ok (.aload_n 0, 1) := by decide +kernel
theorem dX4_readCorners_131 : decode cX4_readCorners 131 = .ok (.bipush 59, 2) := by decide +kernel
theorem dX4_readCorners_133 : decode cX4_readCorners 133 = .ok (.invokevirtual 43, 3) := by decide +kernel
theorem dX4_readCorners_136 : decode cX4_readCorners 136 = .ok (.ifCond .ne 5, 3) := by decide +kernel
theorem dX4_readCorners_139 : decode cX4_readCorners 139 = .ok (.iconst 0, 1) := by decide +kernel
theorem dX4_readCorners_140 : decode cX4_readCorners 140 = .ok (.ireturn, 1) := by decide +kernel
theorem dX4_readCorners_141 : decode cX4_readCorners 141 = .ok (.aload_n 1, 1) := by decide +kernel
theorem dX4_readCorners_142 : decode cX4_readCorners 142 = .ok (.dup, 1) := by decide +kernel
theorem dX4_readCorners_143 : decode cX4_readCorners 143 = .ok (.getfield 78, 3) := by decide +kernel
theorem dX4_readCorners_146 : decode cX4_readCorners 146 = .ok (.iconst 1, 1) := by decide +kernel
theorem dX4_readCorners_147 : decode cX4_readCorners 147 = .ok (.iadd, 1) := by decide +kernel
theorem dX4_readCorners_148 : decode cX4_readCorners 148 = .ok (.putfield 78, 3) := by decide +kernel
theorem dX4_readCorners_151 : decode cX4_readCorners 151 = .ok (.iinc 2 1, 3) := by decide +kernel
theorem dX4_readCorners_154 : decode cX4_readCorners 154 = .ok (.goto (-152), 3) := by decide +kernel
theorem dX4_readCorners_157 : decode cX4_readCorners 157 = .ok (.iconst 1, 1) := by decide +kernel
theorem dX4_readCorners_158 : decode cX4_readCorners 158 = .ok (.ireturn, 1) := by decide +kernel
theorem dX4_readStreets_0 : decode cX4_readStreets 0 = .ok (.iconst 0, 1) := by decide +kernel
theorem dX4_readStreets_1 : decode cX4_readStreets 1 = .ok (.istore_n 2, 1) := by decide +kernel
theorem dX4_readStreets_2 : decode cX4_readStreets 2 = .ok (.iload_n 2, 1) := by decide +kernel
theorem dX4_readStreets_3 : decode cX4_readStreets 3 = .ok (.bipush 8, 2) := by decide +kernel
theorem dX4_readStreets_5 : decode cX4_readStreets 5 = .ok (.if_icmp .gt 86, 3) := by decide +kernel
theorem dX4_readStreets_8 : decode cX4_readStreets 8 = .ok (.aload_n 0, 1) := by decide +kernel
theorem dX4_readStreets_9 : decode cX4_readStreets 9 = .ok (.getfield 24, 3) := by decide +kernel
theorem dX4_readStreets_12 : decode cX4_readStreets 12 = .ok (.aload_n 0, 1) := by decide +kernel
theorem dX4_readStreets_13 : decode cX4_readStreets 13 = .ok (.getfield 15, 3) := by decide +kernel
theorem dX4_readStreets_16 : decode cX4_readStreets 16 = .ok (.if_icmp .ge 75, 3) := by decide +kernel
theorem dX4_readStreets_19 : decode cX4_readStreets 19 = .ok (.aload_n 0, 1) := by decide +kernel
theorem dX4_readStreets_20 : decode cX4_readStreets 20 = .ok (.invokevirtual 57, 3) := by decide +kernel
theorem dX4_readStreets_23 : decode cX4_readStreets 23 = .ok (.bipush 120, 2) := by decide +kernel
theorem dX4_readStreets_25 : decode cX4_readStreets 25 = .ok (.if_icmp .eq 13, 3) := by decide +kernel
theorem dX4_readStreets_28 : decode cX4_readStreets 28 = .ok (.aload_n 0, 1) := by decide +kernel
theorem dX4_readStreets_29 : decode cX4_readStreets 29 = .ok (.aload_n 0, 1) := by decide +kernel
theorem dX4_readStreets_30 : decode cX4_readStreets 30 = .ok (.getfield 24, 3) := by decide +kernel
theorem dX4_readStreets_33 : decode cX4_readStreets 33 = .ok (.iconst 1, 1) := by decide +kernel
theorem dX4_readStreets_34 : decode cX4_readStreets 34 = .ok (.invokevirtual 65, 3) := by decide +kernel
theorem dX4_readStreets_37 : decode cX4_readStreets 37 = .ok (.ireturn, 1) := by decide +kernel
theorem dX4_readStreets_38 : decode cX4_readStreets 38 = .ok (.iload_n 2, 1) := by decide +kernel
theorem dX4_readStreets_39 : decode cX4_readStreets 39 = .ok (.bipush 8, 2) := by decide +kernel
theorem dX4_readStreets_41 : decode cX4_readStreets 41 = .ok (.if_icmp .ne 13, 3) := by decide +kernel
theorem dX4_readStreets_44 : decode cX4_readStreets 44 = .ok (.aload_n 0, 1) := by decide +kernel
theorem dX4_readStreets_45 : decode cX4_readStreets 45 = .ok (.aload_n 0, 1) := by decide +kernel
theorem dX4_readStreets_46 : decode cX4_readStreets 46 = .ok (.getfield 24, 3) := by decide +kernel
theorem dX4_readStreets_49 : decode cX4_readStreets 49 = .ok (.iconst 3, 1) := by decide +kernel
theorem dX4_readStreets_50 : decode cX4_readStreets 50 = .ok (.invokevirtual 65, 3) := by decide +kernel
theorem dX4_readStreets_53 : decode cX4_readStreets 53 = .ok (.ireturn, 1) := by decide +kernel
theorem dX4_readStreets_54 : decode cX4_readStreets 54 = .ok (.aload_n 0, 1) := by decide +kernel
theorem dX4_readStreets_55 : decode cX4_readStreets 55 = .ok (.dup, 1) := by decide +kernel
theorem dX4_readStreets_56 : decode cX4_readStreets 56 = .ok (.getfield 24, 3) := by decide +kernel
theorem dX4_readStreets_59 : decode cX4_readStreets 59 = .ok (.iconst 1, 1) := by decide +kernel
theorem dX4_readStreets_60 : decode cX4_readStreets 60 = .ok (.iadd, 1) := by decide +kernel
theorem dX4_readStreets_61 : decode cX4_readStreets 61 = .ok (.putfield 24, 3) := by decide +kernel
theorem dX4_readStreets_64 : decode cX4_readStreets 64 = .ok (.aload_n 0, 1) := by decide +kernel
theorem dX4_readStreets_65 : decode cX4_readStreets 65 = .ok (.aload_n 1, 1) := by decide +kernel
theorem dX4_readStreets_66 : decode cX4_readStreets 66 = .ok (.iload_n 2, 1) := by decide +kernel
theorem dX4_readStreets_67 : decode cX4_readStreets 67 = .ok (.invokevirtual 81, 3) := by decide +kernel
theorem dX4_readStreets_70 : decode cX4_readStreets 70 = .ok (.ifCond .ne 5, 3) := by decide +kernel
theorem dX4_readStreets_73 : decode cX4_readStreets 73 = .ok (.iconst 0, 1) := by decide +kernel
theorem dX4_readStreets_74 : decode cX4_readStreets 74 = .ok (.ireturn, 1) := by decide +kernel
theorem dX4_readStreets_75 : decode cX4_readStreets 75 = .ok (.aload_n 1, 1) := by decide +kernel
theorem dX4_readStreets_76 : decode cX4_readStreets 76 = .ok (.dup, 1) := by decide +kernel
theorem dX4_readStreets_77 : decode cX4_readStreets 77 = .ok (.getfield 37, 3) := by decide +kernel
theorem dX4_readStreets_80 : decode cX4_readStreets 80 = .ok (.iconst 1, 1) := by decide +kernel
theorem dX4_readStreets_81 : decode cX4_readStreets 81 = .ok (.iadd, 1) := by decide +kernel
theorem dX4_readStreets_82 : decode cX4_readStreets 82 = .ok (.putfield 37, 3) := by decide +kernel
theorem dX4_readStreets_85 : decode cX4_readStreets 85 = .ok (.iinc 2 1, 3) := by decide +kernel
theorem dX4_readStreets_88 : decode cX4_readStreets 88 = .ok (.goto (-86), 3) := by decide +kernel
theorem dX4_readStreets_91 : decode cX4_readStreets 91 = .ok (.iconst 1, 1) := by decide +kernel
theorem dX4_readStreets_92 : decode cX4_readStreets 92 = .ok (.ireturn, 1) := by decide +kernel
theorem dX4_readEnds_0 : decode cX4_readEnds 0 = .ok (.aload_n 0, 1) := by decide +kernel
theorem dX4_readEnds_1 : decode cX4_readEnds 1 = .ok (.iconst 0, 1) := by decide +kernel
theorem dX4_readEnds_2 : decode cX4_readEnds 2 = .ok (.aload_n 1, 1) := by decide +kernel
theorem dX4_readEnds_3 : decode cX4_readEnds 3 = .ok (.getfield 78, 3) := by decide +kernel
theorem dX4_readEnds_6 : decode cX4_readEnds 6 = .ok (.iconst 1, 1) := by decide +kernel
theorem dX4_readEnds_7 : decode cX4_readEnds 7 = .ok (.isub, 1) := by decide +kernel
theorem dX4_readEnds_8 : decode cX4_readEnds 8 = .ok (.invokevirtual 47, 3) := by decide +kernel
theorem dX4_readEnds_11 : decode cX4_readEnds 11 = .ok (.istore_n 3, 1) := by decide +kernel
theorem dX4_readEnds_12 : decode cX4_readEnds 12 = .ok (.iload_n 3, 1) := by decide +kernel
theorem dX4_readEnds_13 : decode cX4_readEnds 13 = .ok (.ifCond .lt 12, 3) := by decide +kernel
theorem dX4_readEnds_16 : decode cX4_readEnds 16 = .ok (.aload_n 0, 1) := by decide +kernel
theorem dX4_readEnds_17 : decode cX4_readEnds 17 = .ok (.bipush 44, 2) := by decide +kernel
theorem dX4_readEnds_19 : decode cX4_readEnds 19 = .ok (.invokevirtual 43, 3) := by decide +kernel
theorem dX4_readEnds_22 : decode cX4_readEnds 22 = .ok (.ifCond .ne 5, 3) := by decide +kernel
theorem dX4_readEnds_25 : decode cX4_readEnds 25 = .ok (.iconst 0, 1) := by decide +kernel
theorem dX4_readEnds_26 : decode cX4_readEnds 26 = .ok (.ireturn, 1) := by decide +kernel
theorem dX4_readEnds_27 : decode cX4_readEnds 27 = .ok (.aload_n 0, 1) := by decide +kernel
theorem dX4_readEnds_28 : decode cX4_readEnds 28 = .ok (.getfield 24, 3) := by decide +kernel
theorem dX4_readEnds_31 : decode cX4_readEnds 31 = .ok (.istore 4, 2) := by decide +kernel
theorem dX4_readEnds_33 : decode cX4_readEnds 33 = .ok (.aload_n 0, 1) := by decide +kernel
theorem dX4_readEnds_34 : decode cX4_readEnds 34 = .ok (.iconst 0, 1) := by decide +kernel
theorem dX4_readEnds_35 : decode cX4_readEnds 35 = .ok (.aload_n 1, 1) := by decide +kernel
theorem dX4_readEnds_36 : decode cX4_readEnds 36 = .ok (.getfield 78, 3) := by decide +kernel
theorem dX4_readEnds_39 : decode cX4_readEnds 39 = .ok (.iconst 1, 1) := by decide +kernel
theorem dX4_readEnds_40 : decode cX4_readEnds 40 = .ok (.isub, 1) := by decide +kernel
theorem dX4_readEnds_41 : decode cX4_readEnds 41 = .ok (.invokevirtual 47, 3) := by decide +kernel
theorem dX4_readEnds_44 : decode cX4_readEnds 44 = .ok (.istore 5, 2) := by decide +kernel
theorem dX4_readEnds_46 : decode cX4_readEnds 46 = .ok (.iload 5, 2) := by decide +kernel
theorem dX4_readEnds_48 : decode cX4_readEnds 48 = .ok (.ifCond .ge 5, 3) := by decide +kernel
theorem dX4_readEnds_51 : decode cX4_readEnds 51 = .ok (.iconst 0, 1) := by decide +kernel
theorem dX4_readEnds_52 : decode cX4_readEnds 52 = .ok (.ireturn, 1) := by decide +kernel
theorem dX4_readEnds_53 : decode cX4_readEnds 53 = .ok (.iload_n 3, 1) := by decide +kernel
theorem dX4_readEnds_54 : decode cX4_readEnds 54 = .ok (.iload 5, 2) := by decide +kernel
theorem dX4_readEnds_56 : decode cX4_readEnds 56 = .ok (.if_icmp .eq 13, 3) := by decide +kernel
theorem dX4_readEnds_59 : decode cX4_readEnds 59 = .ok (.aload_n 1, 1) := by decide +kernel
theorem dX4_readEnds_60 : decode cX4_readEnds 60 = .ok (.iload_n 3, 1) := by decide +kernel
theorem dX4_readEnds_61 : decode cX4_readEnds 61 = .ok (.iload 5, 2) := by decide +kernel
theorem dX4_readEnds_63 : decode cX4_readEnds 63 = .ok (.invokestatic 85, 3) := by decide +kernel
theorem dX4_readEnds_66 : decode cX4_readEnds 66 = .ok (.ifCond .eq 11, 3) := by decide +kernel
theorem dX4_readEnds_69 : decode cX4_readEnds 69 = .ok (.aload_n 0, 1) := by decide +kernel
theorem dX4_readEnds_70 : decode cX4_readEnds 70 = .ok (.iload 4, 2) := by decide +kernel
theorem dX4_readEnds_72 : decode cX4_readEnds 72 = .ok (.iconst 2, 1) := by decide +kernel
theorem dX4_readEnds_73 : decode cX4_readEnds 73 = .ok (.invokevirtual 65, 3) := by decide +kernel
theorem dX4_readEnds_76 : decode cX4_readEnds 76 = .ok (.ireturn, 1) := by decide +kernel
theorem dX4_readEnds_77 : decode cX4_readEnds 77 = .ok (.aload_n 1, 1) := by decide +kernel
theorem dX4_readEnds_78 : decode cX4_readEnds 78 = .ok (.getfield 89, 3) := by decide +kernel
theorem dX4_readEnds_81 : decode cX4_readEnds 81 = .ok (.iload_n 2, 1) := by decide +kernel
theorem dX4_readEnds_82 : decode cX4_readEnds 82 = .ok (.iload_n 3, 1) := by decide +kernel
theorem dX4_readEnds_83 : decode cX4_readEnds 83 = .ok (.iastore, 1) := by decide +kernel
theorem dX4_readEnds_84 : decode cX4_readEnds 84 = .ok (.aload_n 1, 1) := by decide +kernel
theorem dX4_readEnds_85 : decode cX4_readEnds 85 = .ok (.getfield 92, 3) := by decide +kernel
theorem dX4_readEnds_88 : decode cX4_readEnds 88 = .ok (.iload_n 2, 1) := by decide +kernel
theorem dX4_readEnds_89 : decode cX4_readEnds 89 = .ok (.iload 5, 2) := by decide +kernel
theorem dX4_readEnds_91 : decode cX4_readEnds 91 = .ok (.iastore, 1) := by decide +kernel
theorem dX4_readEnds_92 : decode cX4_readEnds 92 = .ok (.aload_n 0, 1) := by decide +kernel
theorem dX4_readEnds_93 : decode cX4_readEnds 93 = .ok (.bipush 59, 2) := by decide +kernel
theorem dX4_readEnds_95 : decode cX4_readEnds 95 = .ok (.invokevirtual 43, 3) := by decide +kernel
theorem dX4_readEnds_98 : decode cX4_readEnds 98 = .ok (.ireturn, 1) := by decide +kernel
theorem dX4_isTold_0 : decode cX4_isTold 0 = .ok (.iconst 0, 1) := by decide +kernel
theorem dX4_isTold_1 : decode cX4_isTold 1 = .ok (.istore_n 3, 1) := by decide +kernel
theorem dX4_isTold_2 : decode cX4_isTold 2 = .ok (.iload_n 3, 1) := by decide +kernel
theorem dX4_isTold_3 : decode cX4_isTold 3 = .ok (.aload_n 0, 1) := by decide +kernel
theorem dX4_isTold_4 : decode cX4_isTold 4 = .ok (.getfield 37, 3) := by decide +kernel
theorem dX4_isTold_7 : decode cX4_isTold 7 = .ok (.if_icmp .ge 31, 3) := by decide +kernel
theorem dX4_isTold_10 : decode cX4_isTold 10 = .ok (.aload_n 0, 1) := by decide +kernel
theorem dX4_isTold_11 : decode cX4_isTold 11 = .ok (.getfield 89, 3) := by decide +kernel
theorem dX4_isTold_14 : decode cX4_isTold 14 = .ok (.iload_n 3, 1) := by decide +kernel
theorem dX4_isTold_15 : decode cX4_isTold 15 = .ok (.iaload, 1) := by decide +kernel
theorem dX4_isTold_16 : decode cX4_isTold 16 = .ok (.iload_n 1, 1) := by decide +kernel
theorem dX4_isTold_17 : decode cX4_isTold 17 = .ok (.if_icmp .ne 15, 3) := by decide +kernel
theorem dX4_isTold_20 : decode cX4_isTold 20 = .ok (.aload_n 0, 1) := by decide +kernel
theorem dX4_isTold_21 : decode cX4_isTold 21 = .ok (.getfield 92, 3) := by decide +kernel
theorem dX4_isTold_24 : decode cX4_isTold 24 = .ok (.iload_n 3, 1) := by decide +kernel
theorem dX4_isTold_25 : decode cX4_isTold 25 = .ok (.iaload, 1) := by decide +kernel
theorem dX4_isTold_26 : decode cX4_isTold 26 = .ok (.iload_n 2, 1) := by decide +kernel
theorem dX4_isTold_27 : decode cX4_isTold 27 = .ok (.if_icmp .ne 5, 3) := by decide +kernel
theorem dX4_isTold_30 : decode cX4_isTold 30 = .ok (.iconst 1, 1) := by decide +kernel
theorem dX4_isTold_31 : decode cX4_isTold 31 = .ok (.ireturn, 1) := by decide +kernel
theorem dX4_isTold_32 : decode cX4_isTold 32 = .ok (.iinc 3 1, 3) := by decide +kernel
theorem dX4_isTold_35 : decode cX4_isTold 35 = .ok (.goto (-33), 3) := by decide +kernel
theorem dX4_isTold_38 : decode cX4_isTold 38 = .ok (.iconst 0, 1) := by decide +kernel
theorem dX4_isTold_39 : decode cX4_isTold 39 = .ok (.ireturn, 1) := by decide +kernel
theorem dX4_kindOf_0 : decode cX4_kindOf 0 = .ok (.iload_n 0, 1) := by decide +kernel
theorem dX4_kindOf_1 : decode cX4_kindOf 1 = .ok (.tableswitch 73 103 114 #[69, 67, 73, 63, 73, 65, 73, 73, 73, 73, 73, 71], 63) := by decide +kernel
theorem dX4_kindOf_64 : decode cX4_kindOf 64 = .ok (.iconst 1, 1) := by decide +kernel
theorem dX4_kindOf_65 : decode cX4_kindOf 65 = .ok (.ireturn, 1) := by decide +kernel
theorem dX4_kindOf_66 : decode cX4_kindOf 66 = .ok (.iconst 2, 1) := by decide +kernel
theorem dX4_kindOf_67 : decode cX4_kindOf 67 = .ok (.ireturn, 1) := by decide +kernel
theorem dX4_kindOf_68 : decode cX4_kindOf 68 = .ok (.iconst 3, 1) := by decide +kernel
theorem dX4_kindOf_69 : decode cX4_kindOf 69 = .ok (.ireturn, 1) := by decide +kernel
theorem dX4_kindOf_70 : decode cX4_kindOf 70 = .ok (.iconst 4, 1) := by decide +kernel
theorem dX4_kindOf_71 : decode cX4_kindOf 71 = .ok (.ireturn, 1) := by decide +kernel
theorem dX4_kindOf_72 : decode cX4_kindOf 72 = .ok (.iconst 5, 1) := by decide +kernel
theorem dX4_kindOf_73 : decode cX4_kindOf 73 = .ok (.ireturn, 1) := by decide +kernel
theorem dX4_kindOf_74 : decode cX4_kindOf 74 = .ok (.iconst 0, 1) := by decide +kernel
theorem dX4_kindOf_75 : decode cX4_kindOf 75 = .ok (.ireturn, 1) := by decide +kernel
theorem dX4_letterHere_0 : decode cX4_letterHere 0 = .ok (.aload_n 0, 1) := by decide +kernel
theorem dX4_letterHere_1 : decode cX4_letterHere 1 = .ok (.getfield 24, 3) := by decide +kernel
theorem dX4_letterHere_4 : decode cX4_letterHere 4 = .ok (.aload_n 0, 1) := by decide +kernel
theorem dX4_letterHere_5 : decode cX4_letterHere 5 = .ok (.getfield 15, 3) := by decide +kernel
theorem dX4_letterHere_8 : decode cX4_letterHere 8 = .ok (.if_icmp .ge 15, 3) := by decide +kernel
theorem dX4_letterHere_11 : decode cX4_letterHere 11 = .ok (.aload_n 0, 1) := by decide +kernel
theorem dX4_letterHere_12 : decode cX4_letterHere 12 = .ok (.getfield 9, 3) := by decide +kernel
theorem dX4_letterHere_15 : decode cX4_letterHere 15 = .ok (.aload_n 0, 1) := by decide +kernel
theorem dX4_letterHere_16 : decode cX4_letterHere 16 = .ok (.getfield 24, 3) := by decide +kernel
theorem dX4_letterHere_19 : decode cX4_letterHere 19 = .ok (.iaload, 1) := by decide +kernel
theorem dX4_letterHere_20 : decode cX4_letterHere 20 = .ok (.goto 4, 3) := by decide +kernel
theorem dX4_letterHere_23 : decode cX4_letterHere 23 = .ok (.iconst (-1), 1) := by decide +kernel
theorem dX4_letterHere_24 : decode cX4_letterHere 24 = .ok (.ireturn, 1) := by decide +kernel
theorem dX4_takes_0 : decode cX4_takes 0 = .ok (.aload_n 0, 1) := by decide +kernel
theorem dX4_takes_1 : decode cX4_takes 1 = .ok (.invokevirtual 57, 3) := by decide +kernel
theorem dX4_takes_4 : decode cX4_takes 4 = .ok (.iload_n 1, 1) := by decide +kernel
theorem dX4_takes_5 : decode cX4_takes 5 = .ok (.if_icmp .eq 13, 3) := by decide +kernel
theorem dX4_takes_8 : decode cX4_takes 8 = .ok (.aload_n 0, 1) := by decide +kernel
theorem dX4_takes_9 : decode cX4_takes 9 = .ok (.aload_n 0, 1) := by decide +kernel
theorem dX4_takes_10 : decode cX4_takes 10 = .ok (.getfield 24, 3) := by decide +kernel
theorem dX4_takes_13 : decode cX4_takes 13 = .ok (.iconst 1, 1) := by decide +kernel
theorem dX4_takes_14 : decode cX4_takes 14 = .ok (.invokevirtual 65, 3) := by decide +kernel
theorem dX4_takes_17 : decode cX4_takes 17 = .ok (.ireturn, 1) := by decide +kernel
theorem dX4_takes_18 : decode cX4_takes 18 = .ok (.aload_n 0, 1) := by decide +kernel
theorem dX4_takes_19 : decode cX4_takes 19 = .ok (.dup, 1) := by decide +kernel
theorem dX4_takes_20 : decode cX4_takes 20 = .ok (.getfield 24, 3) := by decide +kernel
theorem dX4_takes_23 : decode cX4_takes 23 = .ok (.iconst 1, 1) := by decide +kernel
theorem dX4_takes_24 : decode cX4_takes 24 = .ok (.iadd, 1) := by decide +kernel
theorem dX4_takes_25 : decode cX4_takes 25 = .ok (.putfield 24, 3) := by decide +kernel
theorem dX4_takes_28 : decode cX4_takes 28 = .ok (.iconst 1, 1) := by decide +kernel
theorem dX4_takes_29 : decode cX4_takes 29 = .ok (.ireturn, 1) := by decide +kernel
theorem dX4_numberWithin_0 : decode cX4_numberWithin 0 = .ok (.aload_n 0, 1) := by decide +kernel
theorem dX4_numberWithin_1 : decode cX4_numberWithin 1 = .ok (.getfield 24, 3) := by decide +kernel
theorem dX4_numberWithin_4 : decode cX4_numberWithin 4 = .ok (.istore_n 3, 1) := by decide +kernel
theorem dX4_numberWithin_5 : decode cX4_numberWithin 5 = .ok (.iconst 0, 1) := by decide +kernel
theorem dX4_numberWithin_6 : decode cX4_numberWithin 6 = .ok (.istore 4, 2) := by decide +kernel
theorem dX4_numberWithin_8 : decode cX4_numberWithin 8 = .ok (.iload_n 3, 1) := by decide +kernel
theorem dX4_numberWithin_9 : decode cX4_numberWithin 9 = .ok (.aload_n 0, 1) := by decide +kernel
theorem dX4_numberWithin_10 : decode cX4_numberWithin 10 = .ok (.getfield 15, 3) := by decide +kernel
theorem dX4_numberWithin_13 : decode cX4_numberWithin 13 = .ok (.if_icmp .ge 58, 3) := by decide +kernel
theorem dX4_numberWithin_16 : decode cX4_numberWithin 16 = .ok (.iload_n 3, 1) := by decide +kernel
theorem dX4_numberWithin_17 : decode cX4_numberWithin 17 = .ok (.aload_n 0, 1) := by decide +kernel
theorem dX4_numberWithin_18 : decode cX4_numberWithin 18 = .ok (.getfield 24, 3) := by decide +kernel
theorem dX4_numberWithin_21 : decode cX4_numberWithin 21 = .ok (.iconst 3, 1) := by decide +kernel
theorem dX4_numberWithin_22 : decode cX4_numberWithin 22 = .ok (.iadd, 1) := by decide +kernel
theorem dX4_numberWithin_23 : decode cX4_numberWithin 23 = .ok (.if_icmp .ge 48, 3) := by decide +kernel
theorem dX4_numberWithin_26 : decode cX4_numberWithin 26 = .ok (.aload_n 0, 1) := by decide +kernel
theorem dX4_numberWithin_27 : decode cX4_numberWithin 27 = .ok (.getfield 9, 3) := by decide +kernel
theorem dX4_numberWithin_30 : decode cX4_numberWithin 30 = .ok (.iload_n 3, 1) := by decide +kernel
theorem dX4_numberWithin_31 : decode cX4_numberWithin 31 = .ok (.iaload, 1) := by decide +kernel
theorem dX4_numberWithin_32 : decode cX4_numberWithin 32 = .ok (.bipush 48, 2) := by decide +kernel
theorem dX4_numberWithin_34 : decode cX4_numberWithin 34 = .ok (.if_icmp .lt 37, 3) := by decide +kernel
theorem dX4_numberWithin_37 : decode cX4_numberWithin 37 = .ok (.aload_n 0, 1) := by decide +kernel
theorem dX4_numberWithin_38 : decode cX4_numberWithin 38 = .ok (.getfield 9, 3) := by decide +kernel
theorem dX4_numberWithin_41 : decode cX4_numberWithin 41 = .ok (.iload_n 3, 1) := by decide +kernel
theorem dX4_numberWithin_42 : decode cX4_numberWithin 42 = .ok (.iaload, 1) := by decide +kernel
theorem dX4_numberWithin_43 : decode cX4_numberWithin 43 = .ok (.bipush 57, 2) := by decide +kernel
theorem dX4_numberWithin_45 : decode cX4_numberWithin 45 = .ok (.if_icmp .gt 26, 3) := by decide +kernel
theorem dX4_numberWithin_48 : decode cX4_numberWithin 48 = .ok (.iload 4, 2) := by decide +kernel
theorem dX4_numberWithin_50 : decode cX4_numberWithin 50 = .ok (.bipush 10, 2) := by decide +kernel
theorem dX4_numberWithin_52 : decode cX4_numberWithin 52 = .ok (.imul, 1) := by decide +kernel
theorem dX4_numberWithin_53 : decode cX4_numberWithin 53 = .ok (.aload_n 0, 1) := by decide +kernel
theorem dX4_numberWithin_54 : decode cX4_numberWithin 54 = .ok (.getfield 9, 3) := by decide +kernel
theorem dX4_numberWithin_57 : decode cX4_numberWithin 57 = .ok (.iload_n 3, 1) := by decide +kernel
theorem dX4_numberWithin_58 : decode cX4_numberWithin 58 = .ok (.iaload, 1) := by decide +kernel
theorem dX4_numberWithin_59 : decode cX4_numberWithin 59 = .ok (.iadd, 1) := by decide +kernel
theorem dX4_numberWithin_60 : decode cX4_numberWithin 60 = .ok (.bipush 48, 2) := by decide +kernel
theorem dX4_numberWithin_62 : decode cX4_numberWithin 62 = .ok (.isub, 1) := by decide +kernel
theorem dX4_numberWithin_63 : decode cX4_numberWithin 63 = .ok (.istore 4, 2) := by decide +kernel
theorem dX4_numberWithin_65 : decode cX4_numberWithin 65 = .ok (.iinc 3 1, 3) := by decide +kernel
theorem dX4_numberWithin_68 : decode cX4_numberWithin 68 = .ok (.goto (-60), 3) := by decide +kernel
theorem dX4_numberWithin_71 : decode cX4_numberWithin 71 = .ok (.iload_n 3, 1) := by decide +kernel
theorem dX4_numberWithin_72 : decode cX4_numberWithin 72 = .ok (.aload_n 0, 1) := by decide +kernel
theorem dX4_numberWithin_73 : decode cX4_numberWithin 73 = .ok (.getfield 24, 3) := by decide +kernel
theorem dX4_numberWithin_76 : decode cX4_numberWithin 76 = .ok (.if_icmp .le 17, 3) := by decide +kernel
theorem dX4_numberWithin_79 : decode cX4_numberWithin 79 = .ok (.iload_n 3, 1) := by decide +kernel
theorem dX4_numberWithin_80 : decode cX4_numberWithin 80 = .ok (.aload_n 0, 1) := by decide +kernel
theorem dX4_numberWithin_81 : decode cX4_numberWithin 81 = .ok (.getfield 24, 3) := by decide +kernel
theorem dX4_numberWithin_84 : decode cX4_numberWithin 84 = .ok (.iconst 3, 1) := by decide +kernel
theorem dX4_numberWithin_85 : decode cX4_numberWithin 85 = .ok (.iadd, 1) := by decide +kernel
theorem dX4_numberWithin_86 : decode cX4_numberWithin 86 = .ok (.if_icmp .ge 7, 3) := by decide +kernel
theorem dX4_numberWithin_89 : decode cX4_numberWithin 89 = .ok (.iconst 1, 1) := by decide +kernel
theorem dX4_numberWithin_90 : decode cX4_numberWithin 90 = .ok (.goto 4, 3) := by decide +kernel
theorem dX4_numberWithin_93 : decode cX4_numberWithin 93 = .ok (.iconst 0, 1) := by decide +kernel
theorem dX4_numberWithin_94 : decode cX4_numberWithin 94 = .ok (.istore 5, 2) := by decide +kernel
theorem dX4_numberWithin_96 : decode cX4_numberWithin 96 = .ok (.iload 5, 2) := by decide +kernel
theorem dX4_numberWithin_98 : decode cX4_numberWithin 98 = .ok (.ifCond .eq 15, 3) := by decide +kernel
theorem dX4_numberWithin_101 : decode cX4_numberWithin 101 = .ok (.iload 4, 2) := by decide +kernel
theorem dX4_numberWithin_103 : decode cX4_numberWithin 103 = .ok (.iload_n 1, 1) := by decide +kernel
theorem dX4_numberWithin_104 : decode cX4_numberWithin 104 = .ok (.if_icmp .lt 9, 3) := by decide +kernel
theorem dX4_numberWithin_107 : decode cX4_numberWithin 107 = .ok (.iload 4, 2) := by decide +kernel
theorem dX4_numberWithin_109 : decode cX4_numberWithin 109 = .ok (.iload_n 2, 1) := by decide +kernel
theorem dX4_numberWithin_110 : decode cX4_numberWithin 110 = .ok (.if_icmp .le 24, 3) := by decide +kernel
theorem dX4_numberWithin_113 : decode cX4_numberWithin 113 = .ok (.aload_n 0, 1) := by decide +kernel
theorem dX4_numberWithin_114 : decode cX4_numberWithin 114 = .ok (.aload_n 0, 1) := by decide +kernel
theorem dX4_numberWithin_115 : decode cX4_numberWithin 115 = .ok (.getfield 24, 3) := by decide +kernel
theorem dX4_numberWithin_118 : decode cX4_numberWithin 118 = .ok (.iload 5, 2) := by decide +kernel
theorem dX4_numberWithin_120 : decode cX4_numberWithin 120 = .ok (.ifCond .eq 7, 3) := by decide +kernel
theorem dX4_numberWithin_123 : decode cX4_numberWithin 123 = .ok (.iconst 2, 1) := by decide +kernel
theorem dX4_numberWithin_124 : decode cX4_numberWithin 124 = .ok (.goto 4, 3) := by decide +kernel
theorem dX4_numberWithin_127 : decode cX4_numberWithin 127 = .ok (.iconst 1, 1) := by decide +kernel
theorem dX4_numberWithin_128 : decode cX4_numberWithin 128 = .ok (.invokevirtual 65, 3) := by decide +kernel
theorem dX4_numberWithin_131 : decode cX4_numberWithin 131 = .ok (.pop, 1) := by decide +kernel
theorem dX4_numberWithin_132 : decode cX4_numberWithin 132 = .ok (.iconst (-1), 1) := by decide +kernel
theorem dX4_numberWithin_133 : decode cX4_numberWithin 133 = .ok (.ireturn, 1) := by decide +kernel
theorem dX4_numberWithin_134 : decode cX4_numberWithin 134 = .ok (.aload_n 0, 1) := by decide +kernel
theorem dX4_numberWithin_135 : decode cX4_numberWithin 135 = .ok (.iload_n 3, 1) := by decide +kernel
theorem dX4_numberWithin_136 : decode cX4_numberWithin 136 = .ok (.putfield 24, 3) := by decide +kernel
theorem dX4_numberWithin_139 : decode cX4_numberWithin 139 = .ok (.iload 4, 2) := by decide +kernel
theorem dX4_numberWithin_141 : decode cX4_numberWithin 141 = .ok (.ireturn, 1) := by decide +kernel
theorem dX4_failsAt_0 : decode cX4_failsAt 0 = .ok (.aload_n 0, 1) := by decide +kernel
theorem dX4_failsAt_1 : decode cX4_failsAt 1 = .ok (.iload_n 1, 1) := by decide +kernel
theorem dX4_failsAt_2 : decode cX4_failsAt 2 = .ok (.putfield 95, 3) := by decide +kernel
theorem dX4_failsAt_5 : decode cX4_failsAt 5 = .ok (.aload_n 0, 1) := by decide +kernel
theorem dX4_failsAt_6 : decode cX4_failsAt 6 = .ok (.iload_n 2, 1) := by decide +kernel
theorem dX4_failsAt_7 : decode cX4_failsAt 7 = .ok (.putfield 98, 3) := by decide +kernel
theorem dX4_failsAt_10 : decode cX4_failsAt 10 = .ok (.iconst 0, 1) := by decide +kernel
theorem dX4_failsAt_11 : decode cX4_failsAt 11 = .ok (.ireturn, 1) := by decide +kernel
theorem dX5_init_0 : decode cX5_init 0 = .ok (.aload_n 0, 1) := by decide +kernel
theorem dX5_init_1 : decode cX5_init 1 = .ok (.invokespecial 3, 3) := by decide +kernel
theorem dX5_init_4 : decode cX5_init 4 = .ok (.aload_n 0, 1) := by decide +kernel
theorem dX5_init_5 : decode cX5_init 5 = .ok (.bipush 6, 2) := by decide +kernel
theorem dX5_init_7 : decode cX5_init 7 = .ok (.newarray .int, 2) := by decide +kernel
theorem dX5_init_9 : decode cX5_init 9 = .ok (.putfield 9, 3) := by decide +kernel
theorem dX5_init_12 : decode cX5_init 12 = .ok (.aload_n 0, 1) := by decide +kernel
theorem dX5_init_13 : decode cX5_init 13 = .ok (.bipush 6, 2) := by decide +kernel
theorem dX5_init_15 : decode cX5_init 15 = .ok (.newarray .int, 2) := by decide +kernel
theorem dX5_init_17 : decode cX5_init 17 = .ok (.putfield 15, 3) := by decide +kernel
theorem dX5_init_20 : decode cX5_init 20 = .ok (.aload_n 0, 1) := by decide +kernel
theorem dX5_init_21 : decode cX5_init 21 = .ok (.bipush 6, 2) := by decide +kernel
theorem dX5_init_23 : decode cX5_init 23 = .ok (.newarray .int, 2) := by decide +kernel
theorem dX5_init_25 : decode cX5_init 25 = .ok (.putfield 18, 3) := by decide +kernel
theorem dX5_init_28 : decode cX5_init 28 = .ok (.aload_n 0, 1) := by decide +kernel
theorem dX5_init_29 : decode cX5_init 29 = .ok (.bipush 8, 2) := by decide +kernel
theorem dX5_init_31 : decode cX5_init 31 = .ok (.newarray .int, 2) := by decide +kernel
theorem dX5_init_33 : decode cX5_init 33 = .ok (.putfield 21, 3) := by decide +kernel
theorem dX5_init_36 : decode cX5_init 36 = .ok (.aload_n 0, 1) := by decide +kernel
theorem dX5_init_37 : decode cX5_init 37 = .ok (.bipush 8, 2) := by decide +kernel
theorem dX5_init_39 : decode cX5_init 39 = .ok (.newarray .int, 2) := by decide +kernel
theorem dX5_init_41 : decode cX5_init 41 = .ok (.putfield 24, 3) := by decide +kernel
theorem dX5_init_44 : decode cX5_init 44 = .ok (.return_, 1) := by decide +kernel
theorem dX5_become_0 : decode cX5_become 0 = .ok (.aload_n 1, 1) := by decide +kernel
theorem dX5_become_1 : decode cX5_become 1 = .ok (.getfield 9, 3) := by decide +kernel
theorem dX5_become_4 : decode cX5_become 4 = .ok (.iconst 0, 1) := by decide +kernel
theorem dX5_become_5 : decode cX5_become 5 = .ok (.aload_n 0, 1) := by decide +kernel
theorem dX5_become_6 : decode cX5_become 6 = .ok (.getfield 9, 3) := by decide +kernel
theorem dX5_become_9 : decode cX5_become 9 = .ok (.iconst 0, 1) := by decide +kernel
theorem dX5_become_10 : decode cX5_become 10 = .ok (.bipush 6, 2) := by decide +kernel
theorem dX5_become_12 : decode cX5_become 12 = .ok (.invokestatic 27, 3) := by decide +kernel
theorem dX5_become_15 : decode cX5_become 15 = .ok (.aload_n 1, 1) := by decide +kernel
theorem dX5_become_16 : decode cX5_become 16 = .ok (.getfield 15, 3) := by decide +kernel
theorem dX5_become_19 : decode cX5_become 19 = .ok (.iconst 0, 1) := by decide +kernel
theorem dX5_become_20 : decode cX5_become 20 = .ok (.aload_n 0, 1) := by decide +kernel
theorem dX5_become_21 : decode cX5_become 21 = .ok (.getfield 15, 3) := by decide +kernel
theorem dX5_become_24 : decode cX5_become 24 = .ok (.iconst 0, 1) := by decide +kernel
theorem dX5_become_25 : decode cX5_become 25 = .ok (.bipush 6, 2) := by decide +kernel
theorem dX5_become_27 : decode cX5_become 27 = .ok (.invokestatic 27, 3) := by decide +kernel
theorem dX5_become_30 : decode cX5_become 30 = .ok (.aload_n 1, 1) := by decide +kernel
theorem dX5_become_31 : decode cX5_become 31 = .ok (.getfield 18, 3) := by decide +kernel
theorem dX5_become_34 : decode cX5_become 34 = .ok (.iconst 0, 1) := by decide +kernel
theorem dX5_become_35 : decode cX5_become 35 = .ok (.aload_n 0, 1) := by decide +kernel
theorem dX5_become_36 : decode cX5_become 36 = .ok (.getfield 18, 3) := by decide +kernel
theorem dX5_become_39 : decode cX5_become 39 = .ok (.iconst 0, 1) := by decide +kernel
theorem dX5_become_40 : decode cX5_become 40 = .ok (.bipush 6, 2) := by decide +kernel
theorem dX5_become_42 : decode cX5_become 42 = .ok (.invokestatic 27, 3) := by decide +kernel
theorem dX5_become_45 : decode cX5_become 45 = .ok (.aload_n 1, 1) := by decide +kernel
theorem dX5_become_46 : decode cX5_become 46 = .ok (.getfield 21, 3) := by decide +kernel
theorem dX5_become_49 : decode cX5_become 49 = .ok (.iconst 0, 1) := by decide +kernel
theorem dX5_become_50 : decode cX5_become 50 = .ok (.aload_n 0, 1) := by decide +kernel
theorem dX5_become_51 : decode cX5_become 51 = .ok (.getfield 21, 3) := by decide +kernel
theorem dX5_become_54 : decode cX5_become 54 = .ok (.iconst 0, 1) := by decide +kernel
theorem dX5_become_55 : decode cX5_become 55 = .ok (.bipush 8, 2) := by decide +kernel
theorem dX5_become_57 : decode cX5_become 57 = .ok (.invokestatic 27, 3) := by decide +kernel
theorem dX5_become_60 : decode cX5_become 60 = .ok (.aload_n 1, 1) := by decide +kernel
theorem dX5_become_61 : decode cX5_become 61 = .ok (.getfield 24, 3) := by decide +kernel
theorem dX5_become_64 : decode cX5_become 64 = .ok (.iconst 0, 1) := by decide +kernel
theorem dX5_become_65 : decode cX5_become 65 = .ok (.aload_n 0, 1) := by decide +kernel
theorem dX5_become_66 : decode cX5_become 66 = .ok (.getfield 24, 3) := by decide +kernel
theorem dX5_become_69 : decode cX5_become 69 = .ok (.iconst 0, 1) := by decide +kernel
theorem dX5_become_70 : decode cX5_become 70 = .ok (.bipush 8, 2) := by decide +kernel
theorem dX5_become_72 : decode cX5_become 72 = .ok (.invokestatic 27, 3) := by decide +kernel
theorem dX5_become_75 : decode cX5_become 75 = .ok (.aload_n 0, 1) := by decide +kernel
theorem dX5_become_76 : decode cX5_become 76 = .ok (.aload_n 1, 1) := by decide +kernel
theorem dX5_become_77 : decode cX5_become 77 = .ok (.getfield 33, 3) := by decide +kernel
theorem dX5_become_80 : decode cX5_become 80 = .ok (.putfield 33, 3) := by decide +kernel
theorem dX5_become_83 : decode cX5_become 83 = .ok (.aload_n 0, 1) := by decide +kernel
theorem dX5_become_84 : decode cX5_become 84 = .ok (.aload_n 1, 1) := by decide +kernel
theorem dX5_become_85 : decode cX5_become 85 = .ok (.getfield 37, 3) := by decide +kernel
theorem dX5_become_88 : decode cX5_become 88 = .ok (.putfield 37, 3) := by decide +kernel
theorem dX5_become_91 : decode cX5_become 91 = .ok (.aload_n 0, 1) := by decide +kernel
theorem dX5_become_92 : decode cX5_become 92 = .ok (.aload_n 1, 1) := by decide +kernel
theorem dX5_become_93 : decode cX5_become 93 = .ok (.getfield 40, 3) := by decide +kernel
theorem dX5_become_96 : decode cX5_become 96 = .ok (.putfield 40, 3) := by decide +kernel
theorem dX5_become_99 : decode cX5_become 99 = .ok (.aload_n 0, 1) := by decide +kernel
theorem dX5_become_100 : decode cX5_become 100 = .ok (.aload_n 1, 1) := by decide +kernel
theorem dX5_become_101 : decode cX5_become 101 = .ok (.getfield 43, 3) := by decide +kernel
theorem dX5_become_104 : decode cX5_become 104 = .ok (.putfield 43, 3) := by decide +kernel
theorem dX5_become_107 : decode cX5_become 107 = .ok (.aload_n 0, 1) := by decide +kernel
theorem dX5_become_108 : decode cX5_become 108 = .ok (.aload_n 1, 1) := by decide +kernel
theorem dX5_become_109 : decode cX5_become 109 = .ok (.getfield 46, 3) := by decide +kernel
theorem dX5_become_112 : decode cX5_become 112 = .ok (.putfield 46, 3) := by decide +kernel
theorem dX5_become_115 : decode cX5_become 115 = .ok (.aload_n 0, 1) := by decide +kernel
theorem dX5_become_116 : decode cX5_become 116 = .ok (.aload_n 1, 1) := by decide +kernel
theorem dX5_become_117 : decode cX5_become 117 = .ok (.getfield 49, 3) := by decide +kernel
theorem dX5_become_120 : decode cX5_become 120 = .ok (.putfield 49, 3) := by decide +kernel
theorem dX5_become_123 : decode cX5_become 123 = .ok (.aload_n 0, 1) := by decide +kernel
theorem dX5_become_124 : decode cX5_become 124 = .ok (.aload_n 1, 1) := by decide +kernel
theorem dX5_become_125 : decode cX5_become 125 = .ok (.getfield 52, 3) := by decide +kernel
theorem dX5_become_128 : decode cX5_become 128 = .ok (.putfield 52, 3) := by decide +kernel
theorem dX5_become_131 : decode cX5_become 131 = .ok (.aload_n 0, 1) := by decide +kernel
theorem dX5_become_132 : decode cX5_become 132 = .ok (.aload_n 1, 1) := by decide +kernel
theorem dX5_become_133 : decode cX5_become 133 = .ok (.getfield 55, 3) := by decide +kernel
theorem dX5_become_136 : decode cX5_become 136 = .ok (.putfield 55, 3) := by decide +kernel
theorem dX5_become_139 : decode cX5_become 139 = .ok (.return_, 1) := by decide +kernel
theorem dX5_clear_0 : decode cX5_clear 0 = .ok (.aload_n 0, 1) := by decide +kernel
theorem dX5_clear_1 : decode cX5_clear 1 = .ok (.iconst 0, 1) := by decide +kernel
theorem dX5_clear_2 : decode cX5_clear 2 = .ok (.putfield 33, 3) := by decide +kernel
theorem dX5_clear_5 : decode cX5_clear 5 = .ok (.aload_n 0, 1) := by decide +kernel
theorem dX5_clear_6 : decode cX5_clear 6 = .ok (.iconst 0, 1) := by decide +kernel
theorem dX5_clear_7 : decode cX5_clear 7 = .ok (.putfield 37, 3) := by decide +kernel
theorem dX5_clear_10 : decode cX5_clear 10 = .ok (.aload_n 0, 1) := by decide +kernel
theorem dX5_clear_11 : decode cX5_clear 11 = .ok (.iconst 0, 1) := by decide +kernel
theorem dX5_clear_12 : decode cX5_clear 12 = .ok (.putfield 40, 3) := by decide +kernel
theorem dX5_clear_15 : decode cX5_clear 15 = .ok (.aload_n 0, 1) := by decide +kernel
theorem dX5_clear_16 : decode cX5_clear 16 = .ok (.iconst 0, 1) := by decide +kernel
theorem dX5_clear_17 : decode cX5_clear 17 = .ok (.putfield 43, 3) := by decide +kernel
theorem dX5_clear_20 : decode cX5_clear 20 = .ok (.aload_n 0, 1) := by decide +kernel
theorem dX5_clear_21 : decode cX5_clear 21 = .ok (.iconst 0, 1) := by decide +kernel
theorem dX5_clear_22 : decode cX5_clear 22 = .ok (.putfield 46, 3) := by decide +kernel
theorem dX5_clear_25 : decode cX5_clear 25 = .ok (.aload_n 0, 1) := by decide +kernel
theorem dX5_clear_26 : decode cX5_clear 26 = .ok (.iconst 0, 1) := by decide +kernel
theorem dX5_clear_27 : decode cX5_clear 27 = .ok (.putfield 49, 3) := by decide +kernel
theorem dX5_clear_30 : decode cX5_clear 30 = .ok (.aload_n 0, 1) := by decide +kernel
theorem dX5_clear_31 : decode cX5_clear 31 = .ok (.iconst 0, 1) := by decide +kernel
theorem dX5_clear_32 : decode cX5_clear 32 = .ok (.putfield 52, 3) := by decide +kernel
theorem dX5_clear_35 : decode cX5_clear 35 = .ok (.aload_n 0, 1) := by decide +kernel
theorem dX5_clear_36 : decode cX5_clear 36 = .ok (.iconst 0, 1) := by decide +kernel
theorem dX5_clear_37 : decode cX5_clear 37 = .ok (.putfield 55, 3) := by decide +kernel
theorem dX5_clear_40 : decode cX5_clear 40 = .ok (.return_, 1) := by decide +kernel
theorem dX5_stands_0 : decode cX5_stands 0 = .ok (.aload_n 0, 1) := by decide +kernel
theorem dX5_stands_1 : decode cX5_stands 1 = .ok (.getfield 33, 3) := by decide +kernel
theorem dX5_stands_4 : decode cX5_stands 4 = .ok (.ifCond .le 7, 3) := by decide +kernel
theorem dX5_stands_7 : decode cX5_stands 7 = .ok (.iconst 1, 1) := by decide +kernel
theorem dX5_stands_8 : decode cX5_stands 8 = .ok (.goto 4, 3) := by decide +kernel
theorem dX5_stands_11 : decode cX5_stands 11 = .ok (.iconst 0, 1) := by decide +kernel
theorem dX5_stands_12 : decode cX5_stands 12 = .ok (.ireturn, 1) := by decide +kernel
theorem dX5_hasCorner_0 : decode cX5_hasCorner 0 = .ok (.iload_n 1, 1) := by decide +kernel
theorem dX5_hasCorner_1 : decode cX5_hasCorner 1 = .ok (.ifCond .lt 15, 3) := by decide +kernel
theorem dX5_hasCorner_4 : decode cX5_hasCorner 4 = .ok (.iload_n 1, 1) := by decide +kernel
theorem dX5_hasCorner_5 : decode cX5_hasCorner 5 = .ok (.aload_n 0, 1) := by decide +kernel
theorem dX5_hasCorner_6 : decode cX5_hasCorner 6 = .ok (.getfield 33, 3) := by decide +kernel
theorem dX5_hasCorner_9 : decode cX5_hasCorner 9 = .ok (.if_icmp .ge 7, 3) := by decide +kernel
theorem dX5_hasCorner_12 : decode cX5_hasCorner 12 = .ok (.iconst 1, 1) := by decide +kernel
theorem dX5_hasCorner_13 : decode cX5_hasCorner 13 = .ok (.goto 4, 3) := by decide +kernel
theorem dX5_hasCorner_16 : decode cX5_hasCorner 16 = .ok (.iconst 0, 1) := by decide +kernel
theorem dX5_hasCorner_17 : decode cX5_hasCorner 17 = .ok (.ireturn, 1) := by decide +kernel
theorem dX5_hasStreet_0 : decode cX5_hasStreet 0 = .ok (.iload_n 1, 1) := by decide +kernel
theorem dX5_hasStreet_1 : decode cX5_hasStreet 1 = .ok (.ifCond .lt 15, 3) := by decide +kernel
theorem dX5_hasStreet_4 : decode cX5_hasStreet 4 = .ok (.iload_n 1, 1) := by decide +kernel
theorem dX5_hasStreet_5 : decode cX5_hasStreet 5 = .ok (.aload_n 0, 1) := by decide +kernel
theorem dX5_hasStreet_6 : decode cX5_hasStreet 6 = .ok (.getfield 37, 3) := by decide +kernel
theorem dX5_hasStreet_9 : decode cX5_hasStreet 9 = .ok (.if_icmp .ge 7, 3) := by decide +kernel
theorem dX5_hasStreet_12 : decode cX5_hasStreet 12 = .ok (.iconst 1, 1) := by decide +kernel
theorem dX5_hasStreet_13 : decode cX5_hasStreet 13 = .ok (.goto 4, 3) := by decide +kernel
theorem dX5_hasStreet_16 : decode cX5_hasStreet 16 = .ok (.iconst 0, 1) := by decide +kernel
theorem dX5_hasStreet_17 : decode cX5_hasStreet 17 = .ok (.ireturn, 1) := by decide +kernel
theorem dX5_isOpen_0 : decode cX5_isOpen 0 = .ok (.aload_n 0, 1) := by decide +kernel
theorem dX5_isOpen_1 : decode cX5_isOpen 1 = .ok (.getfield 43, 3) := by decide +kernel
theorem dX5_isOpen_4 : decode cX5_isOpen 4 = .ok (.iload_n 1, 1) := by decide +kernel
theorem dX5_isOpen_5 : decode cX5_isOpen 5 = .ok (.ishr, 1) := by decide +kernel
theorem dX5_isOpen_6 : decode cX5_isOpen 6 = .ok (.iconst 1, 1) := by decide +kernel
theorem dX5_isOpen_7 : decode cX5_isOpen 7 = .ok (.iand, 1) := by decide +kernel
theorem dX5_isOpen_8 : decode cX5_isOpen 8 = .ok (.iconst 1, 1) := by decide +kernel
theorem dX5_isOpen_9 : decode cX5_isOpen 9 = .ok (.if_icmp .ne 7, 3) := by decide +kernel
theorem dX5_isOpen_12 : decode cX5_isOpen 12 = .ok (.iconst 1, 1) := by decide +kernel
theorem dX5_isOpen_13 : decode cX5_isOpen 13 = .ok (.goto 4, 3) := by decide +kernel
theorem dX5_isOpen_16 : decode cX5_isOpen 16 = .ok (.iconst 0, 1) := by decide +kernel
theorem dX5_isOpen_17 : decode cX5_isOpen 17 = .ok (.ireturn, 1) := by decide +kernel
theorem dX5_turn_0 : decode cX5_turn 0 = .ok (.aload_n 0, 1) := by decide +kernel
theorem dX5_turn_1 : decode cX5_turn 1 = .ok (.dup, 1) := by decide +kernel
theorem dX5_turn_2 : decode cX5_turn 2 = .ok (.getfield 43, 3) := by decide +kernel
theorem dX5_turn_5 : decode cX5_turn 5 = .ok (.iconst 1, 1) := by decide +kernel
theorem dX5_turn_6 : decode cX5_turn 6 = .ok (.iload_n 1, 1) := by decide +kernel
theorem dX5_turn_7 : decode cX5_turn 7 = .ok (.ishl, 1) := by decide +kernel
theorem dX5_turn_8 : decode cX5_turn 8 = .ok (.ixor, 1) := by decide +kernel
theorem dX5_turn_9 : decode cX5_turn 9 = .ok (.putfield 43, 3) := by decide +kernel
theorem dX5_turn_12 : decode cX5_turn 12 = .ok (.return_, 1) := by decide +kernel
theorem dX5_leads_0 : decode cX5_leads 0 = .ok (.aload_n 0, 1) := by decide +kernel
theorem dX5_leads_1 : decode cX5_leads 1 = .ok (.aload_n 0, 1) := by decide +kernel
theorem dX5_leads_2 : decode cX5_leads 2 = .ok (.getfield 46, 3) := by decide +kernel
theorem dX5_leads_5 : decode cX5_leads 5 = .ok (.iload_n 1, 1) := by decide +kernel
theorem dX5_leads_6 : decode cX5_leads 6 = .ok (.invokevirtual 58, 3) := by decide +kernel
theorem dX5_leads_9 : decode cX5_leads 9 = .ok (.ireturn, 1) := by decide +kernel
theorem dX5_leadsFrom_0 : decode cX5_leadsFrom 0 = .ok (.aload_n 0, 1) := by decide +kernel
theorem dX5_leadsFrom_1 : decode cX5_leadsFrom 1 = .ok (.iload_n 2, 1) := by decide +kernel
theorem dX5_leadsFrom_2 : decode cX5_leadsFrom 2 = .ok (.invokevirtual 62, 3) := by decide +kernel
theorem dX5_leadsFrom_5 : decode cX5_leadsFrom 5 = .ok (.ifCond .eq 25, 3) := by decide +kernel
theorem dX5_leadsFrom_8 : decode cX5_leadsFrom 8 = .ok (.aload_n 0, 1) := by decide +kernel
theorem dX5_leadsFrom_9 : decode cX5_leadsFrom 9 = .ok (.iload_n 2, 1) := by decide +kernel
theorem dX5_leadsFrom_10 : decode cX5_leadsFrom 10 = .ok (.invokevirtual 66, 3) := by decide +kernel
theorem dX5_leadsFrom_13 : decode cX5_leadsFrom 13 = .ok (.ifCond .eq 17, 3) := by decide +kernel
theorem dX5_leadsFrom_16 : decode cX5_leadsFrom 16 = .ok (.aload_n 0, 1) := by decide +kernel
theorem dX5_leadsFrom_17 : decode cX5_leadsFrom 17 = .ok (.getfield 21, 3) := by decide +kernel
theorem dX5_leadsFrom_20 : decode cX5_leadsFrom 20 = .ok (.iload_n 2, 1) := by decide +kernel
theorem dX5_leadsFrom_21 : decode cX5_leadsFrom 21 = .ok (.iaload, 1) := by decide +kernel
theorem dX5_leadsFrom_22 : decode cX5_leadsFrom 22 = .ok (.iload_n 1, 1) := by decide +kernel
theorem dX5_leadsFrom_23 : decode cX5_leadsFrom 23 = .ok (.if_icmp .ne 7, 3) := by decide +kernel
theorem dX5_leadsFrom_26 : decode cX5_leadsFrom 26 = .ok (.iconst 1, 1) := by decide +kernel
theorem dX5_leadsFrom_27 : decode cX5_leadsFrom 27 = .ok (.goto 4, 3) := by decide +kernel
theorem dX5_leadsFrom_30 : decode cX5_leadsFrom 30 = .ok (.iconst 0, 1) := by decide +kernel
theorem dX5_leadsFrom_31 : decode cX5_leadsFrom 31 = .ok (.ireturn, 1) := by decide +kernel
theorem dX5_moodBehind_0 : decode cX5_moodBehind 0 = .ok (.aload_n 0, 1) := by decide +kernel
theorem dX5_moodBehind_1 : decode cX5_moodBehind 1 = .ok (.getfield 15, 3) := by decide +kernel
theorem dX5_moodBehind_4 : decode cX5_moodBehind 4 = .ok (.iload_n 1, 1) := by decide +kernel
theorem dX5_moodBehind_5 : decode cX5_moodBehind 5 = .ok (.iaload, 1) := by decide +kernel
theorem dX5_moodBehind_6 : decode cX5_moodBehind 6 = .ok (.istore 4, 2) := by decide +kernel
theorem dX5_moodBehind_8 : decode cX5_moodBehind 8 = .ok (.aload_n 0, 1) := by decide +kernel
theorem dX5_moodBehind_9 : decode cX5_moodBehind 9 = .ok (.getfield 9, 3) := by decide +kernel
theorem dX5_moodBehind_12 : decode cX5_moodBehind 12 = .ok (.iload_n 1, 1) := by decide +kernel
theorem dX5_moodBehind_13 : decode cX5_moodBehind 13 = .ok (.iaload, 1) := by decide +kernel
theorem dX5_moodBehind_14 : decode cX5_moodBehind 14 = .ok (.tableswitch 92 1 4 #[30, 40, 62, 83], 30) := by decide +kernel
theorem dX5_moodBehind_44 : decode cX5_moodBehind 44 = .ok (.bipush 9, 2) := by decide +kernel
theorem dX5_moodBehind_46 : decode cX5_moodBehind 46 = .ok (.iload_n 2, 1) := by decide +kernel
theorem dX5_moodBehind_47 : decode cX5_moodBehind 47 = .ok (.iload 4, 2) := by decide +kernel
theorem dX5_moodBehind_49 : decode cX5_moodBehind 49 = .ok (.iadd, 1) := by decide +kernel
theorem dX5_moodBehind_50 : decode cX5_moodBehind 50 = .ok (.invokestatic 69, 3) := by decide +kernel
theorem dX5_moodBehind_53 : decode cX5_moodBehind 53 = .ok (.ireturn, 1) := by decide +kernel
theorem dX5_moodBehind_54 : decode cX5_moodBehind 54 = .ok (.bipush 9, 2) := by decide +kernel
theorem dX5_moodBehind_56 : decode cX5_moodBehind 56 = .ok (.iload_n 2, 1) := by decide +kernel
theorem dX5_moodBehind_57 : decode cX5_moodBehind 57 = .ok (.iload_n 2, 1) := by decide +kernel
theorem dX5_moodBehind_58 : decode cX5_moodBehind 58 = .ok (.iconst 4, 1) := by decide +kernel
theorem dX5_moodBehind_59 : decode cX5_moodBehind 59 = .ok (.if_icmp .le 10, 3) := by decide +kernel
theorem dX5_moodBehind_62 : decode cX5_moodBehind 62 = .ok (.iconst 2, 1) := by decide +kernel
theorem dX5_moodBehind_63 : decode cX5_moodBehind 63 = .ok (.iload 4, 2) := by decide +kernel
theorem dX5_moodBehind_65 : decode cX5_moodBehind 65 = .ok (.imul, 1) := by decide +kernel
theorem dX5_moodBehind_66 : decode cX5_moodBehind 66 = .ok (.goto 5, 3) := by decide +kernel
theorem dX5_moodBehind_69 : decode cX5_moodBehind 69 = .ok (.iload 4, 2) := by decide +kernel
theorem dX5_moodBehind_71 : decode cX5_moodBehind 71 = .ok (.iadd, 1) := by decide +kernel
theorem dX5_moodBehind_72 : decode cX5_moodBehind 72 = .ok (.invokestatic 69, 3) := by decide +kernel
theorem dX5_moodBehind_75 : decode cX5_moodBehind 75 = .ok (.ireturn, 1) := by decide +kernel
theorem dX5_moodBehind_76 : decode cX5_moodBehind 76 = .ok (.iload_n 3, 1) := by decide +kernel
theorem dX5_moodBehind_77 : decode cX5_moodBehind 77 = .ok (.iconst 2, 1) := by decide +kernel
theorem dX5_moodBehind_78 : decode cX5_moodBehind 78 = .ok (.irem, 1) := by decide +kernel
theorem dX5_moodBehind_79 : decode cX5_moodBehind 79 = .ok (.iconst 1, 1) := by decide +kernel
theorem dX5_moodBehind_80 : decode cX5_moodBehind 80 = .ok (.if_icmp .ne 15, 3) := by decide +kernel
theorem dX5_moodBehind_83 : decode cX5_moodBehind 83 = .ok (.bipush 9, 2) := by decide +kernel
theorem dX5_moodBehind_85 : decode cX5_moodBehind 85 = .ok (.iload_n 2, 1) := by decide +kernel
theorem dX5_moodBehind_86 : decode cX5_moodBehind 86 = .ok (.iload 4, 2) := by decide +kernel
theorem dX5_moodBehind_88 : decode cX5_moodBehind 88 = .ok (.iadd, 1) := by decide +kernel
theorem dX5_moodBehind_89 : decode cX5_moodBehind 89 = .ok (.invokestatic 69, 3) := by decide +kernel
theorem dX5_moodBehind_92 : decode cX5_moodBehind 92 = .ok (.goto 4, 3) := by decide +kernel
theorem dX5_moodBehind_95 : decode cX5_moodBehind 95 = .ok (.iload_n 2, 1) := by decide +kernel
theorem dX5_moodBehind_96 : decode cX5_moodBehind 96 = .ok (.ireturn, 1) := by decide +kernel
theorem dX5_moodBehind_97 : decode cX5_moodBehind 97 = .ok (.iconst 0, 1) := by decide +kernel
theorem dX5_moodBehind_98 : decode cX5_moodBehind 98 = .ok (.iload_n 2, 1) := by decide +kernel
theorem dX5_moodBehind_99 : decode cX5_moodBehind 99 = .ok (.iload 4, 2) := by decide +kernel
theorem dX5_moodBehind_101 : decode cX5_moodBehind 101 = .ok (.isub, 1) := by decide +kernel
theorem dX5_moodBehind_102 : decode cX5_moodBehind 102 = .ok (.invokestatic 75, 3) := by decide +kernel
theorem dX5_moodBehind_105 : decode cX5_moodBehind 105 = .ok (.ireturn, 1) := by decide +kernel
theorem dX5_moodBehind_106 : decode cX5_moodBehind 106 = .ok (.iconst 0, 1) := by decide +kernel
theorem dX5_moodBehind_107 : decode cX5_moodBehind 107 = .ok (.iload_n 2, 1) := by decide +kernel
theorem dX5_moodBehind_108 : decode cX5_moodBehind 108 = .ok (.iload 4, 2) := by decide +kernel
theorem dX5_moodBehind_110 : decode cX5_moodBehind 110 = .ok (.isub, 1) := by decide +kernel
theorem dX5_moodBehind_111 : decode cX5_moodBehind 111 = .ok (.invokestatic 75, 3) := by decide +kernel
theorem dX5_moodBehind_114 : decode cX5_moodBehind 114 = .ok (.iconst 2, 1) := by decide +kernel
theorem dX5_moodBehind_115 : decode cX5_moodBehind 115 = .ok (.idiv, 1) := by decide +kernel
theorem dX5_moodBehind_116 : decode cX5_moodBehind 116 = .ok (.ireturn, 1) := by decide +kernel
theorem dX5_costBetween_0 : decode cX5_costBetween 0 = .ok (.iload_n 3, 1) := by decide +kernel
theorem dX5_costBetween_1 : decode cX5_costBetween 1 = .ok (.iload_n 2, 1) := by decide +kernel
theorem dX5_costBetween_2 : decode cX5_costBetween 2 = .ok (.isub, 1) := by decide +kernel
theorem dX5_costBetween_3 : decode cX5_costBetween 3 = .ok (.invokestatic 78, 3) := by decide +kernel
theorem dX5_costBetween_6 : decode cX5_costBetween 6 = .ok (.aload_n 0, 1) := by decide +kernel
theorem dX5_costBetween_7 : decode cX5_costBetween 7 = .ok (.getfield 40, 3) := by decide +kernel
theorem dX5_costBetween_10 : decode cX5_costBetween 10 = .ok (.imul, 1) := by decide +kernel
theorem dX5_costBetween_11 : decode cX5_costBetween 11 = .ok (.aload_n 0, 1) := by decide +kernel
theorem dX5_costBetween_12 : decode cX5_costBetween 12 = .ok (.getfield 18, 3) := by decide +kernel
theorem dX5_costBetween_15 : decode cX5_costBetween 15 = .ok (.iload_n 1, 1) := by decide +kernel
theorem dX5_costBetween_16 : decode cX5_costBetween 16 = .ok (.iaload, 1) := by decide +kernel
theorem dX5_costBetween_17 : decode cX5_costBetween 17 = .ok (.iadd, 1) := by decide +kernel
theorem dX5_costBetween_18 : decode cX5_costBetween 18 = .ok (.ireturn, 1) := by decide +kernel
theorem dX5_moodBy_0 : decode cX5_moodBy 0 = .ok (.aload_n 0, 1) := by decide +kernel
theorem dX5_moodBy_1 : decode cX5_moodBy 1 = .ok (.aload_n 0, 1) := by decide +kernel
theorem dX5_moodBy_2 : decode cX5_moodBy 2 = .ok (.getfield 24, 3) := by decide +kernel
theorem dX5_moodBy_5 : decode cX5_moodBy 5 = .ok (.iload_n 1, 1) := by decide +kernel
theorem dX5_moodBy_6 : decode cX5_moodBy 6 = .ok (.iaload, 1) := by decide +kernel
theorem dX5_moodBy_7 : decode cX5_moodBy 7 = .ok (.aload_n 0, 1) := by decide +kernel
theorem dX5_moodBy_8 : decode cX5_moodBy 8 = .ok (.getfield 49, 3) := by decide +kernel
theorem dX5_moodBy_11 : decode cX5_moodBy 11 = .ok (.aload_n 0, 1) := by decide +kernel
theorem dX5_moodBy_12 : decode cX5_moodBy 12 = .ok (.getfield 55, 3) := by decide +kernel
theorem dX5_moodBy_15 : decode cX5_moodBy 15 = .ok (.invokevirtual 82, 3) := by decide +kernel
theorem dX5_moodBy_18 : decode cX5_moodBy 18 = .ok (.ireturn, 1) := by decide +kernel
theorem dX5_costBy_0 : decode cX5_costBy 0 = .ok (.aload_n 0, 1) := by decide +kernel
theorem dX5_costBy_1 : decode cX5_costBy 1 = .ok (.aload_n 0, 1) := by decide +kernel
theorem dX5_costBy_2 : decode cX5_costBy 2 = .ok (.getfield 24, 3) := by decide +kernel
theorem dX5_costBy_5 : decode cX5_costBy 5 = .ok (.iload_n 1, 1) := by decide +kernel
theorem dX5_costBy_6 : decode cX5_costBy 6 = .ok (.iaload, 1) := by decide +kernel
theorem dX5_costBy_7 : decode cX5_costBy 7 = .ok (.aload_n 0, 1) := by decide +kernel
theorem dX5_costBy_8 : decode cX5_costBy 8 = .ok (.getfield 49, 3) := by decide +kernel
theorem dX5_costBy_11 : decode cX5_costBy 11 = .ok (.aload_n 0, 1) := by decide +kernel
theorem dX5_costBy_12 : decode cX5_costBy 12 = .ok (.iload_n 1, 1) := by decide +kernel
theorem dX5_costBy_13 : decode cX5_costBy 13 = .ok (.invokevirtual 86, 3) := by decide +kernel
theorem dX5_costBy_16 : decode cX5_costBy 16 = .ok (.invokevirtual 89, 3) := by decide +kernel
theorem dX5_costBy_19 : decode cX5_costBy 19 = .ok (.ireturn, 1) := by decide +kernel
theorem dX5_goBy_0 : decode cX5_goBy 0 = .ok (.aload_n 0, 1) := by decide +kernel
theorem dX5_goBy_1 : decode cX5_goBy 1 = .ok (.sipush 9999, 3) := by decide +kernel
theorem dX5_goBy_4 : decode cX5_goBy 4 = .ok (.aload_n 0, 1) := by decide +kernel
theorem dX5_goBy_5 : decode cX5_goBy 5 = .ok (.getfield 52, 3) := by decide +kernel
theorem dX5_goBy_8 : decode cX5_goBy 8 = .ok (.aload_n 0, 1) := by decide +kernel
theorem dX5_goBy_9 : decode cX5_goBy 9 = .ok (.iload_n 1, 1) := by decide +kernel
theorem dX5_goBy_10 : decode cX5_goBy 10 = .ok (.invokevirtual 92, 3) := by decide +kernel
theorem dX5_goBy_13 : decode cX5_goBy 13 = .ok (.iadd, 1) := by decide +kernel
theorem dX5_goBy_14 : decode cX5_goBy 14 = .ok (.invokestatic 69, 3) := by decide +kernel
theorem dX5_goBy_17 : decode cX5_goBy 17 = .ok (.putfield 52, 3) := by decide +kernel
theorem dX5_goBy_20 : decode cX5_goBy 20 = .ok (.aload_n 0, 1) := by decide +kernel
theorem dX5_goBy_21 : decode cX5_goBy 21 = .ok (.aload_n 0, 1) := by decide +kernel
theorem dX5_goBy_22 : decode cX5_goBy 22 = .ok (.iload_n 1, 1) := by decide +kernel
theorem dX5_goBy_23 : decode cX5_goBy 23 = .ok (.invokevirtual 86, 3) := by decide +kernel
theorem dX5_goBy_26 : decode cX5_goBy 26 = .ok (.putfield 49, 3) := by decide +kernel
theorem dX5_goBy_29 : decode cX5_goBy 29 = .ok (.aload_n 0, 1) := by decide +kernel
theorem dX5_goBy_30 : decode cX5_goBy 30 = .ok (.aload_n 0, 1) := by decide +kernel
theorem dX5_goBy_31 : decode cX5_goBy 31 = .ok (.getfield 24, 3) := by decide +kernel
theorem dX5_goBy_34 : decode cX5_goBy 34 = .ok (.iload_n 1, 1) := by decide +kernel
theorem dX5_goBy_35 : decode cX5_goBy 35 = .ok (.iaload, 1) := by decide +kernel
theorem dX5_goBy_36 : decode cX5_goBy 36 = .ok (.putfield 46, 3) := by decide +kernel
theorem dX5_goBy_39 : decode cX5_goBy 39 = .ok (.aload_n 0, 1) := by decide +kernel
theorem dX5_goBy_40 : decode cX5_goBy 40 = .ok (.dup, 1) := by decide +kernel
theorem dX5_goBy_41 : decode cX5_goBy 41 = .ok (.getfield 55, 3) := by decide +kernel
theorem dX5_goBy_44 : decode cX5_goBy 44 = .ok (.iconst 1, 1) := by decide +kernel
theorem dX5_goBy_45 : decode cX5_goBy 45 = .ok (.iadd, 1) := by decide +kernel
theorem dX5_goBy_46 : decode cX5_goBy 46 = .ok (.putfield 55, 3) := by decide +kernel
theorem dX5_goBy_49 : decode cX5_goBy 49 = .ok (.return_, 1) := by decide +kernel
theorem dX5_goByDraw_0 : decode cX5_goByDraw 0 = .ok (.iconst 0, 1) := by decide +kernel
theorem dX5_goByDraw_1 : decode cX5_goByDraw 1 = .ok (.istore_n 3, 1) := by decide +kernel
theorem dX5_goByDraw_2 : decode cX5_goByDraw 2 = .ok (.iconst 0, 1) := by decide +kernel
theorem dX5_goByDraw_3 : decode cX5_goByDraw 3 = .ok (.istore 4, 2) := by decide +kernel
theorem dX5_goByDraw_5 : decode cX5_goByDraw 5 = .ok (.iload 4, 2) := by decide +kernel
theorem dX5_goByDraw_7 : decode cX5_goByDraw 7 = .ok (.aload_n 0, 1) := by decide +kernel
theorem dX5_goByDraw_8 : decode cX5_goByDraw 8 = .ok (.getfield 37, 3) := by decide +kernel
theorem dX5_goByDraw_11 : decode cX5_goByDraw 11 = .ok (.if_icmp .ge 21, 3) := by decide +kernel
theorem dX5_goByDraw_14 : decode cX5_goByDraw 14 = .ok (.aload_n 0, 1) := by decide +kernel
theorem dX5_goByDraw_15 : decode cX5_goByDraw 15 = .ok (.iload 4, 2) := by decide +kernel
theorem dX5_goByDraw_17 : decode cX5_goByDraw 17 = .ok (.invokevirtual 95, 3) := by decide +kernel
theorem dX5_goByDraw_20 : decode cX5_goByDraw 20 = .ok (.ifCond .eq 6, 3) := by decide +kernel
theorem dX5_goByDraw_23 : decode cX5_goByDraw 23 = .ok (.iinc 3 1, 3) := by decide +kernel
theorem dX5_goByDraw_26 : decode cX5_goByDraw 26 = .ok (.iinc 4 1, 3) := by decide +kernel
theorem dX5_goByDraw_29 : decode cX5_goByDraw 29 = .ok (.goto (-24), 3) := by decide +kernel
theorem dX5_goByDraw_32 : decode cX5_goByDraw 32 = .ok (.iload_n 3, 1) := by decide +kernel
theorem dX5_goByDraw_33 : decode cX5_goByDraw 33 = .ok (.ifCond .ne 14, 3) := by decide +kernel
theorem dX5_goByDraw_36 : decode cX5_goByDraw 36 = .ok (.aload_n 0, 1) := by decide +kernel
theorem dX5_goByDraw_37 : decode cX5_goByDraw 37 = .ok (.dup, 1) := by decide +kernel
theorem dX5_goByDraw_38 : decode cX5_goByDraw 38 = .ok (.getfield 55, 3) := by decide +kernel
theorem dX5_goByDraw_41 : decode cX5_goByDraw 41 = .ok (.iconst 1, 1) := by decide +kernel
theorem dX5_goByDraw_42 : decode cX5_goByDraw 42 = .ok (.iadd, 1) := by decide +kernel
theorem dX5_goByDraw_43 : decode cX5_goByDraw 43 = .ok (.putfield 55, 3) := by decide +kernel
theorem dX5_goByDraw_46 : decode cX5_goByDraw 46 = .ok (.return_, 1) := by decide +kernel
theorem dX5_goByDraw_47 : decode cX5_goByDraw 47 = .ok (.lload_n 1, 1) := by decide +kernel
theorem dX5_goByDraw_48 : decode cX5_goByDraw 48 = .ok (.iload_n 3, 1) := by decide +kernel
theorem dX5_goByDraw_49 : decode cX5_goByDraw 49 = .ok (.i2l, 1) := by decide +kernel
theorem dX5_goByDraw_50 : decode cX5_goByDraw 50 = .ok (.lrem, 1) := by decide +kernel
theorem dX5_goByDraw_51 : decode cX5_goByDraw 51 = .ok (.l2i, 1) := by decide +kernel
theorem dX5_goByDraw_52 : decode cX5_goByDraw 52 = .ok (.istore 4, 2) := by decide +kernel
theorem dX5_goByDraw_54 : decode cX5_goByDraw 54 = .ok (.iconst 0, 1) := by decide +kernel
theorem dX5_goByDraw_55 : decode cX5_goByDraw 55 = .ok (.istore 5, 2) := by decide +kernel
theorem dX5_goByDraw_57 : decode cX5_goByDraw 57 = .ok (.iload 5, 2) := by decide +kernel
theorem dX5_goByDraw_59 : decode cX5_goByDraw 59 = .ok (.aload_n 0, 1) := by decide +kernel
theorem dX5_goByDraw_60 : decode cX5_goByDraw 60 = .ok (.getfield 37, 3) := by decide +kernel
theorem dX5_goByDraw_63 : decode cX5_goByDraw 63 = .ok (.if_icmp .ge 33, 3) := by decide +kernel
theorem dX5_goByDraw_66 : decode cX5_goByDraw 66 = .ok (.aload_n 0, 1) := by decide +kernel
theorem dX5_goByDraw_67 : decode cX5_goByDraw 67 = .ok (.iload 5, 2) := by decide +kernel
theorem dX5_goByDraw_69 : decode cX5_goByDraw 69 = .ok (.invokevirtual 95, 3) := by decide +kernel
theorem dX5_goByDraw_72 : decode cX5_goByDraw 72 = .ok (.ifCond .eq 18, 3) := by decide +kernel
theorem dX5_goByDraw_75 : decode cX5_goByDraw 75 = .ok (.iload 4, 2) := by decide +kernel
theorem dX5_goByDraw_77 : decode cX5_goByDraw 77 = .ok (.ifCond .ne 10, 3) := by decide +kernel
theorem dX5_goByDraw_80 : decode cX5_goByDraw 80 = .ok (.aload_n 0, 1) := by decide +kernel
theorem dX5_goByDraw_81 : decode cX5_goByDraw 81 = .ok (.iload 5, 2) := by decide +kernel
theorem dX5_goByDraw_83 : decode cX5_goByDraw 83 = .ok (.invokevirtual 98, 3) := by decide +kernel
theorem dX5_goByDraw_86 : decode cX5_goByDraw 86 = .ok (.return_, 1) := by decide +kernel
theorem dX5_goByDraw_87 : decode cX5_goByDraw 87 = .ok (.iinc 4 (-1), 3) := by decide +kernel
theorem dX5_goByDraw_90 : decode cX5_goByDraw 90 = .ok (.iinc 5 1, 3) := by decide +kernel
theorem dX5_goByDraw_93 : decode cX5_goByDraw 93 = .ok (.goto (-36), 3) := by decide +kernel
theorem dX5_goByDraw_96 : decode cX5_goByDraw 96 = .ok (.return_, 1) := by decide +kernel
theorem dX5_openWays_0 : decode cX5_openWays 0 = .ok (.iconst 1, 1) := by decide +kernel
theorem dX5_openWays_1 : decode cX5_openWays 1 = .ok (.aload_n 0, 1) := by decide +kernel
theorem dX5_openWays_2 : decode cX5_openWays 2 = .ok (.getfield 46, 3) := by decide +kernel
theorem dX5_openWays_5 : decode cX5_openWays 5 = .ok (.ishl, 1) := by decide +kernel
theorem dX5_openWays_6 : decode cX5_openWays 6 = .ok (.istore_n 1, 1) := by decide +kernel
theorem dX5_openWays_7 : decode cX5_openWays 7 = .ok (.iconst 0, 1) := by decide +kernel
theorem dX5_openWays_8 : decode cX5_openWays 8 = .ok (.istore_n 2, 1) := by decide +kernel
theorem dX5_openWays_9 : decode cX5_openWays 9 = .ok (.iload_n 2, 1) := by decide +kernel
theorem dX5_openWays_10 : decode cX5_openWays 10 = .ok (.aload_n 0, 1) := by decide +kernel
theorem dX5_openWays_11 : decode cX5_openWays 11 = .ok (.getfield 33, 3) := by decide +kernel
theorem dX5_openWays_14 : decode cX5_openWays 14 = .ok (.if_icmp .ge 58, 3) := by decide +kernel
theorem dX5_openWays_17 : decode cX5_openWays 17 = .ok (.iconst 0, 1) := by decide +kernel
theorem dX5_openWays_18 : decode cX5_openWays 18 = .ok (.istore_n 3, 1) := by decide +kernel
theorem dX5_openWays_19 : decode cX5_openWays 19 = .ok (.iload_n 3, 1) := by decide +kernel
theorem dX5_openWays_20 : decode cX5_openWays 20 = .ok (.aload_n 0, 1) := by decide +kernel
theorem dX5_openWays_21 : decode cX5_openWays 21 = .ok (.getfield 37, 3) := by decide +kernel
theorem dX5_openWays_24 : decode cX5_openWays 24 = .ok (.if_icmp .ge 42, 3) := by decide +kernel
theorem dX5_openWays_27 : decode cX5_openWays 27 = .ok (.aload_n 0, 1) := by decide +kernel
theorem dX5_openWays_28 : decode cX5_openWays 28 = .ok (.iload_n 3, 1) := by decide +kernel
theorem dX5_openWays_29 : decode cX5_openWays 29 = .ok (.invokevirtual 66, 3) := by decide +kernel
theorem dX5_openWays_32 : decode cX5_openWays 32 = .ok (.ifCond .eq 28, 3) := by decide +kernel
theorem dX5_openWays_35 : decode cX5_openWays 35 = .ok (.iload_n 1, 1) := by decide +kernel
theorem dX5_openWays_36 : decode cX5_openWays 36 = .ok (.aload_n 0, 1) := by decide +kernel
theorem dX5_openWays_37 : decode cX5_openWays 37 = .ok (.getfield 21, 3) := by decide +kernel
theorem dX5_openWays_40 : decode cX5_openWays 40 = .ok (.iload_n 3, 1) := by decide +kernel
theorem dX5_openWays_41 : decode cX5_openWays 41 = .ok (.iaload, 1) := by decide +kernel
theorem dX5_openWays_42 : decode cX5_openWays 42 = .ok (.ishr, 1) := by decide +kernel
theorem dX5_openWays_43 : decode cX5_openWays 43 = .ok (.iconst 1, 1) := by decide +kernel
theorem dX5_openWays_44 : decode cX5_openWays 44 = .ok (.iand, 1) := by decide +kernel
theorem dX5_openWays_45 : decode cX5_openWays 45 = .ok (.iconst 1, 1) := by decide +kernel
theorem dX5_openWays_46 : decode cX5_openWays 46 = .ok (.if_icmp .ne 14, 3) := by decide +kernel
theorem dX5_openWays_49 : decode cX5_openWays 49 = .ok (.iload_n 1, 1) := by decide +kernel
theorem dX5_openWays_50 : decode cX5_openWays 50 = .ok (.iconst 1, 1) := by decide +kernel
theorem dX5_openWays_51 : decode cX5_openWays 51 = .ok (.aload_n 0, 1) := by decide +kernel
theorem dX5_openWays_52 : decode cX5_openWays 52 = .ok (.getfield 24, 3) := by decide +kernel
theorem dX5_openWays_55 : decode cX5_openWays 55 = .ok (.iload_n 3, 1) := by decide +kernel
theorem dX5_openWays_56 : decode cX5_openWays 56 = .ok (.iaload, 1) := by decide +kernel
theorem dX5_openWays_57 : decode cX5_openWays 57 = .ok (.ishl, 1) := by decide +kernel
theorem dX5_openWays_58 : decode cX5_openWays 58 = .ok (.ior, 1) := by decide +kernel
theorem dX5_openWays_59 : decode cX5_openWays 59 = .ok (.istore_n 1, 1) := by decide +kernel
theorem dX5_openWays_60 : decode cX5_openWays 60 = .ok (.iinc 3 1, 3) := by decide +kernel
theorem dX5_openWays_63 : decode cX5_openWays 63 = .ok (.goto (-44), 3) := by decide +kernel
theorem dX5_openWays_66 : decode cX5_openWays 66 = .ok (.iinc 2 1, 3) := by decide +kernel
theorem dX5_openWays_69 : decode cX5_openWays 69 = .ok (.goto (-60), 3) := by decide +kernel
theorem dX5_openWays_72 : decode cX5_openWays 72 = .ok (.iload_n 1, 1) := by decide +kernel
theorem dX5_openWays_73 : decode cX5_openWays 73 = .ok (.ireturn, 1) := by decide +kernel
theorem dJ6_bitCount_0f7a4_0 : decode cJ6_bitCount_0f7a4 0 = .ok (.iload_n 0, 1) := by decide +kernel
theorem dJ6_bitCount_0f7a4_1 : decode cJ6_bitCount_0f7a4 1 = .ok (.iload_n 0, 1) := by decide +kernel
theorem dJ6_bitCount_0f7a4_2 : decode cJ6_bitCount_0f7a4 2 = .ok (.iconst 1, 1) := by decide +kernel
theorem dJ6_bitCount_0f7a4_3 : decode cJ6_bitCount_0f7a4 3 = .ok (.iushr, 1) := by decide +kernel
theorem dJ6_bitCount_0f7a4_4 : decode cJ6_bitCount_0f7a4 4 = .ok (.ldc_w 265, 3) := by decide +kernel
theorem dJ6_bitCount_0f7a4_7 : decode cJ6_bitCount_0f7a4 7 = .ok (.iand, 1) := by decide +kernel
theorem dJ6_bitCount_0f7a4_8 : decode cJ6_bitCount_0f7a4 8 = .ok (.isub, 1) := by decide +kernel
theorem dJ6_bitCount_0f7a4_9 : decode cJ6_bitCount_0f7a4 9 = .ok (.istore_n 0, 1) := by decide +kernel
theorem dJ6_bitCount_0f7a4_10 : decode cJ6_bitCount_0f7a4 10 = .ok (.iload_n 0, 1) := by decide +kernel
theorem dJ6_bitCount_0f7a4_11 : decode cJ6_bitCount_0f7a4 11 = .ok (.ldc_w 266, 3) := by decide +kernel
theorem dJ6_bitCount_0f7a4_14 : decode cJ6_bitCount_0f7a4 14 = .ok (.iand, 1) := by decide +kernel
theorem dJ6_bitCount_0f7a4_15 : decode cJ6_bitCount_0f7a4 15 = .ok (.iload_n 0, 1) := by decide +kernel
theorem dJ6_bitCount_0f7a4_16 : decode cJ6_bitCount_0f7a4 16 = .ok (.iconst 2, 1) := by decide +kernel
theorem dJ6_bitCount_0f7a4_17 : decode cJ6_bitCount_0f7a4 17 = .ok (.iushr, 1) := by decide +kernel
theorem dJ6_bitCount_0f7a4_18 : decode cJ6_bitCount_0f7a4 18 = .ok (.ldc_w 266, 3) := by decide +kernel
theorem dJ6_bitCount_0f7a4_21 : decode cJ6_bitCount_0f7a4 21 = .ok (.iand, 1) := by decide +kernel
theorem dJ6_bitCount_0f7a4_22 : decode cJ6_bitCount_0f7a4 22 = .ok (.iadd, 1) := by decide +kernel
theorem dJ6_bitCount_0f7a4_23 : decode cJ6_bitCount_0f7a4 23 = .ok (.istore_n 0, 1) := by decide +kernel
theorem dJ6_bitCount_0f7a4_24 : decode cJ6_bitCount_0f7a4 24 = .ok (.iload_n 0, 1) := by decide +kernel
theorem dJ6_bitCount_0f7a4_25 : decode cJ6_bitCount_0f7a4 25 = .ok (.iload_n 0, 1) := by decide +kernel
theorem dJ6_bitCount_0f7a4_26 : decode cJ6_bitCount_0f7a4 26 = .ok (.iconst 4, 1) := by decide +kernel
theorem dJ6_bitCount_0f7a4_27 : decode cJ6_bitCount_0f7a4 27 = .ok (.iushr, 1) := by decide +kernel
theorem dJ6_bitCount_0f7a4_28 : decode cJ6_bitCount_0f7a4 28 = .ok (.iadd, 1) := by decide +kernel
theorem dJ6_bitCount_0f7a4_29 : decode cJ6_bitCount_0f7a4 29 = .ok (.ldc_w 267, 3) := by decide +kernel
theorem dJ6_bitCount_0f7a4_32 : decode cJ6_bitCount_0f7a4 32 = .ok (.iand, 1) := by decide +kernel
theorem dJ6_bitCount_0f7a4_33 : decode cJ6_bitCount_0f7a4 33 = .ok (.istore_n 0, 1) := by decide +kernel
theorem dJ6_bitCount_0f7a4_34 : decode cJ6_bitCount_0f7a4 34 = .ok (.iload_n 0, 1) := by decide +kernel
theorem dJ6_bitCount_0f7a4_35 : decode cJ6_bitCount_0f7a4 35 = .ok (.iload_n 0, 1) := by decide +kernel
theorem dJ6_bitCount_0f7a4_36 : decode cJ6_bitCount_0f7a4 36 = .ok (.bipush 8, 2) := by decide +kernel
theorem dJ6_bitCount_0f7a4_38 : decode cJ6_bitCount_0f7a4 38 = .ok (.iushr, 1) := by decide +kernel
theorem dJ6_bitCount_0f7a4_39 : decode cJ6_bitCount_0f7a4 39 = .ok (.iadd, 1) := by decide +kernel
theorem dJ6_bitCount_0f7a4_40 : decode cJ6_bitCount_0f7a4 40 = .ok (.istore_n 0, 1) := by decide +kernel
theorem dJ6_bitCount_0f7a4_41 : decode cJ6_bitCount_0f7a4 41 = .ok (.iload_n 0, 1) := by decide +kernel
theorem dJ6_bitCount_0f7a4_42 : decode cJ6_bitCount_0f7a4 42 = .ok (.iload_n 0, 1) := by decide +kernel
theorem dJ6_bitCount_0f7a4_43 : decode cJ6_bitCount_0f7a4 43 = .ok (.bipush 16, 2) := by decide +kernel
theorem dJ6_bitCount_0f7a4_45 : decode cJ6_bitCount_0f7a4 45 = .ok (.iushr, 1) := by decide +kernel
theorem dJ6_bitCount_0f7a4_46 : decode cJ6_bitCount_0f7a4 46 = .ok (.iadd, 1) := by decide +kernel
theorem dJ6_bitCount_0f7a4_47 : decode cJ6_bitCount_0f7a4 47 = .ok (.istore_n 0, 1) := by decide +kernel
theorem dJ6_bitCount_0f7a4_48 : decode cJ6_bitCount_0f7a4 48 = .ok (.iload_n 0, 1) := by decide +kernel
theorem dJ6_bitCount_0f7a4_49 : decode cJ6_bitCount_0f7a4 49 = .ok (.bipush 63, 2) := by decide +kernel
theorem dJ6_bitCount_0f7a4_51 : decode cJ6_bitCount_0f7a4 51 = .ok (.iand, 1) := by decide +kernel
theorem dJ6_bitCount_0f7a4_52 : decode cJ6_bitCount_0f7a4 52 = .ok (.ireturn, 1) := by decide +kernel
theorem dJ9_abs_0f7a4_0 : decode cJ9_abs_0f7a4 0 = .ok (.iload_n 0, 1) := by decide +kernel
theorem dJ9_abs_0f7a4_1 : decode cJ9_abs_0f7a4 1 = .ok (.ifCond .ge 8, 3) := by decide +kernel
theorem dJ9_abs_0f7a4_4 : decode cJ9_abs_0f7a4 4 = .ok (.iload_n 0, 1) := by decide +kernel
theorem dJ9_abs_0f7a4_5 : decode cJ9_abs_0f7a4 5 = .ok (.ineg, 1) := by decide +kernel
theorem dJ9_abs_0f7a4_6 : decode cJ9_abs_0f7a4 6 = .ok (.goto 4, 3) := by decide +kernel
theorem dJ9_abs_0f7a4_9 : decode cJ9_abs_0f7a4 9 = .ok (.iload_n 0, 1) := by decide +kernel
theorem dJ9_abs_0f7a4_10 : decode cJ9_abs_0f7a4 10 = .ok (.ireturn, 1) := by decide +kernel
theorem dJ9_max_7cf53_0 : decode cJ9_max_7cf53 0 = .ok (.iload_n 0, 1) := by decide +kernel
theorem dJ9_max_7cf53_1 : decode cJ9_max_7cf53 1 = .ok (.iload_n 1, 1) := by decide +kernel
theorem dJ9_max_7cf53_2 : decode cJ9_max_7cf53 2 = .ok (.if_icmp .lt 7, 3) := by decide +kernel
theorem dJ9_max_7cf53_5 : decode cJ9_max_7cf53 5 = .ok (.iload_n 0, 1) := by decide +kernel
theorem dJ9_max_7cf53_6 : decode cJ9_max_7cf53 6 = .ok (.goto 4, 3) := by decide +kernel
theorem dJ9_max_7cf53_9 : decode cJ9_max_7cf53 9 = .ok (.iload_n 1, 1) := by decide +kernel
theorem dJ9_max_7cf53_10 : decode cJ9_max_7cf53 10 = .ok (.ireturn, 1) := by decide +kernel
theorem dJ9_min_7cf53_0 : decode cJ9_min_7cf53 0 = .ok (.iload_n 0, 1) := by decide +kernel
theorem dJ9_min_7cf53_1 : decode cJ9_min_7cf53 1 = .ok (.iload_n 1, 1) := by decide +kernel
theorem dJ9_min_7cf53_2 : decode cJ9_min_7cf53 2 = .ok (.if_icmp .gt 7, 3) := by decide +kernel
theorem dJ9_min_7cf53_5 : decode cJ9_min_7cf53 5 = .ok (.iload_n 0, 1) := by decide +kernel
theorem dJ9_min_7cf53_6 : decode cJ9_min_7cf53 6 = .ok (.goto 4, 3) := by decide +kernel
theorem dJ9_min_7cf53_9 : decode cJ9_min_7cf53 9 = .ok (.iload_n 1, 1) := by decide +kernel
theorem dJ9_min_7cf53_10 : decode cJ9_min_7cf53 10 = .ok (.ireturn, 1) := by decide +kernel
end
section
theorem dX6_init_0 : decode cX6_init 0 = .ok (.aload_n 0, 1) := by decide +kernel
theorem dX6_init_1 : decode cX6_init 1 = .ok (.invokespecial 1, 3) := by decide +kernel
theorem dX6_init_4 : decode cX6_init 4 = .ok (.aload_n 0, 1) := by decide +kernel
theorem dX6_init_5 : decode cX6_init 5 = .ok (.new 7, 3) := by decide +kernel
theorem dX6_init_8 : decode cX6_init 8 = .ok (.dup, 1) := by decide +kernel
theorem dX6_init_9 : decode cX6_init 9 = .ok (.invokespecial 9, 3) := by decide +kernel
theorem dX6_init_12 : decode cX6_init 12 = .ok (.putfield 10, 3) := by decide +kernel
theorem dX6_init_15 : decode cX6_init 15 = .ok (.aload_n 0, 1) := by decide +kernel
theorem dX6_init_16 : decode cX6_init 16 = .ok (.new 16, 3) := by decide +kernel
theorem dX6_init_19 : decode cX6_init 19 = .ok (.dup, 1) := by decide +kernel
theorem dX6_init_20 : decode cX6_init 20 = .ok (.invokespecial 18, 3) := by decide +kernel
theorem dX6_init_23 : decode cX6_init 23 = .ok (.putfield 19, 3) := by decide +kernel
theorem dX6_init_26 : decode cX6_init 26 = .ok (.aload_n 0, 1) := by decide +kernel
theorem dX6_init_27 : decode cX6_init 27 = .ok (.new 23, 3) := by decide +kernel
theorem dX6_init_30 : decode cX6_init 30 = .ok (.dup, 1) := by decide +kernel
theorem dX6_init_31 : decode cX6_init 31 = .ok (.invokespecial 25, 3) := by decide +kernel
theorem dX6_init_34 : decode cX6_init 34 = .ok (.putfield 26, 3) := by decide +kernel
theorem dX6_init_37 : decode cX6_init 37 = .ok (.aload_n 0, 1) := by decide +kernel
theorem dX6_init_38 : decode cX6_init 38 = .ok (.new 23, 3) := by decide +kernel
theorem dX6_init_41 : decode cX6_init 41 = .ok (.dup, 1) := by decide +kernel
theorem dX6_init_42 : decode cX6_init 42 = .ok (.invokespecial 25, 3) := by decide +kernel
theorem dX6_init_45 : decode cX6_init 45 = .ok (.putfield 30, 3) := by decide +kernel
theorem dX6_init_48 : decode cX6_init 48 = .ok (.aload_n 0, 1) := by decide +kernel
theorem dX6_init_49 : decode cX6_init 49 = .ok (.iconst 2, 1) := by decide +kernel
theorem dX6_init_50 : decode cX6_init 50 = .ok (.anewarray 23, 3) := by decide +kernel
theorem dX6_init_53 : decode cX6_init 53 = .ok (.putfield 33, 3) := by decide +kernel
theorem dX6_init_56 : decode cX6_init 56 = .ok (.iconst 0, 1) := by decide +kernel
theorem dX6_init_57 : decode cX6_init 57 = .ok (.istore_n 1, 1) := by decide +kernel
theorem dX6_init_58 : decode cX6_init 58 = .ok (.iload_n 1, 1) := by decide +kernel
theorem dX6_init_59 : decode cX6_init 59 = .ok (.iconst 2, 1) := by decide +kernel
theorem dX6_init_60 : decode cX6_init 60 = .ok (.if_icmp .ge 22, 3) := by decide +kernel
theorem dX6_init_63 : decode cX6_init 63 = .ok (.aload_n 0, 1) := by decide +kernel
theorem dX6_init_64 : decode cX6_init 64 = .ok (.getfield 33, 3) := by decide +kernel
theorem dX6_init_67 : decode cX6_init 67 = .ok (.iload_n 1, 1) := by decide +kernel
theorem dX6_init_68 : decode cX6_init 68 = .ok (.new 23, 3) := by decide +kernel
theorem dX6_init_71 : decode cX6_init 71 = .ok (.dup, 1) := by decide +kernel
theorem dX6_init_72 : decode cX6_init 72 = .ok (.invokespecial 25, 3) := by decide +kernel
theorem dX6_init_75 : decode cX6_init 75 = .ok (.aastore, 1) := by decide +kernel
theorem dX6_init_76 : decode cX6_init 76 = .ok (.iinc 1 1, 3) := by decide +kernel
theorem dX6_init_79 : decode cX6_init 79 = .ok (.goto (-21), 3) := by decide +kernel
theorem dX6_init_82 : decode cX6_init 82 = .ok (.aload_n 0, 1) := by decide +kernel
theorem dX6_init_83 : decode cX6_init 83 = .ok (.new 37, 3) := by decide +kernel
theorem dX6_init_86 : decode cX6_init 86 = .ok (.dup, 1) := by decide +kernel
theorem dX6_init_87 : decode cX6_init 87 = .ok (.invokespecial 39, 3) := by decide +kernel
theorem dX6_init_90 : decode cX6_init 90 = .ok (.putfield 40, 3) := by decide +kernel
theorem dX6_init_93 : decode cX6_init 93 = .ok (.aload_n 0, 1) := by decide +kernel
theorem dX6_init_94 : decode cX6_init 94 = .ok (.new 44, 3) := by decide +kernel
theorem dX6_init_97 : decode cX6_init 97 = .ok (.dup, 1) := by decide +kernel
theorem dX6_init_98 : decode cX6_init 98 = .ok (.invokespecial 46, 3) := by decide +kernel
theorem dX6_init_101 : decode cX6_init 101 = .ok (.putfield 47, 3) := by decide +kernel
theorem dX6_init_104 : decode cX6_init 104 = .ok (.aload_n 0, 1) := by decide +kernel
theorem dX6_init_105 : decode cX6_init 105 = .ok (.new 51, 3) := by decide +kernel
theorem dX6_init_108 : decode cX6_init 108 = .ok (.dup, 1) := by decide +kernel
theorem dX6_init_109 : decode cX6_init 109 = .ok (.invokespecial 53, 3) := by decide +kernel
theorem dX6_init_112 : decode cX6_init 112 = .ok (.putfield 54, 3) := by decide +kernel
theorem dX6_init_115 : decode cX6_init 115 = .ok (.aload_n 0, 1) := by decide +kernel
theorem dX6_init_116 : decode cX6_init 116 = .ok (.iconst 0, 1) := by decide +kernel
theorem dX6_init_117 : decode cX6_init 117 = .ok (.putfield 58, 3) := by decide +kernel
theorem dX6_init_120 : decode cX6_init 120 = .ok (.aload_n 0, 1) := by decide +kernel
theorem dX6_init_121 : decode cX6_init 121 = .ok (.iconst 0, 1) := by decide +kernel
theorem dX6_init_122 : decode cX6_init 122 = .ok (.putfield 62, 3) := by decide +kernel
theorem dX6_init_125 : decode cX6_init 125 = .ok (.return_, 1) := by decide +kernel
theorem dX6_row_0 : decode cX6_row 0 = .ok (.iload_n 1, 1) := by decide +kernel
theorem dX6_row_1 : decode cX6_row 1 = .ok (.invokestatic 65, 3) := by decide +kernel
theorem dX6_row_4 : decode cX6_row 4 = .ok (.ifCond .eq 18, 3) := by decide +kernel
theorem dX6_row_7 : decode cX6_row 7 = .ok (.iload_n 2, 1) := by decide +kernel
theorem dX6_row_8 : decode cX6_row 8 = .ok (.ifCond .lt 14, 3) := by decide +kernel
theorem dX6_row_11 : decode cX6_row 11 = .ok (.iload_n 2, 1) := by decide +kernel
theorem dX6_row_12 : decode cX6_row 12 = .ok (.iconst 2, 1) := by decide +kernel
theorem dX6_row_13 : decode cX6_row 13 = .ok (.if_icmp .gt 9, 3) := by decide +kernel
theorem dX6_row_16 : decode cX6_row 16 = .ok (.iload_n 3, 1) := by decide +kernel
theorem dX6_row_17 : decode cX6_row 17 = .ok (.bipush 40, 2) := by decide +kernel
theorem dX6_row_19 : decode cX6_row 19 = .ok (.if_icmp .le 6, 3) := by decide +kernel
theorem dX6_row_22 : decode cX6_row 22 = .ok (.ldc 69, 2) := by decide +kernel
theorem dX6_row_24 : decode cX6_row 24 = .ok (.ireturn, 1) := by decide +kernel
theorem dX6_row_25 : decode cX6_row 25 = .ok (.iload_n 3, 1) := by decide +kernel
theorem dX6_row_26 : decode cX6_row 26 = .ok (.ifCond .ge 9, 3) := by decide +kernel
theorem dX6_row_29 : decode cX6_row 29 = .ok (.aload_n 0, 1) := by decide +kernel
theorem dX6_row_30 : decode cX6_row 30 = .ok (.iconst 4, 1) := by decide +kernel
theorem dX6_row_31 : decode cX6_row 31 = .ok (.invokevirtual 70, 3) := by decide +kernel
theorem dX6_row_34 : decode cX6_row 34 = .ok (.ireturn, 1) := by decide +kernel
theorem dX6_row_35 : decode cX6_row 35 = .ok (.aload_n 0, 1) := by decide +kernel
theorem dX6_row_36 : decode cX6_row 36 = .ok (.getfield 10, 3) := by decide +kernel
theorem dX6_row_39 : decode cX6_row 39 = .ok (.iload_n 1, 1) := by decide +kernel
theorem dX6_row_40 : decode cX6_row 40 = .ok (.iload_n 2, 1) := by decide +kernel
theorem dX6_row_41 : decode cX6_row 41 = .ok (.iload_n 3, 1) := by decide +kernel
theorem dX6_row_42 : decode cX6_row 42 = .ok (.invokevirtual 74, 3) := by decide +kernel
theorem dX6_row_45 : decode cX6_row 45 = .ok (.aload_n 0, 1) := by decide +kernel
theorem dX6_row_46 : decode cX6_row 46 = .ok (.iload_n 3, 1) := by decide +kernel
theorem dX6_row_47 : decode cX6_row 47 = .ok (.invokevirtual 78, 3) := by decide +kernel
theorem dX6_row_50 : decode cX6_row 50 = .ok (.ireturn, 1) := by decide +kernel
theorem dX6_set_0 : decode cX6_set 0 = .ok (.iload_n 1, 1) := by decide +kernel
theorem dX6_set_1 : decode cX6_set 1 = .ok (.invokestatic 65, 3) := by decide +kernel
theorem dX6_set_4 : decode cX6_set 4 = .ok (.ifCond .ne 6, 3) := by decide +kernel
theorem dX6_set_7 : decode cX6_set 7 = .ok (.ldc 69, 2) := by decide +kernel
theorem dX6_set_9 : decode cX6_set 9 = .ok (.ireturn, 1) := by decide +kernel
theorem dX6_set_10 : decode cX6_set 10 = .ok (.aload_n 0, 1) := by decide +kernel
theorem dX6_set_11 : decode cX6_set 11 = .ok (.getfield 10, 3) := by decide +kernel
theorem dX6_set_14 : decode cX6_set 14 = .ok (.iload_n 1, 1) := by decide +kernel
theorem dX6_set_15 : decode cX6_set 15 = .ok (.iload_n 2, 1) := by decide +kernel
theorem dX6_set_16 : decode cX6_set 16 = .ok (.iconst 1, 1) := by decide +kernel
theorem dX6_set_17 : decode cX6_set 17 = .ok (.invokevirtual 81, 3) := by decide +kernel
theorem dX6_set_20 : decode cX6_set 20 = .ok (.istore 4, 2) := by decide +kernel
theorem dX6_set_22 : decode cX6_set 22 = .ok (.iload 4, 2) := by decide +kernel
theorem dX6_set_24 : decode cX6_set 24 = .ok (.ifCond .eq 10, 3) := by decide +kernel
theorem dX6_set_27 : decode cX6_set 27 = .ok (.aload_n 0, 1) := by decide +kernel
theorem dX6_set_28 : decode cX6_set 28 = .ok (.iload 4, 2) := by decide +kernel
theorem dX6_set_30 : decode cX6_set 30 = .ok (.invokevirtual 70, 3) := by decide +kernel
theorem dX6_set_33 : decode cX6_set 33 = .ok (.ireturn, 1) := by decide +kernel
theorem dX6_set_34 : decode cX6_set 34 = .ok (.aload_n 0, 1) := by decide +kernel
theorem dX6_set_35 : decode cX6_set 35 = .ok (.aload_n 0, 1) := by decide +kernel
theorem dX6_set_36 : decode cX6_set 36 = .ok (.getfield 10, 3) := by decide +kernel
theorem dX6_set_39 : decode cX6_set 39 = .ok (.iload_n 1, 1) := by decide +kernel
theorem dX6_set_40 : decode cX6_set 40 = .ok (.iload_n 2, 1) := by decide +kernel
theorem dX6_set_41 : decode cX6_set 41 = .ok (.iload_n 3, 1) := by decide +kernel
theorem dX6_set_42 : decode cX6_set 42 = .ok (.invokevirtual 85, 3) := by decide +kernel
theorem dX6_set_45 : decode cX6_set 45 = .ok (.invokevirtual 78, 3) := by decide +kernel
theorem dX6_set_48 : decode cX6_set 48 = .ok (.ireturn, 1) := by decide +kernel
theorem dX6_copy_0 : decode cX6_copy 0 = .ok (.iload_n 1, 1) := by decide +kernel
theorem dX6_copy_1 : decode cX6_copy 1 = .ok (.invokestatic 65, 3) := by decide +kernel
theorem dX6_copy_4 : decode cX6_copy 4 = .ok (.ifCond .eq 10, 3) := by decide +kernel
theorem dX6_copy_7 : decode cX6_copy 7 = .ok (.iload_n 3, 1) := by decide +kernel
theorem dX6_copy_8 : decode cX6_copy 8 = .ok (.invokestatic 65, 3) := by decide +kernel
theorem dX6_copy_11 : decode cX6_copy 11 = .ok (.ifCond .ne 6, 3) := by decide +kernel
theorem dX6_copy_14 : decode cX6_copy 14 = .ok (.ldc 69, 2) := by decide +kernel
theorem dX6_copy_16 : decode cX6_copy 16 = .ok (.ireturn, 1) := by decide +kernel
theorem dX6_copy_17 : decode cX6_copy 17 = .ok (.aload_n 0, 1) := by decide +kernel
theorem dX6_copy_18 : decode cX6_copy 18 = .ok (.getfield 10, 3) := by decide +kernel
theorem dX6_copy_21 : decode cX6_copy 21 = .ok (.iload_n 1, 1) := by decide +kernel
theorem dX6_copy_22 : decode cX6_copy 22 = .ok (.iload_n 2, 1) := by decide +kernel
theorem dX6_copy_23 : decode cX6_copy 23 = .ok (.iload_n 3, 1) := by decide +kernel
theorem dX6_copy_24 : decode cX6_copy 24 = .ok (.iload 4, 2) := by decide +kernel
theorem dX6_copy_26 : decode cX6_copy 26 = .ok (.iload 5, 2) := by decide +kernel
theorem dX6_copy_28 : decode cX6_copy 28 = .ok (.invokevirtual 88, 3) := by decide +kernel
theorem dX6_copy_31 : decode cX6_copy 31 = .ok (.istore 6, 2) := by decide +kernel
theorem dX6_copy_33 : decode cX6_copy 33 = .ok (.iload 6, 2) := by decide +kernel
theorem dX6_copy_35 : decode cX6_copy 35 = .ok (.ifCond .eq 10, 3) := by decide +kernel
theorem dX6_copy_38 : decode cX6_copy 38 = .ok (.aload_n 0, 1) := by decide +kernel
theorem dX6_copy_39 : decode cX6_copy 39 = .ok (.iload 6, 2) := by decide +kernel
theorem dX6_copy_41 : decode cX6_copy 41 = .ok (.invokevirtual 70, 3) := by decide +kernel
theorem dX6_copy_44 : decode cX6_copy 44 = .ok (.ireturn, 1) := by decide +kernel
theorem dX6_copy_45 : decode cX6_copy 45 = .ok (.aload_n 0, 1) := by decide +kernel
theorem dX6_copy_46 : decode cX6_copy 46 = .ok (.getfield 10, 3) := by decide +kernel
theorem dX6_copy_49 : decode cX6_copy 49 = .ok (.iload_n 1, 1) := by decide +kernel
theorem dX6_copy_50 : decode cX6_copy 50 = .ok (.iload_n 2, 1) := by decide +kernel
theorem dX6_copy_51 : decode cX6_copy 51 = .ok (.iload_n 3, 1) := by decide +kernel
theorem dX6_copy_52 : decode cX6_copy 52 = .ok (.iload 4, 2) := by decide +kernel
theorem dX6_copy_54 : decode cX6_copy 54 = .ok (.iload 5, 2) := by decide +kernel
theorem dX6_copy_56 : decode cX6_copy 56 = .ok (.invokevirtual 92, 3) := by decide +kernel
theorem dX6_copy_59 : decode cX6_copy 59 = .ok (.aload_n 0, 1) := by decide +kernel
theorem dX6_copy_60 : decode cX6_copy 60 = .ok (.iload 5, 2) := by decide +kernel
theorem dX6_copy_62 : decode cX6_copy 62 = .ok (.invokevirtual 78, 3) := by decide +kernel
theorem dX6_copy_65 : decode cX6_copy 65 = .ok (.ireturn, 1) := by decide +kernel
theorem dX6_drop_0 : decode cX6_drop 0 = .ok (.iload_n 1, 1) := by decide +kernel
theorem dX6_drop_1 : decode cX6_drop 1 = .ok (.invokestatic 65, 3) := by decide +kernel
theorem dX6_drop_4 : decode cX6_drop 4 = .ok (.ifCond .ne 6, 3) := by decide +kernel
theorem dX6_drop_7 : decode cX6_drop 7 = .ok (.ldc 69, 2) := by decide +kernel
theorem dX6_drop_9 : decode cX6_drop 9 = .ok (.ireturn, 1) := by decide +kernel
theorem dX6_drop_10 : decode cX6_drop 10 = .ok (.aload_n 0, 1) := by decide +kernel
theorem dX6_drop_11 : decode cX6_drop 11 = .ok (.getfield 10, 3) := by decide +kernel
theorem dX6_drop_14 : decode cX6_drop 14 = .ok (.iload_n 1, 1) := by decide +kernel
theorem dX6_drop_15 : decode cX6_drop 15 = .ok (.invokevirtual 96, 3) := by decide +kernel
theorem dX6_drop_18 : decode cX6_drop 18 = .ok (.ifCond .eq 9, 3) := by decide +kernel
theorem dX6_drop_21 : decode cX6_drop 21 = .ok (.aload_n 0, 1) := by decide +kernel
theorem dX6_drop_22 : decode cX6_drop 22 = .ok (.iconst 1, 1) := by decide +kernel
theorem dX6_drop_23 : decode cX6_drop 23 = .ok (.invokevirtual 70, 3) := by decide +kernel
theorem dX6_drop_26 : decode cX6_drop 26 = .ok (.ireturn, 1) := by decide +kernel
theorem dX6_drop_27 : decode cX6_drop 27 = .ok (.aload_n 0, 1) := by decide +kernel
theorem dX6_drop_28 : decode cX6_drop 28 = .ok (.aload_n 0, 1) := by decide +kernel
theorem dX6_drop_29 : decode cX6_drop 29 = .ok (.getfield 10, 3) := by decide +kernel
theorem dX6_drop_32 : decode cX6_drop 32 = .ok (.iload_n 1, 1) := by decide +kernel
theorem dX6_drop_33 : decode cX6_drop 33 = .ok (.invokevirtual 99, 3) := by decide +kernel
theorem dX6_drop_36 : decode cX6_drop 36 = .ok (.invokevirtual 78, 3) := by decide +kernel
theorem dX6_drop_39 : decode cX6_drop 39 = .ok (.ireturn, 1) := by decide +kernel
theorem dX6_feed_0 : decode cX6_feed 0 = .ok (.iload_n 1, 1) := by decide +kernel
theorem dX6_feed_1 : decode cX6_feed 1 = .ok (.ifCond .lt 10, 3) := by decide +kernel
theorem dX6_feed_4 : decode cX6_feed 4 = .ok (.iload_n 1, 1) := by decide +kernel
theorem dX6_feed_5 : decode cX6_feed 5 = .ok (.sipush 255, 3) := by decide +kernel
theorem dX6_feed_8 : decode cX6_feed 8 = .ok (.if_icmp .le 6, 3) := by decide +kernel
theorem dX6_feed_11 : decode cX6_feed 11 = .ok (.ldc 69, 2) := by decide +kernel
theorem dX6_feed_13 : decode cX6_feed 13 = .ok (.ireturn, 1) := by decide +kernel
theorem dX6_feed_14 : decode cX6_feed 14 = .ok (.aload_n 0, 1) := by decide +kernel
theorem dX6_feed_15 : decode cX6_feed 15 = .ok (.getfield 19, 3) := by decide +kernel
theorem dX6_feed_18 : decode cX6_feed 18 = .ok (.getfield 102, 3) := by decide +kernel
theorem dX6_feed_21 : decode cX6_feed 21 = .ok (.bipush 120, 2) := by decide +kernel
theorem dX6_feed_23 : decode cX6_feed 23 = .ok (.if_icmp .lt 6, 3) := by decide +kernel
theorem dX6_feed_26 : decode cX6_feed 26 = .ok (.ldc 105, 2) := by decide +kernel
theorem dX6_feed_28 : decode cX6_feed 28 = .ok (.ireturn, 1) := by decide +kernel
theorem dX6_feed_29 : decode cX6_feed 29 = .ok (.aload_n 0, 1) := by decide +kernel
theorem dX6_feed_30 : decode cX6_feed 30 = .ok (.getfield 19, 3) := by decide +kernel
theorem dX6_feed_33 : decode cX6_feed 33 = .ok (.iload_n 1, 1) := by decide +kernel
theorem dX6_feed_34 : decode cX6_feed 34 = .ok (.invokevirtual 106, 3) := by decide +kernel
theorem dX6_feed_37 : decode cX6_feed 37 = .ok (.ireturn, 1) := by decide +kernel
theorem dX6_town_0 : decode cX6_town 0 = .ok (.aload_n 0, 1) := by decide +kernel
theorem dX6_town_1 : decode cX6_town 1 = .ok (.getfield 19, 3) := by decide +kernel
theorem dX6_town_4 : decode cX6_town 4 = .ok (.aload_n 0, 1) := by decide +kernel
theorem dX6_town_5 : decode cX6_town 5 = .ok (.getfield 30, 3) := by decide +kernel
theorem dX6_town_8 : decode cX6_town 8 = .ok (.invokevirtual 108, 3) := by decide +kernel
theorem dX6_town_11 : decode cX6_town 11 = .ok (.istore_n 1, 1) := by decide +kernel
theorem dX6_town_12 : decode cX6_town 12 = .ok (.aload_n 0, 1) := by decide +kernel
theorem dX6_town_13 : decode cX6_town 13 = .ok (.getfield 19, 3) := by decide +kernel
theorem dX6_town_16 : decode cX6_town 16 = .ok (.iconst 0, 1) := by decide +kernel
theorem dX6_town_17 : decode cX6_town 17 = .ok (.putfield 102, 3) := by decide +kernel
theorem dX6_town_20 : decode cX6_town 20 = .ok (.iload_n 1, 1) := by decide +kernel
theorem dX6_town_21 : decode cX6_town 21 = .ok (.ifCond .ne 25, 3) := by decide +kernel
theorem dX6_town_24 : decode cX6_town 24 = .ok (.aload_n 0, 1) := by decide +kernel
theorem dX6_town_25 : decode cX6_town 25 = .ok (.aload_n 0, 1) := by decide +kernel
theorem dX6_town_26 : decode cX6_town 26 = .ok (.getfield 19, 3) := by decide +kernel
theorem dX6_town_29 : decode cX6_town 29 = .ok (.getfield 112, 3) := by decide +kernel
theorem dX6_town_32 : decode cX6_town 32 = .ok (.putfield 62, 3) := by decide +kernel
theorem dX6_town_35 : decode cX6_town 35 = .ok (.ldc 115, 2) := by decide +kernel
theorem dX6_town_37 : decode cX6_town 37 = .ok (.aload_n 0, 1) := by decide +kernel
theorem dX6_town_38 : decode cX6_town 38 = .ok (.getfield 19, 3) := by decide +kernel
theorem dX6_town_41 : decode cX6_town 41 = .ok (.getfield 116, 3) := by decide +kernel
theorem dX6_town_44 : decode cX6_town 44 = .ok (.isub, 1) := by decide +kernel
theorem dX6_town_45 : decode cX6_town 45 = .ok (.ireturn, 1) := by decide +kernel
theorem dX6_town_46 : decode cX6_town 46 = .ok (.aload_n 0, 1) := by decide +kernel
theorem dX6_town_47 : decode cX6_town 47 = .ok (.getfield 26, 3) := by decide +kernel
theorem dX6_town_50 : decode cX6_town 50 = .ok (.aload_n 0, 1) := by decide +kernel
theorem dX6_town_51 : decode cX6_town 51 = .ok (.getfield 30, 3) := by decide +kernel
theorem dX6_town_54 : decode cX6_town 54 = .ok (.invokevirtual 119, 3) := by decide +kernel
theorem dX6_town_57 : decode cX6_town 57 = .ok (.aload_n 0, 1) := by decide +kernel
theorem dX6_town_58 : decode cX6_town 58 = .ok (.getfield 40, 3) := by decide +kernel
theorem dX6_town_61 : decode cX6_town 61 = .ok (.invokevirtual 123, 3) := by decide +kernel
theorem dX6_town_64 : decode cX6_town 64 = .ok (.aload_n 0, 1) := by decide +kernel
theorem dX6_town_65 : decode cX6_town 65 = .ok (.getfield 26, 3) := by decide +kernel
theorem dX6_town_68 : decode cX6_town 68 = .ok (.getfield 126, 3) := by decide +kernel
theorem dX6_town_71 : decode cX6_town 71 = .ok (.ireturn, 1) := by decide +kernel
theorem dX6_fault_0 : decode cX6_fault 0 = .ok (.aload_n 0, 1) := by decide +kernel
theorem dX6_fault_1 : decode cX6_fault 1 = .ok (.getfield 62, 3) := by decide +kernel
theorem dX6_fault_4 : decode cX6_fault 4 = .ok (.ireturn, 1) := by decide +kernel
theorem dX6_ride_0 : decode cX6_ride 0 = .ok (.aload_n 0, 1) := by decide +kernel
theorem dX6_ride_1 : decode cX6_ride 1 = .ok (.getfield 26, 3) := by decide +kernel
theorem dX6_ride_4 : decode cX6_ride 4 = .ok (.iload_n 1, 1) := by decide +kernel
theorem dX6_ride_5 : decode cX6_ride 5 = .ok (.invokevirtual 129, 3) := by decide +kernel
theorem dX6_ride_8 : decode cX6_ride 8 = .ok (.ifCond .ne 6, 3) := by decide +kernel
theorem dX6_ride_11 : decode cX6_ride 11 = .ok (.ldc 69, 2) := by decide +kernel
theorem dX6_ride_13 : decode cX6_ride 13 = .ok (.ireturn, 1) := by decide +kernel
theorem dX6_ride_14 : decode cX6_ride 14 = .ok (.aload_n 0, 1) := by decide +kernel
theorem dX6_ride_15 : decode cX6_ride 15 = .ok (.getfield 26, 3) := by decide +kernel
theorem dX6_ride_18 : decode cX6_ride 18 = .ok (.iload_n 1, 1) := by decide +kernel
theorem dX6_ride_19 : decode cX6_ride 19 = .ok (.invokevirtual 132, 3) := by decide +kernel
theorem dX6_ride_22 : decode cX6_ride 22 = .ok (.ifCond .ne 6, 3) := by decide +kernel
theorem dX6_ride_25 : decode cX6_ride 25 = .ok (.ldc 135, 2) := by decide +kernel
theorem dX6_ride_27 : decode cX6_ride 27 = .ok (.ireturn, 1) := by decide +kernel
theorem dX6_ride_28 : decode cX6_ride 28 = .ok (.aload_n 0, 1) := by decide +kernel
theorem dX6_ride_29 : decode cX6_ride 29 = .ok (.getfield 26, 3) := by decide +kernel
theorem dX6_ride_32 : decode cX6_ride 32 = .ok (.getfield 136, 3) := by decide +kernel
theorem dX6_ride_35 : decode cX6_ride 35 = .ok (.sipush 999, 3) := by decide +kernel
theorem dX6_ride_38 : decode cX6_ride 38 = .ok (.if_icmp .lt 6, 3) := by decide +kernel
theorem dX6_ride_41 : decode cX6_ride 41 = .ok (.ldc 105, 2) := by decide +kernel
theorem dX6_ride_43 : decode cX6_ride 43 = .ok (.ireturn, 1) := by decide +kernel
theorem dX6_ride_44 : decode cX6_ride 44 = .ok (.aload_n 0, 1) := by decide +kernel
theorem dX6_ride_45 : decode cX6_ride 45 = .ok (.getfield 40, 3) := by decide +kernel
theorem dX6_ride_48 : decode cX6_ride 48 = .ok (.iconst 0, 1) := by decide +kernel
theorem dX6_ride_49 : decode cX6_ride 49 = .ok (.aload_n 0, 1) := by decide +kernel
theorem dX6_ride_50 : decode cX6_ride 50 = .ok (.getfield 26, 3) := by decide +kernel
theorem dX6_ride_53 : decode cX6_ride 53 = .ok (.getfield 139, 3) := by decide +kernel
theorem dX6_ride_56 : decode cX6_ride 56 = .ok (.aload_n 0, 1) := by decide +kernel
theorem dX6_ride_57 : decode cX6_ride 57 = .ok (.getfield 26, 3) := by decide +kernel
theorem dX6_ride_60 : decode cX6_ride 60 = .ok (.getfield 142, 3) := by decide +kernel
theorem dX6_ride_63 : decode cX6_ride 63 = .ok (.aload_n 0, 1) := by decide +kernel
theorem dX6_ride_64 : decode cX6_ride 64 = .ok (.getfield 26, 3) := by decide +kernel
theorem dX6_ride_67 : decode cX6_ride 67 = .ok (.getfield 145, 3) := by decide +kernel
theorem dX6_ride_70 : decode cX6_ride 70 = .ok (.invokevirtual 148, 3) := by decide +kernel
theorem dX6_ride_73 : decode cX6_ride 73 = .ok (.aload_n 0, 1) := by decide +kernel
theorem dX6_ride_74 : decode cX6_ride 74 = .ok (.getfield 26, 3) := by decide +kernel
theorem dX6_ride_77 : decode cX6_ride 77 = .ok (.iload_n 1, 1) := by decide +kernel
theorem dX6_ride_78 : decode cX6_ride 78 = .ok (.invokevirtual 152, 3) := by decide +kernel
theorem dX6_ride_81 : decode cX6_ride 81 = .ok (.aload_n 0, 1) := by decide +kernel
theorem dX6_ride_82 : decode cX6_ride 82 = .ok (.getfield 26, 3) := by decide +kernel
theorem dX6_ride_85 : decode cX6_ride 85 = .ok (.getfield 142, 3) := by decide +kernel
theorem dX6_ride_88 : decode cX6_ride 88 = .ok (.ireturn, 1) := by decide +kernel
theorem dX6_lesson_0 : decode cX6_lesson 0 = .ok (.aload_n 0, 1) := by decide +kernel
theorem dX6_lesson_1 : decode cX6_lesson 1 = .ok (.getfield 26, 3) := by decide +kernel
theorem dX6_lesson_4 : decode cX6_lesson 4 = .ok (.iload_n 1, 1) := by decide +kernel
theorem dX6_lesson_5 : decode cX6_lesson 5 = .ok (.invokevirtual 156, 3) := by decide +kernel
theorem dX6_lesson_8 : decode cX6_lesson 8 = .ok (.ifCond .eq 13, 3) := by decide +kernel
theorem dX6_lesson_11 : decode cX6_lesson 11 = .ok (.iload_n 2, 1) := by decide +kernel
theorem dX6_lesson_12 : decode cX6_lesson 12 = .ok (.ifCond .lt 9, 3) := by decide +kernel
theorem dX6_lesson_15 : decode cX6_lesson 15 = .ok (.iload_n 2, 1) := by decide +kernel
theorem dX6_lesson_16 : decode cX6_lesson 16 = .ok (.bipush 9, 2) := by decide +kernel
theorem dX6_lesson_18 : decode cX6_lesson 18 = .ok (.if_icmp .le 6, 3) := by decide +kernel
theorem dX6_lesson_21 : decode cX6_lesson 21 = .ok (.ldc 69, 2) := by decide +kernel
theorem dX6_lesson_23 : decode cX6_lesson 23 = .ok (.ireturn, 1) := by decide +kernel
theorem dX6_lesson_24 : decode cX6_lesson 24 = .ok (.aload_n 0, 1) := by decide +kernel
theorem dX6_lesson_25 : decode cX6_lesson 25 = .ok (.getfield 26, 3) := by decide +kernel
theorem dX6_lesson_28 : decode cX6_lesson 28 = .ok (.getfield 159, 3) := by decide +kernel
theorem dX6_lesson_31 : decode cX6_lesson 31 = .ok (.iload_n 1, 1) := by decide +kernel
theorem dX6_lesson_32 : decode cX6_lesson 32 = .ok (.iaload, 1) := by decide +kernel
theorem dX6_lesson_33 : decode cX6_lesson 33 = .ok (.istore_n 3, 1) := by decide +kernel
theorem dX6_lesson_34 : decode cX6_lesson 34 = .ok (.aload_n 0, 1) := by decide +kernel
theorem dX6_lesson_35 : decode cX6_lesson 35 = .ok (.getfield 40, 3) := by decide +kernel
theorem dX6_lesson_38 : decode cX6_lesson 38 = .ok (.iconst 1, 1) := by decide +kernel
theorem dX6_lesson_39 : decode cX6_lesson 39 = .ok (.iload_n 1, 1) := by decide +kernel
theorem dX6_lesson_40 : decode cX6_lesson 40 = .ok (.iload_n 3, 1) := by decide +kernel
theorem dX6_lesson_41 : decode cX6_lesson 41 = .ok (.iconst 0, 1) := by decide +kernel
theorem dX6_lesson_42 : decode cX6_lesson 42 = .ok (.invokevirtual 148, 3) := by decide +kernel
theorem dX6_lesson_45 : decode cX6_lesson 45 = .ok (.aload_n 0, 1) := by decide +kernel
theorem dX6_lesson_46 : decode cX6_lesson 46 = .ok (.getfield 26, 3) := by decide +kernel
theorem dX6_lesson_49 : decode cX6_lesson 49 = .ok (.getfield 159, 3) := by decide +kernel
theorem dX6_lesson_52 : decode cX6_lesson 52 = .ok (.iload_n 1, 1) := by decide +kernel
theorem dX6_lesson_53 : decode cX6_lesson 53 = .ok (.iload_n 2, 1) := by decide +kernel
theorem dX6_lesson_54 : decode cX6_lesson 54 = .ok (.iastore, 1) := by decide +kernel
theorem dX6_lesson_55 : decode cX6_lesson 55 = .ok (.iload_n 3, 1) := by decide +kernel
theorem dX6_lesson_56 : decode cX6_lesson 56 = .ok (.ireturn, 1) := by decide +kernel
theorem dX6_reset_0 : decode cX6_reset 0 = .ok (.aload_n 0, 1) := by decide +kernel
theorem dX6_reset_1 : decode cX6_reset 1 = .ok (.getfield 26, 3) := by decide +kernel
theorem dX6_reset_4 : decode cX6_reset 4 = .ok (.invokevirtual 163, 3) := by decide +kernel
theorem dX6_reset_7 : decode cX6_reset 7 = .ok (.ifCond .ne 6, 3) := by decide +kernel
theorem dX6_reset_10 : decode cX6_reset 10 = .ok (.ldc 135, 2) := by decide +kernel
theorem dX6_reset_12 : decode cX6_reset 12 = .ok (.ireturn, 1) := by decide +kernel
theorem dX6_reset_13 : decode cX6_reset 13 = .ok (.aload_n 0, 1) := by decide +kernel
theorem dX6_reset_14 : decode cX6_reset 14 = .ok (.getfield 26, 3) := by decide +kernel
theorem dX6_reset_17 : decode cX6_reset 17 = .ok (.getfield 145, 3) := by decide +kernel
theorem dX6_reset_20 : decode cX6_reset 20 = .ok (.istore_n 1, 1) := by decide +kernel
theorem dX6_reset_21 : decode cX6_reset 21 = .ok (.aload_n 0, 1) := by decide +kernel
theorem dX6_reset_22 : decode cX6_reset 22 = .ok (.getfield 40, 3) := by decide +kernel
theorem dX6_reset_25 : decode cX6_reset 25 = .ok (.iconst 2, 1) := by decide +kernel
theorem dX6_reset_26 : decode cX6_reset 26 = .ok (.iload_n 1, 1) := by decide +kernel
theorem dX6_reset_27 : decode cX6_reset 27 = .ok (.iconst 0, 1) := by decide +kernel
theorem dX6_reset_28 : decode cX6_reset 28 = .ok (.iconst 0, 1) := by decide +kernel
theorem dX6_reset_29 : decode cX6_reset 29 = .ok (.invokevirtual 148, 3) := by decide +kernel
theorem dX6_reset_32 : decode cX6_reset 32 = .ok (.aload_n 0, 1) := by decide +kernel
theorem dX6_reset_33 : decode cX6_reset 33 = .ok (.getfield 26, 3) := by decide +kernel
theorem dX6_reset_36 : decode cX6_reset 36 = .ok (.iconst 0, 1) := by decide +kernel
theorem dX6_reset_37 : decode cX6_reset 37 = .ok (.putfield 145, 3) := by decide +kernel
theorem dX6_reset_40 : decode cX6_reset 40 = .ok (.iload_n 1, 1) := by decide +kernel
theorem dX6_reset_41 : decode cX6_reset 41 = .ok (.ireturn, 1) := by decide +kernel
theorem dX6_street_0 : decode cX6_street 0 = .ok (.aload_n 0, 1) := by decide +kernel
theorem dX6_street_1 : decode cX6_street 1 = .ok (.getfield 26, 3) := by decide +kernel
theorem dX6_street_4 : decode cX6_street 4 = .ok (.iload_n 1, 1) := by decide +kernel
theorem dX6_street_5 : decode cX6_street 5 = .ok (.invokevirtual 129, 3) := by decide +kernel
theorem dX6_street_8 : decode cX6_street 8 = .ok (.ifCond .eq 12, 3) := by decide +kernel
theorem dX6_street_11 : decode cX6_street 11 = .ok (.iload_n 2, 1) := by decide +kernel
theorem dX6_street_12 : decode cX6_street 12 = .ok (.ifCond .lt 8, 3) := by decide +kernel
theorem dX6_street_15 : decode cX6_street 15 = .ok (.iload_n 2, 1) := by decide +kernel
theorem dX6_street_16 : decode cX6_street 16 = .ok (.iconst 1, 1) := by decide +kernel
theorem dX6_street_17 : decode cX6_street 17 = .ok (.if_icmp .le 6, 3) := by decide +kernel
theorem dX6_street_20 : decode cX6_street 20 = .ok (.ldc 69, 2) := by decide +kernel
theorem dX6_street_22 : decode cX6_street 22 = .ok (.ireturn, 1) := by decide +kernel
theorem dX6_street_23 : decode cX6_street 23 = .ok (.aload_n 0, 1) := by decide +kernel
theorem dX6_street_24 : decode cX6_street 24 = .ok (.getfield 26, 3) := by decide +kernel
theorem dX6_street_27 : decode cX6_street 27 = .ok (.iload_n 1, 1) := by decide +kernel
theorem dX6_street_28 : decode cX6_street 28 = .ok (.invokevirtual 167, 3) := by decide +kernel
theorem dX6_street_31 : decode cX6_street 31 = .ok (.iload_n 2, 1) := by decide +kernel
theorem dX6_street_32 : decode cX6_street 32 = .ok (.iconst 1, 1) := by decide +kernel
theorem dX6_street_33 : decode cX6_street 33 = .ok (.if_icmp .ne 7, 3) := by decide +kernel
theorem dX6_street_36 : decode cX6_street 36 = .ok (.iconst 1, 1) := by decide +kernel
theorem dX6_street_37 : decode cX6_street 37 = .ok (.goto 4, 3) := by decide +kernel
theorem dX6_street_40 : decode cX6_street 40 = .ok (.iconst 0, 1) := by decide +kernel
theorem dX6_street_41 : decode cX6_street 41 = .ok (.if_icmp .ne 6, 3) := by decide +kernel
theorem dX6_street_44 : decode cX6_street 44 = .ok (.ldc 135, 2) := by decide +kernel
theorem dX6_street_46 : decode cX6_street 46 = .ok (.ireturn, 1) := by decide +kernel
theorem dX6_street_47 : decode cX6_street 47 = .ok (.aload_n 0, 1) := by decide +kernel
theorem dX6_street_48 : decode cX6_street 48 = .ok (.getfield 40, 3) := by decide +kernel
theorem dX6_street_51 : decode cX6_street 51 = .ok (.iconst 3, 1) := by decide +kernel
theorem dX6_street_52 : decode cX6_street 52 = .ok (.iload_n 1, 1) := by decide +kernel
theorem dX6_street_53 : decode cX6_street 53 = .ok (.iconst 0, 1) := by decide +kernel
theorem dX6_street_54 : decode cX6_street 54 = .ok (.iconst 0, 1) := by decide +kernel
theorem dX6_street_55 : decode cX6_street 55 = .ok (.invokevirtual 148, 3) := by decide +kernel
theorem dX6_street_58 : decode cX6_street 58 = .ok (.aload_n 0, 1) := by decide +kernel
theorem dX6_street_59 : decode cX6_street 59 = .ok (.getfield 26, 3) := by decide +kernel
theorem dX6_street_62 : decode cX6_street 62 = .ok (.iload_n 1, 1) := by decide +kernel
theorem dX6_street_63 : decode cX6_street 63 = .ok (.invokevirtual 170, 3) := by decide +kernel
theorem dX6_street_66 : decode cX6_street 66 = .ok (.aload_n 0, 1) := by decide +kernel
theorem dX6_street_67 : decode cX6_street 67 = .ok (.getfield 26, 3) := by decide +kernel
theorem dX6_street_70 : decode cX6_street 70 = .ok (.getfield 173, 3) := by decide +kernel
theorem dX6_street_73 : decode cX6_street 73 = .ok (.ireturn, 1) := by decide +kernel
theorem dX6_undo_0 : decode cX6_undo 0 = .ok (.aload_n 0, 1) := by decide +kernel
theorem dX6_undo_1 : decode cX6_undo 1 = .ok (.getfield 40, 3) := by decide +kernel
theorem dX6_undo_4 : decode cX6_undo 4 = .ok (.getfield 176, 3) := by decide +kernel
theorem dX6_undo_7 : decode cX6_undo 7 = .ok (.ifCond .ne 6, 3) := by decide +kernel
theorem dX6_undo_10 : decode cX6_undo 10 = .ok (.ldc 135, 2) := by decide +kernel
theorem dX6_undo_12 : decode cX6_undo 12 = .ok (.ireturn, 1) := by decide +kernel
theorem dX6_undo_13 : decode cX6_undo 13 = .ok (.aload_n 0, 1) := by decide +kernel
theorem dX6_undo_14 : decode cX6_undo 14 = .ok (.getfield 40, 3) := by decide +kernel
theorem dX6_undo_17 : decode cX6_undo 17 = .ok (.aload_n 0, 1) := by decide +kernel
theorem dX6_undo_18 : decode cX6_undo 18 = .ok (.getfield 26, 3) := by decide +kernel
theorem dX6_undo_21 : decode cX6_undo 21 = .ok (.invokevirtual 179, 3) := by decide +kernel
theorem dX6_undo_24 : decode cX6_undo 24 = .ok (.aload_n 0, 1) := by decide +kernel
theorem dX6_undo_25 : decode cX6_undo 25 = .ok (.getfield 40, 3) := by decide +kernel
theorem dX6_undo_28 : decode cX6_undo 28 = .ok (.getfield 176, 3) := by decide +kernel
theorem dX6_undo_31 : decode cX6_undo 31 = .ok (.ireturn, 1) := by decide +kernel
theorem dX6_corner_0 : decode cX6_corner 0 = .ok (.aload_n 0, 1) := by decide +kernel
theorem dX6_corner_1 : decode cX6_corner 1 = .ok (.getfield 26, 3) := by decide +kernel
theorem dX6_corner_4 : decode cX6_corner 4 = .ok (.iload_n 1, 1) := by decide +kernel
theorem dX6_corner_5 : decode cX6_corner 5 = .ok (.invokevirtual 156, 3) := by decide +kernel
theorem dX6_corner_8 : decode cX6_corner 8 = .ok (.ifCond .ne 6, 3) := by decide +kernel
theorem dX6_corner_11 : decode cX6_corner 11 = .ok (.ldc 69, 2) := by decide +kernel
theorem dX6_corner_13 : decode cX6_corner 13 = .ok (.ireturn, 1) := by decide +kernel
theorem dX6_corner_14 : decode cX6_corner 14 = .ok (.iload_n 2, 1) := by decide +kernel
theorem dX6_corner_15 : decode cX6_corner 15 = .ok (.tableswitch 102 0 4 #[33, 43, 53, 66, 79], 33) := by decide +kernel
theorem dX6_corner_48 : decode cX6_corner 48 = .ok (.aload_n 0, 1) := by decide +kernel
theorem dX6_corner_49 : decode cX6_corner 49 = .ok (.getfield 26, 3) := by decide +kernel
theorem dX6_corner_52 : decode cX6_corner 52 = .ok (.getfield 159, 3) := by decide +kernel
theorem dX6_corner_55 : decode cX6_corner 55 = .ok (.iload_n 1, 1) := by decide +kernel
theorem dX6_corner_56 : decode cX6_corner 56 = .ok (.iaload, 1) := by decide +kernel
theorem dX6_corner_57 : decode cX6_corner 57 = .ok (.ireturn, 1) := by decide +kernel
theorem dX6_corner_58 : decode cX6_corner 58 = .ok (.aload_n 0, 1) := by decide +kernel
theorem dX6_corner_59 : decode cX6_corner 59 = .ok (.getfield 26, 3) := by decide +kernel
theorem dX6_corner_62 : decode cX6_corner 62 = .ok (.getfield 182, 3) := by decide +kernel
theorem dX6_corner_65 : decode cX6_corner 65 = .ok (.iload_n 1, 1) := by decide +kernel
theorem dX6_corner_66 : decode cX6_corner 66 = .ok (.iaload, 1) := by decide +kernel
theorem dX6_corner_67 : decode cX6_corner 67 = .ok (.ireturn, 1) := by decide +kernel
theorem dX6_corner_68 : decode cX6_corner 68 = .ok (.aload_n 0, 1) := by decide +kernel
theorem dX6_corner_69 : decode cX6_corner 69 = .ok (.iload_n 1, 1) := by decide +kernel
theorem dX6_corner_70 : decode cX6_corner 70 = .ok (.aload_n 0, 1) := by decide +kernel
theorem dX6_corner_71 : decode cX6_corner 71 = .ok (.getfield 26, 3) := by decide +kernel
theorem dX6_corner_74 : decode cX6_corner 74 = .ok (.getfield 185, 3) := by decide +kernel
theorem dX6_corner_77 : decode cX6_corner 77 = .ok (.invokevirtual 188, 3) := by decide +kernel
theorem dX6_corner_80 : decode cX6_corner 80 = .ok (.ireturn, 1) := by decide +kernel
theorem dX6_corner_81 : decode cX6_corner 81 = .ok (.aload_n 0, 1) := by decide +kernel
theorem dX6_corner_82 : decode cX6_corner 82 = .ok (.iload_n 1, 1) := by decide +kernel
theorem dX6_corner_83 : decode cX6_corner 83 = .ok (.aload_n 0, 1) := by decide +kernel
theorem dX6_corner_84 : decode cX6_corner 84 = .ok (.getfield 26, 3) := by decide +kernel
theorem dX6_corner_87 : decode cX6_corner 87 = .ok (.getfield 192, 3) := by decide +kernel
theorem dX6_corner_90 : decode cX6_corner 90 = .ok (.invokevirtual 188, 3) := by decide +kernel
theorem dX6_corner_93 : decode cX6_corner 93 = .ok (.ireturn, 1) := by decide +kernel
theorem dX6_corner_94 : decode cX6_corner 94 = .ok (.aload_n 0, 1) := by decide +kernel
theorem dX6_corner_95 : decode cX6_corner 95 = .ok (.getfield 26, 3) := by decide +kernel
theorem dX6_corner_98 : decode cX6_corner 98 = .ok (.iload_n 1, 1) := by decide +kernel
theorem dX6_corner_99 : decode cX6_corner 99 = .ok (.aload_n 0, 1) := by decide +kernel
theorem dX6_corner_100 : decode cX6_corner 100 = .ok (.getfield 26, 3) := by decide +kernel
theorem dX6_corner_103 : decode cX6_corner 103 = .ok (.getfield 142, 3) := by decide +kernel
theorem dX6_corner_106 : decode cX6_corner 106 = .ok (.aload_n 0, 1) := by decide +kernel
theorem dX6_corner_107 : decode cX6_corner 107 = .ok (.getfield 26, 3) := by decide +kernel
theorem dX6_corner_110 : decode cX6_corner 110 = .ok (.getfield 136, 3) := by decide +kernel
theorem dX6_corner_113 : decode cX6_corner 113 = .ok (.invokevirtual 195, 3) := by decide +kernel
theorem dX6_corner_116 : decode cX6_corner 116 = .ok (.ireturn, 1) := by decide +kernel
theorem dX6_corner_117 : decode cX6_corner 117 = .ok (.ldc 69, 2) := by decide +kernel
theorem dX6_corner_119 : decode cX6_corner 119 = .ok (.ireturn, 1) := by decide +kernel
theorem dX6_way_0 : decode cX6_way 0 = .ok (.aload_n 0, 1) := by decide +kernel
theorem dX6_way_1 : decode cX6_way 1 = .ok (.getfield 26, 3) := by decide +kernel
theorem dX6_way_4 : decode cX6_way 4 = .ok (.iload_n 1, 1) := by decide +kernel
theorem dX6_way_5 : decode cX6_way 5 = .ok (.invokevirtual 129, 3) := by decide +kernel
theorem dX6_way_8 : decode cX6_way 8 = .ok (.ifCond .ne 6, 3) := by decide +kernel
theorem dX6_way_11 : decode cX6_way 11 = .ok (.ldc 69, 2) := by decide +kernel
theorem dX6_way_13 : decode cX6_way 13 = .ok (.ireturn, 1) := by decide +kernel
theorem dX6_way_14 : decode cX6_way 14 = .ok (.iload_n 2, 1) := by decide +kernel
theorem dX6_way_15 : decode cX6_way 15 = .ok (.tableswitch 62 0 2 #[25, 35, 45], 25) := by decide +kernel
theorem dX6_way_40 : decode cX6_way 40 = .ok (.aload_n 0, 1) := by decide +kernel
theorem dX6_way_41 : decode cX6_way 41 = .ok (.getfield 26, 3) := by decide +kernel
theorem dX6_way_44 : decode cX6_way 44 = .ok (.getfield 185, 3) := by decide +kernel
theorem dX6_way_47 : decode cX6_way 47 = .ok (.iload_n 1, 1) := by decide +kernel
theorem dX6_way_48 : decode cX6_way 48 = .ok (.iaload, 1) := by decide +kernel
theorem dX6_way_49 : decode cX6_way 49 = .ok (.ireturn, 1) := by decide +kernel
theorem dX6_way_50 : decode cX6_way 50 = .ok (.aload_n 0, 1) := by decide +kernel
theorem dX6_way_51 : decode cX6_way 51 = .ok (.getfield 26, 3) := by decide +kernel
theorem dX6_way_54 : decode cX6_way 54 = .ok (.getfield 192, 3) := by decide +kernel
theorem dX6_way_57 : decode cX6_way 57 = .ok (.iload_n 1, 1) := by decide +kernel
theorem dX6_way_58 : decode cX6_way 58 = .ok (.iaload, 1) := by decide +kernel
theorem dX6_way_59 : decode cX6_way 59 = .ok (.ireturn, 1) := by decide +kernel
theorem dX6_way_60 : decode cX6_way 60 = .ok (.aload_n 0, 1) := by decide +kernel
theorem dX6_way_61 : decode cX6_way 61 = .ok (.getfield 26, 3) := by decide +kernel
theorem dX6_way_64 : decode cX6_way 64 = .ok (.iload_n 1, 1) := by decide +kernel
theorem dX6_way_65 : decode cX6_way 65 = .ok (.invokevirtual 167, 3) := by decide +kernel
theorem dX6_way_68 : decode cX6_way 68 = .ok (.ifCond .eq 7, 3) := by decide +kernel
theorem dX6_way_71 : decode cX6_way 71 = .ok (.iconst 1, 1) := by decide +kernel
theorem dX6_way_72 : decode cX6_way 72 = .ok (.goto 4, 3) := by decide +kernel
theorem dX6_way_75 : decode cX6_way 75 = .ok (.iconst 0, 1) := by decide +kernel
theorem dX6_way_76 : decode cX6_way 76 = .ok (.ireturn, 1) := by decide +kernel
theorem dX6_way_77 : decode cX6_way 77 = .ok (.ldc 69, 2) := by decide +kernel
theorem dX6_way_79 : decode cX6_way 79 = .ok (.ireturn, 1) := by decide +kernel
theorem dX6_would_0 : decode cX6_would 0 = .ok (.aload_n 0, 1) := by decide +kernel
theorem dX6_would_1 : decode cX6_would 1 = .ok (.getfield 26, 3) := by decide +kernel
theorem dX6_would_4 : decode cX6_would 4 = .ok (.iload_n 1, 1) := by decide +kernel
theorem dX6_would_5 : decode cX6_would 5 = .ok (.invokevirtual 129, 3) := by decide +kernel
theorem dX6_would_8 : decode cX6_would 8 = .ok (.ifCond .eq 12, 3) := by decide +kernel
theorem dX6_would_11 : decode cX6_would 11 = .ok (.iload_n 2, 1) := by decide +kernel
theorem dX6_would_12 : decode cX6_would 12 = .ok (.ifCond .lt 8, 3) := by decide +kernel
theorem dX6_would_15 : decode cX6_would 15 = .ok (.iload_n 2, 1) := by decide +kernel
theorem dX6_would_16 : decode cX6_would 16 = .ok (.iconst 1, 1) := by decide +kernel
theorem dX6_would_17 : decode cX6_would 17 = .ok (.if_icmp .le 6, 3) := by decide +kernel
theorem dX6_would_20 : decode cX6_would 20 = .ok (.ldc 69, 2) := by decide +kernel
theorem dX6_would_22 : decode cX6_would 22 = .ok (.ireturn, 1) := by decide +kernel
theorem dX6_would_23 : decode cX6_would 23 = .ok (.aload_n 0, 1) := by decide +kernel
theorem dX6_would_24 : decode cX6_would 24 = .ok (.getfield 26, 3) := by decide +kernel
theorem dX6_would_27 : decode cX6_would 27 = .ok (.iload_n 1, 1) := by decide +kernel
theorem dX6_would_28 : decode cX6_would 28 = .ok (.invokevirtual 132, 3) := by decide +kernel
theorem dX6_would_31 : decode cX6_would 31 = .ok (.ifCond .ne 6, 3) := by decide +kernel
theorem dX6_would_34 : decode cX6_would 34 = .ok (.ldc 198, 2) := by decide +kernel
theorem dX6_would_36 : decode cX6_would 36 = .ok (.ireturn, 1) := by decide +kernel
theorem dX6_would_37 : decode cX6_would 37 = .ok (.iload_n 2, 1) := by decide +kernel
theorem dX6_would_38 : decode cX6_would 38 = .ok (.ifCond .ne 14, 3) := by decide +kernel
theorem dX6_would_41 : decode cX6_would 41 = .ok (.aload_n 0, 1) := by decide +kernel
theorem dX6_would_42 : decode cX6_would 42 = .ok (.getfield 26, 3) := by decide +kernel
theorem dX6_would_45 : decode cX6_would 45 = .ok (.iload_n 1, 1) := by decide +kernel
theorem dX6_would_46 : decode cX6_would 46 = .ok (.invokevirtual 199, 3) := by decide +kernel
theorem dX6_would_49 : decode cX6_would 49 = .ok (.goto 11, 3) := by decide +kernel
theorem dX6_would_52 : decode cX6_would 52 = .ok (.aload_n 0, 1) := by decide +kernel
theorem dX6_would_53 : decode cX6_would 53 = .ok (.getfield 26, 3) := by decide +kernel
theorem dX6_would_56 : decode cX6_would 56 = .ok (.iload_n 1, 1) := by decide +kernel
theorem dX6_would_57 : decode cX6_would 57 = .ok (.invokevirtual 202, 3) := by decide +kernel
theorem dX6_would_60 : decode cX6_would 60 = .ok (.ireturn, 1) := by decide +kernel
theorem dX6_reach_0 : decode cX6_reach 0 = .ok (.aload_n 0, 1) := by decide +kernel
theorem dX6_reach_1 : decode cX6_reach 1 = .ok (.getfield 26, 3) := by decide +kernel
theorem dX6_reach_4 : decode cX6_reach 4 = .ok (.invokevirtual 163, 3) := by decide +kernel
theorem dX6_reach_7 : decode cX6_reach 7 = .ok (.ifCond .ne 6, 3) := by decide +kernel
theorem dX6_reach_10 : decode cX6_reach 10 = .ok (.ldc 135, 2) := by decide +kernel
theorem dX6_reach_12 : decode cX6_reach 12 = .ok (.ireturn, 1) := by decide +kernel
theorem dX6_reach_13 : decode cX6_reach 13 = .ok (.aload_n 0, 1) := by decide +kernel
theorem dX6_reach_14 : decode cX6_reach 14 = .ok (.getfield 26, 3) := by decide +kernel
theorem dX6_reach_17 : decode cX6_reach 17 = .ok (.invokevirtual 205, 3) := by decide +kernel
theorem dX6_reach_20 : decode cX6_reach 20 = .ok (.ireturn, 1) := by decide +kernel
theorem dX6_cheapest_0 : decode cX6_cheapest 0 = .ok (.aload_n 0, 1) := by decide +kernel
theorem dX6_cheapest_1 : decode cX6_cheapest 1 = .ok (.getfield 26, 3) := by decide +kernel
theorem dX6_cheapest_4 : decode cX6_cheapest 4 = .ok (.iload_n 1, 1) := by decide +kernel
theorem dX6_cheapest_5 : decode cX6_cheapest 5 = .ok (.invokevirtual 156, 3) := by decide +kernel
theorem dX6_cheapest_8 : decode cX6_cheapest 8 = .ok (.ifCond .eq 15, 3) := by decide +kernel
theorem dX6_cheapest_11 : decode cX6_cheapest 11 = .ok (.iload_n 2, 1) := by decide +kernel
theorem dX6_cheapest_12 : decode cX6_cheapest 12 = .ok (.bipush (-2), 2) := by decide +kernel
theorem dX6_cheapest_14 : decode cX6_cheapest 14 = .ok (.if_icmp .lt 9, 3) := by decide +kernel
theorem dX6_cheapest_17 : decode cX6_cheapest 17 = .ok (.iload_n 2, 1) := by decide +kernel
theorem dX6_cheapest_18 : decode cX6_cheapest 18 = .ok (.bipush 8, 2) := by decide +kernel
theorem dX6_cheapest_20 : decode cX6_cheapest 20 = .ok (.if_icmp .lt 6, 3) := by decide +kernel
theorem dX6_cheapest_23 : decode cX6_cheapest 23 = .ok (.ldc 69, 2) := by decide +kernel
theorem dX6_cheapest_25 : decode cX6_cheapest 25 = .ok (.ireturn, 1) := by decide +kernel
theorem dX6_cheapest_26 : decode cX6_cheapest 26 = .ok (.aload_n 0, 1) := by decide +kernel
theorem dX6_cheapest_27 : decode cX6_cheapest 27 = .ok (.getfield 47, 3) := by decide +kernel
theorem dX6_cheapest_30 : decode cX6_cheapest 30 = .ok (.aload_n 0, 1) := by decide +kernel
theorem dX6_cheapest_31 : decode cX6_cheapest 31 = .ok (.getfield 26, 3) := by decide +kernel
theorem dX6_cheapest_34 : decode cX6_cheapest 34 = .ok (.iconst 0, 1) := by decide +kernel
theorem dX6_cheapest_35 : decode cX6_cheapest 35 = .ok (.iload_n 1, 1) := by decide +kernel
theorem dX6_cheapest_36 : decode cX6_cheapest 36 = .ok (.bipush 8, 2) := by decide +kernel
theorem dX6_cheapest_38 : decode cX6_cheapest 38 = .ok (.invokevirtual 209, 3) := by decide +kernel
theorem dX6_cheapest_41 : decode cX6_cheapest 41 = .ok (.aload_n 0, 1) := by decide +kernel
theorem dX6_cheapest_42 : decode cX6_cheapest 42 = .ok (.getfield 47, 3) := by decide +kernel
theorem dX6_cheapest_45 : decode cX6_cheapest 45 = .ok (.getfield 213, 3) := by decide +kernel
theorem dX6_cheapest_48 : decode cX6_cheapest 48 = .ok (.ifCond .ge 6, 3) := by decide +kernel
theorem dX6_cheapest_51 : decode cX6_cheapest 51 = .ok (.ldc 198, 2) := by decide +kernel
theorem dX6_cheapest_53 : decode cX6_cheapest 53 = .ok (.ireturn, 1) := by decide +kernel
theorem dX6_cheapest_54 : decode cX6_cheapest 54 = .ok (.iload_n 2, 1) := by decide +kernel
theorem dX6_cheapest_55 : decode cX6_cheapest 55 = .ok (.iconst (-1), 1) := by decide +kernel
theorem dX6_cheapest_56 : decode cX6_cheapest 56 = .ok (.if_icmp .ne 11, 3) := by decide +kernel
theorem dX6_cheapest_59 : decode cX6_cheapest 59 = .ok (.aload_n 0, 1) := by decide +kernel
theorem dX6_cheapest_60 : decode cX6_cheapest 60 = .ok (.getfield 47, 3) := by decide +kernel
theorem dX6_cheapest_63 : decode cX6_cheapest 63 = .ok (.getfield 214, 3) := by decide +kernel
theorem dX6_cheapest_66 : decode cX6_cheapest 66 = .ok (.ireturn, 1) := by decide +kernel
theorem dX6_cheapest_67 : decode cX6_cheapest 67 = .ok (.iload_n 2, 1) := by decide +kernel
theorem dX6_cheapest_68 : decode cX6_cheapest 68 = .ok (.bipush (-2), 2) := by decide +kernel
theorem dX6_cheapest_70 : decode cX6_cheapest 70 = .ok (.if_icmp .ne 13, 3) := by decide +kernel
theorem dX6_cheapest_73 : decode cX6_cheapest 73 = .ok (.aload_n 0, 1) := by decide +kernel
theorem dX6_cheapest_74 : decode cX6_cheapest 74 = .ok (.getfield 47, 3) := by decide +kernel
theorem dX6_cheapest_77 : decode cX6_cheapest 77 = .ok (.getfield 213, 3) := by decide +kernel
theorem dX6_cheapest_80 : decode cX6_cheapest 80 = .ok (.goto 11, 3) := by decide +kernel
theorem dX6_cheapest_83 : decode cX6_cheapest 83 = .ok (.aload_n 0, 1) := by decide +kernel
theorem dX6_cheapest_84 : decode cX6_cheapest 84 = .ok (.getfield 47, 3) := by decide +kernel
theorem dX6_cheapest_87 : decode cX6_cheapest 87 = .ok (.iload_n 2, 1) := by decide +kernel
theorem dX6_cheapest_88 : decode cX6_cheapest 88 = .ok (.invokevirtual 217, 3) := by decide +kernel
theorem dX6_cheapest_91 : decode cX6_cheapest 91 = .ok (.ireturn, 1) := by decide +kernel
theorem dX6_dearest_0 : decode cX6_dearest 0 = .ok (.aload_n 0, 1) := by decide +kernel
theorem dX6_dearest_1 : decode cX6_dearest 1 = .ok (.getfield 26, 3) := by decide +kernel
theorem dX6_dearest_4 : decode cX6_dearest 4 = .ok (.invokevirtual 163, 3) := by decide +kernel
theorem dX6_dearest_7 : decode cX6_dearest 7 = .ok (.ifCond .ne 6, 3) := by decide +kernel
theorem dX6_dearest_10 : decode cX6_dearest 10 = .ok (.ldc 135, 2) := by decide +kernel
theorem dX6_dearest_12 : decode cX6_dearest 12 = .ok (.ireturn, 1) := by decide +kernel
theorem dX6_dearest_13 : decode cX6_dearest 13 = .ok (.iload_n 1, 1) := by decide +kernel
theorem dX6_dearest_14 : decode cX6_dearest 14 = .ok (.ifCond .lt 21, 3) := by decide +kernel
theorem dX6_dearest_17 : decode cX6_dearest 17 = .ok (.iload_n 1, 1) := by decide +kernel
theorem dX6_dearest_18 : decode cX6_dearest 18 = .ok (.bipush 8, 2) := by decide +kernel
theorem dX6_dearest_20 : decode cX6_dearest 20 = .ok (.if_icmp .gt 15, 3) := by decide +kernel
theorem dX6_dearest_23 : decode cX6_dearest 23 = .ok (.iload_n 2, 1) := by decide +kernel
theorem dX6_dearest_24 : decode cX6_dearest 24 = .ok (.bipush (-2), 2) := by decide +kernel
theorem dX6_dearest_26 : decode cX6_dearest 26 = .ok (.if_icmp .lt 9, 3) := by decide +kernel
theorem dX6_dearest_29 : decode cX6_dearest 29 = .ok (.iload_n 2, 1) := by decide +kernel
theorem dX6_dearest_30 : decode cX6_dearest 30 = .ok (.bipush 8, 2) := by decide +kernel
theorem dX6_dearest_32 : decode cX6_dearest 32 = .ok (.if_icmp .lt 6, 3) := by decide +kernel
theorem dX6_dearest_35 : decode cX6_dearest 35 = .ok (.ldc 69, 2) := by decide +kernel
theorem dX6_dearest_37 : decode cX6_dearest 37 = .ok (.ireturn, 1) := by decide +kernel
theorem dX6_dearest_38 : decode cX6_dearest 38 = .ok (.aload_n 0, 1) := by decide +kernel
theorem dX6_dearest_39 : decode cX6_dearest 39 = .ok (.getfield 47, 3) := by decide +kernel
theorem dX6_dearest_42 : decode cX6_dearest 42 = .ok (.aload_n 0, 1) := by decide +kernel
theorem dX6_dearest_43 : decode cX6_dearest 43 = .ok (.getfield 26, 3) := by decide +kernel
theorem dX6_dearest_46 : decode cX6_dearest 46 = .ok (.iconst 1, 1) := by decide +kernel
theorem dX6_dearest_47 : decode cX6_dearest 47 = .ok (.iconst 0, 1) := by decide +kernel
theorem dX6_dearest_48 : decode cX6_dearest 48 = .ok (.iload_n 1, 1) := by decide +kernel
theorem dX6_dearest_49 : decode cX6_dearest 49 = .ok (.invokevirtual 209, 3) := by decide +kernel
theorem dX6_dearest_52 : decode cX6_dearest 52 = .ok (.aload_n 0, 1) := by decide +kernel
theorem dX6_dearest_53 : decode cX6_dearest 53 = .ok (.getfield 47, 3) := by decide +kernel
theorem dX6_dearest_56 : decode cX6_dearest 56 = .ok (.getfield 213, 3) := by decide +kernel
theorem dX6_dearest_59 : decode cX6_dearest 59 = .ok (.ifCond .ge 6, 3) := by decide +kernel
theorem dX6_dearest_62 : decode cX6_dearest 62 = .ok (.ldc 198, 2) := by decide +kernel
theorem dX6_dearest_64 : decode cX6_dearest 64 = .ok (.ireturn, 1) := by decide +kernel
theorem dX6_dearest_65 : decode cX6_dearest 65 = .ok (.iload_n 2, 1) := by decide +kernel
theorem dX6_dearest_66 : decode cX6_dearest 66 = .ok (.iconst (-1), 1) := by decide +kernel
theorem dX6_dearest_67 : decode cX6_dearest 67 = .ok (.if_icmp .ne 11, 3) := by decide +kernel
theorem dX6_dearest_70 : decode cX6_dearest 70 = .ok (.aload_n 0, 1) := by decide +kernel
theorem dX6_dearest_71 : decode cX6_dearest 71 = .ok (.getfield 47, 3) := by decide +kernel
theorem dX6_dearest_74 : decode cX6_dearest 74 = .ok (.getfield 214, 3) := by decide +kernel
theorem dX6_dearest_77 : decode cX6_dearest 77 = .ok (.ireturn, 1) := by decide +kernel
theorem dX6_dearest_78 : decode cX6_dearest 78 = .ok (.iload_n 2, 1) := by decide +kernel
theorem dX6_dearest_79 : decode cX6_dearest 79 = .ok (.bipush (-2), 2) := by decide +kernel
theorem dX6_dearest_81 : decode cX6_dearest 81 = .ok (.if_icmp .ne 13, 3) := by decide +kernel
theorem dX6_dearest_84 : decode cX6_dearest 84 = .ok (.aload_n 0, 1) := by decide +kernel
theorem dX6_dearest_85 : decode cX6_dearest 85 = .ok (.getfield 47, 3) := by decide +kernel
theorem dX6_dearest_88 : decode cX6_dearest 88 = .ok (.getfield 220, 3) := by decide +kernel
theorem dX6_dearest_91 : decode cX6_dearest 91 = .ok (.goto 11, 3) := by decide +kernel
theorem dX6_dearest_94 : decode cX6_dearest 94 = .ok (.aload_n 0, 1) := by decide +kernel
theorem dX6_dearest_95 : decode cX6_dearest 95 = .ok (.getfield 47, 3) := by decide +kernel
theorem dX6_dearest_98 : decode cX6_dearest 98 = .ok (.iload_n 2, 1) := by decide +kernel
theorem dX6_dearest_99 : decode cX6_dearest 99 = .ok (.invokevirtual 217, 3) := by decide +kernel
theorem dX6_dearest_102 : decode cX6_dearest 102 = .ok (.ireturn, 1) := by decide +kernel
theorem dX6_moods_0 : decode cX6_moods 0 = .ok (.aload_n 0, 1) := by decide +kernel
theorem dX6_moods_1 : decode cX6_moods 1 = .ok (.getfield 26, 3) := by decide +kernel
theorem dX6_moods_4 : decode cX6_moods 4 = .ok (.iload_n 1, 1) := by decide +kernel
theorem dX6_moods_5 : decode cX6_moods 5 = .ok (.invokevirtual 156, 3) := by decide +kernel
theorem dX6_moods_8 : decode cX6_moods 8 = .ok (.ifCond .eq 13, 3) := by decide +kernel
theorem dX6_moods_11 : decode cX6_moods 11 = .ok (.iload_n 2, 1) := by decide +kernel
theorem dX6_moods_12 : decode cX6_moods 12 = .ok (.ifCond .lt 9, 3) := by decide +kernel
theorem dX6_moods_15 : decode cX6_moods 15 = .ok (.iload_n 2, 1) := by decide +kernel
theorem dX6_moods_16 : decode cX6_moods 16 = .ok (.bipush 8, 2) := by decide +kernel
theorem dX6_moods_18 : decode cX6_moods 18 = .ok (.if_icmp .le 6, 3) := by decide +kernel
theorem dX6_moods_21 : decode cX6_moods 21 = .ok (.ldc 69, 2) := by decide +kernel
theorem dX6_moods_23 : decode cX6_moods 23 = .ok (.ireturn, 1) := by decide +kernel
theorem dX6_moods_24 : decode cX6_moods 24 = .ok (.aload_n 0, 1) := by decide +kernel
theorem dX6_moods_25 : decode cX6_moods 25 = .ok (.getfield 47, 3) := by decide +kernel
theorem dX6_moods_28 : decode cX6_moods 28 = .ok (.aload_n 0, 1) := by decide +kernel
theorem dX6_moods_29 : decode cX6_moods 29 = .ok (.getfield 26, 3) := by decide +kernel
theorem dX6_moods_32 : decode cX6_moods 32 = .ok (.iconst 2, 1) := by decide +kernel
theorem dX6_moods_33 : decode cX6_moods 33 = .ok (.iload_n 1, 1) := by decide +kernel
theorem dX6_moods_34 : decode cX6_moods 34 = .ok (.iload_n 2, 1) := by decide +kernel
theorem dX6_moods_35 : decode cX6_moods 35 = .ok (.invokevirtual 209, 3) := by decide +kernel
theorem dX6_moods_38 : decode cX6_moods 38 = .ok (.aload_n 0, 1) := by decide +kernel
theorem dX6_moods_39 : decode cX6_moods 39 = .ok (.getfield 47, 3) := by decide +kernel
theorem dX6_moods_42 : decode cX6_moods 42 = .ok (.getfield 223, 3) := by decide +kernel
theorem dX6_moods_45 : decode cX6_moods 45 = .ok (.ireturn, 1) := by decide +kernel
theorem dX6_gets_0 : decode cX6_gets 0 = .ok (.aload_n 0, 1) := by decide +kernel
theorem dX6_gets_1 : decode cX6_gets 1 = .ok (.getfield 26, 3) := by decide +kernel
theorem dX6_gets_4 : decode cX6_gets 4 = .ok (.invokevirtual 163, 3) := by decide +kernel
theorem dX6_gets_7 : decode cX6_gets 7 = .ok (.ifCond .ne 6, 3) := by decide +kernel
theorem dX6_gets_10 : decode cX6_gets 10 = .ok (.ldc 135, 2) := by decide +kernel
theorem dX6_gets_12 : decode cX6_gets 12 = .ok (.ireturn, 1) := by decide +kernel
theorem dX6_gets_13 : decode cX6_gets 13 = .ok (.iload_n 1, 1) := by decide +kernel
theorem dX6_gets_14 : decode cX6_gets 14 = .ok (.ifCond .lt 20, 3) := by decide +kernel
theorem dX6_gets_17 : decode cX6_gets 17 = .ok (.iload_n 1, 1) := by decide +kernel
theorem dX6_gets_18 : decode cX6_gets 18 = .ok (.bipush 9, 2) := by decide +kernel
theorem dX6_gets_20 : decode cX6_gets 20 = .ok (.if_icmp .gt 14, 3) := by decide +kernel
theorem dX6_gets_23 : decode cX6_gets 23 = .ok (.iload_n 2, 1) := by decide +kernel
theorem dX6_gets_24 : decode cX6_gets 24 = .ok (.iconst (-1), 1) := by decide +kernel
theorem dX6_gets_25 : decode cX6_gets 25 = .ok (.if_icmp .lt 9, 3) := by decide +kernel
theorem dX6_gets_28 : decode cX6_gets 28 = .ok (.iload_n 2, 1) := by decide +kernel
theorem dX6_gets_29 : decode cX6_gets 29 = .ok (.bipush 8, 2) := by decide +kernel
theorem dX6_gets_31 : decode cX6_gets 31 = .ok (.if_icmp .lt 6, 3) := by decide +kernel
theorem dX6_gets_34 : decode cX6_gets 34 = .ok (.ldc 69, 2) := by decide +kernel
theorem dX6_gets_36 : decode cX6_gets 36 = .ok (.ireturn, 1) := by decide +kernel
theorem dX6_gets_37 : decode cX6_gets 37 = .ok (.aload_n 0, 1) := by decide +kernel
theorem dX6_gets_38 : decode cX6_gets 38 = .ok (.getfield 47, 3) := by decide +kernel
theorem dX6_gets_41 : decode cX6_gets 41 = .ok (.aload_n 0, 1) := by decide +kernel
theorem dX6_gets_42 : decode cX6_gets 42 = .ok (.getfield 26, 3) := by decide +kernel
theorem dX6_gets_45 : decode cX6_gets 45 = .ok (.iconst 3, 1) := by decide +kernel
theorem dX6_gets_46 : decode cX6_gets 46 = .ok (.iload_n 1, 1) := by decide +kernel
theorem dX6_gets_47 : decode cX6_gets 47 = .ok (.bipush 8, 2) := by decide +kernel
theorem dX6_gets_49 : decode cX6_gets 49 = .ok (.invokevirtual 209, 3) := by decide +kernel
theorem dX6_gets_52 : decode cX6_gets 52 = .ok (.aload_n 0, 1) := by decide +kernel
theorem dX6_gets_53 : decode cX6_gets 53 = .ok (.getfield 47, 3) := by decide +kernel
theorem dX6_gets_56 : decode cX6_gets 56 = .ok (.getfield 213, 3) := by decide +kernel
theorem dX6_gets_59 : decode cX6_gets 59 = .ok (.ifCond .ge 6, 3) := by decide +kernel
theorem dX6_gets_62 : decode cX6_gets 62 = .ok (.ldc 198, 2) := by decide +kernel
theorem dX6_gets_64 : decode cX6_gets 64 = .ok (.ireturn, 1) := by decide +kernel
theorem dX6_gets_65 : decode cX6_gets 65 = .ok (.iload_n 2, 1) := by decide +kernel
theorem dX6_gets_66 : decode cX6_gets 66 = .ok (.iconst (-1), 1) := by decide +kernel
theorem dX6_gets_67 : decode cX6_gets 67 = .ok (.if_icmp .ne 13, 3) := by decide +kernel
theorem dX6_gets_70 : decode cX6_gets 70 = .ok (.aload_n 0, 1) := by decide +kernel
theorem dX6_gets_71 : decode cX6_gets 71 = .ok (.getfield 47, 3) := by decide +kernel
theorem dX6_gets_74 : decode cX6_gets 74 = .ok (.getfield 213, 3) := by decide +kernel
theorem dX6_gets_77 : decode cX6_gets 77 = .ok (.goto 11, 3) := by decide +kernel
theorem dX6_gets_80 : decode cX6_gets 80 = .ok (.aload_n 0, 1) := by decide +kernel
theorem dX6_gets_81 : decode cX6_gets 81 = .ok (.getfield 47, 3) := by decide +kernel
theorem dX6_gets_84 : decode cX6_gets 84 = .ok (.iload_n 2, 1) := by decide +kernel
theorem dX6_gets_85 : decode cX6_gets 85 = .ok (.invokevirtual 217, 3) := by decide +kernel
theorem dX6_gets_88 : decode cX6_gets 88 = .ok (.ireturn, 1) := by decide +kernel
theorem dX6_fits_0 : decode cX6_fits 0 = .ok (.aload_n 0, 1) := by decide +kernel
theorem dX6_fits_1 : decode cX6_fits 1 = .ok (.getfield 26, 3) := by decide +kernel
theorem dX6_fits_4 : decode cX6_fits 4 = .ok (.invokevirtual 163, 3) := by decide +kernel
theorem dX6_fits_7 : decode cX6_fits 7 = .ok (.ifCond .ne 6, 3) := by decide +kernel
theorem dX6_fits_10 : decode cX6_fits 10 = .ok (.ldc 135, 2) := by decide +kernel
theorem dX6_fits_12 : decode cX6_fits 12 = .ok (.ireturn, 1) := by decide +kernel
theorem dX6_fits_13 : decode cX6_fits 13 = .ok (.iload_n 1, 1) := by decide +kernel
theorem dX6_fits_14 : decode cX6_fits 14 = .ok (.iload_n 3, 1) := by decide +kernel
theorem dX6_fits_15 : decode cX6_fits 15 = .ok (.iload 5, 2) := by decide +kernel
theorem dX6_fits_17 : decode cX6_fits 17 = .ok (.iload 6, 2) := by decide +kernel
theorem dX6_fits_19 : decode cX6_fits 19 = .ok (.invokestatic 226, 3) := by decide +kernel
theorem dX6_fits_22 : decode cX6_fits 22 = .ok (.ifCond .ne 6, 3) := by decide +kernel
theorem dX6_fits_25 : decode cX6_fits 25 = .ok (.ldc 69, 2) := by decide +kernel
theorem dX6_fits_27 : decode cX6_fits 27 = .ok (.ireturn, 1) := by decide +kernel
theorem dX6_fits_28 : decode cX6_fits 28 = .ok (.aload_n 0, 1) := by decide +kernel
theorem dX6_fits_29 : decode cX6_fits 29 = .ok (.iload_n 1, 1) := by decide +kernel
theorem dX6_fits_30 : decode cX6_fits 30 = .ok (.iload_n 2, 1) := by decide +kernel
theorem dX6_fits_31 : decode cX6_fits 31 = .ok (.iload_n 3, 1) := by decide +kernel
theorem dX6_fits_32 : decode cX6_fits 32 = .ok (.iload 4, 2) := by decide +kernel
theorem dX6_fits_34 : decode cX6_fits 34 = .ok (.iload 5, 2) := by decide +kernel
theorem dX6_fits_36 : decode cX6_fits 36 = .ok (.invokevirtual 230, 3) := by decide +kernel
theorem dX6_fits_39 : decode cX6_fits 39 = .ok (.istore 7, 2) := by decide +kernel
theorem dX6_fits_41 : decode cX6_fits 41 = .ok (.iload 7, 2) := by decide +kernel
theorem dX6_fits_43 : decode cX6_fits 43 = .ok (.ifCond .eq 10, 3) := by decide +kernel
theorem dX6_fits_46 : decode cX6_fits 46 = .ok (.aload_n 0, 1) := by decide +kernel
theorem dX6_fits_47 : decode cX6_fits 47 = .ok (.iload 7, 2) := by decide +kernel
theorem dX6_fits_49 : decode cX6_fits 49 = .ok (.invokevirtual 70, 3) := by decide +kernel
theorem dX6_fits_52 : decode cX6_fits 52 = .ok (.ireturn, 1) := by decide +kernel
theorem dX6_fits_53 : decode cX6_fits 53 = .ok (.iconst 0, 1) := by decide +kernel
theorem dX6_fits_54 : decode cX6_fits 54 = .ok (.istore 8, 2) := by decide +kernel
theorem dX6_fits_56 : decode cX6_fits 56 = .ok (.iload 6, 2) := by decide +kernel
theorem dX6_fits_58 : decode cX6_fits 58 = .ok (.ifCond .ne 7, 3) := by decide +kernel
theorem dX6_fits_61 : decode cX6_fits 61 = .ok (.iconst 0, 1) := by decide +kernel
theorem dX6_fits_62 : decode cX6_fits 62 = .ok (.goto 4, 3) := by decide +kernel
theorem dX6_fits_65 : decode cX6_fits 65 = .ok (.iconst 1, 1) := by decide +kernel
theorem dX6_fits_66 : decode cX6_fits 66 = .ok (.istore 9, 2) := by decide +kernel
theorem dX6_fits_68 : decode cX6_fits 68 = .ok (.iload 6, 2) := by decide +kernel
theorem dX6_fits_70 : decode cX6_fits 70 = .ok (.ifCond .ne 8, 3) := by decide +kernel
theorem dX6_fits_73 : decode cX6_fits 73 = .ok (.bipush 9, 2) := by decide +kernel
theorem dX6_fits_75 : decode cX6_fits 75 = .ok (.goto 5, 3) := by decide +kernel
theorem dX6_fits_78 : decode cX6_fits 78 = .ok (.bipush 9, 2) := by decide +kernel
theorem dX6_fits_80 : decode cX6_fits 80 = .ok (.istore 10, 2) := by decide +kernel
theorem dX6_fits_82 : decode cX6_fits 82 = .ok (.iload 9, 2) := by decide +kernel
theorem dX6_fits_84 : decode cX6_fits 84 = .ok (.istore 11, 2) := by decide +kernel
theorem dX6_fits_86 : decode cX6_fits 86 = .ok (.iload 11, 2) := by decide +kernel
theorem dX6_fits_88 : decode cX6_fits 88 = .ok (.iload 10, 2) := by decide +kernel
theorem dX6_fits_90 : decode cX6_fits 90 = .ok (.if_icmp .gt 69, 3) := by decide +kernel
theorem dX6_fits_93 : decode cX6_fits 93 = .ok (.aload_n 0, 1) := by decide +kernel
theorem dX6_fits_94 : decode cX6_fits 94 = .ok (.getfield 30, 3) := by decide +kernel
theorem dX6_fits_97 : decode cX6_fits 97 = .ok (.aload_n 0, 1) := by decide +kernel
theorem dX6_fits_98 : decode cX6_fits 98 = .ok (.getfield 26, 3) := by decide +kernel
theorem dX6_fits_101 : decode cX6_fits 101 = .ok (.invokevirtual 119, 3) := by decide +kernel
theorem dX6_fits_104 : decode cX6_fits 104 = .ok (.iload 6, 2) := by decide +kernel
theorem dX6_fits_106 : decode cX6_fits 106 = .ok (.ifCond .ne 15, 3) := by decide +kernel
theorem dX6_fits_109 : decode cX6_fits 109 = .ok (.aload_n 0, 1) := by decide +kernel
theorem dX6_fits_110 : decode cX6_fits 110 = .ok (.getfield 30, 3) := by decide +kernel
theorem dX6_fits_113 : decode cX6_fits 113 = .ok (.iload 11, 2) := by decide +kernel
theorem dX6_fits_115 : decode cX6_fits 115 = .ok (.putfield 142, 3) := by decide +kernel
theorem dX6_fits_118 : decode cX6_fits 118 = .ok (.goto 12, 3) := by decide +kernel
theorem dX6_fits_121 : decode cX6_fits 121 = .ok (.aload_n 0, 1) := by decide +kernel
theorem dX6_fits_122 : decode cX6_fits 122 = .ok (.getfield 30, 3) := by decide +kernel
theorem dX6_fits_125 : decode cX6_fits 125 = .ok (.iload 11, 2) := by decide +kernel
theorem dX6_fits_127 : decode cX6_fits 127 = .ok (.putfield 233, 3) := by decide +kernel
theorem dX6_fits_130 : decode cX6_fits 130 = .ok (.aload_n 0, 1) := by decide +kernel
theorem dX6_fits_131 : decode cX6_fits 131 = .ok (.iload_n 1, 1) := by decide +kernel
theorem dX6_fits_132 : decode cX6_fits 132 = .ok (.iload_n 2, 1) := by decide +kernel
theorem dX6_fits_133 : decode cX6_fits 133 = .ok (.iload_n 3, 1) := by decide +kernel
theorem dX6_fits_134 : decode cX6_fits 134 = .ok (.iload 4, 2) := by decide +kernel
theorem dX6_fits_136 : decode cX6_fits 136 = .ok (.iload 5, 2) := by decide +kernel
theorem dX6_fits_138 : decode cX6_fits 138 = .ok (.invokevirtual 236, 3) := by decide +kernel
theorem dX6_fits_141 : decode cX6_fits 141 = .ok (.ifCond .eq 12, 3) := by decide +kernel
theorem dX6_fits_144 : decode cX6_fits 144 = .ok (.iload 8, 2) := by decide +kernel
theorem dX6_fits_146 : decode cX6_fits 146 = .ok (.iconst 1, 1) := by decide +kernel
theorem dX6_fits_147 : decode cX6_fits 147 = .ok (.iload 11, 2) := by decide +kernel
theorem dX6_fits_149 : decode cX6_fits 149 = .ok (.ishl, 1) := by decide +kernel
theorem dX6_fits_150 : decode cX6_fits 150 = .ok (.ior, 1) := by decide +kernel
theorem dX6_fits_151 : decode cX6_fits 151 = .ok (.istore 8, 2) := by decide +kernel
theorem dX6_fits_153 : decode cX6_fits 153 = .ok (.iinc 11 1, 3) := by decide +kernel
theorem dX6_fits_156 : decode cX6_fits 156 = .ok (.goto (-70), 3) := by decide +kernel
theorem dX6_fits_159 : decode cX6_fits 159 = .ok (.aload_n 0, 1) := by decide +kernel
theorem dX6_fits_160 : decode cX6_fits 160 = .ok (.iload 8, 2) := by decide +kernel
theorem dX6_fits_162 : decode cX6_fits 162 = .ok (.invokevirtual 78, 3) := by decide +kernel
theorem dX6_fits_165 : decode cX6_fits 165 = .ok (.ireturn, 1) := by decide +kernel
theorem dX6_fitsOf_0 : decode cX6_fitsOf 0 = .ok (.aload_n 0, 1) := by decide +kernel
theorem dX6_fitsOf_1 : decode cX6_fitsOf 1 = .ok (.getfield 26, 3) := by decide +kernel
theorem dX6_fitsOf_4 : decode cX6_fitsOf 4 = .ok (.iload_n 1, 1) := by decide +kernel
theorem dX6_fitsOf_5 : decode cX6_fitsOf 5 = .ok (.invokevirtual 156, 3) := by decide +kernel
theorem dX6_fitsOf_8 : decode cX6_fitsOf 8 = .ok (.ifCond .eq 16, 3) := by decide +kernel
theorem dX6_fitsOf_11 : decode cX6_fitsOf 11 = .ok (.iload_n 2, 1) := by decide +kernel
theorem dX6_fitsOf_12 : decode cX6_fitsOf 12 = .ok (.iload 4, 2) := by decide +kernel
theorem dX6_fitsOf_14 : decode cX6_fitsOf 14 = .ok (.iload 6, 2) := by decide +kernel
theorem dX6_fitsOf_16 : decode cX6_fitsOf 16 = .ok (.iload 7, 2) := by decide +kernel
theorem dX6_fitsOf_18 : decode cX6_fitsOf 18 = .ok (.invokestatic 226, 3) := by decide +kernel
theorem dX6_fitsOf_21 : decode cX6_fitsOf 21 = .ok (.ifCond .ne 6, 3) := by decide +kernel
theorem dX6_fitsOf_24 : decode cX6_fitsOf 24 = .ok (.ldc 69, 2) := by decide +kernel
theorem dX6_fitsOf_26 : decode cX6_fitsOf 26 = .ok (.ireturn, 1) := by decide +kernel
theorem dX6_fitsOf_27 : decode cX6_fitsOf 27 = .ok (.aload_n 0, 1) := by decide +kernel
theorem dX6_fitsOf_28 : decode cX6_fitsOf 28 = .ok (.iload_n 2, 1) := by decide +kernel
theorem dX6_fitsOf_29 : decode cX6_fitsOf 29 = .ok (.iload_n 3, 1) := by decide +kernel
theorem dX6_fitsOf_30 : decode cX6_fitsOf 30 = .ok (.iload 4, 2) := by decide +kernel
theorem dX6_fitsOf_32 : decode cX6_fitsOf 32 = .ok (.iload 5, 2) := by decide +kernel
theorem dX6_fitsOf_34 : decode cX6_fitsOf 34 = .ok (.iload 6, 2) := by decide +kernel
theorem dX6_fitsOf_36 : decode cX6_fitsOf 36 = .ok (.invokevirtual 230, 3) := by decide +kernel
theorem dX6_fitsOf_39 : decode cX6_fitsOf 39 = .ok (.istore 8, 2) := by decide +kernel
theorem dX6_fitsOf_41 : decode cX6_fitsOf 41 = .ok (.iload 8, 2) := by decide +kernel
theorem dX6_fitsOf_43 : decode cX6_fitsOf 43 = .ok (.ifCond .eq 10, 3) := by decide +kernel
theorem dX6_fitsOf_46 : decode cX6_fitsOf 46 = .ok (.aload_n 0, 1) := by decide +kernel
theorem dX6_fitsOf_47 : decode cX6_fitsOf 47 = .ok (.iload 8, 2) := by decide +kernel
theorem dX6_fitsOf_49 : decode cX6_fitsOf 49 = .ok (.invokevirtual 70, 3) := by decide +kernel
theorem dX6_fitsOf_52 : decode cX6_fitsOf 52 = .ok (.ireturn, 1) := by decide +kernel
theorem dX6_fitsOf_53 : decode cX6_fitsOf 53 = .ok (.iconst 0, 1) := by decide +kernel
theorem dX6_fitsOf_54 : decode cX6_fitsOf 54 = .ok (.istore 9, 2) := by decide +kernel
theorem dX6_fitsOf_56 : decode cX6_fitsOf 56 = .ok (.iload 7, 2) := by decide +kernel
theorem dX6_fitsOf_58 : decode cX6_fitsOf 58 = .ok (.ifCond .ne 7, 3) := by decide +kernel
theorem dX6_fitsOf_61 : decode cX6_fitsOf 61 = .ok (.iconst 1, 1) := by decide +kernel
theorem dX6_fitsOf_62 : decode cX6_fitsOf 62 = .ok (.goto 4, 3) := by decide +kernel
theorem dX6_fitsOf_65 : decode cX6_fitsOf 65 = .ok (.iconst 0, 1) := by decide +kernel
theorem dX6_fitsOf_66 : decode cX6_fitsOf 66 = .ok (.istore 10, 2) := by decide +kernel
theorem dX6_fitsOf_68 : decode cX6_fitsOf 68 = .ok (.iload 7, 2) := by decide +kernel
theorem dX6_fitsOf_70 : decode cX6_fitsOf 70 = .ok (.ifCond .ne 7, 3) := by decide +kernel
theorem dX6_fitsOf_73 : decode cX6_fitsOf 73 = .ok (.iconst 5, 1) := by decide +kernel
theorem dX6_fitsOf_74 : decode cX6_fitsOf 74 = .ok (.goto 5, 3) := by decide +kernel
theorem dX6_fitsOf_77 : decode cX6_fitsOf 77 = .ok (.bipush 9, 2) := by decide +kernel
theorem dX6_fitsOf_79 : decode cX6_fitsOf 79 = .ok (.istore 11, 2) := by decide +kernel
theorem dX6_fitsOf_81 : decode cX6_fitsOf 81 = .ok (.iload 10, 2) := by decide +kernel
theorem dX6_fitsOf_83 : decode cX6_fitsOf 83 = .ok (.istore 12, 2) := by decide +kernel
theorem dX6_fitsOf_85 : decode cX6_fitsOf 85 = .ok (.iload 12, 2) := by decide +kernel
theorem dX6_fitsOf_87 : decode cX6_fitsOf 87 = .ok (.iload 11, 2) := by decide +kernel
theorem dX6_fitsOf_89 : decode cX6_fitsOf 89 = .ok (.if_icmp .gt 74, 3) := by decide +kernel
theorem dX6_fitsOf_92 : decode cX6_fitsOf 92 = .ok (.aload_n 0, 1) := by decide +kernel
theorem dX6_fitsOf_93 : decode cX6_fitsOf 93 = .ok (.getfield 30, 3) := by decide +kernel
theorem dX6_fitsOf_96 : decode cX6_fitsOf 96 = .ok (.aload_n 0, 1) := by decide +kernel
theorem dX6_fitsOf_97 : decode cX6_fitsOf 97 = .ok (.getfield 26, 3) := by decide +kernel
theorem dX6_fitsOf_100 : decode cX6_fitsOf 100 = .ok (.invokevirtual 119, 3) := by decide +kernel
theorem dX6_fitsOf_103 : decode cX6_fitsOf 103 = .ok (.iload 7, 2) := by decide +kernel
theorem dX6_fitsOf_105 : decode cX6_fitsOf 105 = .ok (.ifCond .ne 17, 3) := by decide +kernel
theorem dX6_fitsOf_108 : decode cX6_fitsOf 108 = .ok (.aload_n 0, 1) := by decide +kernel
theorem dX6_fitsOf_109 : decode cX6_fitsOf 109 = .ok (.getfield 30, 3) := by decide +kernel
theorem dX6_fitsOf_112 : decode cX6_fitsOf 112 = .ok (.getfield 240, 3) := by decide +kernel
theorem dX6_fitsOf_115 : decode cX6_fitsOf 115 = .ok (.iload_n 1, 1) := by decide +kernel
theorem dX6_fitsOf_116 : decode cX6_fitsOf 116 = .ok (.iload 12, 2) := by decide +kernel
theorem dX6_fitsOf_118 : decode cX6_fitsOf 118 = .ok (.iastore, 1) := by decide +kernel
theorem dX6_fitsOf_119 : decode cX6_fitsOf 119 = .ok (.goto 14, 3) := by decide +kernel
theorem dX6_fitsOf_122 : decode cX6_fitsOf 122 = .ok (.aload_n 0, 1) := by decide +kernel
theorem dX6_fitsOf_123 : decode cX6_fitsOf 123 = .ok (.getfield 30, 3) := by decide +kernel
theorem dX6_fitsOf_126 : decode cX6_fitsOf 126 = .ok (.getfield 159, 3) := by decide +kernel
theorem dX6_fitsOf_129 : decode cX6_fitsOf 129 = .ok (.iload_n 1, 1) := by decide +kernel
theorem dX6_fitsOf_130 : decode cX6_fitsOf 130 = .ok (.iload 12, 2) := by decide +kernel
theorem dX6_fitsOf_132 : decode cX6_fitsOf 132 = .ok (.iastore, 1) := by decide +kernel
theorem dX6_fitsOf_133 : decode cX6_fitsOf 133 = .ok (.aload_n 0, 1) := by decide +kernel
theorem dX6_fitsOf_134 : decode cX6_fitsOf 134 = .ok (.iload_n 2, 1) := by decide +kernel
theorem dX6_fitsOf_135 : decode cX6_fitsOf 135 = .ok (.iload_n 3, 1) := by decide +kernel
theorem dX6_fitsOf_136 : decode cX6_fitsOf 136 = .ok (.iload 4, 2) := by decide +kernel
theorem dX6_fitsOf_138 : decode cX6_fitsOf 138 = .ok (.iload 5, 2) := by decide +kernel
theorem dX6_fitsOf_140 : decode cX6_fitsOf 140 = .ok (.iload 6, 2) := by decide +kernel
theorem dX6_fitsOf_142 : decode cX6_fitsOf 142 = .ok (.invokevirtual 236, 3) := by decide +kernel
theorem dX6_fitsOf_145 : decode cX6_fitsOf 145 = .ok (.ifCond .eq 12, 3) := by decide +kernel
theorem dX6_fitsOf_148 : decode cX6_fitsOf 148 = .ok (.iload 9, 2) := by decide +kernel
theorem dX6_fitsOf_150 : decode cX6_fitsOf 150 = .ok (.iconst 1, 1) := by decide +kernel
theorem dX6_fitsOf_151 : decode cX6_fitsOf 151 = .ok (.iload 12, 2) := by decide +kernel
theorem dX6_fitsOf_153 : decode cX6_fitsOf 153 = .ok (.ishl, 1) := by decide +kernel
theorem dX6_fitsOf_154 : decode cX6_fitsOf 154 = .ok (.ior, 1) := by decide +kernel
theorem dX6_fitsOf_155 : decode cX6_fitsOf 155 = .ok (.istore 9, 2) := by decide +kernel
theorem dX6_fitsOf_157 : decode cX6_fitsOf 157 = .ok (.iinc 12 1, 3) := by decide +kernel
theorem dX6_fitsOf_160 : decode cX6_fitsOf 160 = .ok (.goto (-75), 3) := by decide +kernel
theorem dX6_fitsOf_163 : decode cX6_fitsOf 163 = .ok (.aload_n 0, 1) := by decide +kernel
theorem dX6_fitsOf_164 : decode cX6_fitsOf 164 = .ok (.iload 9, 2) := by decide +kernel
theorem dX6_fitsOf_166 : decode cX6_fitsOf 166 = .ok (.invokevirtual 78, 3) := by decide +kernel
theorem dX6_fitsOf_169 : decode cX6_fitsOf 169 = .ok (.ireturn, 1) := by decide +kernel
theorem dX6_share_0 : decode cX6_share 0 = .ok (.aload_n 0, 1) := by decide +kernel
theorem dX6_share_1 : decode cX6_share 1 = .ok (.getfield 26, 3) := by decide +kernel
theorem dX6_share_4 : decode cX6_share 4 = .ok (.invokevirtual 163, 3) := by decide +kernel
theorem dX6_share_7 : decode cX6_share 7 = .ok (.ifCond .ne 6, 3) := by decide +kernel
theorem dX6_share_10 : decode cX6_share 10 = .ok (.ldc 135, 2) := by decide +kernel
theorem dX6_share_12 : decode cX6_share 12 = .ok (.ireturn, 1) := by decide +kernel
theorem dX6_share_13 : decode cX6_share 13 = .ok (.iload_n 1, 1) := by decide +kernel
theorem dX6_share_14 : decode cX6_share 14 = .ok (.invokestatic 65, 3) := by decide +kernel
theorem dX6_share_17 : decode cX6_share 17 = .ok (.ifCond .eq 25, 3) := by decide +kernel
theorem dX6_share_20 : decode cX6_share 20 = .ok (.iload_n 3, 1) := by decide +kernel
theorem dX6_share_21 : decode cX6_share 21 = .ok (.iconst 1, 1) := by decide +kernel
theorem dX6_share_22 : decode cX6_share 22 = .ok (.if_icmp .lt 20, 3) := by decide +kernel
theorem dX6_share_25 : decode cX6_share 25 = .ok (.iload_n 3, 1) := by decide +kernel
theorem dX6_share_26 : decode cX6_share 26 = .ok (.bipush 8, 2) := by decide +kernel
theorem dX6_share_28 : decode cX6_share 28 = .ok (.if_icmp .gt 14, 3) := by decide +kernel
theorem dX6_share_31 : decode cX6_share 31 = .ok (.iload 4, 2) := by decide +kernel
theorem dX6_share_33 : decode cX6_share 33 = .ok (.ifCond .lt 9, 3) := by decide +kernel
theorem dX6_share_36 : decode cX6_share 36 = .ok (.iload 4, 2) := by decide +kernel
theorem dX6_share_38 : decode cX6_share 38 = .ok (.iload_n 3, 1) := by decide +kernel
theorem dX6_share_39 : decode cX6_share 39 = .ok (.if_icmp .lt 6, 3) := by decide +kernel
theorem dX6_share_42 : decode cX6_share 42 = .ok (.ldc 69, 2) := by decide +kernel
theorem dX6_share_44 : decode cX6_share 44 = .ok (.ireturn, 1) := by decide +kernel
theorem dX6_share_45 : decode cX6_share 45 = .ok (.aload_n 0, 1) := by decide +kernel
theorem dX6_share_46 : decode cX6_share 46 = .ok (.getfield 10, 3) := by decide +kernel
theorem dX6_share_49 : decode cX6_share 49 = .ok (.iload_n 1, 1) := by decide +kernel
theorem dX6_share_50 : decode cX6_share 50 = .ok (.iload_n 2, 1) := by decide +kernel
theorem dX6_share_51 : decode cX6_share 51 = .ok (.iload_n 3, 1) := by decide +kernel
theorem dX6_share_52 : decode cX6_share 52 = .ok (.invokevirtual 81, 3) := by decide +kernel
theorem dX6_share_55 : decode cX6_share 55 = .ok (.istore 5, 2) := by decide +kernel
theorem dX6_share_57 : decode cX6_share 57 = .ok (.iload 5, 2) := by decide +kernel
theorem dX6_share_59 : decode cX6_share 59 = .ok (.ifCond .eq 10, 3) := by decide +kernel
theorem dX6_share_62 : decode cX6_share 62 = .ok (.aload_n 0, 1) := by decide +kernel
theorem dX6_share_63 : decode cX6_share 63 = .ok (.iload 5, 2) := by decide +kernel
theorem dX6_share_65 : decode cX6_share 65 = .ok (.invokevirtual 70, 3) := by decide +kernel
theorem dX6_share_68 : decode cX6_share 68 = .ok (.ireturn, 1) := by decide +kernel
theorem dX6_share_69 : decode cX6_share 69 = .ok (.aload_n 0, 1) := by decide +kernel
theorem dX6_share_70 : decode cX6_share 70 = .ok (.aload_n 0, 1) := by decide +kernel
theorem dX6_share_71 : decode cX6_share 71 = .ok (.iload_n 1, 1) := by decide +kernel
theorem dX6_share_72 : decode cX6_share 72 = .ok (.iload_n 2, 1) := by decide +kernel
theorem dX6_share_73 : decode cX6_share 73 = .ok (.iload_n 3, 1) := by decide +kernel
theorem dX6_share_74 : decode cX6_share 74 = .ok (.iload 4, 2) := by decide +kernel
theorem dX6_share_76 : decode cX6_share 76 = .ok (.invokevirtual 243, 3) := by decide +kernel
theorem dX6_share_79 : decode cX6_share 79 = .ok (.invokevirtual 78, 3) := by decide +kernel
theorem dX6_share_82 : decode cX6_share 82 = .ok (.ireturn, 1) := by decide +kernel
theorem dX6_shut_0 : decode cX6_shut 0 = .ok (.aload_n 0, 1) := by decide +kernel
theorem dX6_shut_1 : decode cX6_shut 1 = .ok (.getfield 26, 3) := by decide +kernel
theorem dX6_shut_4 : decode cX6_shut 4 = .ok (.iload_n 1, 1) := by decide +kernel
theorem dX6_shut_5 : decode cX6_shut 5 = .ok (.invokevirtual 156, 3) := by decide +kernel
theorem dX6_shut_8 : decode cX6_shut 8 = .ok (.ifCond .eq 35, 3) := by decide +kernel
theorem dX6_shut_11 : decode cX6_shut 11 = .ok (.iload_n 2, 1) := by decide +kernel
theorem dX6_shut_12 : decode cX6_shut 12 = .ok (.ifCond .lt 31, 3) := by decide +kernel
theorem dX6_shut_15 : decode cX6_shut 15 = .ok (.iload_n 2, 1) := by decide +kernel
theorem dX6_shut_16 : decode cX6_shut 16 = .ok (.sipush 999, 3) := by decide +kernel
theorem dX6_shut_19 : decode cX6_shut 19 = .ok (.if_icmp .gt 24, 3) := by decide +kernel
theorem dX6_shut_22 : decode cX6_shut 22 = .ok (.iload_n 3, 1) := by decide +kernel
theorem dX6_shut_23 : decode cX6_shut 23 = .ok (.ifCond .lt 20, 3) := by decide +kernel
theorem dX6_shut_26 : decode cX6_shut 26 = .ok (.iload_n 3, 1) := by decide +kernel
theorem dX6_shut_27 : decode cX6_shut 27 = .ok (.bipush 10, 2) := by decide +kernel
theorem dX6_shut_29 : decode cX6_shut 29 = .ok (.if_icmp .gt 14, 3) := by decide +kernel
theorem dX6_shut_32 : decode cX6_shut 32 = .ok (.iload 4, 2) := by decide +kernel
theorem dX6_shut_34 : decode cX6_shut 34 = .ok (.ifCond .lt 9, 3) := by decide +kernel
theorem dX6_shut_37 : decode cX6_shut 37 = .ok (.iload 4, 2) := by decide +kernel
theorem dX6_shut_39 : decode cX6_shut 39 = .ok (.iconst 1, 1) := by decide +kernel
theorem dX6_shut_40 : decode cX6_shut 40 = .ok (.if_icmp .le 6, 3) := by decide +kernel
theorem dX6_shut_43 : decode cX6_shut 43 = .ok (.ldc 69, 2) := by decide +kernel
theorem dX6_shut_45 : decode cX6_shut 45 = .ok (.ireturn, 1) := by decide +kernel
theorem dX6_shut_46 : decode cX6_shut 46 = .ok (.aload_n 0, 1) := by decide +kernel
theorem dX6_shut_47 : decode cX6_shut 47 = .ok (.getfield 47, 3) := by decide +kernel
theorem dX6_shut_50 : decode cX6_shut 50 = .ok (.aload_n 0, 1) := by decide +kernel
theorem dX6_shut_51 : decode cX6_shut 51 = .ok (.getfield 26, 3) := by decide +kernel
theorem dX6_shut_54 : decode cX6_shut 54 = .ok (.iload_n 1, 1) := by decide +kernel
theorem dX6_shut_55 : decode cX6_shut 55 = .ok (.iload_n 2, 1) := by decide +kernel
theorem dX6_shut_56 : decode cX6_shut 56 = .ok (.invokevirtual 247, 3) := by decide +kernel
theorem dX6_shut_59 : decode cX6_shut 59 = .ok (.aload_n 0, 1) := by decide +kernel
theorem dX6_shut_60 : decode cX6_shut 60 = .ok (.getfield 47, 3) := by decide +kernel
theorem dX6_shut_63 : decode cX6_shut 63 = .ok (.aload_n 0, 1) := by decide +kernel
theorem dX6_shut_64 : decode cX6_shut 64 = .ok (.getfield 26, 3) := by decide +kernel
theorem dX6_shut_67 : decode cX6_shut 67 = .ok (.getfield 173, 3) := by decide +kernel
theorem dX6_shut_70 : decode cX6_shut 70 = .ok (.iload_n 3, 1) := by decide +kernel
theorem dX6_shut_71 : decode cX6_shut 71 = .ok (.invokevirtual 251, 3) := by decide +kernel
theorem dX6_shut_74 : decode cX6_shut 74 = .ok (.istore 5, 2) := by decide +kernel
theorem dX6_shut_76 : decode cX6_shut 76 = .ok (.bipush 10, 2) := by decide +kernel
theorem dX6_shut_78 : decode cX6_shut 78 = .ok (.aload_n 0, 1) := by decide +kernel
theorem dX6_shut_79 : decode cX6_shut 79 = .ok (.getfield 26, 3) := by decide +kernel
theorem dX6_shut_82 : decode cX6_shut 82 = .ok (.getfield 173, 3) := by decide +kernel
theorem dX6_shut_85 : decode cX6_shut 85 = .ok (.invokestatic 255, 3) := by decide +kernel
theorem dX6_shut_88 : decode cX6_shut 88 = .ok (.invokestatic 260, 3) := by decide +kernel
theorem dX6_shut_91 : decode cX6_shut 91 = .ok (.istore 6, 2) := by decide +kernel
theorem dX6_shut_93 : decode cX6_shut 93 = .ok (.iconst 1, 1) := by decide +kernel
theorem dX6_shut_94 : decode cX6_shut 94 = .ok (.iload 5, 2) := by decide +kernel
theorem dX6_shut_96 : decode cX6_shut 96 = .ok (.iload 6, 2) := by decide +kernel
theorem dX6_shut_98 : decode cX6_shut 98 = .ok (.invokestatic 263, 3) := by decide +kernel
theorem dX6_shut_101 : decode cX6_shut 101 = .ok (.invokestatic 266, 3) := by decide +kernel
theorem dX6_shut_104 : decode cX6_shut 104 = .ok (.istore 7, 2) := by decide +kernel
theorem dX6_shut_106 : decode cX6_shut 106 = .ok (.iload 4, 2) := by decide +kernel
theorem dX6_shut_108 : decode cX6_shut 108 = .ok (.ifCond .ne 8, 3) := by decide +kernel
theorem dX6_shut_111 : decode cX6_shut 111 = .ok (.iload 5, 2) := by decide +kernel
theorem dX6_shut_113 : decode cX6_shut 113 = .ok (.goto 5, 3) := by decide +kernel
theorem dX6_shut_116 : decode cX6_shut 116 = .ok (.iload 6, 2) := by decide +kernel
theorem dX6_shut_118 : decode cX6_shut 118 = .ok (.iload 7, 2) := by decide +kernel
theorem dX6_shut_120 : decode cX6_shut 120 = .ok (.idiv, 1) := by decide +kernel
theorem dX6_shut_121 : decode cX6_shut 121 = .ok (.ireturn, 1) := by decide +kernel
theorem dX6_drawn_0 : decode cX6_drawn 0 = .ok (.aload_n 0, 1) := by decide +kernel
theorem dX6_drawn_1 : decode cX6_drawn 1 = .ok (.getfield 26, 3) := by decide +kernel
theorem dX6_drawn_4 : decode cX6_drawn 4 = .ok (.invokevirtual 163, 3) := by decide +kernel
theorem dX6_drawn_7 : decode cX6_drawn 7 = .ok (.ifCond .ne 6, 3) := by decide +kernel
theorem dX6_drawn_10 : decode cX6_drawn 10 = .ok (.ldc 135, 2) := by decide +kernel
theorem dX6_drawn_12 : decode cX6_drawn 12 = .ok (.ireturn, 1) := by decide +kernel
theorem dX6_drawn_13 : decode cX6_drawn 13 = .ok (.iload_n 1, 1) := by decide +kernel
theorem dX6_drawn_14 : decode cX6_drawn 14 = .ok (.ifCond .lt 30, 3) := by decide +kernel
theorem dX6_drawn_17 : decode cX6_drawn 17 = .ok (.iload_n 1, 1) := by decide +kernel
theorem dX6_drawn_18 : decode cX6_drawn 18 = .ok (.bipush 60, 2) := by decide +kernel
theorem dX6_drawn_20 : decode cX6_drawn 20 = .ok (.if_icmp .gt 24, 3) := by decide +kernel
theorem dX6_drawn_23 : decode cX6_drawn 23 = .ok (.iload_n 2, 1) := by decide +kernel
theorem dX6_drawn_24 : decode cX6_drawn 24 = .ok (.iconst 1, 1) := by decide +kernel
theorem dX6_drawn_25 : decode cX6_drawn 25 = .ok (.if_icmp .lt 19, 3) := by decide +kernel
theorem dX6_drawn_28 : decode cX6_drawn 28 = .ok (.iload_n 2, 1) := by decide +kernel
theorem dX6_drawn_29 : decode cX6_drawn 29 = .ok (.ldc_w 271, 3) := by decide +kernel
theorem dX6_drawn_32 : decode cX6_drawn 32 = .ok (.if_icmp .gt 12, 3) := by decide +kernel
theorem dX6_drawn_35 : decode cX6_drawn 35 = .ok (.iload_n 3, 1) := by decide +kernel
theorem dX6_drawn_36 : decode cX6_drawn 36 = .ok (.ifCond .lt 8, 3) := by decide +kernel
theorem dX6_drawn_39 : decode cX6_drawn 39 = .ok (.iload_n 3, 1) := by decide +kernel
theorem dX6_drawn_40 : decode cX6_drawn 40 = .ok (.iconst 1, 1) := by decide +kernel
theorem dX6_drawn_41 : decode cX6_drawn 41 = .ok (.if_icmp .le 6, 3) := by decide +kernel
theorem dX6_drawn_44 : decode cX6_drawn 44 = .ok (.ldc 69, 2) := by decide +kernel
theorem dX6_drawn_46 : decode cX6_drawn 46 = .ok (.ireturn, 1) := by decide +kernel
theorem dX6_drawn_47 : decode cX6_drawn 47 = .ok (.aload_n 0, 1) := by decide +kernel
theorem dX6_drawn_48 : decode cX6_drawn 48 = .ok (.getfield 30, 3) := by decide +kernel
theorem dX6_drawn_51 : decode cX6_drawn 51 = .ok (.aload_n 0, 1) := by decide +kernel
theorem dX6_drawn_52 : decode cX6_drawn 52 = .ok (.getfield 26, 3) := by decide +kernel
theorem dX6_drawn_55 : decode cX6_drawn 55 = .ok (.invokevirtual 119, 3) := by decide +kernel
theorem dX6_drawn_58 : decode cX6_drawn 58 = .ok (.iload_n 2, 1) := by decide +kernel
theorem dX6_drawn_59 : decode cX6_drawn 59 = .ok (.i2l, 1) := by decide +kernel
theorem dX6_drawn_60 : decode cX6_drawn 60 = .ok (.lstore 4, 2) := by decide +kernel
theorem dX6_drawn_62 : decode cX6_drawn 62 = .ok (.iconst 0, 1) := by decide +kernel
theorem dX6_drawn_63 : decode cX6_drawn 63 = .ok (.istore 6, 2) := by decide +kernel
theorem dX6_drawn_65 : decode cX6_drawn 65 = .ok (.iload 6, 2) := by decide +kernel
theorem dX6_drawn_67 : decode cX6_drawn 67 = .ok (.iload_n 1, 1) := by decide +kernel
theorem dX6_drawn_68 : decode cX6_drawn 68 = .ok (.if_icmp .ge 30, 3) := by decide +kernel
theorem dX6_drawn_71 : decode cX6_drawn 71 = .ok (.lload 4, 2) := by decide +kernel
theorem dX6_drawn_73 : decode cX6_drawn 73 = .ok (.ldc2_w 272, 3) := by decide +kernel
theorem dX6_drawn_76 : decode cX6_drawn 76 = .ok (.lmul, 1) := by decide +kernel
theorem dX6_drawn_77 : decode cX6_drawn 77 = .ok (.ldc2_w 274, 3) := by decide +kernel
theorem dX6_drawn_80 : decode cX6_drawn 80 = .ok (.lrem, 1) := by decide +kernel
theorem dX6_drawn_81 : decode cX6_drawn 81 = .ok (.lstore 4, 2) := by decide +kernel
theorem dX6_drawn_83 : decode cX6_drawn 83 = .ok (.aload_n 0, 1) := by decide +kernel
theorem dX6_drawn_84 : decode cX6_drawn 84 = .ok (.getfield 30, 3) := by decide +kernel
theorem dX6_drawn_87 : decode cX6_drawn 87 = .ok (.lload 4, 2) := by decide +kernel
theorem dX6_drawn_89 : decode cX6_drawn 89 = .ok (.invokevirtual 276, 3) := by decide +kernel
theorem dX6_drawn_92 : decode cX6_drawn 92 = .ok (.iinc 6 1, 3) := by decide +kernel
theorem dX6_drawn_95 : decode cX6_drawn 95 = .ok (.goto (-30), 3) := by decide +kernel
theorem dX6_drawn_98 : decode cX6_drawn 98 = .ok (.iload_n 3, 1) := by decide +kernel
theorem dX6_drawn_99 : decode cX6_drawn 99 = .ok (.ifCond .ne 13, 3) := by decide +kernel
theorem dX6_drawn_102 : decode cX6_drawn 102 = .ok (.aload_n 0, 1) := by decide +kernel
theorem dX6_drawn_103 : decode cX6_drawn 103 = .ok (.getfield 30, 3) := by decide +kernel
theorem dX6_drawn_106 : decode cX6_drawn 106 = .ok (.getfield 145, 3) := by decide +kernel
theorem dX6_drawn_109 : decode cX6_drawn 109 = .ok (.goto 10, 3) := by decide +kernel
theorem dX6_drawn_112 : decode cX6_drawn 112 = .ok (.aload_n 0, 1) := by decide +kernel
theorem dX6_drawn_113 : decode cX6_drawn 113 = .ok (.getfield 30, 3) := by decide +kernel
theorem dX6_drawn_116 : decode cX6_drawn 116 = .ok (.getfield 139, 3) := by decide +kernel
theorem dX6_drawn_119 : decode cX6_drawn 119 = .ok (.ireturn, 1) := by decide +kernel
theorem dX6_image_0 : decode cX6_image 0 = .ok (.iload_n 1, 1) := by decide +kernel
theorem dX6_image_1 : decode cX6_image 1 = .ok (.ifCond .lt 8, 3) := by decide +kernel
theorem dX6_image_4 : decode cX6_image 4 = .ok (.iload_n 1, 1) := by decide +kernel
theorem dX6_image_5 : decode cX6_image 5 = .ok (.iconst 2, 1) := by decide +kernel
theorem dX6_image_6 : decode cX6_image 6 = .ok (.if_icmp .lt 6, 3) := by decide +kernel
theorem dX6_image_9 : decode cX6_image 9 = .ok (.ldc 69, 2) := by decide +kernel
theorem dX6_image_11 : decode cX6_image 11 = .ok (.ireturn, 1) := by decide +kernel
theorem dX6_image_12 : decode cX6_image 12 = .ok (.aload_n 0, 1) := by decide +kernel
theorem dX6_image_13 : decode cX6_image 13 = .ok (.getfield 26, 3) := by decide +kernel
theorem dX6_image_16 : decode cX6_image 16 = .ok (.invokevirtual 163, 3) := by decide +kernel
theorem dX6_image_19 : decode cX6_image 19 = .ok (.ifCond .ne 6, 3) := by decide +kernel
theorem dX6_image_22 : decode cX6_image 22 = .ok (.ldc 135, 2) := by decide +kernel
theorem dX6_image_24 : decode cX6_image 24 = .ok (.ireturn, 1) := by decide +kernel
theorem dX6_image_25 : decode cX6_image 25 = .ok (.aload_n 0, 1) := by decide +kernel
theorem dX6_image_26 : decode cX6_image 26 = .ok (.getfield 33, 3) := by decide +kernel
theorem dX6_image_29 : decode cX6_image 29 = .ok (.iload_n 1, 1) := by decide +kernel
theorem dX6_image_30 : decode cX6_image 30 = .ok (.aaload, 1) := by decide +kernel
theorem dX6_image_31 : decode cX6_image 31 = .ok (.aload_n 0, 1) := by decide +kernel
theorem dX6_image_32 : decode cX6_image 32 = .ok (.getfield 26, 3) := by decide +kernel
theorem dX6_image_35 : decode cX6_image 35 = .ok (.invokevirtual 119, 3) := by decide +kernel
theorem dX6_image_38 : decode cX6_image 38 = .ok (.iconst 1, 1) := by decide +kernel
theorem dX6_image_39 : decode cX6_image 39 = .ok (.ireturn, 1) := by decide +kernel
theorem dX6_restore_0 : decode cX6_restore 0 = .ok (.iload_n 1, 1) := by decide +kernel
theorem dX6_restore_1 : decode cX6_restore 1 = .ok (.ifCond .lt 8, 3) := by decide +kernel
theorem dX6_restore_4 : decode cX6_restore 4 = .ok (.iload_n 1, 1) := by decide +kernel
theorem dX6_restore_5 : decode cX6_restore 5 = .ok (.iconst 2, 1) := by decide +kernel
theorem dX6_restore_6 : decode cX6_restore 6 = .ok (.if_icmp .lt 6, 3) := by decide +kernel
theorem dX6_restore_9 : decode cX6_restore 9 = .ok (.ldc 69, 2) := by decide +kernel
theorem dX6_restore_11 : decode cX6_restore 11 = .ok (.ireturn, 1) := by decide +kernel
theorem dX6_restore_12 : decode cX6_restore 12 = .ok (.aload_n 0, 1) := by decide +kernel
theorem dX6_restore_13 : decode cX6_restore 13 = .ok (.getfield 33, 3) := by decide +kernel
theorem dX6_restore_16 : decode cX6_restore 16 = .ok (.iload_n 1, 1) := by decide +kernel
theorem dX6_restore_17 : decode cX6_restore 17 = .ok (.aaload, 1) := by decide +kernel
theorem dX6_restore_18 : decode cX6_restore 18 = .ok (.invokevirtual 163, 3) := by decide +kernel
theorem dX6_restore_21 : decode cX6_restore 21 = .ok (.ifCond .ne 6, 3) := by decide +kernel
theorem dX6_restore_24 : decode cX6_restore 24 = .ok (.ldc 135, 2) := by decide +kernel
theorem dX6_restore_26 : decode cX6_restore 26 = .ok (.ireturn, 1) := by decide +kernel
theorem dX6_restore_27 : decode cX6_restore 27 = .ok (.aload_n 0, 1) := by decide +kernel
theorem dX6_restore_28 : decode cX6_restore 28 = .ok (.getfield 26, 3) := by decide +kernel
theorem dX6_restore_31 : decode cX6_restore 31 = .ok (.aload_n 0, 1) := by decide +kernel
theorem dX6_restore_32 : decode cX6_restore 32 = .ok (.getfield 33, 3) := by decide +kernel
theorem dX6_restore_35 : decode cX6_restore 35 = .ok (.iload_n 1, 1) := by decide +kernel
theorem dX6_restore_36 : decode cX6_restore 36 = .ok (.aaload, 1) := by decide +kernel
theorem dX6_restore_37 : decode cX6_restore 37 = .ok (.invokevirtual 119, 3) := by decide +kernel
theorem dX6_restore_40 : decode cX6_restore 40 = .ok (.aload_n 0, 1) := by decide +kernel
theorem dX6_restore_41 : decode cX6_restore 41 = .ok (.getfield 40, 3) := by decide +kernel
theorem dX6_restore_44 : decode cX6_restore 44 = .ok (.invokevirtual 123, 3) := by decide +kernel
theorem dX6_restore_47 : decode cX6_restore 47 = .ok (.iconst 1, 1) := by decide +kernel
theorem dX6_restore_48 : decode cX6_restore 48 = .ok (.ireturn, 1) := by decide +kernel
theorem dX6_kind_0 : decode cX6_kind 0 = .ok (.aload_n 0, 1) := by decide +kernel
theorem dX6_kind_1 : decode cX6_kind 1 = .ok (.getfield 26, 3) := by decide +kernel
theorem dX6_kind_4 : decode cX6_kind 4 = .ok (.iload_n 1, 1) := by decide +kernel
theorem dX6_kind_5 : decode cX6_kind 5 = .ok (.invokevirtual 156, 3) := by decide +kernel
theorem dX6_kind_8 : decode cX6_kind 8 = .ok (.ifCond .eq 15, 3) := by decide +kernel
theorem dX6_kind_11 : decode cX6_kind 11 = .ok (.aload_n 0, 1) := by decide +kernel
theorem dX6_kind_12 : decode cX6_kind 12 = .ok (.getfield 26, 3) := by decide +kernel
theorem dX6_kind_15 : decode cX6_kind 15 = .ok (.getfield 240, 3) := by decide +kernel
theorem dX6_kind_18 : decode cX6_kind 18 = .ok (.iload_n 1, 1) := by decide +kernel
theorem dX6_kind_19 : decode cX6_kind 19 = .ok (.iaload, 1) := by decide +kernel
theorem dX6_kind_20 : decode cX6_kind 20 = .ok (.goto 5, 3) := by decide +kernel
theorem dX6_kind_23 : decode cX6_kind 23 = .ok (.ldc 69, 2) := by decide +kernel
theorem dX6_kind_25 : decode cX6_kind 25 = .ok (.ireturn, 1) := by decide +kernel
theorem dX6_as_0 : decode cX6_as 0 = .ok (.aload_n 0, 1) := by decide +kernel
theorem dX6_as_1 : decode cX6_as 1 = .ok (.getfield 26, 3) := by decide +kernel
theorem dX6_as_4 : decode cX6_as 4 = .ok (.iload_n 1, 1) := by decide +kernel
theorem dX6_as_5 : decode cX6_as 5 = .ok (.invokevirtual 156, 3) := by decide +kernel
theorem dX6_as_8 : decode cX6_as 8 = .ok (.ifCond .eq 12, 3) := by decide +kernel
theorem dX6_as_11 : decode cX6_as 11 = .ok (.iload_n 2, 1) := by decide +kernel
theorem dX6_as_12 : decode cX6_as 12 = .ok (.ifCond .lt 8, 3) := by decide +kernel
theorem dX6_as_15 : decode cX6_as 15 = .ok (.iload_n 2, 1) := by decide +kernel
theorem dX6_as_16 : decode cX6_as 16 = .ok (.iconst 5, 1) := by decide +kernel
theorem dX6_as_17 : decode cX6_as 17 = .ok (.if_icmp .le 6, 3) := by decide +kernel
theorem dX6_as_20 : decode cX6_as 20 = .ok (.ldc 69, 2) := by decide +kernel
theorem dX6_as_22 : decode cX6_as 22 = .ok (.ireturn, 1) := by decide +kernel
theorem dX6_as_23 : decode cX6_as 23 = .ok (.aload_n 0, 1) := by decide +kernel
theorem dX6_as_24 : decode cX6_as 24 = .ok (.getfield 26, 3) := by decide +kernel
theorem dX6_as_27 : decode cX6_as 27 = .ok (.getfield 240, 3) := by decide +kernel
theorem dX6_as_30 : decode cX6_as 30 = .ok (.iload_n 1, 1) := by decide +kernel
theorem dX6_as_31 : decode cX6_as 31 = .ok (.iaload, 1) := by decide +kernel
theorem dX6_as_32 : decode cX6_as 32 = .ok (.iload_n 2, 1) := by decide +kernel
theorem dX6_as_33 : decode cX6_as 33 = .ok (.invokestatic 280, 3) := by decide +kernel
theorem dX6_as_36 : decode cX6_as 36 = .ok (.ifCond .ne 9, 3) := by decide +kernel
theorem dX6_as_39 : decode cX6_as 39 = .ok (.aload_n 0, 1) := by decide +kernel
theorem dX6_as_40 : decode cX6_as 40 = .ok (.iconst 3, 1) := by decide +kernel
theorem dX6_as_41 : decode cX6_as 41 = .ok (.invokevirtual 70, 3) := by decide +kernel
theorem dX6_as_44 : decode cX6_as 44 = .ok (.ireturn, 1) := by decide +kernel
theorem dX6_as_45 : decode cX6_as 45 = .ok (.aload_n 0, 1) := by decide +kernel
theorem dX6_as_46 : decode cX6_as 46 = .ok (.iload_n 1, 1) := by decide +kernel
theorem dX6_as_47 : decode cX6_as 47 = .ok (.invokevirtual 78, 3) := by decide +kernel
theorem dX6_as_50 : decode cX6_as 50 = .ok (.ireturn, 1) := by decide +kernel
theorem dX6_ask_0 : decode cX6_ask 0 = .ok (.aload_n 0, 1) := by decide +kernel
theorem dX6_ask_1 : decode cX6_ask 1 = .ok (.getfield 26, 3) := by decide +kernel
theorem dX6_ask_4 : decode cX6_ask 4 = .ok (.iload_n 1, 1) := by decide +kernel
theorem dX6_ask_5 : decode cX6_ask 5 = .ok (.invokevirtual 156, 3) := by decide +kernel
theorem dX6_ask_8 : decode cX6_ask 8 = .ok (.ifCond .eq 12, 3) := by decide +kernel
theorem dX6_ask_11 : decode cX6_ask 11 = .ok (.iload_n 2, 1) := by decide +kernel
theorem dX6_ask_12 : decode cX6_ask 12 = .ok (.ifCond .lt 8, 3) := by decide +kernel
theorem dX6_ask_15 : decode cX6_ask 15 = .ok (.iload_n 2, 1) := by decide +kernel
theorem dX6_ask_16 : decode cX6_ask 16 = .ok (.iconst 1, 1) := by decide +kernel
theorem dX6_ask_17 : decode cX6_ask 17 = .ok (.if_icmp .le 6, 3) := by decide +kernel
theorem dX6_ask_20 : decode cX6_ask 20 = .ok (.ldc 69, 2) := by decide +kernel
theorem dX6_ask_22 : decode cX6_ask 22 = .ok (.ireturn, 1) := by decide +kernel
theorem dX6_ask_23 : decode cX6_ask 23 = .ok (.aload_n 0, 1) := by decide +kernel
theorem dX6_ask_24 : decode cX6_ask 24 = .ok (.getfield 54, 3) := by decide +kernel
theorem dX6_ask_27 : decode cX6_ask 27 = .ok (.aload_n 0, 1) := by decide +kernel
theorem dX6_ask_28 : decode cX6_ask 28 = .ok (.getfield 26, 3) := by decide +kernel
theorem dX6_ask_31 : decode cX6_ask 31 = .ok (.iload_n 1, 1) := by decide +kernel
theorem dX6_ask_32 : decode cX6_ask 32 = .ok (.iload_n 2, 1) := by decide +kernel
theorem dX6_ask_33 : decode cX6_ask 33 = .ok (.invokevirtual 284, 3) := by decide +kernel
theorem dX6_ask_36 : decode cX6_ask 36 = .ok (.ireturn, 1) := by decide +kernel
theorem dX6_trace_0 : decode cX6_trace 0 = .ok (.iload_n 1, 1) := by decide +kernel
theorem dX6_trace_1 : decode cX6_trace 1 = .ok (.ifCond .lt 14, 3) := by decide +kernel
theorem dX6_trace_4 : decode cX6_trace 4 = .ok (.iload_n 1, 1) := by decide +kernel
theorem dX6_trace_5 : decode cX6_trace 5 = .ok (.aload_n 0, 1) := by decide +kernel
theorem dX6_trace_6 : decode cX6_trace 6 = .ok (.getfield 54, 3) := by decide +kernel
theorem dX6_trace_9 : decode cX6_trace 9 = .ok (.getfield 288, 3) := by decide +kernel
theorem dX6_trace_12 : decode cX6_trace 12 = .ok (.if_icmp .lt 8, 3) := by decide +kernel
theorem dX6_trace_15 : decode cX6_trace 15 = .ok (.ldc 198, 2) := by decide +kernel
theorem dX6_trace_17 : decode cX6_trace 17 = .ok (.goto 12, 3) := by decide +kernel
theorem dX6_trace_20 : decode cX6_trace 20 = .ok (.aload_n 0, 1) := by decide +kernel
theorem dX6_trace_21 : decode cX6_trace 21 = .ok (.getfield 54, 3) := by decide +kernel
theorem dX6_trace_24 : decode cX6_trace 24 = .ok (.getfield 291, 3) := by decide +kernel
theorem dX6_trace_27 : decode cX6_trace 27 = .ok (.iload_n 1, 1) := by decide +kernel
theorem dX6_trace_28 : decode cX6_trace 28 = .ok (.iaload, 1) := by decide +kernel
theorem dX6_trace_29 : decode cX6_trace 29 = .ok (.ireturn, 1) := by decide +kernel
theorem dX6_count_0 : decode cX6_count 0 = .ok (.iload_n 1, 1) := by decide +kernel
theorem dX6_count_1 : decode cX6_count 1 = .ok (.tableswitch 135 0 9 #[55, 63, 71, 79, 87, 95, 103, 111, 119, 127], 55) := by decide +kernel
theorem dX6_count_56 : decode cX6_count 56 = .ok (.aload_n 0, 1) := by decide +kernel
theorem dX6_count_57 : decode cX6_count 57 = .ok (.getfield 10, 3) := by decide +kernel
theorem dX6_count_60 : decode cX6_count 60 = .ok (.invokevirtual 294, 3) := by decide +kernel
theorem dX6_count_63 : decode cX6_count 63 = .ok (.ireturn, 1) := by decide +kernel
theorem dX6_count_64 : decode cX6_count 64 = .ok (.aload_n 0, 1) := by decide +kernel
theorem dX6_count_65 : decode cX6_count 65 = .ok (.getfield 26, 3) := by decide +kernel
theorem dX6_count_68 : decode cX6_count 68 = .ok (.getfield 297, 3) := by decide +kernel
theorem dX6_count_71 : decode cX6_count 71 = .ok (.ireturn, 1) := by decide +kernel
theorem dX6_count_72 : decode cX6_count 72 = .ok (.aload_n 0, 1) := by decide +kernel
theorem dX6_count_73 : decode cX6_count 73 = .ok (.getfield 26, 3) := by decide +kernel
theorem dX6_count_76 : decode cX6_count 76 = .ok (.getfield 126, 3) := by decide +kernel
theorem dX6_count_79 : decode cX6_count 79 = .ok (.ireturn, 1) := by decide +kernel
theorem dX6_count_80 : decode cX6_count 80 = .ok (.aload_n 0, 1) := by decide +kernel
theorem dX6_count_81 : decode cX6_count 81 = .ok (.getfield 26, 3) := by decide +kernel
theorem dX6_count_84 : decode cX6_count 84 = .ok (.getfield 136, 3) := by decide +kernel
theorem dX6_count_87 : decode cX6_count 87 = .ok (.ireturn, 1) := by decide +kernel
theorem dX6_count_88 : decode cX6_count 88 = .ok (.aload_n 0, 1) := by decide +kernel
theorem dX6_count_89 : decode cX6_count 89 = .ok (.getfield 26, 3) := by decide +kernel
theorem dX6_count_92 : decode cX6_count 92 = .ok (.getfield 139, 3) := by decide +kernel
theorem dX6_count_95 : decode cX6_count 95 = .ok (.ireturn, 1) := by decide +kernel
theorem dX6_count_96 : decode cX6_count 96 = .ok (.aload_n 0, 1) := by decide +kernel
theorem dX6_count_97 : decode cX6_count 97 = .ok (.getfield 26, 3) := by decide +kernel
theorem dX6_count_100 : decode cX6_count 100 = .ok (.getfield 142, 3) := by decide +kernel
theorem dX6_count_103 : decode cX6_count 103 = .ok (.ireturn, 1) := by decide +kernel
theorem dX6_count_104 : decode cX6_count 104 = .ok (.aload_n 0, 1) := by decide +kernel
theorem dX6_count_105 : decode cX6_count 105 = .ok (.getfield 40, 3) := by decide +kernel
theorem dX6_count_108 : decode cX6_count 108 = .ok (.getfield 176, 3) := by decide +kernel
theorem dX6_count_111 : decode cX6_count 111 = .ok (.ireturn, 1) := by decide +kernel
theorem dX6_count_112 : decode cX6_count 112 = .ok (.aload_n 0, 1) := by decide +kernel
theorem dX6_count_113 : decode cX6_count 113 = .ok (.getfield 19, 3) := by decide +kernel
theorem dX6_count_116 : decode cX6_count 116 = .ok (.getfield 102, 3) := by decide +kernel
theorem dX6_count_119 : decode cX6_count 119 = .ok (.ireturn, 1) := by decide +kernel
theorem dX6_count_120 : decode cX6_count 120 = .ok (.aload_n 0, 1) := by decide +kernel
theorem dX6_count_121 : decode cX6_count 121 = .ok (.getfield 26, 3) := by decide +kernel
theorem dX6_count_124 : decode cX6_count 124 = .ok (.getfield 145, 3) := by decide +kernel
theorem dX6_count_127 : decode cX6_count 127 = .ok (.ireturn, 1) := by decide +kernel
theorem dX6_count_128 : decode cX6_count 128 = .ok (.aload_n 0, 1) := by decide +kernel
theorem dX6_count_129 : decode cX6_count 129 = .ok (.getfield 26, 3) := by decide +kernel
theorem dX6_count_132 : decode cX6_count 132 = .ok (.getfield 173, 3) := by decide +kernel
theorem dX6_count_135 : decode cX6_count 135 = .ok (.ireturn, 1) := by decide +kernel
theorem dX6_count_136 : decode cX6_count 136 = .ok (.ldc 69, 2) := by decide +kernel
theorem dX6_count_138 : decode cX6_count 138 = .ok (.ireturn, 1) := by decide +kernel
theorem dX6_status_0 : decode cX6_status 0 = .ok (.aload_n 0, 1) := by decide +kernel
theorem dX6_status_1 : decode cX6_status 1 = .ok (.getfield 58, 3) := by decide +kernel
theorem dX6_status_4 : decode cX6_status 4 = .ok (.ireturn, 1) := by decide +kernel
theorem dX6_found_0 : decode cX6_found 0 = .ok (.aload_n 0, 1) := by decide +kernel
theorem dX6_found_1 : decode cX6_found 1 = .ok (.iload_n 1, 1) := by decide +kernel
theorem dX6_found_2 : decode cX6_found 2 = .ok (.putfield 58, 3) := by decide +kernel
theorem dX6_found_5 : decode cX6_found 5 = .ok (.ldc_w 300, 3) := by decide +kernel
theorem dX6_found_8 : decode cX6_found 8 = .ok (.iload_n 1, 1) := by decide +kernel
theorem dX6_found_9 : decode cX6_found 9 = .ok (.isub, 1) := by decide +kernel
theorem dX6_found_10 : decode cX6_found 10 = .ok (.ireturn, 1) := by decide +kernel
theorem dX6_unfound_0 : decode cX6_unfound 0 = .ok (.aload_n 0, 1) := by decide +kernel
theorem dX6_unfound_1 : decode cX6_unfound 1 = .ok (.iconst 0, 1) := by decide +kernel
theorem dX6_unfound_2 : decode cX6_unfound 2 = .ok (.putfield 58, 3) := by decide +kernel
theorem dX6_unfound_5 : decode cX6_unfound 5 = .ok (.iload_n 1, 1) := by decide +kernel
theorem dX6_unfound_6 : decode cX6_unfound 6 = .ok (.ireturn, 1) := by decide +kernel
theorem dX6_streetsAt_0 : decode cX6_streetsAt 0 = .ok (.iconst 0, 1) := by decide +kernel
theorem dX6_streetsAt_1 : decode cX6_streetsAt 1 = .ok (.istore_n 3, 1) := by decide +kernel
theorem dX6_streetsAt_2 : decode cX6_streetsAt 2 = .ok (.iconst 0, 1) := by decide +kernel
theorem dX6_streetsAt_3 : decode cX6_streetsAt 3 = .ok (.istore 4, 2) := by decide +kernel
theorem dX6_streetsAt_5 : decode cX6_streetsAt 5 = .ok (.iload 4, 2) := by decide +kernel
theorem dX6_streetsAt_7 : decode cX6_streetsAt 7 = .ok (.aload_n 0, 1) := by decide +kernel
theorem dX6_streetsAt_8 : decode cX6_streetsAt 8 = .ok (.getfield 26, 3) := by decide +kernel
theorem dX6_streetsAt_11 : decode cX6_streetsAt 11 = .ok (.getfield 126, 3) := by decide +kernel
theorem dX6_streetsAt_14 : decode cX6_streetsAt 14 = .ok (.if_icmp .ge 24, 3) := by decide +kernel
theorem dX6_streetsAt_17 : decode cX6_streetsAt 17 = .ok (.aload_n 2, 1) := by decide +kernel
theorem dX6_streetsAt_18 : decode cX6_streetsAt 18 = .ok (.iload 4, 2) := by decide +kernel
theorem dX6_streetsAt_20 : decode cX6_streetsAt 20 = .ok (.iaload, 1) := by decide +kernel
theorem dX6_streetsAt_21 : decode cX6_streetsAt 21 = .ok (.iload_n 1, 1) := by decide +kernel
theorem dX6_streetsAt_22 : decode cX6_streetsAt 22 = .ok (.if_icmp .ne 10, 3) := by decide +kernel
theorem dX6_streetsAt_25 : decode cX6_streetsAt 25 = .ok (.iload_n 3, 1) := by decide +kernel
theorem dX6_streetsAt_26 : decode cX6_streetsAt 26 = .ok (.iconst 1, 1) := by decide +kernel
theorem dX6_streetsAt_27 : decode cX6_streetsAt 27 = .ok (.iload 4, 2) := by decide +kernel
theorem dX6_streetsAt_29 : decode cX6_streetsAt 29 = .ok (.ishl, 1) := by decide +kernel
theorem dX6_streetsAt_30 : decode cX6_streetsAt 30 = .ok (.ior, 1) := by decide +kernel
theorem dX6_streetsAt_31 : decode cX6_streetsAt 31 = .ok (.istore_n 3, 1) := by decide +kernel
theorem dX6_streetsAt_32 : decode cX6_streetsAt 32 = .ok (.iinc 4 1, 3) := by decide +kernel
theorem dX6_streetsAt_35 : decode cX6_streetsAt 35 = .ok (.goto (-30), 3) := by decide +kernel
theorem dX6_streetsAt_38 : decode cX6_streetsAt 38 = .ok (.iload_n 3, 1) := by decide +kernel
theorem dX6_streetsAt_39 : decode cX6_streetsAt 39 = .ok (.ireturn, 1) := by decide +kernel
theorem dX6_areFitting_0 : decode cX6_areFitting 0 = .ok (.iload_n 0, 1) := by decide +kernel
theorem dX6_areFitting_1 : decode cX6_areFitting 1 = .ok (.invokestatic 65, 3) := by decide +kernel
theorem dX6_areFitting_4 : decode cX6_areFitting 4 = .ok (.ifCond .eq 34, 3) := by decide +kernel
theorem dX6_areFitting_7 : decode cX6_areFitting 7 = .ok (.iload_n 1, 1) := by decide +kernel
theorem dX6_areFitting_8 : decode cX6_areFitting 8 = .ok (.invokestatic 65, 3) := by decide +kernel
theorem dX6_areFitting_11 : decode cX6_areFitting 11 = .ok (.ifCond .eq 27, 3) := by decide +kernel
theorem dX6_areFitting_14 : decode cX6_areFitting 14 = .ok (.iload_n 2, 1) := by decide +kernel
theorem dX6_areFitting_15 : decode cX6_areFitting 15 = .ok (.iconst 1, 1) := by decide +kernel
theorem dX6_areFitting_16 : decode cX6_areFitting 16 = .ok (.if_icmp .lt 22, 3) := by decide +kernel
theorem dX6_areFitting_19 : decode cX6_areFitting 19 = .ok (.iload_n 2, 1) := by decide +kernel
theorem dX6_areFitting_20 : decode cX6_areFitting 20 = .ok (.bipush 8, 2) := by decide +kernel
theorem dX6_areFitting_22 : decode cX6_areFitting 22 = .ok (.if_icmp .gt 16, 3) := by decide +kernel
theorem dX6_areFitting_25 : decode cX6_areFitting 25 = .ok (.iload_n 3, 1) := by decide +kernel
theorem dX6_areFitting_26 : decode cX6_areFitting 26 = .ok (.ifCond .lt 12, 3) := by decide +kernel
theorem dX6_areFitting_29 : decode cX6_areFitting 29 = .ok (.iload_n 3, 1) := by decide +kernel
theorem dX6_areFitting_30 : decode cX6_areFitting 30 = .ok (.iconst 1, 1) := by decide +kernel
theorem dX6_areFitting_31 : decode cX6_areFitting 31 = .ok (.if_icmp .gt 7, 3) := by decide +kernel
theorem dX6_areFitting_34 : decode cX6_areFitting 34 = .ok (.iconst 1, 1) := by decide +kernel
theorem dX6_areFitting_35 : decode cX6_areFitting 35 = .ok (.goto 4, 3) := by decide +kernel
theorem dX6_areFitting_38 : decode cX6_areFitting 38 = .ok (.iconst 0, 1) := by decide +kernel
theorem dX6_areFitting_39 : decode cX6_areFitting 39 = .ok (.ireturn, 1) := by decide +kernel
theorem dX6_findingOfTwo_0 : decode cX6_findingOfTwo 0 = .ok (.aload_n 0, 1) := by decide +kernel
theorem dX6_findingOfTwo_1 : decode cX6_findingOfTwo 1 = .ok (.getfield 10, 3) := by decide +kernel
theorem dX6_findingOfTwo_4 : decode cX6_findingOfTwo 4 = .ok (.iload_n 1, 1) := by decide +kernel
theorem dX6_findingOfTwo_5 : decode cX6_findingOfTwo 5 = .ok (.iload_n 2, 1) := by decide +kernel
theorem dX6_findingOfTwo_6 : decode cX6_findingOfTwo 6 = .ok (.iload 5, 2) := by decide +kernel
theorem dX6_findingOfTwo_8 : decode cX6_findingOfTwo 8 = .ok (.invokevirtual 81, 3) := by decide +kernel
theorem dX6_findingOfTwo_11 : decode cX6_findingOfTwo 11 = .ok (.istore 6, 2) := by decide +kernel
theorem dX6_findingOfTwo_13 : decode cX6_findingOfTwo 13 = .ok (.iload 6, 2) := by decide +kernel
theorem dX6_findingOfTwo_15 : decode cX6_findingOfTwo 15 = .ok (.ifCond .eq 8, 3) := by decide +kernel
theorem dX6_findingOfTwo_18 : decode cX6_findingOfTwo 18 = .ok (.iload 6, 2) := by decide +kernel
theorem dX6_findingOfTwo_20 : decode cX6_findingOfTwo 20 = .ok (.goto 15, 3) := by decide +kernel
theorem dX6_findingOfTwo_23 : decode cX6_findingOfTwo 23 = .ok (.aload_n 0, 1) := by decide +kernel
theorem dX6_findingOfTwo_24 : decode cX6_findingOfTwo 24 = .ok (.getfield 10, 3) := by decide +kernel
theorem dX6_findingOfTwo_27 : decode cX6_findingOfTwo 27 = .ok (.iload_n 3, 1) := by decide +kernel
theorem dX6_findingOfTwo_28 : decode cX6_findingOfTwo 28 = .ok (.iload 4, 2) := by decide +kernel
theorem dX6_findingOfTwo_30 : decode cX6_findingOfTwo 30 = .ok (.iload 5, 2) := by decide +kernel
theorem dX6_findingOfTwo_32 : decode cX6_findingOfTwo 32 = .ok (.invokevirtual 81, 3) := by decide +kernel
theorem dX6_findingOfTwo_35 : decode cX6_findingOfTwo 35 = .ok (.ireturn, 1) := by decide +kernel
theorem dX6_isSo_0 : decode cX6_isSo 0 = .ok (.iconst 0, 1) := by decide +kernel
theorem dX6_isSo_1 : decode cX6_isSo 1 = .ok (.istore 6, 2) := by decide +kernel
theorem dX6_isSo_3 : decode cX6_isSo 3 = .ok (.iload 6, 2) := by decide +kernel
theorem dX6_isSo_5 : decode cX6_isSo 5 = .ok (.iload 5, 2) := by decide +kernel
theorem dX6_isSo_7 : decode cX6_isSo 7 = .ok (.if_icmp .ge 75, 3) := by decide +kernel
theorem dX6_isSo_10 : decode cX6_isSo 10 = .ok (.aload_n 0, 1) := by decide +kernel
theorem dX6_isSo_11 : decode cX6_isSo 11 = .ok (.getfield 10, 3) := by decide +kernel
theorem dX6_isSo_14 : decode cX6_isSo 14 = .ok (.getfield 301, 3) := by decide +kernel
theorem dX6_isSo_17 : decode cX6_isSo 17 = .ok (.iload_n 3, 1) := by decide +kernel
theorem dX6_isSo_18 : decode cX6_isSo 18 = .ok (.aaload, 1) := by decide +kernel
theorem dX6_isSo_19 : decode cX6_isSo 19 = .ok (.iload 4, 2) := by decide +kernel
theorem dX6_isSo_21 : decode cX6_isSo 21 = .ok (.iload 6, 2) := by decide +kernel
theorem dX6_isSo_23 : decode cX6_isSo 23 = .ok (.iadd, 1) := by decide +kernel
theorem dX6_isSo_24 : decode cX6_isSo 24 = .ok (.iaload, 1) := by decide +kernel
theorem dX6_isSo_25 : decode cX6_isSo 25 = .ok (.istore 7, 2) := by decide +kernel
theorem dX6_isSo_27 : decode cX6_isSo 27 = .ok (.aload_n 0, 1) := by decide +kernel
theorem dX6_isSo_28 : decode cX6_isSo 28 = .ok (.getfield 30, 3) := by decide +kernel
theorem dX6_isSo_31 : decode cX6_isSo 31 = .ok (.iload 7, 2) := by decide +kernel
theorem dX6_isSo_33 : decode cX6_isSo 33 = .ok (.invokevirtual 132, 3) := by decide +kernel
theorem dX6_isSo_36 : decode cX6_isSo 36 = .ok (.ifCond .eq 29, 3) := by decide +kernel
theorem dX6_isSo_39 : decode cX6_isSo 39 = .ok (.aload_n 0, 1) := by decide +kernel
theorem dX6_isSo_40 : decode cX6_isSo 40 = .ok (.getfield 30, 3) := by decide +kernel
theorem dX6_isSo_43 : decode cX6_isSo 43 = .ok (.iload 7, 2) := by decide +kernel
theorem dX6_isSo_45 : decode cX6_isSo 45 = .ok (.invokevirtual 202, 3) := by decide +kernel
theorem dX6_isSo_48 : decode cX6_isSo 48 = .ok (.aload_n 0, 1) := by decide +kernel
theorem dX6_isSo_49 : decode cX6_isSo 49 = .ok (.getfield 10, 3) := by decide +kernel
theorem dX6_isSo_52 : decode cX6_isSo 52 = .ok (.getfield 301, 3) := by decide +kernel
theorem dX6_isSo_55 : decode cX6_isSo 55 = .ok (.iload_n 1, 1) := by decide +kernel
theorem dX6_isSo_56 : decode cX6_isSo 56 = .ok (.aaload, 1) := by decide +kernel
theorem dX6_isSo_57 : decode cX6_isSo 57 = .ok (.iload_n 2, 1) := by decide +kernel
theorem dX6_isSo_58 : decode cX6_isSo 58 = .ok (.iload 6, 2) := by decide +kernel
theorem dX6_isSo_60 : decode cX6_isSo 60 = .ok (.iadd, 1) := by decide +kernel
theorem dX6_isSo_61 : decode cX6_isSo 61 = .ok (.iaload, 1) := by decide +kernel
theorem dX6_isSo_62 : decode cX6_isSo 62 = .ok (.if_icmp .eq 5, 3) := by decide +kernel
theorem dX6_isSo_65 : decode cX6_isSo 65 = .ok (.iconst 0, 1) := by decide +kernel
theorem dX6_isSo_66 : decode cX6_isSo 66 = .ok (.ireturn, 1) := by decide +kernel
theorem dX6_isSo_67 : decode cX6_isSo 67 = .ok (.aload_n 0, 1) := by decide +kernel
theorem dX6_isSo_68 : decode cX6_isSo 68 = .ok (.getfield 30, 3) := by decide +kernel
theorem dX6_isSo_71 : decode cX6_isSo 71 = .ok (.iload 7, 2) := by decide +kernel
theorem dX6_isSo_73 : decode cX6_isSo 73 = .ok (.invokevirtual 152, 3) := by decide +kernel
theorem dX6_isSo_76 : decode cX6_isSo 76 = .ok (.iinc 6 1, 3) := by decide +kernel
theorem dX6_isSo_79 : decode cX6_isSo 79 = .ok (.goto (-76), 3) := by decide +kernel
theorem dX6_isSo_82 : decode cX6_isSo 82 = .ok (.iconst 1, 1) := by decide +kernel
theorem dX6_isSo_83 : decode cX6_isSo 83 = .ok (.ireturn, 1) := by decide +kernel
theorem dX6_owedFrom_0 : decode cX6_owedFrom 0 = .ok (.aload_n 0, 1) := by decide +kernel
theorem dX6_owedFrom_1 : decode cX6_owedFrom 1 = .ok (.getfield 30, 3) := by decide +kernel
theorem dX6_owedFrom_4 : decode cX6_owedFrom 4 = .ok (.aload_n 0, 1) := by decide +kernel
theorem dX6_owedFrom_5 : decode cX6_owedFrom 5 = .ok (.getfield 26, 3) := by decide +kernel
theorem dX6_owedFrom_8 : decode cX6_owedFrom 8 = .ok (.invokevirtual 119, 3) := by decide +kernel
theorem dX6_owedFrom_11 : decode cX6_owedFrom 11 = .ok (.iconst 0, 1) := by decide +kernel
theorem dX6_owedFrom_12 : decode cX6_owedFrom 12 = .ok (.istore 5, 2) := by decide +kernel
theorem dX6_owedFrom_14 : decode cX6_owedFrom 14 = .ok (.iconst 0, 1) := by decide +kernel
theorem dX6_owedFrom_15 : decode cX6_owedFrom 15 = .ok (.istore 6, 2) := by decide +kernel
theorem dX6_owedFrom_17 : decode cX6_owedFrom 17 = .ok (.iload 6, 2) := by decide +kernel
theorem dX6_owedFrom_19 : decode cX6_owedFrom 19 = .ok (.iload_n 3, 1) := by decide +kernel
theorem dX6_owedFrom_20 : decode cX6_owedFrom 20 = .ok (.if_icmp .ge 72, 3) := by decide +kernel
theorem dX6_owedFrom_23 : decode cX6_owedFrom 23 = .ok (.aload_n 0, 1) := by decide +kernel
theorem dX6_owedFrom_24 : decode cX6_owedFrom 24 = .ok (.getfield 10, 3) := by decide +kernel
theorem dX6_owedFrom_27 : decode cX6_owedFrom 27 = .ok (.getfield 301, 3) := by decide +kernel
theorem dX6_owedFrom_30 : decode cX6_owedFrom 30 = .ok (.iload_n 1, 1) := by decide +kernel
theorem dX6_owedFrom_31 : decode cX6_owedFrom 31 = .ok (.aaload, 1) := by decide +kernel
theorem dX6_owedFrom_32 : decode cX6_owedFrom 32 = .ok (.iload_n 2, 1) := by decide +kernel
theorem dX6_owedFrom_33 : decode cX6_owedFrom 33 = .ok (.iload 6, 2) := by decide +kernel
theorem dX6_owedFrom_35 : decode cX6_owedFrom 35 = .ok (.iadd, 1) := by decide +kernel
theorem dX6_owedFrom_36 : decode cX6_owedFrom 36 = .ok (.iaload, 1) := by decide +kernel
theorem dX6_owedFrom_37 : decode cX6_owedFrom 37 = .ok (.istore 7, 2) := by decide +kernel
theorem dX6_owedFrom_39 : decode cX6_owedFrom 39 = .ok (.aload_n 0, 1) := by decide +kernel
theorem dX6_owedFrom_40 : decode cX6_owedFrom 40 = .ok (.getfield 30, 3) := by decide +kernel
theorem dX6_owedFrom_43 : decode cX6_owedFrom 43 = .ok (.iload 7, 2) := by decide +kernel
theorem dX6_owedFrom_45 : decode cX6_owedFrom 45 = .ok (.invokevirtual 132, 3) := by decide +kernel
theorem dX6_owedFrom_48 : decode cX6_owedFrom 48 = .ok (.ifCond .ne 6, 3) := by decide +kernel
theorem dX6_owedFrom_51 : decode cX6_owedFrom 51 = .ok (.ldc 198, 2) := by decide +kernel
theorem dX6_owedFrom_53 : decode cX6_owedFrom 53 = .ok (.ireturn, 1) := by decide +kernel
theorem dX6_owedFrom_54 : decode cX6_owedFrom 54 = .ok (.iload 6, 2) := by decide +kernel
theorem dX6_owedFrom_56 : decode cX6_owedFrom 56 = .ok (.iload 4, 2) := by decide +kernel
theorem dX6_owedFrom_58 : decode cX6_owedFrom 58 = .ok (.if_icmp .lt 19, 3) := by decide +kernel
theorem dX6_owedFrom_61 : decode cX6_owedFrom 61 = .ok (.iload 5, 2) := by decide +kernel
theorem dX6_owedFrom_63 : decode cX6_owedFrom 63 = .ok (.aload_n 0, 1) := by decide +kernel
theorem dX6_owedFrom_64 : decode cX6_owedFrom 64 = .ok (.getfield 30, 3) := by decide +kernel
theorem dX6_owedFrom_67 : decode cX6_owedFrom 67 = .ok (.iload 7, 2) := by decide +kernel
theorem dX6_owedFrom_69 : decode cX6_owedFrom 69 = .ok (.invokevirtual 202, 3) := by decide +kernel
theorem dX6_owedFrom_72 : decode cX6_owedFrom 72 = .ok (.iconst 2, 1) := by decide +kernel
theorem dX6_owedFrom_73 : decode cX6_owedFrom 73 = .ok (.idiv, 1) := by decide +kernel
theorem dX6_owedFrom_74 : decode cX6_owedFrom 74 = .ok (.iadd, 1) := by decide +kernel
theorem dX6_owedFrom_75 : decode cX6_owedFrom 75 = .ok (.istore 5, 2) := by decide +kernel
theorem dX6_owedFrom_77 : decode cX6_owedFrom 77 = .ok (.aload_n 0, 1) := by decide +kernel
theorem dX6_owedFrom_78 : decode cX6_owedFrom 78 = .ok (.getfield 30, 3) := by decide +kernel
theorem dX6_owedFrom_81 : decode cX6_owedFrom 81 = .ok (.iload 7, 2) := by decide +kernel
theorem dX6_owedFrom_83 : decode cX6_owedFrom 83 = .ok (.invokevirtual 152, 3) := by decide +kernel
theorem dX6_owedFrom_86 : decode cX6_owedFrom 86 = .ok (.iinc 6 1, 3) := by decide +kernel
theorem dX6_owedFrom_89 : decode cX6_owedFrom 89 = .ok (.goto (-72), 3) := by decide +kernel
theorem dX6_owedFrom_92 : decode cX6_owedFrom 92 = .ok (.iload 5, 2) := by decide +kernel
theorem dX6_owedFrom_94 : decode cX6_owedFrom 94 = .ok (.ireturn, 1) := by decide +kernel
theorem dX6_isOfKind_0 : decode cX6_isOfKind 0 = .ok (.iload_n 1, 1) := by decide +kernel
theorem dX6_isOfKind_1 : decode cX6_isOfKind 1 = .ok (.tableswitch 74 0 4 #[35, 37, 74, 74, 58], 35) := by decide +kernel
theorem dX6_isOfKind_36 : decode cX6_isOfKind 36 = .ok (.iconst 1, 1) := by decide +kernel
theorem dX6_isOfKind_37 : decode cX6_isOfKind 37 = .ok (.ireturn, 1) := by decide +kernel
theorem dX6_isOfKind_38 : decode cX6_isOfKind 38 = .ok (.iload_n 0, 1) := by decide +kernel
theorem dX6_isOfKind_39 : decode cX6_isOfKind 39 = .ok (.iconst 1, 1) := by decide +kernel
theorem dX6_isOfKind_40 : decode cX6_isOfKind 40 = .ok (.if_icmp .eq 13, 3) := by decide +kernel
theorem dX6_isOfKind_43 : decode cX6_isOfKind 43 = .ok (.iload_n 0, 1) := by decide +kernel
theorem dX6_isOfKind_44 : decode cX6_isOfKind 44 = .ok (.iconst 2, 1) := by decide +kernel
theorem dX6_isOfKind_45 : decode cX6_isOfKind 45 = .ok (.if_icmp .eq 8, 3) := by decide +kernel
theorem dX6_isOfKind_48 : decode cX6_isOfKind 48 = .ok (.iload_n 0, 1) := by decide +kernel
theorem dX6_isOfKind_49 : decode cX6_isOfKind 49 = .ok (.iconst 3, 1) := by decide +kernel
theorem dX6_isOfKind_50 : decode cX6_isOfKind 50 = .ok (.if_icmp .ne 7, 3) := by decide +kernel
theorem dX6_isOfKind_53 : decode cX6_isOfKind 53 = .ok (.iconst 1, 1) := by decide +kernel
theorem dX6_isOfKind_54 : decode cX6_isOfKind 54 = .ok (.goto 4, 3) := by decide +kernel
theorem dX6_isOfKind_57 : decode cX6_isOfKind 57 = .ok (.iconst 0, 1) := by decide +kernel
theorem dX6_isOfKind_58 : decode cX6_isOfKind 58 = .ok (.ireturn, 1) := by decide +kernel
theorem dX6_isOfKind_59 : decode cX6_isOfKind 59 = .ok (.iload_n 0, 1) := by decide +kernel
theorem dX6_isOfKind_60 : decode cX6_isOfKind 60 = .ok (.iconst 4, 1) := by decide +kernel
theorem dX6_isOfKind_61 : decode cX6_isOfKind 61 = .ok (.if_icmp .eq 8, 3) := by decide +kernel
theorem dX6_isOfKind_64 : decode cX6_isOfKind 64 = .ok (.iload_n 0, 1) := by decide +kernel
theorem dX6_isOfKind_65 : decode cX6_isOfKind 65 = .ok (.iconst 5, 1) := by decide +kernel
theorem dX6_isOfKind_66 : decode cX6_isOfKind 66 = .ok (.if_icmp .ne 7, 3) := by decide +kernel
theorem dX6_isOfKind_69 : decode cX6_isOfKind 69 = .ok (.iconst 1, 1) := by decide +kernel
theorem dX6_isOfKind_70 : decode cX6_isOfKind 70 = .ok (.goto 4, 3) := by decide +kernel
theorem dX6_isOfKind_73 : decode cX6_isOfKind 73 = .ok (.iconst 0, 1) := by decide +kernel
theorem dX6_isOfKind_74 : decode cX6_isOfKind 74 = .ok (.ireturn, 1) := by decide +kernel
theorem dX6_isOfKind_75 : decode cX6_isOfKind 75 = .ok (.iload_n 0, 1) := by decide +kernel
theorem dX6_isOfKind_76 : decode cX6_isOfKind 76 = .ok (.iload_n 1, 1) := by decide +kernel
theorem dX6_isOfKind_77 : decode cX6_isOfKind 77 = .ok (.if_icmp .ne 7, 3) := by decide +kernel
theorem dX6_isOfKind_80 : decode cX6_isOfKind 80 = .ok (.iconst 1, 1) := by decide +kernel
theorem dX6_isOfKind_81 : decode cX6_isOfKind 81 = .ok (.goto 4, 3) := by decide +kernel
theorem dX6_isOfKind_84 : decode cX6_isOfKind 84 = .ok (.iconst 0, 1) := by decide +kernel
theorem dX6_isOfKind_85 : decode cX6_isOfKind 85 = .ok (.ireturn, 1) := by decide +kernel
theorem dX6_power_0 : decode cX6_power 0 = .ok (.iconst 1, 1) := by decide +kernel
theorem dX6_power_1 : decode cX6_power 1 = .ok (.istore_n 2, 1) := by decide +kernel
theorem dX6_power_2 : decode cX6_power 2 = .ok (.iconst 0, 1) := by decide +kernel
theorem dX6_power_3 : decode cX6_power 3 = .ok (.istore_n 3, 1) := by decide +kernel
theorem dX6_power_4 : decode cX6_power 4 = .ok (.iload_n 3, 1) := by decide +kernel
theorem dX6_power_5 : decode cX6_power 5 = .ok (.iload_n 1, 1) := by decide +kernel
theorem dX6_power_6 : decode cX6_power 6 = .ok (.if_icmp .ge 13, 3) := by decide +kernel
theorem dX6_power_9 : decode cX6_power 9 = .ok (.iload_n 2, 1) := by decide +kernel
theorem dX6_power_10 : decode cX6_power 10 = .ok (.iload_n 0, 1) := by decide +kernel
theorem dX6_power_11 : decode cX6_power 11 = .ok (.imul, 1) := by decide +kernel
theorem dX6_power_12 : decode cX6_power 12 = .ok (.istore_n 2, 1) := by decide +kernel
theorem dX6_power_13 : decode cX6_power 13 = .ok (.iinc 3 1, 3) := by decide +kernel
theorem dX6_power_16 : decode cX6_power 16 = .ok (.goto (-12), 3) := by decide +kernel
theorem dX6_power_19 : decode cX6_power 19 = .ok (.iload_n 2, 1) := by decide +kernel
theorem dX6_power_20 : decode cX6_power 20 = .ok (.ireturn, 1) := by decide +kernel
theorem dX6_commonDivisor_0 : decode cX6_commonDivisor 0 = .ok (.iload_n 1, 1) := by decide +kernel
theorem dX6_commonDivisor_1 : decode cX6_commonDivisor 1 = .ok (.istore_n 2, 1) := by decide +kernel
theorem dX6_commonDivisor_2 : decode cX6_commonDivisor 2 = .ok (.iload_n 0, 1) := by decide +kernel
theorem dX6_commonDivisor_3 : decode cX6_commonDivisor 3 = .ok (.istore_n 3, 1) := by decide +kernel
theorem dX6_commonDivisor_4 : decode cX6_commonDivisor 4 = .ok (.iconst 0, 1) := by decide +kernel
theorem dX6_commonDivisor_5 : decode cX6_commonDivisor 5 = .ok (.istore 4, 2) := by decide +kernel
theorem dX6_commonDivisor_7 : decode cX6_commonDivisor 7 = .ok (.iload 4, 2) := by decide +kernel
theorem dX6_commonDivisor_9 : decode cX6_commonDivisor 9 = .ok (.bipush 64, 2) := by decide +kernel
theorem dX6_commonDivisor_11 : decode cX6_commonDivisor 11 = .ok (.if_icmp .ge 23, 3) := by decide +kernel
theorem dX6_commonDivisor_14 : decode cX6_commonDivisor 14 = .ok (.iload_n 3, 1) := by decide +kernel
theorem dX6_commonDivisor_15 : decode cX6_commonDivisor 15 = .ok (.ifCond .eq 19, 3) := by decide +kernel
theorem dX6_commonDivisor_18 : decode cX6_commonDivisor 18 = .ok (.iload_n 2, 1) := by decide +kernel
theorem dX6_commonDivisor_19 : decode cX6_commonDivisor 19 = .ok (.iload_n 3, 1) := by decide +kernel
theorem dX6_commonDivisor_20 : decode cX6_commonDivisor 20 = .ok (.irem, 1) := by decide +kernel
theorem dX6_commonDivisor_21 : decode cX6_commonDivisor 21 = .ok (.istore 5, 2) := by decide +kernel
theorem dX6_commonDivisor_23 : decode cX6_commonDivisor 23 = .ok (.iload_n 3, 1) := by decide +kernel
theorem dX6_commonDivisor_24 : decode cX6_commonDivisor 24 = .ok (.istore_n 2, 1) := by decide +kernel
theorem dX6_commonDivisor_25 : decode cX6_commonDivisor 25 = .ok (.iload 5, 2) := by decide +kernel
theorem dX6_commonDivisor_27 : decode cX6_commonDivisor 27 = .ok (.istore_n 3, 1) := by decide +kernel
theorem dX6_commonDivisor_28 : decode cX6_commonDivisor 28 = .ok (.iinc 4 1, 3) := by decide +kernel
theorem dX6_commonDivisor_31 : decode cX6_commonDivisor 31 = .ok (.goto (-24), 3) := by decide +kernel
theorem dX6_commonDivisor_34 : decode cX6_commonDivisor 34 = .ok (.iload_n 2, 1) := by decide +kernel
theorem dX6_commonDivisor_35 : decode cX6_commonDivisor 35 = .ok (.ireturn, 1) := by decide +kernel
end
section
theorem dX7_init_0 : decode cX7_init 0 = .ok (.aload_n 0, 1) := by decide +kernel
theorem dX7_init_1 : decode cX7_init 1 = .ok (.invokespecial 1, 3) := by decide +kernel
theorem dX7_init_4 : decode cX7_init 4 = .ok (.aload_n 0, 1) := by decide +kernel
theorem dX7_init_5 : decode cX7_init 5 = .ok (.bipush 8, 2) := by decide +kernel
theorem dX7_init_7 : decode cX7_init 7 = .ok (.newarray .int, 2) := by decide +kernel
theorem dX7_init_9 : decode cX7_init 9 = .ok (.putfield 7, 3) := by decide +kernel
theorem dX7_init_12 : decode cX7_init 12 = .ok (.aload_n 0, 1) := by decide +kernel
theorem dX7_init_13 : decode cX7_init 13 = .ok (.bipush 8, 2) := by decide +kernel
theorem dX7_init_15 : decode cX7_init 15 = .ok (.newarray .int, 2) := by decide +kernel
theorem dX7_init_17 : decode cX7_init 17 = .ok (.putfield 13, 3) := by decide +kernel
theorem dX7_init_20 : decode cX7_init 20 = .ok (.aload_n 0, 1) := by decide +kernel
theorem dX7_init_21 : decode cX7_init 21 = .ok (.sipush 320, 3) := by decide +kernel
theorem dX7_init_24 : decode cX7_init 24 = .ok (.newarray .int, 2) := by decide +kernel
theorem dX7_init_26 : decode cX7_init 26 = .ok (.putfield 16, 3) := by decide +kernel
theorem dX7_init_29 : decode cX7_init 29 = .ok (.aload_n 0, 1) := by decide +kernel
theorem dX7_init_30 : decode cX7_init 30 = .ok (.bipush 40, 2) := by decide +kernel
theorem dX7_init_32 : decode cX7_init 32 = .ok (.newarray .int, 2) := by decide +kernel
theorem dX7_init_34 : decode cX7_init 34 = .ok (.putfield 19, 3) := by decide +kernel
theorem dX7_init_37 : decode cX7_init 37 = .ok (.aload_n 0, 1) := by decide +kernel
theorem dX7_init_38 : decode cX7_init 38 = .ok (.bipush 120, 2) := by decide +kernel
theorem dX7_init_40 : decode cX7_init 40 = .ok (.newarray .int, 2) := by decide +kernel
theorem dX7_init_42 : decode cX7_init 42 = .ok (.putfield 22, 3) := by decide +kernel
theorem dX7_init_45 : decode cX7_init 45 = .ok (.aload_n 0, 1) := by decide +kernel
theorem dX7_init_46 : decode cX7_init 46 = .ok (.bipush 42, 2) := by decide +kernel
theorem dX7_init_48 : decode cX7_init 48 = .ok (.newarray .int, 2) := by decide +kernel
theorem dX7_init_50 : decode cX7_init 50 = .ok (.putfield 25, 3) := by decide +kernel
theorem dX7_init_53 : decode cX7_init 53 = .ok (.aload_n 0, 1) := by decide +kernel
theorem dX7_init_54 : decode cX7_init 54 = .ok (.bipush 42, 2) := by decide +kernel
theorem dX7_init_56 : decode cX7_init 56 = .ok (.newarray .int, 2) := by decide +kernel
theorem dX7_init_58 : decode cX7_init 58 = .ok (.putfield 28, 3) := by decide +kernel
theorem dX7_init_61 : decode cX7_init 61 = .ok (.aload_n 0, 1) := by decide +kernel
theorem dX7_init_62 : decode cX7_init 62 = .ok (.bipush 42, 2) := by decide +kernel
theorem dX7_init_64 : decode cX7_init 64 = .ok (.newarray .int, 2) := by decide +kernel
theorem dX7_init_66 : decode cX7_init 66 = .ok (.putfield 31, 3) := by decide +kernel
theorem dX7_init_69 : decode cX7_init 69 = .ok (.aload_n 0, 1) := by decide +kernel
theorem dX7_init_70 : decode cX7_init 70 = .ok (.sipush 1008, 3) := by decide +kernel
theorem dX7_init_73 : decode cX7_init 73 = .ok (.newarray .int, 2) := by decide +kernel
theorem dX7_init_75 : decode cX7_init 75 = .ok (.putfield 34, 3) := by decide +kernel
theorem dX7_init_78 : decode cX7_init 78 = .ok (.aload_n 0, 1) := by decide +kernel
theorem dX7_init_79 : decode cX7_init 79 = .ok (.bipush 84, 2) := by decide +kernel
theorem dX7_init_81 : decode cX7_init 81 = .ok (.newarray .int, 2) := by decide +kernel
theorem dX7_init_83 : decode cX7_init 83 = .ok (.putfield 37, 3) := by decide +kernel
theorem dX7_init_86 : decode cX7_init 86 = .ok (.aload_n 0, 1) := by decide +kernel
theorem dX7_init_87 : decode cX7_init 87 = .ok (.iconst 2, 1) := by decide +kernel
theorem dX7_init_88 : decode cX7_init 88 = .ok (.newarray .boolean, 2) := by decide +kernel
theorem dX7_init_90 : decode cX7_init 90 = .ok (.putfield 40, 3) := by decide +kernel
theorem dX7_init_93 : decode cX7_init 93 = .ok (.aload_n 0, 1) := by decide +kernel
theorem dX7_init_94 : decode cX7_init 94 = .ok (.bipush 8, 2) := by decide +kernel
theorem dX7_init_96 : decode cX7_init 96 = .ok (.newarray .int, 2) := by decide +kernel
theorem dX7_init_98 : decode cX7_init 98 = .ok (.putfield 44, 3) := by decide +kernel
theorem dX7_init_101 : decode cX7_init 101 = .ok (.aload_n 0, 1) := by decide +kernel
theorem dX7_init_102 : decode cX7_init 102 = .ok (.bipush 9, 2) := by decide +kernel
theorem dX7_init_104 : decode cX7_init 104 = .ok (.newarray .int, 2) := by decide +kernel
theorem dX7_init_106 : decode cX7_init 106 = .ok (.putfield 47, 3) := by decide +kernel
theorem dX7_init_109 : decode cX7_init 109 = .ok (.aload_n 0, 1) := by decide +kernel
theorem dX7_init_110 : decode cX7_init 110 = .ok (.bipush 9, 2) := by decide +kernel
theorem dX7_init_112 : decode cX7_init 112 = .ok (.newarray .int, 2) := by decide +kernel
theorem dX7_init_114 : decode cX7_init 114 = .ok (.putfield 50, 3) := by decide +kernel
theorem dX7_init_117 : decode cX7_init 117 = .ok (.aload_n 0, 1) := by decide +kernel
theorem dX7_init_118 : decode cX7_init 118 = .ok (.bipush 9, 2) := by decide +kernel
theorem dX7_init_120 : decode cX7_init 120 = .ok (.newarray .int, 2) := by decide +kernel
theorem dX7_init_122 : decode cX7_init 122 = .ok (.putfield 53, 3) := by decide +kernel
theorem dX7_init_125 : decode cX7_init 125 = .ok (.aload_n 0, 1) := by decide +kernel
theorem dX7_init_126 : decode cX7_init 126 = .ok (.bipush 9, 2) := by decide +kernel
theorem dX7_init_128 : decode cX7_init 128 = .ok (.newarray .int, 2) := by decide +kernel
theorem dX7_init_130 : decode cX7_init 130 = .ok (.putfield 56, 3) := by decide +kernel
theorem dX7_init_133 : decode cX7_init 133 = .ok (.aload_n 0, 1) := by decide +kernel
theorem dX7_init_134 : decode cX7_init 134 = .ok (.bipush 8, 2) := by decide +kernel
theorem dX7_init_136 : decode cX7_init 136 = .ok (.newarray .int, 2) := by decide +kernel
theorem dX7_init_138 : decode cX7_init 138 = .ok (.putfield 59, 3) := by decide +kernel
theorem dX7_init_141 : decode cX7_init 141 = .ok (.aload_n 0, 1) := by decide +kernel
theorem dX7_init_142 : decode cX7_init 142 = .ok (.bipush 16, 2) := by decide +kernel
theorem dX7_init_144 : decode cX7_init 144 = .ok (.newarray .int, 2) := by decide +kernel
theorem dX7_init_146 : decode cX7_init 146 = .ok (.putfield 62, 3) := by decide +kernel
theorem dX7_init_149 : decode cX7_init 149 = .ok (.iconst 0, 1) := by decide +kernel
theorem dX7_init_150 : decode cX7_init 150 = .ok (.istore_n 1, 1) := by decide +kernel
theorem dX7_init_151 : decode cX7_init 151 = .ok (.iload_n 1, 1) := by decide +kernel
theorem dX7_init_152 : decode cX7_init 152 = .ok (.bipush 8, 2) := by decide +kernel
theorem dX7_init_154 : decode cX7_init 154 = .ok (.if_icmp .ge 17, 3) := by decide +kernel
theorem dX7_init_157 : decode cX7_init 157 = .ok (.aload_n 0, 1) := by decide +kernel
theorem dX7_init_158 : decode cX7_init 158 = .ok (.getfield 7, 3) := by decide +kernel
theorem dX7_init_161 : decode cX7_init 161 = .ok (.iload_n 1, 1) := by decide +kernel
theorem dX7_init_162 : decode cX7_init 162 = .ok (.ldc 65, 2) := by decide +kernel
theorem dX7_init_164 : decode cX7_init 164 = .ok (.iastore, 1) := by decide +kernel
theorem dX7_init_165 : decode cX7_init 165 = .ok (.iinc 1 1, 3) := by decide +kernel
theorem dX7_init_168 : decode cX7_init 168 = .ok (.goto (-17), 3) := by decide +kernel
theorem dX7_init_171 : decode cX7_init 171 = .ok (.return_, 1) := by decide +kernel
theorem dX7_in_0 : decode cX7_in 0 = .ok (.iload_n 0, 1) := by decide +kernel
theorem dX7_in_1 : decode cX7_in 1 = .ok (.iload_n 1, 1) := by decide +kernel
theorem dX7_in_2 : decode cX7_in 2 = .ok (.if_icmp .lt 12, 3) := by decide +kernel
theorem dX7_in_5 : decode cX7_in 5 = .ok (.iload_n 0, 1) := by decide +kernel
theorem dX7_in_6 : decode cX7_in 6 = .ok (.iload_n 2, 1) := by decide +kernel
theorem dX7_in_7 : decode cX7_in 7 = .ok (.if_icmp .gt 7, 3) := by decide +kernel
theorem dX7_in_10 : decode cX7_in 10 = .ok (.iconst 1, 1) := by decide +kernel
theorem dX7_in_11 : decode cX7_in 11 = .ok (.goto 4, 3) := by decide +kernel
theorem dX7_in_14 : decode cX7_in 14 = .ok (.iconst 0, 1) := by decide +kernel
theorem dX7_in_15 : decode cX7_in 15 = .ok (.ireturn, 1) := by decide +kernel
theorem dX7_has_0 : decode cX7_has 0 = .ok (.iload_n 0, 1) := by decide +kernel
theorem dX7_has_1 : decode cX7_has 1 = .ok (.iload_n 1, 1) := by decide +kernel
theorem dX7_has_2 : decode cX7_has 2 = .ok (.ishr, 1) := by decide +kernel
theorem dX7_has_3 : decode cX7_has 3 = .ok (.iconst 1, 1) := by decide +kernel
theorem dX7_has_4 : decode cX7_has 4 = .ok (.iand, 1) := by decide +kernel
theorem dX7_has_5 : decode cX7_has 5 = .ok (.iconst 1, 1) := by decide +kernel
theorem dX7_has_6 : decode cX7_has 6 = .ok (.if_icmp .ne 7, 3) := by decide +kernel
theorem dX7_has_9 : decode cX7_has 9 = .ok (.iconst 1, 1) := by decide +kernel
theorem dX7_has_10 : decode cX7_has 10 = .ok (.goto 4, 3) := by decide +kernel
theorem dX7_has_13 : decode cX7_has 13 = .ok (.iconst 0, 1) := by decide +kernel
theorem dX7_has_14 : decode cX7_has 14 = .ok (.ireturn, 1) := by decide +kernel
theorem dX7_found_0 : decode cX7_found 0 = .ok (.aload_n 0, 1) := by decide +kernel
theorem dX7_found_1 : decode cX7_found 1 = .ok (.iload_n 1, 1) := by decide +kernel
theorem dX7_found_2 : decode cX7_found 2 = .ok (.putfield 66, 3) := by decide +kernel
theorem dX7_found_5 : decode cX7_found 5 = .ok (.ldc 70, 2) := by decide +kernel
theorem dX7_found_7 : decode cX7_found 7 = .ok (.iload_n 1, 1) := by decide +kernel
theorem dX7_found_8 : decode cX7_found 8 = .ok (.isub, 1) := by decide +kernel
theorem dX7_found_9 : decode cX7_found 9 = .ok (.ireturn, 1) := by decide +kernel
theorem dX7_well_0 : decode cX7_well 0 = .ok (.aload_n 0, 1) := by decide +kernel
theorem dX7_well_1 : decode cX7_well 1 = .ok (.iconst 0, 1) := by decide +kernel
theorem dX7_well_2 : decode cX7_well 2 = .ok (.putfield 66, 3) := by decide +kernel
theorem dX7_well_5 : decode cX7_well 5 = .ok (.iload_n 1, 1) := by decide +kernel
theorem dX7_well_6 : decode cX7_well 6 = .ok (.ireturn, 1) := by decide +kernel
theorem dX7_copies_0 : decode cX7_copies 0 = .ok (.iconst 0, 1) := by decide +kernel
theorem dX7_copies_1 : decode cX7_copies 1 = .ok (.istore 4, 2) := by decide +kernel
theorem dX7_copies_3 : decode cX7_copies 3 = .ok (.iload 4, 2) := by decide +kernel
theorem dX7_copies_5 : decode cX7_copies 5 = .ok (.bipush 42, 2) := by decide +kernel
theorem dX7_copies_7 : decode cX7_copies 7 = .ok (.if_icmp .ge 21, 3) := by decide +kernel
theorem dX7_copies_10 : decode cX7_copies 10 = .ok (.aload_n 2, 1) := by decide +kernel
theorem dX7_copies_11 : decode cX7_copies 11 = .ok (.iload_n 3, 1) := by decide +kernel
theorem dX7_copies_12 : decode cX7_copies 12 = .ok (.iload 4, 2) := by decide +kernel
theorem dX7_copies_14 : decode cX7_copies 14 = .ok (.iadd, 1) := by decide +kernel
theorem dX7_copies_15 : decode cX7_copies 15 = .ok (.aload_n 0, 1) := by decide +kernel
theorem dX7_copies_16 : decode cX7_copies 16 = .ok (.iload_n 1, 1) := by decide +kernel
theorem dX7_copies_17 : decode cX7_copies 17 = .ok (.iload 4, 2) := by decide +kernel
theorem dX7_copies_19 : decode cX7_copies 19 = .ok (.iadd, 1) := by decide +kernel
theorem dX7_copies_20 : decode cX7_copies 20 = .ok (.iaload, 1) := by decide +kernel
theorem dX7_copies_21 : decode cX7_copies 21 = .ok (.iastore, 1) := by decide +kernel
theorem dX7_copies_22 : decode cX7_copies 22 = .ok (.iinc 4 1, 3) := by decide +kernel
theorem dX7_copies_25 : decode cX7_copies 25 = .ok (.goto (-22), 3) := by decide +kernel
theorem dX7_copies_28 : decode cX7_copies 28 = .ok (.return_, 1) := by decide +kernel
theorem dX7_isRow_0 : decode cX7_isRow 0 = .ok (.iload_n 0, 1) := by decide +kernel
theorem dX7_isRow_1 : decode cX7_isRow 1 = .ok (.iconst 0, 1) := by decide +kernel
theorem dX7_isRow_2 : decode cX7_isRow 2 = .ok (.bipush 7, 2) := by decide +kernel
theorem dX7_isRow_4 : decode cX7_isRow 4 = .ok (.invokestatic 71, 3) := by decide +kernel
theorem dX7_isRow_7 : decode cX7_isRow 7 = .ok (.ireturn, 1) := by decide +kernel
theorem dX7_isMissing_0 : decode cX7_isMissing 0 = .ok (.aload_n 0, 1) := by decide +kernel
theorem dX7_isMissing_1 : decode cX7_isMissing 1 = .ok (.getfield 7, 3) := by decide +kernel
theorem dX7_isMissing_4 : decode cX7_isMissing 4 = .ok (.iload_n 1, 1) := by decide +kernel
theorem dX7_isMissing_5 : decode cX7_isMissing 5 = .ok (.iaload, 1) := by decide +kernel
theorem dX7_isMissing_6 : decode cX7_isMissing 6 = .ok (.ldc 65, 2) := by decide +kernel
theorem dX7_isMissing_8 : decode cX7_isMissing 8 = .ok (.if_icmp .ne 7, 3) := by decide +kernel
theorem dX7_isMissing_11 : decode cX7_isMissing 11 = .ok (.iconst 1, 1) := by decide +kernel
theorem dX7_isMissing_12 : decode cX7_isMissing 12 = .ok (.goto 4, 3) := by decide +kernel
theorem dX7_isMissing_15 : decode cX7_isMissing 15 = .ok (.iconst 0, 1) := by decide +kernel
theorem dX7_isMissing_16 : decode cX7_isMissing 16 = .ok (.ireturn, 1) := by decide +kernel
theorem dX7_cut_0 : decode cX7_cut 0 = .ok (.iload_n 0, 1) := by decide +kernel
theorem dX7_cut_1 : decode cX7_cut 1 = .ok (.ifCond .ne 13, 3) := by decide +kernel
theorem dX7_cut_4 : decode cX7_cut 4 = .ok (.iload_n 1, 1) := by decide +kernel
theorem dX7_cut_5 : decode cX7_cut 5 = .ok (.bipush 24, 2) := by decide +kernel
theorem dX7_cut_7 : decode cX7_cut 7 = .ok (.ishl, 1) := by decide +kernel
theorem dX7_cut_8 : decode cX7_cut 8 = .ok (.bipush 24, 2) := by decide +kernel
theorem dX7_cut_10 : decode cX7_cut 10 = .ok (.ishr, 1) := by decide +kernel
theorem dX7_cut_11 : decode cX7_cut 11 = .ok (.goto 19, 3) := by decide +kernel
theorem dX7_cut_14 : decode cX7_cut 14 = .ok (.iload_n 0, 1) := by decide +kernel
theorem dX7_cut_15 : decode cX7_cut 15 = .ok (.iconst 1, 1) := by decide +kernel
theorem dX7_cut_16 : decode cX7_cut 16 = .ok (.if_icmp .ne 13, 3) := by decide +kernel
theorem dX7_cut_19 : decode cX7_cut 19 = .ok (.iload_n 1, 1) := by decide +kernel
theorem dX7_cut_20 : decode cX7_cut 20 = .ok (.bipush 16, 2) := by decide +kernel
theorem dX7_cut_22 : decode cX7_cut 22 = .ok (.ishl, 1) := by decide +kernel
theorem dX7_cut_23 : decode cX7_cut 23 = .ok (.bipush 16, 2) := by decide +kernel
theorem dX7_cut_25 : decode cX7_cut 25 = .ok (.ishr, 1) := by decide +kernel
theorem dX7_cut_26 : decode cX7_cut 26 = .ok (.goto 4, 3) := by decide +kernel
theorem dX7_cut_29 : decode cX7_cut 29 = .ok (.iload_n 1, 1) := by decide +kernel
theorem dX7_cut_30 : decode cX7_cut 30 = .ok (.ireturn, 1) := by decide +kernel
theorem dX7_row_0 : decode cX7_row 0 = .ok (.iload_n 1, 1) := by decide +kernel
theorem dX7_row_1 : decode cX7_row 1 = .ok (.invokestatic 75, 3) := by decide +kernel
theorem dX7_row_4 : decode cX7_row 4 = .ok (.ifCond .eq 18, 3) := by decide +kernel
theorem dX7_row_7 : decode cX7_row 7 = .ok (.iload_n 2, 1) := by decide +kernel
theorem dX7_row_8 : decode cX7_row 8 = .ok (.iconst 0, 1) := by decide +kernel
theorem dX7_row_9 : decode cX7_row 9 = .ok (.iconst 2, 1) := by decide +kernel
theorem dX7_row_10 : decode cX7_row 10 = .ok (.invokestatic 71, 3) := by decide +kernel
theorem dX7_row_13 : decode cX7_row 13 = .ok (.ifCond .eq 9, 3) := by decide +kernel
theorem dX7_row_16 : decode cX7_row 16 = .ok (.iload_n 3, 1) := by decide +kernel
theorem dX7_row_17 : decode cX7_row 17 = .ok (.bipush 40, 2) := by decide +kernel
theorem dX7_row_19 : decode cX7_row 19 = .ok (.if_icmp .le 6, 3) := by decide +kernel
theorem dX7_row_22 : decode cX7_row 22 = .ok (.ldc 79, 2) := by decide +kernel
theorem dX7_row_24 : decode cX7_row 24 = .ok (.ireturn, 1) := by decide +kernel
theorem dX7_row_25 : decode cX7_row 25 = .ok (.iload_n 3, 1) := by decide +kernel
theorem dX7_row_26 : decode cX7_row 26 = .ok (.ifCond .ge 9, 3) := by decide +kernel
theorem dX7_row_29 : decode cX7_row 29 = .ok (.aload_n 0, 1) := by decide +kernel
theorem dX7_row_30 : decode cX7_row 30 = .ok (.iconst 4, 1) := by decide +kernel
theorem dX7_row_31 : decode cX7_row 31 = .ok (.invokevirtual 80, 3) := by decide +kernel
theorem dX7_row_34 : decode cX7_row 34 = .ok (.ireturn, 1) := by decide +kernel
theorem dX7_row_35 : decode cX7_row 35 = .ok (.aload_n 0, 1) := by decide +kernel
theorem dX7_row_36 : decode cX7_row 36 = .ok (.getfield 7, 3) := by decide +kernel
theorem dX7_row_39 : decode cX7_row 39 = .ok (.iload_n 1, 1) := by decide +kernel
theorem dX7_row_40 : decode cX7_row 40 = .ok (.iload_n 2, 1) := by decide +kernel
theorem dX7_row_41 : decode cX7_row 41 = .ok (.iastore, 1) := by decide +kernel
theorem dX7_row_42 : decode cX7_row 42 = .ok (.aload_n 0, 1) := by decide +kernel
theorem dX7_row_43 : decode cX7_row 43 = .ok (.getfield 13, 3) := by decide +kernel
theorem dX7_row_46 : decode cX7_row 46 = .ok (.iload_n 1, 1) := by decide +kernel
theorem dX7_row_47 : decode cX7_row 47 = .ok (.iload_n 3, 1) := by decide +kernel
theorem dX7_row_48 : decode cX7_row 48 = .ok (.iastore, 1) := by decide +kernel
theorem dX7_row_49 : decode cX7_row 49 = .ok (.iconst 0, 1) := by decide +kernel
theorem dX7_row_50 : decode cX7_row 50 = .ok (.istore 4, 2) := by decide +kernel
theorem dX7_row_52 : decode cX7_row 52 = .ok (.iload 4, 2) := by decide +kernel
theorem dX7_row_54 : decode cX7_row 54 = .ok (.bipush 40, 2) := by decide +kernel
theorem dX7_row_56 : decode cX7_row 56 = .ok (.if_icmp .ge 22, 3) := by decide +kernel
theorem dX7_row_59 : decode cX7_row 59 = .ok (.aload_n 0, 1) := by decide +kernel
theorem dX7_row_60 : decode cX7_row 60 = .ok (.getfield 16, 3) := by decide +kernel
theorem dX7_row_63 : decode cX7_row 63 = .ok (.bipush 40, 2) := by decide +kernel
theorem dX7_row_65 : decode cX7_row 65 = .ok (.iload_n 1, 1) := by decide +kernel
theorem dX7_row_66 : decode cX7_row 66 = .ok (.imul, 1) := by decide +kernel
theorem dX7_row_67 : decode cX7_row 67 = .ok (.iload 4, 2) := by decide +kernel
theorem dX7_row_69 : decode cX7_row 69 = .ok (.iadd, 1) := by decide +kernel
theorem dX7_row_70 : decode cX7_row 70 = .ok (.iconst 0, 1) := by decide +kernel
theorem dX7_row_71 : decode cX7_row 71 = .ok (.iastore, 1) := by decide +kernel
theorem dX7_row_72 : decode cX7_row 72 = .ok (.iinc 4 1, 3) := by decide +kernel
theorem dX7_row_75 : decode cX7_row 75 = .ok (.goto (-23), 3) := by decide +kernel
theorem dX7_row_78 : decode cX7_row 78 = .ok (.aload_n 0, 1) := by decide +kernel
theorem dX7_row_79 : decode cX7_row 79 = .ok (.iload_n 3, 1) := by decide +kernel
theorem dX7_row_80 : decode cX7_row 80 = .ok (.invokevirtual 84, 3) := by decide +kernel
theorem dX7_row_83 : decode cX7_row 83 = .ok (.ireturn, 1) := by decide +kernel
theorem dX7_set_0 : decode cX7_set 0 = .ok (.iload_n 1, 1) := by decide +kernel
theorem dX7_set_1 : decode cX7_set 1 = .ok (.invokestatic 75, 3) := by decide +kernel
theorem dX7_set_4 : decode cX7_set 4 = .ok (.ifCond .ne 6, 3) := by decide +kernel
theorem dX7_set_7 : decode cX7_set 7 = .ok (.ldc 79, 2) := by decide +kernel
theorem dX7_set_9 : decode cX7_set 9 = .ok (.ireturn, 1) := by decide +kernel
theorem dX7_set_10 : decode cX7_set 10 = .ok (.aload_n 0, 1) := by decide +kernel
theorem dX7_set_11 : decode cX7_set 11 = .ok (.iload_n 1, 1) := by decide +kernel
theorem dX7_set_12 : decode cX7_set 12 = .ok (.invokevirtual 87, 3) := by decide +kernel
theorem dX7_set_15 : decode cX7_set 15 = .ok (.ifCond .eq 9, 3) := by decide +kernel
theorem dX7_set_18 : decode cX7_set 18 = .ok (.aload_n 0, 1) := by decide +kernel
theorem dX7_set_19 : decode cX7_set 19 = .ok (.iconst 1, 1) := by decide +kernel
theorem dX7_set_20 : decode cX7_set 20 = .ok (.invokevirtual 80, 3) := by decide +kernel
theorem dX7_set_23 : decode cX7_set 23 = .ok (.ireturn, 1) := by decide +kernel
theorem dX7_set_24 : decode cX7_set 24 = .ok (.iload_n 2, 1) := by decide +kernel
theorem dX7_set_25 : decode cX7_set 25 = .ok (.iconst 0, 1) := by decide +kernel
theorem dX7_set_26 : decode cX7_set 26 = .ok (.aload_n 0, 1) := by decide +kernel
theorem dX7_set_27 : decode cX7_set 27 = .ok (.getfield 13, 3) := by decide +kernel
theorem dX7_set_30 : decode cX7_set 30 = .ok (.iload_n 1, 1) := by decide +kernel
theorem dX7_set_31 : decode cX7_set 31 = .ok (.iaload, 1) := by decide +kernel
theorem dX7_set_32 : decode cX7_set 32 = .ok (.iconst 1, 1) := by decide +kernel
theorem dX7_set_33 : decode cX7_set 33 = .ok (.isub, 1) := by decide +kernel
theorem dX7_set_34 : decode cX7_set 34 = .ok (.invokestatic 71, 3) := by decide +kernel
theorem dX7_set_37 : decode cX7_set 37 = .ok (.ifCond .ne 9, 3) := by decide +kernel
theorem dX7_set_40 : decode cX7_set 40 = .ok (.aload_n 0, 1) := by decide +kernel
theorem dX7_set_41 : decode cX7_set 41 = .ok (.iconst 2, 1) := by decide +kernel
theorem dX7_set_42 : decode cX7_set 42 = .ok (.invokevirtual 80, 3) := by decide +kernel
theorem dX7_set_45 : decode cX7_set 45 = .ok (.ireturn, 1) := by decide +kernel
theorem dX7_set_46 : decode cX7_set 46 = .ok (.aload_n 0, 1) := by decide +kernel
theorem dX7_set_47 : decode cX7_set 47 = .ok (.getfield 16, 3) := by decide +kernel
theorem dX7_set_50 : decode cX7_set 50 = .ok (.bipush 40, 2) := by decide +kernel
theorem dX7_set_52 : decode cX7_set 52 = .ok (.iload_n 1, 1) := by decide +kernel
theorem dX7_set_53 : decode cX7_set 53 = .ok (.imul, 1) := by decide +kernel
theorem dX7_set_54 : decode cX7_set 54 = .ok (.iload_n 2, 1) := by decide +kernel
theorem dX7_set_55 : decode cX7_set 55 = .ok (.iadd, 1) := by decide +kernel
theorem dX7_set_56 : decode cX7_set 56 = .ok (.aload_n 0, 1) := by decide +kernel
theorem dX7_set_57 : decode cX7_set 57 = .ok (.getfield 7, 3) := by decide +kernel
theorem dX7_set_60 : decode cX7_set 60 = .ok (.iload_n 1, 1) := by decide +kernel
theorem dX7_set_61 : decode cX7_set 61 = .ok (.iaload, 1) := by decide +kernel
theorem dX7_set_62 : decode cX7_set 62 = .ok (.iload_n 3, 1) := by decide +kernel
theorem dX7_set_63 : decode cX7_set 63 = .ok (.invokestatic 90, 3) := by decide +kernel
theorem dX7_set_66 : decode cX7_set 66 = .ok (.iastore, 1) := by decide +kernel
theorem dX7_set_67 : decode cX7_set 67 = .ok (.aload_n 0, 1) := by decide +kernel
theorem dX7_set_68 : decode cX7_set 68 = .ok (.aload_n 0, 1) := by decide +kernel
theorem dX7_set_69 : decode cX7_set 69 = .ok (.getfield 16, 3) := by decide +kernel
theorem dX7_set_72 : decode cX7_set 72 = .ok (.bipush 40, 2) := by decide +kernel
theorem dX7_set_74 : decode cX7_set 74 = .ok (.iload_n 1, 1) := by decide +kernel
theorem dX7_set_75 : decode cX7_set 75 = .ok (.imul, 1) := by decide +kernel
theorem dX7_set_76 : decode cX7_set 76 = .ok (.iload_n 2, 1) := by decide +kernel
theorem dX7_set_77 : decode cX7_set 77 = .ok (.iadd, 1) := by decide +kernel
theorem dX7_set_78 : decode cX7_set 78 = .ok (.iaload, 1) := by decide +kernel
theorem dX7_set_79 : decode cX7_set 79 = .ok (.invokevirtual 84, 3) := by decide +kernel
theorem dX7_set_82 : decode cX7_set 82 = .ok (.ireturn, 1) := by decide +kernel
theorem dX7_isPart_0 : decode cX7_isPart 0 = .ok (.iload_n 2, 1) := by decide +kernel
theorem dX7_isPart_1 : decode cX7_isPart 1 = .ok (.ifCond .lt 33, 3) := by decide +kernel
theorem dX7_isPart_4 : decode cX7_isPart 4 = .ok (.iload_n 3, 1) := by decide +kernel
theorem dX7_isPart_5 : decode cX7_isPart 5 = .ok (.ifCond .lt 29, 3) := by decide +kernel
theorem dX7_isPart_8 : decode cX7_isPart 8 = .ok (.iload_n 2, 1) := by decide +kernel
theorem dX7_isPart_9 : decode cX7_isPart 9 = .ok (.aload_n 0, 1) := by decide +kernel
theorem dX7_isPart_10 : decode cX7_isPart 10 = .ok (.getfield 13, 3) := by decide +kernel
theorem dX7_isPart_13 : decode cX7_isPart 13 = .ok (.iload_n 1, 1) := by decide +kernel
theorem dX7_isPart_14 : decode cX7_isPart 14 = .ok (.iaload, 1) := by decide +kernel
theorem dX7_isPart_15 : decode cX7_isPart 15 = .ok (.if_icmp .gt 19, 3) := by decide +kernel
theorem dX7_isPart_18 : decode cX7_isPart 18 = .ok (.iload_n 3, 1) := by decide +kernel
theorem dX7_isPart_19 : decode cX7_isPart 19 = .ok (.aload_n 0, 1) := by decide +kernel
theorem dX7_isPart_20 : decode cX7_isPart 20 = .ok (.getfield 13, 3) := by decide +kernel
theorem dX7_isPart_23 : decode cX7_isPart 23 = .ok (.iload_n 1, 1) := by decide +kernel
theorem dX7_isPart_24 : decode cX7_isPart 24 = .ok (.iaload, 1) := by decide +kernel
theorem dX7_isPart_25 : decode cX7_isPart 25 = .ok (.iload_n 2, 1) := by decide +kernel
theorem dX7_isPart_26 : decode cX7_isPart 26 = .ok (.isub, 1) := by decide +kernel
theorem dX7_isPart_27 : decode cX7_isPart 27 = .ok (.if_icmp .gt 7, 3) := by decide +kernel
theorem dX7_isPart_30 : decode cX7_isPart 30 = .ok (.iconst 1, 1) := by decide +kernel
theorem dX7_isPart_31 : decode cX7_isPart 31 = .ok (.goto 4, 3) := by decide +kernel
theorem dX7_isPart_34 : decode cX7_isPart 34 = .ok (.iconst 0, 1) := by decide +kernel
theorem dX7_isPart_35 : decode cX7_isPart 35 = .ok (.ireturn, 1) := by decide +kernel
theorem dX7_copy_0 : decode cX7_copy 0 = .ok (.iload_n 1, 1) := by decide +kernel
theorem dX7_copy_1 : decode cX7_copy 1 = .ok (.invokestatic 75, 3) := by decide +kernel
theorem dX7_copy_4 : decode cX7_copy 4 = .ok (.ifCond .eq 10, 3) := by decide +kernel
theorem dX7_copy_7 : decode cX7_copy 7 = .ok (.iload_n 3, 1) := by decide +kernel
theorem dX7_copy_8 : decode cX7_copy 8 = .ok (.invokestatic 75, 3) := by decide +kernel
theorem dX7_copy_11 : decode cX7_copy 11 = .ok (.ifCond .ne 6, 3) := by decide +kernel
theorem dX7_copy_14 : decode cX7_copy 14 = .ok (.ldc 79, 2) := by decide +kernel
theorem dX7_copy_16 : decode cX7_copy 16 = .ok (.ireturn, 1) := by decide +kernel
theorem dX7_copy_17 : decode cX7_copy 17 = .ok (.aload_n 0, 1) := by decide +kernel
theorem dX7_copy_18 : decode cX7_copy 18 = .ok (.iload_n 1, 1) := by decide +kernel
theorem dX7_copy_19 : decode cX7_copy 19 = .ok (.invokevirtual 87, 3) := by decide +kernel
theorem dX7_copy_22 : decode cX7_copy 22 = .ok (.ifCond .ne 11, 3) := by decide +kernel
theorem dX7_copy_25 : decode cX7_copy 25 = .ok (.aload_n 0, 1) := by decide +kernel
theorem dX7_copy_26 : decode cX7_copy 26 = .ok (.iload_n 3, 1) := by decide +kernel
theorem dX7_copy_27 : decode cX7_copy 27 = .ok (.invokevirtual 87, 3) := by decide +kernel
theorem dX7_copy_30 : decode cX7_copy 30 = .ok (.ifCond .eq 9, 3) := by decide +kernel
theorem dX7_copy_33 : decode cX7_copy 33 = .ok (.aload_n 0, 1) := by decide +kernel
theorem dX7_copy_34 : decode cX7_copy 34 = .ok (.iconst 1, 1) := by decide +kernel
theorem dX7_copy_35 : decode cX7_copy 35 = .ok (.invokevirtual 80, 3) := by decide +kernel
theorem dX7_copy_38 : decode cX7_copy 38 = .ok (.ireturn, 1) := by decide +kernel
theorem dX7_copy_39 : decode cX7_copy 39 = .ok (.aload_n 0, 1) := by decide +kernel
theorem dX7_copy_40 : decode cX7_copy 40 = .ok (.getfield 7, 3) := by decide +kernel
theorem dX7_copy_43 : decode cX7_copy 43 = .ok (.iload_n 1, 1) := by decide +kernel
theorem dX7_copy_44 : decode cX7_copy 44 = .ok (.iaload, 1) := by decide +kernel
theorem dX7_copy_45 : decode cX7_copy 45 = .ok (.aload_n 0, 1) := by decide +kernel
theorem dX7_copy_46 : decode cX7_copy 46 = .ok (.getfield 7, 3) := by decide +kernel
theorem dX7_copy_49 : decode cX7_copy 49 = .ok (.iload_n 3, 1) := by decide +kernel
theorem dX7_copy_50 : decode cX7_copy 50 = .ok (.iaload, 1) := by decide +kernel
theorem dX7_copy_51 : decode cX7_copy 51 = .ok (.if_icmp .eq 9, 3) := by decide +kernel
theorem dX7_copy_54 : decode cX7_copy 54 = .ok (.aload_n 0, 1) := by decide +kernel
theorem dX7_copy_55 : decode cX7_copy 55 = .ok (.iconst 5, 1) := by decide +kernel
theorem dX7_copy_56 : decode cX7_copy 56 = .ok (.invokevirtual 80, 3) := by decide +kernel
theorem dX7_copy_59 : decode cX7_copy 59 = .ok (.ireturn, 1) := by decide +kernel
theorem dX7_copy_60 : decode cX7_copy 60 = .ok (.aload_n 0, 1) := by decide +kernel
theorem dX7_copy_61 : decode cX7_copy 61 = .ok (.iload_n 1, 1) := by decide +kernel
theorem dX7_copy_62 : decode cX7_copy 62 = .ok (.iload_n 2, 1) := by decide +kernel
theorem dX7_copy_63 : decode cX7_copy 63 = .ok (.iload 5, 2) := by decide +kernel
theorem dX7_copy_65 : decode cX7_copy 65 = .ok (.invokevirtual 94, 3) := by decide +kernel
theorem dX7_copy_68 : decode cX7_copy 68 = .ok (.ifCond .eq 15, 3) := by decide +kernel
theorem dX7_copy_71 : decode cX7_copy 71 = .ok (.aload_n 0, 1) := by decide +kernel
theorem dX7_copy_72 : decode cX7_copy 72 = .ok (.iload_n 3, 1) := by decide +kernel
theorem dX7_copy_73 : decode cX7_copy 73 = .ok (.iload 4, 2) := by decide +kernel
theorem dX7_copy_75 : decode cX7_copy 75 = .ok (.iload 5, 2) := by decide +kernel
theorem dX7_copy_77 : decode cX7_copy 77 = .ok (.invokevirtual 94, 3) := by decide +kernel
theorem dX7_copy_80 : decode cX7_copy 80 = .ok (.ifCond .ne 9, 3) := by decide +kernel
theorem dX7_copy_83 : decode cX7_copy 83 = .ok (.aload_n 0, 1) := by decide +kernel
theorem dX7_copy_84 : decode cX7_copy 84 = .ok (.iconst 2, 1) := by decide +kernel
theorem dX7_copy_85 : decode cX7_copy 85 = .ok (.invokevirtual 80, 3) := by decide +kernel
theorem dX7_copy_88 : decode cX7_copy 88 = .ok (.ireturn, 1) := by decide +kernel
theorem dX7_copy_89 : decode cX7_copy 89 = .ok (.iconst 0, 1) := by decide +kernel
theorem dX7_copy_90 : decode cX7_copy 90 = .ok (.istore 6, 2) := by decide +kernel
theorem dX7_copy_92 : decode cX7_copy 92 = .ok (.iload 6, 2) := by decide +kernel
theorem dX7_copy_94 : decode cX7_copy 94 = .ok (.iload 5, 2) := by decide +kernel
theorem dX7_copy_96 : decode cX7_copy 96 = .ok (.if_icmp .ge 30, 3) := by decide +kernel
theorem dX7_copy_99 : decode cX7_copy 99 = .ok (.aload_n 0, 1) := by decide +kernel
theorem dX7_copy_100 : decode cX7_copy 100 = .ok (.getfield 19, 3) := by decide +kernel
theorem dX7_copy_103 : decode cX7_copy 103 = .ok (.iload 6, 2) := by decide +kernel
theorem dX7_copy_105 : decode cX7_copy 105 = .ok (.aload_n 0, 1) := by decide +kernel
theorem dX7_copy_106 : decode cX7_copy 106 = .ok (.getfield 16, 3) := by decide +kernel
theorem dX7_copy_109 : decode cX7_copy 109 = .ok (.bipush 40, 2) := by decide +kernel
theorem dX7_copy_111 : decode cX7_copy 111 = .ok (.iload_n 1, 1) := by decide +kernel
theorem dX7_copy_112 : decode cX7_copy 112 = .ok (.imul, 1) := by decide +kernel
theorem dX7_copy_113 : decode cX7_copy 113 = .ok (.iload_n 2, 1) := by decide +kernel
theorem dX7_copy_114 : decode cX7_copy 114 = .ok (.iadd, 1) := by decide +kernel
theorem dX7_copy_115 : decode cX7_copy 115 = .ok (.iload 6, 2) := by decide +kernel
theorem dX7_copy_117 : decode cX7_copy 117 = .ok (.iadd, 1) := by decide +kernel
theorem dX7_copy_118 : decode cX7_copy 118 = .ok (.iaload, 1) := by decide +kernel
theorem dX7_copy_119 : decode cX7_copy 119 = .ok (.iastore, 1) := by decide +kernel
theorem dX7_copy_120 : decode cX7_copy 120 = .ok (.iinc 6 1, 3) := by decide +kernel
theorem dX7_copy_123 : decode cX7_copy 123 = .ok (.goto (-31), 3) := by decide +kernel
theorem dX7_copy_126 : decode cX7_copy 126 = .ok (.iconst 0, 1) := by decide +kernel
theorem dX7_copy_127 : decode cX7_copy 127 = .ok (.istore 6, 2) := by decide +kernel
theorem dX7_copy_129 : decode cX7_copy 129 = .ok (.iload 6, 2) := by decide +kernel
theorem dX7_copy_131 : decode cX7_copy 131 = .ok (.iload 5, 2) := by decide +kernel
theorem dX7_copy_133 : decode cX7_copy 133 = .ok (.if_icmp .ge 31, 3) := by decide +kernel
theorem dX7_copy_136 : decode cX7_copy 136 = .ok (.aload_n 0, 1) := by decide +kernel
theorem dX7_copy_137 : decode cX7_copy 137 = .ok (.getfield 16, 3) := by decide +kernel
theorem dX7_copy_140 : decode cX7_copy 140 = .ok (.bipush 40, 2) := by decide +kernel
theorem dX7_copy_142 : decode cX7_copy 142 = .ok (.iload_n 3, 1) := by decide +kernel
theorem dX7_copy_143 : decode cX7_copy 143 = .ok (.imul, 1) := by decide +kernel
theorem dX7_copy_144 : decode cX7_copy 144 = .ok (.iload 4, 2) := by decide +kernel
theorem dX7_copy_146 : decode cX7_copy 146 = .ok (.iadd, 1) := by decide +kernel
theorem dX7_copy_147 : decode cX7_copy 147 = .ok (.iload 6, 2) := by decide +kernel
theorem dX7_copy_149 : decode cX7_copy 149 = .ok (.iadd, 1) := by decide +kernel
theorem dX7_copy_150 : decode cX7_copy 150 = .ok (.aload_n 0, 1) := by decide +kernel
theorem dX7_copy_151 : decode cX7_copy 151 = .ok (.getfield 19, 3) := by decide +kernel
theorem dX7_copy_154 : decode cX7_copy 154 = .ok (.iload 6, 2) := by decide +kernel
theorem dX7_copy_156 : decode cX7_copy 156 = .ok (.iaload, 1) := by decide +kernel
theorem dX7_copy_157 : decode cX7_copy 157 = .ok (.iastore, 1) := by decide +kernel
theorem dX7_copy_158 : decode cX7_copy 158 = .ok (.iinc 6 1, 3) := by decide +kernel
theorem dX7_copy_161 : decode cX7_copy 161 = .ok (.goto (-32), 3) := by decide +kernel
theorem dX7_copy_164 : decode cX7_copy 164 = .ok (.aload_n 0, 1) := by decide +kernel
theorem dX7_copy_165 : decode cX7_copy 165 = .ok (.iload 5, 2) := by decide +kernel
theorem dX7_copy_167 : decode cX7_copy 167 = .ok (.invokevirtual 84, 3) := by decide +kernel
theorem dX7_copy_170 : decode cX7_copy 170 = .ok (.ireturn, 1) := by decide +kernel
theorem dX7_drop_0 : decode cX7_drop 0 = .ok (.iload_n 1, 1) := by decide +kernel
theorem dX7_drop_1 : decode cX7_drop 1 = .ok (.invokestatic 75, 3) := by decide +kernel
theorem dX7_drop_4 : decode cX7_drop 4 = .ok (.ifCond .ne 6, 3) := by decide +kernel
theorem dX7_drop_7 : decode cX7_drop 7 = .ok (.ldc 79, 2) := by decide +kernel
theorem dX7_drop_9 : decode cX7_drop 9 = .ok (.ireturn, 1) := by decide +kernel
theorem dX7_drop_10 : decode cX7_drop 10 = .ok (.aload_n 0, 1) := by decide +kernel
theorem dX7_drop_11 : decode cX7_drop 11 = .ok (.iload_n 1, 1) := by decide +kernel
theorem dX7_drop_12 : decode cX7_drop 12 = .ok (.invokevirtual 87, 3) := by decide +kernel
theorem dX7_drop_15 : decode cX7_drop 15 = .ok (.ifCond .eq 9, 3) := by decide +kernel
theorem dX7_drop_18 : decode cX7_drop 18 = .ok (.aload_n 0, 1) := by decide +kernel
theorem dX7_drop_19 : decode cX7_drop 19 = .ok (.iconst 1, 1) := by decide +kernel
theorem dX7_drop_20 : decode cX7_drop 20 = .ok (.invokevirtual 80, 3) := by decide +kernel
theorem dX7_drop_23 : decode cX7_drop 23 = .ok (.ireturn, 1) := by decide +kernel
theorem dX7_drop_24 : decode cX7_drop 24 = .ok (.aload_n 0, 1) := by decide +kernel
theorem dX7_drop_25 : decode cX7_drop 25 = .ok (.getfield 7, 3) := by decide +kernel
theorem dX7_drop_28 : decode cX7_drop 28 = .ok (.iload_n 1, 1) := by decide +kernel
theorem dX7_drop_29 : decode cX7_drop 29 = .ok (.ldc 65, 2) := by decide +kernel
theorem dX7_drop_31 : decode cX7_drop 31 = .ok (.iastore, 1) := by decide +kernel
theorem dX7_drop_32 : decode cX7_drop 32 = .ok (.aload_n 0, 1) := by decide +kernel
theorem dX7_drop_33 : decode cX7_drop 33 = .ok (.aload_n 0, 1) := by decide +kernel
theorem dX7_drop_34 : decode cX7_drop 34 = .ok (.getfield 13, 3) := by decide +kernel
theorem dX7_drop_37 : decode cX7_drop 37 = .ok (.iload_n 1, 1) := by decide +kernel
theorem dX7_drop_38 : decode cX7_drop 38 = .ok (.iaload, 1) := by decide +kernel
theorem dX7_drop_39 : decode cX7_drop 39 = .ok (.invokevirtual 84, 3) := by decide +kernel
theorem dX7_drop_42 : decode cX7_drop 42 = .ok (.ireturn, 1) := by decide +kernel
theorem dX7_feed_0 : decode cX7_feed 0 = .ok (.iload_n 1, 1) := by decide +kernel
theorem dX7_feed_1 : decode cX7_feed 1 = .ok (.iconst 0, 1) := by decide +kernel
theorem dX7_feed_2 : decode cX7_feed 2 = .ok (.sipush 255, 3) := by decide +kernel
theorem dX7_feed_5 : decode cX7_feed 5 = .ok (.invokestatic 71, 3) := by decide +kernel
theorem dX7_feed_8 : decode cX7_feed 8 = .ok (.ifCond .ne 6, 3) := by decide +kernel
theorem dX7_feed_11 : decode cX7_feed 11 = .ok (.ldc 79, 2) := by decide +kernel
theorem dX7_feed_13 : decode cX7_feed 13 = .ok (.ireturn, 1) := by decide +kernel
theorem dX7_feed_14 : decode cX7_feed 14 = .ok (.aload_n 0, 1) := by decide +kernel
theorem dX7_feed_15 : decode cX7_feed 15 = .ok (.getfield 97, 3) := by decide +kernel
theorem dX7_feed_18 : decode cX7_feed 18 = .ok (.bipush 120, 2) := by decide +kernel
theorem dX7_feed_20 : decode cX7_feed 20 = .ok (.if_icmp .ne 6, 3) := by decide +kernel
theorem dX7_feed_23 : decode cX7_feed 23 = .ok (.ldc 100, 2) := by decide +kernel
theorem dX7_feed_25 : decode cX7_feed 25 = .ok (.ireturn, 1) := by decide +kernel
theorem dX7_feed_26 : decode cX7_feed 26 = .ok (.aload_n 0, 1) := by decide +kernel
theorem dX7_feed_27 : decode cX7_feed 27 = .ok (.getfield 22, 3) := by decide +kernel
theorem dX7_feed_30 : decode cX7_feed 30 = .ok (.aload_n 0, 1) := by decide +kernel
theorem dX7_feed_31 : decode cX7_feed 31 = .ok (.getfield 97, 3) := by decide +kernel
theorem dX7_feed_34 : decode cX7_feed 34 = .ok (.iload_n 1, 1) := by decide +kernel
theorem dX7_feed_35 : decode cX7_feed 35 = .ok (.iastore, 1) := by decide +kernel
theorem dX7_feed_36 : decode cX7_feed 36 = .ok (.aload_n 0, 1) := by decide +kernel
theorem dX7_feed_37 : decode cX7_feed 37 = .ok (.dup, 1) := by decide +kernel
theorem dX7_feed_38 : decode cX7_feed 38 = .ok (.getfield 97, 3) := by decide +kernel
theorem dX7_feed_41 : decode cX7_feed 41 = .ok (.iconst 1, 1) := by decide +kernel
theorem dX7_feed_42 : decode cX7_feed 42 = .ok (.iadd, 1) := by decide +kernel
theorem dX7_feed_43 : decode cX7_feed 43 = .ok (.putfield 97, 3) := by decide +kernel
theorem dX7_feed_46 : decode cX7_feed 46 = .ok (.aload_n 0, 1) := by decide +kernel
theorem dX7_feed_47 : decode cX7_feed 47 = .ok (.getfield 97, 3) := by decide +kernel
theorem dX7_feed_50 : decode cX7_feed 50 = .ok (.ireturn, 1) := by decide +kernel
theorem dX7_byteAt_0 : decode cX7_byteAt 0 = .ok (.iload_n 1, 1) := by decide +kernel
theorem dX7_byteAt_1 : decode cX7_byteAt 1 = .ok (.aload_n 0, 1) := by decide +kernel
theorem dX7_byteAt_2 : decode cX7_byteAt 2 = .ok (.getfield 97, 3) := by decide +kernel
theorem dX7_byteAt_5 : decode cX7_byteAt 5 = .ok (.if_icmp .ge 12, 3) := by decide +kernel
theorem dX7_byteAt_8 : decode cX7_byteAt 8 = .ok (.aload_n 0, 1) := by decide +kernel
theorem dX7_byteAt_9 : decode cX7_byteAt 9 = .ok (.getfield 22, 3) := by decide +kernel
theorem dX7_byteAt_12 : decode cX7_byteAt 12 = .ok (.iload_n 1, 1) := by decide +kernel
theorem dX7_byteAt_13 : decode cX7_byteAt 13 = .ok (.iaload, 1) := by decide +kernel
theorem dX7_byteAt_14 : decode cX7_byteAt 14 = .ok (.goto 4, 3) := by decide +kernel
theorem dX7_byteAt_17 : decode cX7_byteAt 17 = .ok (.iconst (-1), 1) := by decide +kernel
theorem dX7_byteAt_18 : decode cX7_byteAt 18 = .ok (.ireturn, 1) := by decide +kernel
theorem dX7_advances_0 : decode cX7_advances 0 = .ok (.aload_n 0, 1) := by decide +kernel
theorem dX7_advances_1 : decode cX7_advances 1 = .ok (.aload_n 0, 1) := by decide +kernel
theorem dX7_advances_2 : decode cX7_advances 2 = .ok (.getfield 101, 3) := by decide +kernel
theorem dX7_advances_5 : decode cX7_advances 5 = .ok (.putfield 104, 3) := by decide +kernel
theorem dX7_advances_8 : decode cX7_advances 8 = .ok (.aload_n 0, 1) := by decide +kernel
theorem dX7_advances_9 : decode cX7_advances 9 = .ok (.aload_n 0, 1) := by decide +kernel
theorem dX7_advances_10 : decode cX7_advances 10 = .ok (.getfield 101, 3) := by decide +kernel
theorem dX7_advances_13 : decode cX7_advances 13 = .ok (.invokevirtual 107, 3) := by decide +kernel
theorem dX7_advances_16 : decode cX7_advances 16 = .ok (.istore_n 1, 1) := by decide +kernel
theorem dX7_advances_17 : decode cX7_advances 17 = .ok (.aload_n 0, 1) := by decide +kernel
theorem dX7_advances_18 : decode cX7_advances 18 = .ok (.iload_n 1, 1) := by decide +kernel
theorem dX7_advances_19 : decode cX7_advances 19 = .ok (.putfield 110, 3) := by decide +kernel
theorem dX7_advances_22 : decode cX7_advances 22 = .ok (.iload_n 1, 1) := by decide +kernel
theorem dX7_advances_23 : decode cX7_advances 23 = .ok (.bipush 48, 2) := by decide +kernel
theorem dX7_advances_25 : decode cX7_advances 25 = .ok (.bipush 57, 2) := by decide +kernel
theorem dX7_advances_27 : decode cX7_advances 27 = .ok (.invokestatic 71, 3) := by decide +kernel
theorem dX7_advances_30 : decode cX7_advances 30 = .ok (.ifCond .eq 105, 3) := by decide +kernel
theorem dX7_advances_33 : decode cX7_advances 33 = .ok (.aload_n 0, 1) := by decide +kernel
theorem dX7_advances_34 : decode cX7_advances 34 = .ok (.iconst 0, 1) := by decide +kernel
theorem dX7_advances_35 : decode cX7_advances 35 = .ok (.putfield 110, 3) := by decide +kernel
theorem dX7_advances_38 : decode cX7_advances 38 = .ok (.aload_n 0, 1) := by decide +kernel
theorem dX7_advances_39 : decode cX7_advances 39 = .ok (.aload_n 0, 1) := by decide +kernel
theorem dX7_advances_40 : decode cX7_advances 40 = .ok (.getfield 101, 3) := by decide +kernel
theorem dX7_advances_43 : decode cX7_advances 43 = .ok (.invokevirtual 107, 3) := by decide +kernel
theorem dX7_advances_46 : decode cX7_advances 46 = .ok (.bipush 48, 2) := by decide +kernel
theorem dX7_advances_48 : decode cX7_advances 48 = .ok (.bipush 57, 2) := by decide +kernel
theorem dX7_advances_50 : decode cX7_advances 50 = .ok (.invokestatic 71, 3) := by decide +kernel
theorem dX7_advances_53 : decode cX7_advances 53 = .ok (.ifCond .eq 59, 3) := by decide +kernel
theorem dX7_advances_56 : decode cX7_advances 56 = .ok (.aload_n 0, 1) := by decide +kernel
theorem dX7_advances_57 : decode cX7_advances 57 = .ok (.aload_n 0, 1) := by decide +kernel
theorem dX7_advances_58 : decode cX7_advances 58 = .ok (.getfield 101, 3) := by decide +kernel
theorem dX7_advances_61 : decode cX7_advances 61 = .ok (.aload_n 0, 1) := by decide +kernel
theorem dX7_advances_62 : decode cX7_advances 62 = .ok (.getfield 104, 3) := by decide +kernel
theorem dX7_advances_65 : decode cX7_advances 65 = .ok (.isub, 1) := by decide +kernel
theorem dX7_advances_66 : decode cX7_advances 66 = .ok (.iconst 2, 1) := by decide +kernel
theorem dX7_advances_67 : decode cX7_advances 67 = .ok (.if_icmp .ge 25, 3) := by decide +kernel
theorem dX7_advances_70 : decode cX7_advances 70 = .ok (.bipush 10, 2) := by decide +kernel
theorem dX7_advances_72 : decode cX7_advances 72 = .ok (.aload_n 0, 1) := by decide +kernel
theorem dX7_advances_73 : decode cX7_advances 73 = .ok (.getfield 110, 3) := by decide +kernel
theorem dX7_advances_76 : decode cX7_advances 76 = .ok (.imul, 1) := by decide +kernel
theorem dX7_advances_77 : decode cX7_advances 77 = .ok (.aload_n 0, 1) := by decide +kernel
theorem dX7_advances_78 : decode cX7_advances 78 = .ok (.aload_n 0, 1) := by decide +kernel
theorem dX7_advances_79 : decode cX7_advances 79 = .ok (.getfield 101, 3) := by decide +kernel
theorem dX7_advances_82 : decode cX7_advances 82 = .ok (.invokevirtual 107, 3) := by decide +kernel
theorem dX7_advances_85 : decode cX7_advances 85 = .ok (.iadd, 1) := by decide +kernel
theorem dX7_advances_86 : decode cX7_advances 86 = .ok (.bipush 48, 2) := by decide +kernel
theorem dX7_advances_88 : decode cX7_advances 88 = .ok (.isub, 1) := by decide +kernel
theorem dX7_advances_89 : decode cX7_advances 89 = .ok (.goto 7, 3) := by decide +kernel
theorem dX7_advances_92 : decode cX7_advances 92 = .ok (.aload_n 0, 1) := by decide +kernel
theorem dX7_advances_93 : decode cX7_advances 93 = .ok (.getfield 110, 3) := by decide +kernel
theorem dX7_advances_96 : decode cX7_advances 96 = .ok (.putfield 110, 3) := by decide +kernel
theorem dX7_advances_99 : decode cX7_advances 99 = .ok (.aload_n 0, 1) := by decide +kernel
theorem dX7_advances_100 : decode cX7_advances 100 = .ok (.dup, 1) := by decide +kernel
theorem dX7_advances_101 : decode cX7_advances 101 = .ok (.getfield 101, 3) := by decide +kernel
theorem dX7_advances_104 : decode cX7_advances 104 = .ok (.iconst 1, 1) := by decide +kernel
theorem dX7_advances_105 : decode cX7_advances 105 = .ok (.iadd, 1) := by decide +kernel
theorem dX7_advances_106 : decode cX7_advances 106 = .ok (.putfield 101, 3) := by decide +kernel
theorem dX7_advances_109 : decode cX7_advances 109 = .ok (.goto (-71), 3) := by decide +kernel
theorem dX7_advances_112 : decode cX7_advances 112 = .ok (.aload_n 0, 1) := by decide +kernel
theorem dX7_advances_113 : decode cX7_advances 113 = .ok (.aload_n 0, 1) := by decide +kernel
theorem dX7_advances_114 : decode cX7_advances 114 = .ok (.getfield 101, 3) := by decide +kernel
theorem dX7_advances_117 : decode cX7_advances 117 = .ok (.aload_n 0, 1) := by decide +kernel
theorem dX7_advances_118 : decode cX7_advances 118 = .ok (.getfield 104, 3) := by decide +kernel
theorem dX7_advances_121 : decode cX7_advances 121 = .ok (.isub, 1) := by decide +kernel
theorem dX7_advances_122 : decode cX7_advances 122 = .ok (.iconst 3, 1) := by decide +kernel
theorem dX7_advances_123 : decode cX7_advances 123 = .ok (.if_icmp .ge 7, 3) := by decide +kernel
theorem dX7_advances_126 : decode cX7_advances 126 = .ok (.iconst 2, 1) := by decide +kernel
theorem dX7_advances_127 : decode cX7_advances 127 = .ok (.goto 4, 3) := by decide +kernel
theorem dX7_advances_130 : decode cX7_advances 130 = .ok (.iconst 5, 1) := by decide +kernel
theorem dX7_advances_131 : decode cX7_advances 131 = .ok (.putfield 113, 3) := by decide +kernel
theorem dX7_advances_134 : decode cX7_advances 134 = .ok (.return_, 1) := by decide +kernel
theorem dX7_advances_135 : decode cX7_advances 135 = .ok (.aload_n 0, 1) := by decide +kernel
theorem dX7_advances_136 : decode cX7_advances 136 = .ok (.iload_n 1, 1) := by decide +kernel
theorem dX7_advances_137 : decode cX7_advances 137 = .ok (.ifCond .ge 7, 3) := by decide +kernel
theorem dX7_advances_140 : decode cX7_advances 140 = .ok (.iconst 0, 1) := by decide +kernel
theorem dX7_advances_141 : decode cX7_advances 141 = .ok (.goto 39, 3) := by decide +kernel
theorem dX7_advances_144 : decode cX7_advances 144 = .ok (.iload_n 1, 1) := by decide +kernel
theorem dX7_advances_145 : decode cX7_advances 145 = .ok (.bipush 97, 2) := by decide +kernel
theorem dX7_advances_147 : decode cX7_advances 147 = .ok (.bipush 122, 2) := by decide +kernel
theorem dX7_advances_149 : decode cX7_advances 149 = .ok (.invokestatic 71, 3) := by decide +kernel
theorem dX7_advances_152 : decode cX7_advances 152 = .ok (.ifCond .eq 7, 3) := by decide +kernel
theorem dX7_advances_155 : decode cX7_advances 155 = .ok (.iconst 1, 1) := by decide +kernel
theorem dX7_advances_156 : decode cX7_advances 156 = .ok (.goto 24, 3) := by decide +kernel
theorem dX7_advances_159 : decode cX7_advances 159 = .ok (.iload_n 1, 1) := by decide +kernel
theorem dX7_advances_160 : decode cX7_advances 160 = .ok (.bipush 44, 2) := by decide +kernel
theorem dX7_advances_162 : decode cX7_advances 162 = .ok (.if_icmp .ne 7, 3) := by decide +kernel
theorem dX7_advances_165 : decode cX7_advances 165 = .ok (.iconst 3, 1) := by decide +kernel
theorem dX7_advances_166 : decode cX7_advances 166 = .ok (.goto 14, 3) := by decide +kernel
theorem dX7_advances_169 : decode cX7_advances 169 = .ok (.iload_n 1, 1) := by decide +kernel
theorem dX7_advances_170 : decode cX7_advances 170 = .ok (.bipush 59, 2) := by decide +kernel
theorem dX7_advances_172 : decode cX7_advances 172 = .ok (.if_icmp .ne 7, 3) := by decide +kernel
theorem dX7_advances_175 : decode cX7_advances 175 = .ok (.iconst 4, 1) := by decide +kernel
theorem dX7_advances_176 : decode cX7_advances 176 = .ok (.goto 4, 3) := by decide +kernel
theorem dX7_advances_179 : decode cX7_advances 179 = .ok (.iconst 5, 1) := by decide +kernel
theorem dX7_advances_180 : decode cX7_advances 180 = .ok (.putfield 113, 3) := by decide +kernel
theorem dX7_advances_183 : decode cX7_advances 183 = .ok (.aload_n 0, 1) := by decide +kernel
theorem dX7_advances_184 : decode cX7_advances 184 = .ok (.dup, 1) := by decide +kernel
theorem dX7_advances_185 : decode cX7_advances 185 = .ok (.getfield 101, 3) := by decide +kernel
theorem dX7_advances_188 : decode cX7_advances 188 = .ok (.aload_n 0, 1) := by decide +kernel
theorem dX7_advances_189 : decode cX7_advances 189 = .ok (.getfield 113, 3) := by decide +kernel
theorem dX7_advances_192 : decode cX7_advances 192 = .ok (.ifCond .ne 7, 3) := by decide +kernel
theorem dX7_advances_195 : decode cX7_advances 195 = .ok (.iconst 0, 1) := by decide +kernel
theorem dX7_advances_196 : decode cX7_advances 196 = .ok (.goto 4, 3) := by decide +kernel
theorem dX7_advances_199 : decode cX7_advances 199 = .ok (.iconst 1, 1) := by decide +kernel
theorem dX7_advances_200 : decode cX7_advances 200 = .ok (.iadd, 1) := by decide +kernel
theorem dX7_advances_201 : decode cX7_advances 201 = .ok (.putfield 101, 3) := by decide +kernel
theorem dX7_advances_204 : decode cX7_advances 204 = .ok (.return_, 1) := by decide +kernel
theorem dX7_isWell_0 : decode cX7_isWell 0 = .ok (.aload_n 0, 1) := by decide +kernel
theorem dX7_isWell_1 : decode cX7_isWell 1 = .ok (.getfield 116, 3) := by decide +kernel
theorem dX7_isWell_4 : decode cX7_isWell 4 = .ok (.ifCond .ge 7, 3) := by decide +kernel
theorem dX7_isWell_7 : decode cX7_isWell 7 = .ok (.iconst 1, 1) := by decide +kernel
theorem dX7_isWell_8 : decode cX7_isWell 8 = .ok (.goto 4, 3) := by decide +kernel
theorem dX7_isWell_11 : decode cX7_isWell 11 = .ok (.iconst 0, 1) := by decide +kernel
theorem dX7_isWell_12 : decode cX7_isWell 12 = .ok (.ireturn, 1) := by decide +kernel
theorem dX7_takes_0 : decode cX7_takes 0 = .ok (.aload_n 0, 1) := by decide +kernel
theorem dX7_takes_1 : decode cX7_takes 1 = .ok (.invokevirtual 119, 3) := by decide +kernel
theorem dX7_takes_4 : decode cX7_takes 4 = .ok (.ifCond .ne 5, 3) := by decide +kernel
theorem dX7_takes_7 : decode cX7_takes 7 = .ok (.iconst 0, 1) := by decide +kernel
theorem dX7_takes_8 : decode cX7_takes 8 = .ok (.ireturn, 1) := by decide +kernel
theorem dX7_takes_9 : decode cX7_takes 9 = .ok (.iload_n 1, 1) := by decide +kernel
theorem dX7_takes_10 : decode cX7_takes 10 = .ok (.ifCond .ne 18, 3) := by decide +kernel
theorem dX7_takes_13 : decode cX7_takes 13 = .ok (.aload_n 0, 1) := by decide +kernel
theorem dX7_takes_14 : decode cX7_takes 14 = .ok (.aload_n 0, 1) := by decide +kernel
theorem dX7_takes_15 : decode cX7_takes 15 = .ok (.getfield 104, 3) := by decide +kernel
theorem dX7_takes_18 : decode cX7_takes 18 = .ok (.putfield 116, 3) := by decide +kernel
theorem dX7_takes_21 : decode cX7_takes 21 = .ok (.aload_n 0, 1) := by decide +kernel
theorem dX7_takes_22 : decode cX7_takes 22 = .ok (.iload_n 2, 1) := by decide +kernel
theorem dX7_takes_23 : decode cX7_takes 23 = .ok (.putfield 123, 3) := by decide +kernel
theorem dX7_takes_26 : decode cX7_takes 26 = .ok (.iconst 0, 1) := by decide +kernel
theorem dX7_takes_27 : decode cX7_takes 27 = .ok (.ireturn, 1) := by decide +kernel
theorem dX7_takes_28 : decode cX7_takes 28 = .ok (.aload_n 0, 1) := by decide +kernel
theorem dX7_takes_29 : decode cX7_takes 29 = .ok (.getfield 110, 3) := by decide +kernel
theorem dX7_takes_32 : decode cX7_takes 32 = .ok (.istore_n 3, 1) := by decide +kernel
theorem dX7_takes_33 : decode cX7_takes 33 = .ok (.aload_n 0, 1) := by decide +kernel
theorem dX7_takes_34 : decode cX7_takes 34 = .ok (.invokevirtual 126, 3) := by decide +kernel
theorem dX7_takes_37 : decode cX7_takes 37 = .ok (.iload_n 3, 1) := by decide +kernel
theorem dX7_takes_38 : decode cX7_takes 38 = .ok (.ireturn, 1) := by decide +kernel
theorem dX7_figure_0 : decode cX7_figure 0 = .ok (.aload_n 0, 1) := by decide +kernel
theorem dX7_figure_1 : decode cX7_figure 1 = .ok (.invokevirtual 119, 3) := by decide +kernel
theorem dX7_figure_4 : decode cX7_figure 4 = .ok (.ifCond .eq 18, 3) := by decide +kernel
theorem dX7_figure_7 : decode cX7_figure 7 = .ok (.aload_n 0, 1) := by decide +kernel
theorem dX7_figure_8 : decode cX7_figure 8 = .ok (.getfield 113, 3) := by decide +kernel
theorem dX7_figure_11 : decode cX7_figure 11 = .ok (.iconst 2, 1) := by decide +kernel
theorem dX7_figure_12 : decode cX7_figure 12 = .ok (.if_icmp .eq 10, 3) := by decide +kernel
theorem dX7_figure_15 : decode cX7_figure 15 = .ok (.aload_n 0, 1) := by decide +kernel
theorem dX7_figure_16 : decode cX7_figure 16 = .ok (.iconst 0, 1) := by decide +kernel
theorem dX7_figure_17 : decode cX7_figure 17 = .ok (.iconst 1, 1) := by decide +kernel
theorem dX7_figure_18 : decode cX7_figure 18 = .ok (.invokevirtual 129, 3) := by decide +kernel
theorem dX7_figure_21 : decode cX7_figure 21 = .ok (.ireturn, 1) := by decide +kernel
theorem dX7_figure_22 : decode cX7_figure 22 = .ok (.aload_n 0, 1) := by decide +kernel
theorem dX7_figure_23 : decode cX7_figure 23 = .ok (.aload_n 0, 1) := by decide +kernel
theorem dX7_figure_24 : decode cX7_figure 24 = .ok (.getfield 110, 3) := by decide +kernel
theorem dX7_figure_27 : decode cX7_figure 27 = .ok (.iload_n 1, 1) := by decide +kernel
theorem dX7_figure_28 : decode cX7_figure 28 = .ok (.iload_n 2, 1) := by decide +kernel
theorem dX7_figure_29 : decode cX7_figure 29 = .ok (.invokestatic 71, 3) := by decide +kernel
theorem dX7_figure_32 : decode cX7_figure 32 = .ok (.iconst 2, 1) := by decide +kernel
theorem dX7_figure_33 : decode cX7_figure 33 = .ok (.invokevirtual 129, 3) := by decide +kernel
theorem dX7_figure_36 : decode cX7_figure 36 = .ok (.ireturn, 1) := by decide +kernel
theorem dX7_kindOf_0 : decode cX7_kindOf 0 = .ok (.iload_n 0, 1) := by decide +kernel
theorem dX7_kindOf_1 : decode cX7_kindOf 1 = .ok (.bipush 106, 2) := by decide +kernel
theorem dX7_kindOf_3 : decode cX7_kindOf 3 = .ok (.if_icmp .ne 7, 3) := by decide +kernel
theorem dX7_kindOf_6 : decode cX7_kindOf 6 = .ok (.iconst 1, 1) := by decide +kernel
theorem dX7_kindOf_7 : decode cX7_kindOf 7 = .ok (.goto 44, 3) := by decide +kernel
theorem dX7_kindOf_10 : decode cX7_kindOf 10 = .ok (.iload_n 0, 1) := by decide +kernel
theorem dX7_kindOf_11 : decode cX7_kindOf 11 = .ok (.bipush 108, 2) := by decide +kernel
theorem dX7_kindOf_13 : decode cX7_kindOf 13 = .ok (.if_icmp .ne 7, 3) := by decide +kernel
theorem dX7_kindOf_16 : decode cX7_kindOf 16 = .ok (.iconst 2, 1) := by decide +kernel
theorem dX7_kindOf_17 : decode cX7_kindOf 17 = .ok (.goto 34, 3) := by decide +kernel
theorem dX7_kindOf_20 : decode cX7_kindOf 20 = .ok (.iload_n 0, 1) := by decide +kernel
theorem dX7_kindOf_21 : decode cX7_kindOf 21 = .ok (.bipush 104, 2) := by decide +kernel
theorem dX7_kindOf_23 : decode cX7_kindOf 23 = .ok (.if_icmp .ne 7, 3) := by decide +kernel
theorem dX7_kindOf_26 : decode cX7_kindOf 26 = .ok (.iconst 3, 1) := by decide +kernel
theorem dX7_kindOf_27 : decode cX7_kindOf 27 = .ok (.goto 24, 3) := by decide +kernel
theorem dX7_kindOf_30 : decode cX7_kindOf 30 = .ok (.iload_n 0, 1) := by decide +kernel
theorem dX7_kindOf_31 : decode cX7_kindOf 31 = .ok (.bipush 103, 2) := by decide +kernel
theorem dX7_kindOf_33 : decode cX7_kindOf 33 = .ok (.if_icmp .ne 7, 3) := by decide +kernel
theorem dX7_kindOf_36 : decode cX7_kindOf 36 = .ok (.iconst 4, 1) := by decide +kernel
theorem dX7_kindOf_37 : decode cX7_kindOf 37 = .ok (.goto 14, 3) := by decide +kernel
theorem dX7_kindOf_40 : decode cX7_kindOf 40 = .ok (.iload_n 0, 1) := by decide +kernel
theorem dX7_kindOf_41 : decode cX7_kindOf 41 = .ok (.bipush 114, 2) := by decide +kernel
theorem dX7_kindOf_43 : decode cX7_kindOf 43 = .ok (.if_icmp .ne 7, 3) := by decide +kernel
theorem dX7_kindOf_46 : decode cX7_kindOf 46 = .ok (.iconst 5, 1) := by decide +kernel
theorem dX7_kindOf_47 : decode cX7_kindOf 47 = .ok (.goto 4, 3) := by decide +kernel
theorem dX7_kindOf_50 : decode cX7_kindOf 50 = .ok (.iconst 0, 1) := by decide +kernel
theorem dX7_kindOf_51 : decode cX7_kindOf 51 = .ok (.ireturn, 1) := by decide +kernel
theorem dX7_follows_0 : decode cX7_follows 0 = .ok (.aload_n 0, 1) := by decide +kernel
theorem dX7_follows_1 : decode cX7_follows 1 = .ok (.aload_n 0, 1) := by decide +kernel
theorem dX7_follows_2 : decode cX7_follows 2 = .ok (.getfield 113, 3) := by decide +kernel
theorem dX7_follows_5 : decode cX7_follows 5 = .ok (.iconst 3, 1) := by decide +kernel
theorem dX7_follows_6 : decode cX7_follows 6 = .ok (.if_icmp .ne 7, 3) := by decide +kernel
theorem dX7_follows_9 : decode cX7_follows 9 = .ok (.iconst 1, 1) := by decide +kernel
theorem dX7_follows_10 : decode cX7_follows 10 = .ok (.goto 4, 3) := by decide +kernel
theorem dX7_follows_13 : decode cX7_follows 13 = .ok (.iconst 0, 1) := by decide +kernel
theorem dX7_follows_14 : decode cX7_follows 14 = .ok (.iconst 1, 1) := by decide +kernel
theorem dX7_follows_15 : decode cX7_follows 15 = .ok (.invokevirtual 129, 3) := by decide +kernel
theorem dX7_follows_18 : decode cX7_follows 18 = .ok (.pop, 1) := by decide +kernel
theorem dX7_follows_19 : decode cX7_follows 19 = .ok (.aload_n 0, 1) := by decide +kernel
theorem dX7_follows_20 : decode cX7_follows 20 = .ok (.iload_n 1, 1) := by decide +kernel
theorem dX7_follows_21 : decode cX7_follows 21 = .ok (.iload_n 2, 1) := by decide +kernel
theorem dX7_follows_22 : decode cX7_follows 22 = .ok (.invokevirtual 133, 3) := by decide +kernel
theorem dX7_follows_25 : decode cX7_follows 25 = .ok (.ireturn, 1) := by decide +kernel
theorem dX7_readsCorner_0 : decode cX7_readsCorner 0 = .ok (.aload_n 0, 1) := by decide +kernel
theorem dX7_readsCorner_1 : decode cX7_readsCorner 1 = .ok (.getfield 110, 3) := by decide +kernel
theorem dX7_readsCorner_4 : decode cX7_readsCorner 4 = .ok (.invokestatic 136, 3) := by decide +kernel
theorem dX7_readsCorner_7 : decode cX7_readsCorner 7 = .ok (.istore_n 1, 1) := by decide +kernel
theorem dX7_readsCorner_8 : decode cX7_readsCorner 8 = .ok (.aload_n 0, 1) := by decide +kernel
theorem dX7_readsCorner_9 : decode cX7_readsCorner 9 = .ok (.aload_n 0, 1) := by decide +kernel
theorem dX7_readsCorner_10 : decode cX7_readsCorner 10 = .ok (.getfield 28, 3) := by decide +kernel
theorem dX7_readsCorner_13 : decode cX7_readsCorner 13 = .ok (.bipush 6, 2) := by decide +kernel
theorem dX7_readsCorner_15 : decode cX7_readsCorner 15 = .ok (.iaload, 1) := by decide +kernel
theorem dX7_readsCorner_16 : decode cX7_readsCorner 16 = .ok (.bipush 6, 2) := by decide +kernel
theorem dX7_readsCorner_18 : decode cX7_readsCorner 18 = .ok (.if_icmp .ge 7, 3) := by decide +kernel
theorem dX7_readsCorner_21 : decode cX7_readsCorner 21 = .ok (.iconst 1, 1) := by decide +kernel
theorem dX7_readsCorner_22 : decode cX7_readsCorner 22 = .ok (.goto 4, 3) := by decide +kernel
theorem dX7_readsCorner_25 : decode cX7_readsCorner 25 = .ok (.iconst 0, 1) := by decide +kernel
theorem dX7_readsCorner_26 : decode cX7_readsCorner 26 = .ok (.iconst 3, 1) := by decide +kernel
theorem dX7_readsCorner_27 : decode cX7_readsCorner 27 = .ok (.invokevirtual 129, 3) := by decide +kernel
theorem dX7_readsCorner_30 : decode cX7_readsCorner 30 = .ok (.pop, 1) := by decide +kernel
theorem dX7_readsCorner_31 : decode cX7_readsCorner 31 = .ok (.bipush 7, 2) := by decide +kernel
theorem dX7_readsCorner_33 : decode cX7_readsCorner 33 = .ok (.iconst 3, 1) := by decide +kernel
theorem dX7_readsCorner_34 : decode cX7_readsCorner 34 = .ok (.aload_n 0, 1) := by decide +kernel
theorem dX7_readsCorner_35 : decode cX7_readsCorner 35 = .ok (.getfield 28, 3) := by decide +kernel
theorem dX7_readsCorner_38 : decode cX7_readsCorner 38 = .ok (.bipush 6, 2) := by decide +kernel
theorem dX7_readsCorner_40 : decode cX7_readsCorner 40 = .ok (.iaload, 1) := by decide +kernel
theorem dX7_readsCorner_41 : decode cX7_readsCorner 41 = .ok (.bipush 6, 2) := by decide +kernel
theorem dX7_readsCorner_43 : decode cX7_readsCorner 43 = .ok (.if_icmp .ge 13, 3) := by decide +kernel
theorem dX7_readsCorner_46 : decode cX7_readsCorner 46 = .ok (.aload_n 0, 1) := by decide +kernel
theorem dX7_readsCorner_47 : decode cX7_readsCorner 47 = .ok (.getfield 28, 3) := by decide +kernel
theorem dX7_readsCorner_50 : decode cX7_readsCorner 50 = .ok (.bipush 6, 2) := by decide +kernel
theorem dX7_readsCorner_52 : decode cX7_readsCorner 52 = .ok (.iaload, 1) := by decide +kernel
theorem dX7_readsCorner_53 : decode cX7_readsCorner 53 = .ok (.goto 4, 3) := by decide +kernel
theorem dX7_readsCorner_56 : decode cX7_readsCorner 56 = .ok (.iconst 0, 1) := by decide +kernel
theorem dX7_readsCorner_57 : decode cX7_readsCorner 57 = .ok (.imul, 1) := by decide +kernel
theorem dX7_readsCorner_58 : decode cX7_readsCorner 58 = .ok (.iadd, 1) := by decide +kernel
theorem dX7_readsCorner_59 : decode cX7_readsCorner 59 = .ok (.istore_n 2, 1) := by decide +kernel
theorem dX7_readsCorner_60 : decode cX7_readsCorner 60 = .ok (.aload_n 0, 1) := by decide +kernel
theorem dX7_readsCorner_61 : decode cX7_readsCorner 61 = .ok (.iconst 0, 1) := by decide +kernel
theorem dX7_readsCorner_62 : decode cX7_readsCorner 62 = .ok (.bipush 9, 2) := by decide +kernel
theorem dX7_readsCorner_64 : decode cX7_readsCorner 64 = .ok (.invokevirtual 133, 3) := by decide +kernel
theorem dX7_readsCorner_67 : decode cX7_readsCorner 67 = .ok (.istore_n 3, 1) := by decide +kernel
theorem dX7_readsCorner_68 : decode cX7_readsCorner 68 = .ok (.aload_n 0, 1) := by decide +kernel
theorem dX7_readsCorner_69 : decode cX7_readsCorner 69 = .ok (.iconst 0, 1) := by decide +kernel
theorem dX7_readsCorner_70 : decode cX7_readsCorner 70 = .ok (.bipush 9, 2) := by decide +kernel
theorem dX7_readsCorner_72 : decode cX7_readsCorner 72 = .ok (.invokevirtual 139, 3) := by decide +kernel
theorem dX7_readsCorner_75 : decode cX7_readsCorner 75 = .ok (.istore 4, 2) := by decide +kernel
theorem dX7_readsCorner_77 : decode cX7_readsCorner 77 = .ok (.aload_n 0, 1) := by decide +kernel
theorem dX7_readsCorner_78 : decode cX7_readsCorner 78 = .ok (.aload_n 0, 1) := by decide +kernel
theorem dX7_readsCorner_79 : decode cX7_readsCorner 79 = .ok (.getfield 113, 3) := by decide +kernel
theorem dX7_readsCorner_82 : decode cX7_readsCorner 82 = .ok (.iconst 4, 1) := by decide +kernel
theorem dX7_readsCorner_83 : decode cX7_readsCorner 83 = .ok (.if_icmp .ne 7, 3) := by decide +kernel
theorem dX7_readsCorner_86 : decode cX7_readsCorner 86 = .ok (.iconst 1, 1) := by decide +kernel
theorem dX7_readsCorner_87 : decode cX7_readsCorner 87 = .ok (.goto 4, 3) := by decide +kernel
theorem dX7_readsCorner_90 : decode cX7_readsCorner 90 = .ok (.iconst 0, 1) := by decide +kernel
theorem dX7_readsCorner_91 : decode cX7_readsCorner 91 = .ok (.iconst 1, 1) := by decide +kernel
theorem dX7_readsCorner_92 : decode cX7_readsCorner 92 = .ok (.invokevirtual 129, 3) := by decide +kernel
theorem dX7_readsCorner_95 : decode cX7_readsCorner 95 = .ok (.pop, 1) := by decide +kernel
theorem dX7_readsCorner_96 : decode cX7_readsCorner 96 = .ok (.aload_n 0, 1) := by decide +kernel
theorem dX7_readsCorner_97 : decode cX7_readsCorner 97 = .ok (.invokevirtual 119, 3) := by decide +kernel
theorem dX7_readsCorner_100 : decode cX7_readsCorner 100 = .ok (.ifCond .eq 40, 3) := by decide +kernel
theorem dX7_readsCorner_103 : decode cX7_readsCorner 103 = .ok (.aload_n 0, 1) := by decide +kernel
theorem dX7_readsCorner_104 : decode cX7_readsCorner 104 = .ok (.getfield 28, 3) := by decide +kernel
theorem dX7_readsCorner_107 : decode cX7_readsCorner 107 = .ok (.iload_n 2, 1) := by decide +kernel
theorem dX7_readsCorner_108 : decode cX7_readsCorner 108 = .ok (.iload_n 1, 1) := by decide +kernel
theorem dX7_readsCorner_109 : decode cX7_readsCorner 109 = .ok (.iastore, 1) := by decide +kernel
theorem dX7_readsCorner_110 : decode cX7_readsCorner 110 = .ok (.aload_n 0, 1) := by decide +kernel
theorem dX7_readsCorner_111 : decode cX7_readsCorner 111 = .ok (.getfield 28, 3) := by decide +kernel
theorem dX7_readsCorner_114 : decode cX7_readsCorner 114 = .ok (.iload_n 2, 1) := by decide +kernel
theorem dX7_readsCorner_115 : decode cX7_readsCorner 115 = .ok (.iconst 1, 1) := by decide +kernel
theorem dX7_readsCorner_116 : decode cX7_readsCorner 116 = .ok (.iadd, 1) := by decide +kernel
theorem dX7_readsCorner_117 : decode cX7_readsCorner 117 = .ok (.iload_n 3, 1) := by decide +kernel
theorem dX7_readsCorner_118 : decode cX7_readsCorner 118 = .ok (.iastore, 1) := by decide +kernel
theorem dX7_readsCorner_119 : decode cX7_readsCorner 119 = .ok (.aload_n 0, 1) := by decide +kernel
theorem dX7_readsCorner_120 : decode cX7_readsCorner 120 = .ok (.getfield 28, 3) := by decide +kernel
theorem dX7_readsCorner_123 : decode cX7_readsCorner 123 = .ok (.iload_n 2, 1) := by decide +kernel
theorem dX7_readsCorner_124 : decode cX7_readsCorner 124 = .ok (.iconst 2, 1) := by decide +kernel
theorem dX7_readsCorner_125 : decode cX7_readsCorner 125 = .ok (.iadd, 1) := by decide +kernel
theorem dX7_readsCorner_126 : decode cX7_readsCorner 126 = .ok (.iload 4, 2) := by decide +kernel
theorem dX7_readsCorner_128 : decode cX7_readsCorner 128 = .ok (.iastore, 1) := by decide +kernel
theorem dX7_readsCorner_129 : decode cX7_readsCorner 129 = .ok (.aload_n 0, 1) := by decide +kernel
theorem dX7_readsCorner_130 : decode cX7_readsCorner 130 = .ok (.getfield 28, 3) := by decide +kernel
theorem dX7_readsCorner_133 : decode cX7_readsCorner 133 = .ok (.bipush 6, 2) := by decide +kernel
theorem dX7_readsCorner_135 : decode cX7_readsCorner 135 = .ok (.dup2, 1) := by decide +kernel
theorem dX7_readsCorner_136 : decode cX7_readsCorner 136 = .ok (.iaload, 1) := by decide +kernel
theorem dX7_readsCorner_137 : decode cX7_readsCorner 137 = .ok (.iconst 1, 1) := by decide +kernel
theorem dX7_readsCorner_138 : decode cX7_readsCorner 138 = .ok (.iadd, 1) := by decide +kernel
theorem dX7_readsCorner_139 : decode cX7_readsCorner 139 = .ok (.iastore, 1) := by decide +kernel
theorem dX7_readsCorner_140 : decode cX7_readsCorner 140 = .ok (.return_, 1) := by decide +kernel
theorem dX7_isStreetTold_0 : decode cX7_isStreetTold 0 = .ok (.iconst 0, 1) := by decide +kernel
theorem dX7_isStreetTold_1 : decode cX7_isStreetTold 1 = .ok (.istore_n 3, 1) := by decide +kernel
theorem dX7_isStreetTold_2 : decode cX7_isStreetTold 2 = .ok (.iconst 0, 1) := by decide +kernel
theorem dX7_isStreetTold_3 : decode cX7_isStreetTold 3 = .ok (.istore 4, 2) := by decide +kernel
theorem dX7_isStreetTold_5 : decode cX7_isStreetTold 5 = .ok (.iload 4, 2) := by decide +kernel
theorem dX7_isStreetTold_7 : decode cX7_isStreetTold 7 = .ok (.aload_n 0, 1) := by decide +kernel
theorem dX7_isStreetTold_8 : decode cX7_isStreetTold 8 = .ok (.getfield 28, 3) := by decide +kernel
theorem dX7_isStreetTold_11 : decode cX7_isStreetTold 11 = .ok (.bipush 25, 2) := by decide +kernel
theorem dX7_isStreetTold_13 : decode cX7_isStreetTold 13 = .ok (.iaload, 1) := by decide +kernel
theorem dX7_isStreetTold_14 : decode cX7_isStreetTold 14 = .ok (.if_icmp .ge 53, 3) := by decide +kernel
theorem dX7_isStreetTold_17 : decode cX7_isStreetTold 17 = .ok (.iload_n 3, 1) := by decide +kernel
theorem dX7_isStreetTold_18 : decode cX7_isStreetTold 18 = .ok (.ifCond .ne 37, 3) := by decide +kernel
theorem dX7_isStreetTold_21 : decode cX7_isStreetTold 21 = .ok (.aload_n 0, 1) := by decide +kernel
theorem dX7_isStreetTold_22 : decode cX7_isStreetTold 22 = .ok (.getfield 28, 3) := by decide +kernel
theorem dX7_isStreetTold_25 : decode cX7_isStreetTold 25 = .ok (.bipush 26, 2) := by decide +kernel
theorem dX7_isStreetTold_27 : decode cX7_isStreetTold 27 = .ok (.iconst 2, 1) := by decide +kernel
theorem dX7_isStreetTold_28 : decode cX7_isStreetTold 28 = .ok (.iload 4, 2) := by decide +kernel
theorem dX7_isStreetTold_30 : decode cX7_isStreetTold 30 = .ok (.imul, 1) := by decide +kernel
theorem dX7_isStreetTold_31 : decode cX7_isStreetTold 31 = .ok (.iadd, 1) := by decide +kernel
theorem dX7_isStreetTold_32 : decode cX7_isStreetTold 32 = .ok (.iaload, 1) := by decide +kernel
theorem dX7_isStreetTold_33 : decode cX7_isStreetTold 33 = .ok (.iload_n 1, 1) := by decide +kernel
theorem dX7_isStreetTold_34 : decode cX7_isStreetTold 34 = .ok (.if_icmp .ne 25, 3) := by decide +kernel
theorem dX7_isStreetTold_37 : decode cX7_isStreetTold 37 = .ok (.aload_n 0, 1) := by decide +kernel
theorem dX7_isStreetTold_38 : decode cX7_isStreetTold 38 = .ok (.getfield 28, 3) := by decide +kernel
theorem dX7_isStreetTold_41 : decode cX7_isStreetTold 41 = .ok (.bipush 26, 2) := by decide +kernel
theorem dX7_isStreetTold_43 : decode cX7_isStreetTold 43 = .ok (.iconst 2, 1) := by decide +kernel
theorem dX7_isStreetTold_44 : decode cX7_isStreetTold 44 = .ok (.iload 4, 2) := by decide +kernel
theorem dX7_isStreetTold_46 : decode cX7_isStreetTold 46 = .ok (.imul, 1) := by decide +kernel
theorem dX7_isStreetTold_47 : decode cX7_isStreetTold 47 = .ok (.iadd, 1) := by decide +kernel
theorem dX7_isStreetTold_48 : decode cX7_isStreetTold 48 = .ok (.iconst 1, 1) := by decide +kernel
theorem dX7_isStreetTold_49 : decode cX7_isStreetTold 49 = .ok (.iadd, 1) := by decide +kernel
theorem dX7_isStreetTold_50 : decode cX7_isStreetTold 50 = .ok (.iaload, 1) := by decide +kernel
theorem dX7_isStreetTold_51 : decode cX7_isStreetTold 51 = .ok (.iload_n 2, 1) := by decide +kernel
theorem dX7_isStreetTold_52 : decode cX7_isStreetTold 52 = .ok (.if_icmp .ne 7, 3) := by decide +kernel
theorem dX7_isStreetTold_55 : decode cX7_isStreetTold 55 = .ok (.iconst 1, 1) := by decide +kernel
theorem dX7_isStreetTold_56 : decode cX7_isStreetTold 56 = .ok (.goto 4, 3) := by decide +kernel
theorem dX7_isStreetTold_59 : decode cX7_isStreetTold 59 = .ok (.iconst 0, 1) := by decide +kernel
theorem dX7_isStreetTold_60 : decode cX7_isStreetTold 60 = .ok (.istore_n 3, 1) := by decide +kernel
theorem dX7_isStreetTold_61 : decode cX7_isStreetTold 61 = .ok (.iinc 4 1, 3) := by decide +kernel
theorem dX7_isStreetTold_64 : decode cX7_isStreetTold 64 = .ok (.goto (-59), 3) := by decide +kernel
theorem dX7_isStreetTold_67 : decode cX7_isStreetTold 67 = .ok (.iload_n 3, 1) := by decide +kernel
theorem dX7_isStreetTold_68 : decode cX7_isStreetTold 68 = .ok (.ireturn, 1) := by decide +kernel
theorem dX7_toFigure_0 : decode cX7_toFigure 0 = .ok (.aload_n 0, 1) := by decide +kernel
theorem dX7_toFigure_1 : decode cX7_toFigure 1 = .ok (.invokevirtual 119, 3) := by decide +kernel
theorem dX7_toFigure_4 : decode cX7_toFigure 4 = .ok (.ifCond .eq 18, 3) := by decide +kernel
theorem dX7_toFigure_7 : decode cX7_toFigure 7 = .ok (.aload_n 0, 1) := by decide +kernel
theorem dX7_toFigure_8 : decode cX7_toFigure 8 = .ok (.getfield 113, 3) := by decide +kernel
theorem dX7_toFigure_11 : decode cX7_toFigure 11 = .ok (.iconst 2, 1) := by decide +kernel
theorem dX7_toFigure_12 : decode cX7_toFigure 12 = .ok (.if_icmp .eq 10, 3) := by decide +kernel
theorem dX7_toFigure_15 : decode cX7_toFigure 15 = .ok (.aload_n 0, 1) := by decide +kernel
theorem dX7_toFigure_16 : decode cX7_toFigure 16 = .ok (.iconst 0, 1) := by decide +kernel
theorem dX7_toFigure_17 : decode cX7_toFigure 17 = .ok (.iconst 1, 1) := by decide +kernel
theorem dX7_toFigure_18 : decode cX7_toFigure 18 = .ok (.invokevirtual 129, 3) := by decide +kernel
theorem dX7_toFigure_21 : decode cX7_toFigure 21 = .ok (.ireturn, 1) := by decide +kernel
theorem dX7_toFigure_22 : decode cX7_toFigure 22 = .ok (.aload_n 0, 1) := by decide +kernel
theorem dX7_toFigure_23 : decode cX7_toFigure 23 = .ok (.aload_n 0, 1) := by decide +kernel
theorem dX7_toFigure_24 : decode cX7_toFigure 24 = .ok (.getfield 110, 3) := by decide +kernel
theorem dX7_toFigure_27 : decode cX7_toFigure 27 = .ok (.iconst 0, 1) := by decide +kernel
theorem dX7_toFigure_28 : decode cX7_toFigure 28 = .ok (.aload_n 0, 1) := by decide +kernel
theorem dX7_toFigure_29 : decode cX7_toFigure 29 = .ok (.getfield 28, 3) := by decide +kernel
theorem dX7_toFigure_32 : decode cX7_toFigure 32 = .ok (.bipush 6, 2) := by decide +kernel
theorem dX7_toFigure_34 : decode cX7_toFigure 34 = .ok (.iaload, 1) := by decide +kernel
theorem dX7_toFigure_35 : decode cX7_toFigure 35 = .ok (.iconst 1, 1) := by decide +kernel
theorem dX7_toFigure_36 : decode cX7_toFigure 36 = .ok (.isub, 1) := by decide +kernel
theorem dX7_toFigure_37 : decode cX7_toFigure 37 = .ok (.invokestatic 71, 3) := by decide +kernel
theorem dX7_toFigure_40 : decode cX7_toFigure 40 = .ok (.ifCond .eq 27, 3) := by decide +kernel
theorem dX7_toFigure_43 : decode cX7_toFigure 43 = .ok (.aload_n 0, 1) := by decide +kernel
theorem dX7_toFigure_44 : decode cX7_toFigure 44 = .ok (.getfield 110, 3) := by decide +kernel
theorem dX7_toFigure_47 : decode cX7_toFigure 47 = .ok (.iload_n 1, 1) := by decide +kernel
theorem dX7_toFigure_48 : decode cX7_toFigure 48 = .ok (.if_icmp .eq 19, 3) := by decide +kernel
theorem dX7_toFigure_51 : decode cX7_toFigure 51 = .ok (.aload_n 0, 1) := by decide +kernel
theorem dX7_toFigure_52 : decode cX7_toFigure 52 = .ok (.iload_n 1, 1) := by decide +kernel
theorem dX7_toFigure_53 : decode cX7_toFigure 53 = .ok (.aload_n 0, 1) := by decide +kernel
theorem dX7_toFigure_54 : decode cX7_toFigure 54 = .ok (.getfield 110, 3) := by decide +kernel
theorem dX7_toFigure_57 : decode cX7_toFigure 57 = .ok (.invokevirtual 142, 3) := by decide +kernel
theorem dX7_toFigure_60 : decode cX7_toFigure 60 = .ok (.ifCond .ne 7, 3) := by decide +kernel
theorem dX7_toFigure_63 : decode cX7_toFigure 63 = .ok (.iconst 1, 1) := by decide +kernel
theorem dX7_toFigure_64 : decode cX7_toFigure 64 = .ok (.goto 4, 3) := by decide +kernel
theorem dX7_toFigure_67 : decode cX7_toFigure 67 = .ok (.iconst 0, 1) := by decide +kernel
theorem dX7_toFigure_68 : decode cX7_toFigure 68 = .ok (.iconst 2, 1) := by decide +kernel
theorem dX7_toFigure_69 : decode cX7_toFigure 69 = .ok (.invokevirtual 129, 3) := by decide +kernel
theorem dX7_toFigure_72 : decode cX7_toFigure 72 = .ok (.ireturn, 1) := by decide +kernel
theorem dX7_readsStreet_0 : decode cX7_readsStreet 0 = .ok (.aload_n 0, 1) := by decide +kernel
theorem dX7_readsStreet_1 : decode cX7_readsStreet 1 = .ok (.aload_n 0, 1) := by decide +kernel
theorem dX7_readsStreet_2 : decode cX7_readsStreet 2 = .ok (.getfield 28, 3) := by decide +kernel
theorem dX7_readsStreet_5 : decode cX7_readsStreet 5 = .ok (.bipush 25, 2) := by decide +kernel
theorem dX7_readsStreet_7 : decode cX7_readsStreet 7 = .ok (.iaload, 1) := by decide +kernel
theorem dX7_readsStreet_8 : decode cX7_readsStreet 8 = .ok (.bipush 8, 2) := by decide +kernel
theorem dX7_readsStreet_10 : decode cX7_readsStreet 10 = .ok (.if_icmp .ge 7, 3) := by decide +kernel
theorem dX7_readsStreet_13 : decode cX7_readsStreet 13 = .ok (.iconst 1, 1) := by decide +kernel
theorem dX7_readsStreet_14 : decode cX7_readsStreet 14 = .ok (.goto 4, 3) := by decide +kernel
theorem dX7_readsStreet_17 : decode cX7_readsStreet 17 = .ok (.iconst 0, 1) := by decide +kernel
theorem dX7_readsStreet_18 : decode cX7_readsStreet 18 = .ok (.iconst 3, 1) := by decide +kernel
theorem dX7_readsStreet_19 : decode cX7_readsStreet 19 = .ok (.invokevirtual 129, 3) := by decide +kernel
theorem dX7_readsStreet_22 : decode cX7_readsStreet 22 = .ok (.pop, 1) := by decide +kernel
theorem dX7_readsStreet_23 : decode cX7_readsStreet 23 = .ok (.bipush 26, 2) := by decide +kernel
theorem dX7_readsStreet_25 : decode cX7_readsStreet 25 = .ok (.iconst 2, 1) := by decide +kernel
theorem dX7_readsStreet_26 : decode cX7_readsStreet 26 = .ok (.aload_n 0, 1) := by decide +kernel
theorem dX7_readsStreet_27 : decode cX7_readsStreet 27 = .ok (.getfield 28, 3) := by decide +kernel
theorem dX7_readsStreet_30 : decode cX7_readsStreet 30 = .ok (.bipush 25, 2) := by decide +kernel
theorem dX7_readsStreet_32 : decode cX7_readsStreet 32 = .ok (.iaload, 1) := by decide +kernel
theorem dX7_readsStreet_33 : decode cX7_readsStreet 33 = .ok (.bipush 8, 2) := by decide +kernel
theorem dX7_readsStreet_35 : decode cX7_readsStreet 35 = .ok (.if_icmp .ge 13, 3) := by decide +kernel
theorem dX7_readsStreet_38 : decode cX7_readsStreet 38 = .ok (.aload_n 0, 1) := by decide +kernel
theorem dX7_readsStreet_39 : decode cX7_readsStreet 39 = .ok (.getfield 28, 3) := by decide +kernel
theorem dX7_readsStreet_42 : decode cX7_readsStreet 42 = .ok (.bipush 25, 2) := by decide +kernel
theorem dX7_readsStreet_44 : decode cX7_readsStreet 44 = .ok (.iaload, 1) := by decide +kernel
theorem dX7_readsStreet_45 : decode cX7_readsStreet 45 = .ok (.goto 4, 3) := by decide +kernel
theorem dX7_readsStreet_48 : decode cX7_readsStreet 48 = .ok (.iconst 0, 1) := by decide +kernel
theorem dX7_readsStreet_49 : decode cX7_readsStreet 49 = .ok (.imul, 1) := by decide +kernel
theorem dX7_readsStreet_50 : decode cX7_readsStreet 50 = .ok (.iadd, 1) := by decide +kernel
theorem dX7_readsStreet_51 : decode cX7_readsStreet 51 = .ok (.istore_n 1, 1) := by decide +kernel
theorem dX7_readsStreet_52 : decode cX7_readsStreet 52 = .ok (.aload_n 0, 1) := by decide +kernel
theorem dX7_readsStreet_53 : decode cX7_readsStreet 53 = .ok (.iconst 0, 1) := by decide +kernel
theorem dX7_readsStreet_54 : decode cX7_readsStreet 54 = .ok (.aload_n 0, 1) := by decide +kernel
theorem dX7_readsStreet_55 : decode cX7_readsStreet 55 = .ok (.getfield 28, 3) := by decide +kernel
theorem dX7_readsStreet_58 : decode cX7_readsStreet 58 = .ok (.bipush 6, 2) := by decide +kernel
theorem dX7_readsStreet_60 : decode cX7_readsStreet 60 = .ok (.iaload, 1) := by decide +kernel
theorem dX7_readsStreet_61 : decode cX7_readsStreet 61 = .ok (.iconst 1, 1) := by decide +kernel
theorem dX7_readsStreet_62 : decode cX7_readsStreet 62 = .ok (.isub, 1) := by decide +kernel
theorem dX7_readsStreet_63 : decode cX7_readsStreet 63 = .ok (.invokevirtual 133, 3) := by decide +kernel
theorem dX7_readsStreet_66 : decode cX7_readsStreet 66 = .ok (.istore_n 2, 1) := by decide +kernel
theorem dX7_readsStreet_67 : decode cX7_readsStreet 67 = .ok (.aload_n 0, 1) := by decide +kernel
theorem dX7_readsStreet_68 : decode cX7_readsStreet 68 = .ok (.aload_n 0, 1) := by decide +kernel
theorem dX7_readsStreet_69 : decode cX7_readsStreet 69 = .ok (.getfield 113, 3) := by decide +kernel
theorem dX7_readsStreet_72 : decode cX7_readsStreet 72 = .ok (.iconst 3, 1) := by decide +kernel
theorem dX7_readsStreet_73 : decode cX7_readsStreet 73 = .ok (.if_icmp .ne 7, 3) := by decide +kernel
theorem dX7_readsStreet_76 : decode cX7_readsStreet 76 = .ok (.iconst 1, 1) := by decide +kernel
theorem dX7_readsStreet_77 : decode cX7_readsStreet 77 = .ok (.goto 4, 3) := by decide +kernel
theorem dX7_readsStreet_80 : decode cX7_readsStreet 80 = .ok (.iconst 0, 1) := by decide +kernel
theorem dX7_readsStreet_81 : decode cX7_readsStreet 81 = .ok (.iconst 1, 1) := by decide +kernel
theorem dX7_readsStreet_82 : decode cX7_readsStreet 82 = .ok (.invokevirtual 129, 3) := by decide +kernel
theorem dX7_readsStreet_85 : decode cX7_readsStreet 85 = .ok (.pop, 1) := by decide +kernel
theorem dX7_readsStreet_86 : decode cX7_readsStreet 86 = .ok (.aload_n 0, 1) := by decide +kernel
theorem dX7_readsStreet_87 : decode cX7_readsStreet 87 = .ok (.iload_n 2, 1) := by decide +kernel
theorem dX7_readsStreet_88 : decode cX7_readsStreet 88 = .ok (.invokevirtual 146, 3) := by decide +kernel
theorem dX7_readsStreet_91 : decode cX7_readsStreet 91 = .ok (.istore_n 3, 1) := by decide +kernel
theorem dX7_readsStreet_92 : decode cX7_readsStreet 92 = .ok (.aload_n 0, 1) := by decide +kernel
theorem dX7_readsStreet_93 : decode cX7_readsStreet 93 = .ok (.aload_n 0, 1) := by decide +kernel
theorem dX7_readsStreet_94 : decode cX7_readsStreet 94 = .ok (.getfield 113, 3) := by decide +kernel
theorem dX7_readsStreet_97 : decode cX7_readsStreet 97 = .ok (.iconst 4, 1) := by decide +kernel
theorem dX7_readsStreet_98 : decode cX7_readsStreet 98 = .ok (.if_icmp .ne 7, 3) := by decide +kernel
theorem dX7_readsStreet_101 : decode cX7_readsStreet 101 = .ok (.iconst 1, 1) := by decide +kernel
theorem dX7_readsStreet_102 : decode cX7_readsStreet 102 = .ok (.goto 4, 3) := by decide +kernel
theorem dX7_readsStreet_105 : decode cX7_readsStreet 105 = .ok (.iconst 0, 1) := by decide +kernel
theorem dX7_readsStreet_106 : decode cX7_readsStreet 106 = .ok (.iconst 1, 1) := by decide +kernel
theorem dX7_readsStreet_107 : decode cX7_readsStreet 107 = .ok (.invokevirtual 129, 3) := by decide +kernel
theorem dX7_readsStreet_110 : decode cX7_readsStreet 110 = .ok (.pop, 1) := by decide +kernel
theorem dX7_readsStreet_111 : decode cX7_readsStreet 111 = .ok (.aload_n 0, 1) := by decide +kernel
theorem dX7_readsStreet_112 : decode cX7_readsStreet 112 = .ok (.invokevirtual 119, 3) := by decide +kernel
theorem dX7_readsStreet_115 : decode cX7_readsStreet 115 = .ok (.ifCond .eq 48, 3) := by decide +kernel
theorem dX7_readsStreet_118 : decode cX7_readsStreet 118 = .ok (.aload_n 0, 1) := by decide +kernel
theorem dX7_readsStreet_119 : decode cX7_readsStreet 119 = .ok (.getfield 28, 3) := by decide +kernel
theorem dX7_readsStreet_122 : decode cX7_readsStreet 122 = .ok (.iload_n 1, 1) := by decide +kernel
theorem dX7_readsStreet_123 : decode cX7_readsStreet 123 = .ok (.iload_n 2, 1) := by decide +kernel
theorem dX7_readsStreet_124 : decode cX7_readsStreet 124 = .ok (.iastore, 1) := by decide +kernel
theorem dX7_readsStreet_125 : decode cX7_readsStreet 125 = .ok (.aload_n 0, 1) := by decide +kernel
theorem dX7_readsStreet_126 : decode cX7_readsStreet 126 = .ok (.getfield 28, 3) := by decide +kernel
theorem dX7_readsStreet_129 : decode cX7_readsStreet 129 = .ok (.iload_n 1, 1) := by decide +kernel
theorem dX7_readsStreet_130 : decode cX7_readsStreet 130 = .ok (.iconst 1, 1) := by decide +kernel
theorem dX7_readsStreet_131 : decode cX7_readsStreet 131 = .ok (.iadd, 1) := by decide +kernel
theorem dX7_readsStreet_132 : decode cX7_readsStreet 132 = .ok (.iload_n 3, 1) := by decide +kernel
theorem dX7_readsStreet_133 : decode cX7_readsStreet 133 = .ok (.iastore, 1) := by decide +kernel
theorem dX7_readsStreet_134 : decode cX7_readsStreet 134 = .ok (.aload_n 0, 1) := by decide +kernel
theorem dX7_readsStreet_135 : decode cX7_readsStreet 135 = .ok (.getfield 28, 3) := by decide +kernel
theorem dX7_readsStreet_138 : decode cX7_readsStreet 138 = .ok (.iconst 5, 1) := by decide +kernel
theorem dX7_readsStreet_139 : decode cX7_readsStreet 139 = .ok (.dup2, 1) := by decide +kernel
theorem dX7_readsStreet_140 : decode cX7_readsStreet 140 = .ok (.iaload, 1) := by decide +kernel
theorem dX7_readsStreet_141 : decode cX7_readsStreet 141 = .ok (.iconst 1, 1) := by decide +kernel
theorem dX7_readsStreet_142 : decode cX7_readsStreet 142 = .ok (.aload_n 0, 1) := by decide +kernel
theorem dX7_readsStreet_143 : decode cX7_readsStreet 143 = .ok (.getfield 28, 3) := by decide +kernel
theorem dX7_readsStreet_146 : decode cX7_readsStreet 146 = .ok (.bipush 25, 2) := by decide +kernel
theorem dX7_readsStreet_148 : decode cX7_readsStreet 148 = .ok (.iaload, 1) := by decide +kernel
theorem dX7_readsStreet_149 : decode cX7_readsStreet 149 = .ok (.ishl, 1) := by decide +kernel
theorem dX7_readsStreet_150 : decode cX7_readsStreet 150 = .ok (.ior, 1) := by decide +kernel
theorem dX7_readsStreet_151 : decode cX7_readsStreet 151 = .ok (.iastore, 1) := by decide +kernel
theorem dX7_readsStreet_152 : decode cX7_readsStreet 152 = .ok (.aload_n 0, 1) := by decide +kernel
theorem dX7_readsStreet_153 : decode cX7_readsStreet 153 = .ok (.getfield 28, 3) := by decide +kernel
theorem dX7_readsStreet_156 : decode cX7_readsStreet 156 = .ok (.bipush 25, 2) := by decide +kernel
theorem dX7_readsStreet_158 : decode cX7_readsStreet 158 = .ok (.dup2, 1) := by decide +kernel
theorem dX7_readsStreet_159 : decode cX7_readsStreet 159 = .ok (.iaload, 1) := by decide +kernel
theorem dX7_readsStreet_160 : decode cX7_readsStreet 160 = .ok (.iconst 1, 1) := by decide +kernel
theorem dX7_readsStreet_161 : decode cX7_readsStreet 161 = .ok (.iadd, 1) := by decide +kernel
theorem dX7_readsStreet_162 : decode cX7_readsStreet 162 = .ok (.iastore, 1) := by decide +kernel
theorem dX7_readsStreet_163 : decode cX7_readsStreet 163 = .ok (.return_, 1) := by decide +kernel
theorem dX7_town_0 : decode cX7_town 0 = .ok (.iconst 0, 1) := by decide +kernel
theorem dX7_town_1 : decode cX7_town 1 = .ok (.istore_n 1, 1) := by decide +kernel
theorem dX7_town_2 : decode cX7_town 2 = .ok (.iload_n 1, 1) := by decide +kernel
theorem dX7_town_3 : decode cX7_town 3 = .ok (.bipush 42, 2) := by decide +kernel
theorem dX7_town_5 : decode cX7_town 5 = .ok (.if_icmp .ge 16, 3) := by decide +kernel
theorem dX7_town_8 : decode cX7_town 8 = .ok (.aload_n 0, 1) := by decide +kernel
theorem dX7_town_9 : decode cX7_town 9 = .ok (.getfield 28, 3) := by decide +kernel
theorem dX7_town_12 : decode cX7_town 12 = .ok (.iload_n 1, 1) := by decide +kernel
theorem dX7_town_13 : decode cX7_town 13 = .ok (.iconst 0, 1) := by decide +kernel
theorem dX7_town_14 : decode cX7_town 14 = .ok (.iastore, 1) := by decide +kernel
theorem dX7_town_15 : decode cX7_town 15 = .ok (.iinc 1 1, 3) := by decide +kernel
theorem dX7_town_18 : decode cX7_town 18 = .ok (.goto (-16), 3) := by decide +kernel
theorem dX7_town_21 : decode cX7_town 21 = .ok (.aload_n 0, 1) := by decide +kernel
theorem dX7_town_22 : decode cX7_town 22 = .ok (.iconst 0, 1) := by decide +kernel
theorem dX7_town_23 : decode cX7_town 23 = .ok (.putfield 101, 3) := by decide +kernel
theorem dX7_town_26 : decode cX7_town 26 = .ok (.aload_n 0, 1) := by decide +kernel
theorem dX7_town_27 : decode cX7_town 27 = .ok (.iconst (-1), 1) := by decide +kernel
theorem dX7_town_28 : decode cX7_town 28 = .ok (.putfield 116, 3) := by decide +kernel
theorem dX7_town_31 : decode cX7_town 31 = .ok (.aload_n 0, 1) := by decide +kernel
theorem dX7_town_32 : decode cX7_town 32 = .ok (.invokevirtual 126, 3) := by decide +kernel
theorem dX7_town_35 : decode cX7_town 35 = .ok (.aload_n 0, 1) := by decide +kernel
theorem dX7_town_36 : decode cX7_town 36 = .ok (.aload_n 0, 1) := by decide +kernel
theorem dX7_town_37 : decode cX7_town 37 = .ok (.getfield 113, 3) := by decide +kernel
theorem dX7_town_40 : decode cX7_town 40 = .ok (.iconst 1, 1) := by decide +kernel
theorem dX7_town_41 : decode cX7_town 41 = .ok (.if_icmp .ne 16, 3) := by decide +kernel
theorem dX7_town_44 : decode cX7_town 44 = .ok (.aload_n 0, 1) := by decide +kernel
theorem dX7_town_45 : decode cX7_town 45 = .ok (.getfield 110, 3) := by decide +kernel
theorem dX7_town_48 : decode cX7_town 48 = .ok (.bipush 116, 2) := by decide +kernel
theorem dX7_town_50 : decode cX7_town 50 = .ok (.if_icmp .ne 7, 3) := by decide +kernel
theorem dX7_town_53 : decode cX7_town 53 = .ok (.iconst 1, 1) := by decide +kernel
theorem dX7_town_54 : decode cX7_town 54 = .ok (.goto 4, 3) := by decide +kernel
theorem dX7_town_57 : decode cX7_town 57 = .ok (.iconst 0, 1) := by decide +kernel
theorem dX7_town_58 : decode cX7_town 58 = .ok (.iconst 1, 1) := by decide +kernel
theorem dX7_town_59 : decode cX7_town 59 = .ok (.invokevirtual 129, 3) := by decide +kernel
theorem dX7_town_62 : decode cX7_town 62 = .ok (.pop, 1) := by decide +kernel
theorem dX7_town_63 : decode cX7_town 63 = .ok (.aload_n 0, 1) := by decide +kernel
theorem dX7_town_64 : decode cX7_town 64 = .ok (.getfield 28, 3) := by decide +kernel
theorem dX7_town_67 : decode cX7_town 67 = .ok (.iconst 0, 1) := by decide +kernel
theorem dX7_town_68 : decode cX7_town 68 = .ok (.aload_n 0, 1) := by decide +kernel
theorem dX7_town_69 : decode cX7_town 69 = .ok (.iconst 1, 1) := by decide +kernel
theorem dX7_town_70 : decode cX7_town 70 = .ok (.bipush 9, 2) := by decide +kernel
theorem dX7_town_72 : decode cX7_town 72 = .ok (.invokevirtual 133, 3) := by decide +kernel
theorem dX7_town_75 : decode cX7_town 75 = .ok (.iastore, 1) := by decide +kernel
theorem dX7_town_76 : decode cX7_town 76 = .ok (.aload_n 0, 1) := by decide +kernel
theorem dX7_town_77 : decode cX7_town 77 = .ok (.getfield 28, 3) := by decide +kernel
theorem dX7_town_80 : decode cX7_town 80 = .ok (.iconst 1, 1) := by decide +kernel
theorem dX7_town_81 : decode cX7_town 81 = .ok (.aload_n 0, 1) := by decide +kernel
theorem dX7_town_82 : decode cX7_town 82 = .ok (.iconst 0, 1) := by decide +kernel
theorem dX7_town_83 : decode cX7_town 83 = .ok (.bipush 9, 2) := by decide +kernel
theorem dX7_town_85 : decode cX7_town 85 = .ok (.invokevirtual 139, 3) := by decide +kernel
theorem dX7_town_88 : decode cX7_town 88 = .ok (.iastore, 1) := by decide +kernel
theorem dX7_town_89 : decode cX7_town 89 = .ok (.aload_n 0, 1) := by decide +kernel
theorem dX7_town_90 : decode cX7_town 90 = .ok (.aload_n 0, 1) := by decide +kernel
theorem dX7_town_91 : decode cX7_town 91 = .ok (.getfield 113, 3) := by decide +kernel
theorem dX7_town_94 : decode cX7_town 94 = .ok (.iconst 4, 1) := by decide +kernel
theorem dX7_town_95 : decode cX7_town 95 = .ok (.if_icmp .ne 7, 3) := by decide +kernel
theorem dX7_town_98 : decode cX7_town 98 = .ok (.iconst 1, 1) := by decide +kernel
theorem dX7_town_99 : decode cX7_town 99 = .ok (.goto 4, 3) := by decide +kernel
theorem dX7_town_102 : decode cX7_town 102 = .ok (.iconst 0, 1) := by decide +kernel
theorem dX7_town_103 : decode cX7_town 103 = .ok (.iconst 1, 1) := by decide +kernel
theorem dX7_town_104 : decode cX7_town 104 = .ok (.invokevirtual 129, 3) := by decide +kernel
theorem dX7_town_107 : decode cX7_town 107 = .ok (.pop, 1) := by decide +kernel
theorem dX7_town_108 : decode cX7_town 108 = .ok (.aload_n 0, 1) := by decide +kernel
theorem dX7_town_109 : decode cX7_town 109 = .ok (.invokevirtual 119, 3) := by decide +kernel
theorem dX7_town_112 : decode cX7_town 112 = .ok (.ifCond .eq 28, 3) := by decide +kernel
theorem dX7_town_115 : decode cX7_town 115 = .ok (.aload_n 0, 1) := by decide +kernel
theorem dX7_town_116 : decode cX7_town 116 = .ok (.getfield 113, 3) := by decide +kernel
theorem dX7_town_119 : decode cX7_town 119 = .ok (.iconst 1, 1) := by decide +kernel
theorem dX7_town_120 : decode cX7_town 120 = .ok (.if_icmp .ne 13, 3) := by decide +kernel
theorem dX7_town_123 : decode cX7_town 123 = .ok (.aload_n 0, 1) := by decide +kernel
theorem dX7_town_124 : decode cX7_town 124 = .ok (.getfield 110, 3) := by decide +kernel
theorem dX7_town_127 : decode cX7_town 127 = .ok (.invokestatic 136, 3) := by decide +kernel
theorem dX7_town_130 : decode cX7_town 130 = .ok (.ifCond .gt 10, 3) := by decide +kernel
theorem dX7_town_133 : decode cX7_town 133 = .ok (.aload_n 0, 1) := by decide +kernel
theorem dX7_town_134 : decode cX7_town 134 = .ok (.iconst 0, 1) := by decide +kernel
theorem dX7_town_135 : decode cX7_town 135 = .ok (.iconst 1, 1) := by decide +kernel
theorem dX7_town_136 : decode cX7_town 136 = .ok (.invokevirtual 129, 3) := by decide +kernel
theorem dX7_town_139 : decode cX7_town 139 = .ok (.pop, 1) := by decide +kernel
theorem dX7_town_140 : decode cX7_town 140 = .ok (.aload_n 0, 1) := by decide +kernel
theorem dX7_town_141 : decode cX7_town 141 = .ok (.invokevirtual 119, 3) := by decide +kernel
theorem dX7_town_144 : decode cX7_town 144 = .ok (.ifCond .eq 28, 3) := by decide +kernel
theorem dX7_town_147 : decode cX7_town 147 = .ok (.aload_n 0, 1) := by decide +kernel
theorem dX7_town_148 : decode cX7_town 148 = .ok (.getfield 113, 3) := by decide +kernel
theorem dX7_town_151 : decode cX7_town 151 = .ok (.iconst 1, 1) := by decide +kernel
theorem dX7_town_152 : decode cX7_town 152 = .ok (.if_icmp .ne 20, 3) := by decide +kernel
theorem dX7_town_155 : decode cX7_town 155 = .ok (.aload_n 0, 1) := by decide +kernel
theorem dX7_town_156 : decode cX7_town 156 = .ok (.getfield 110, 3) := by decide +kernel
theorem dX7_town_159 : decode cX7_town 159 = .ok (.invokestatic 136, 3) := by decide +kernel
theorem dX7_town_162 : decode cX7_town 162 = .ok (.ifCond .le 10, 3) := by decide +kernel
theorem dX7_town_165 : decode cX7_town 165 = .ok (.aload_n 0, 1) := by decide +kernel
theorem dX7_town_166 : decode cX7_town 166 = .ok (.invokevirtual 149, 3) := by decide +kernel
theorem dX7_town_169 : decode cX7_town 169 = .ok (.goto (-29), 3) := by decide +kernel
theorem dX7_town_172 : decode cX7_town 172 = .ok (.aload_n 0, 1) := by decide +kernel
theorem dX7_town_173 : decode cX7_town 173 = .ok (.invokevirtual 119, 3) := by decide +kernel
theorem dX7_town_176 : decode cX7_town 176 = .ok (.ifCond .eq 27, 3) := by decide +kernel
theorem dX7_town_179 : decode cX7_town 179 = .ok (.aload_n 0, 1) := by decide +kernel
theorem dX7_town_180 : decode cX7_town 180 = .ok (.getfield 113, 3) := by decide +kernel
theorem dX7_town_183 : decode cX7_town 183 = .ok (.iconst 1, 1) := by decide +kernel
theorem dX7_town_184 : decode cX7_town 184 = .ok (.if_icmp .ne 19, 3) := by decide +kernel
theorem dX7_town_187 : decode cX7_town 187 = .ok (.aload_n 0, 1) := by decide +kernel
theorem dX7_town_188 : decode cX7_town 188 = .ok (.getfield 110, 3) := by decide +kernel
theorem dX7_town_191 : decode cX7_town 191 = .ok (.bipush 120, 2) := by decide +kernel
theorem dX7_town_193 : decode cX7_town 193 = .ok (.if_icmp .ne 10, 3) := by decide +kernel
theorem dX7_town_196 : decode cX7_town 196 = .ok (.aload_n 0, 1) := by decide +kernel
theorem dX7_town_197 : decode cX7_town 197 = .ok (.invokevirtual 152, 3) := by decide +kernel
theorem dX7_town_200 : decode cX7_town 200 = .ok (.goto (-28), 3) := by decide +kernel
theorem dX7_town_203 : decode cX7_town 203 = .ok (.aload_n 0, 1) := by decide +kernel
theorem dX7_town_204 : decode cX7_town 204 = .ok (.invokevirtual 119, 3) := by decide +kernel
theorem dX7_town_207 : decode cX7_town 207 = .ok (.ifCond .eq 17, 3) := by decide +kernel
theorem dX7_town_210 : decode cX7_town 210 = .ok (.aload_n 0, 1) := by decide +kernel
theorem dX7_town_211 : decode cX7_town 211 = .ok (.getfield 113, 3) := by decide +kernel
theorem dX7_town_214 : decode cX7_town 214 = .ok (.ifCond .eq 10, 3) := by decide +kernel
theorem dX7_town_217 : decode cX7_town 217 = .ok (.aload_n 0, 1) := by decide +kernel
theorem dX7_town_218 : decode cX7_town 218 = .ok (.iconst 0, 1) := by decide +kernel
theorem dX7_town_219 : decode cX7_town 219 = .ok (.iconst 1, 1) := by decide +kernel
theorem dX7_town_220 : decode cX7_town 220 = .ok (.invokevirtual 129, 3) := by decide +kernel
theorem dX7_town_223 : decode cX7_town 223 = .ok (.pop, 1) := by decide +kernel
theorem dX7_town_224 : decode cX7_town 224 = .ok (.aload_n 0, 1) := by decide +kernel
theorem dX7_town_225 : decode cX7_town 225 = .ok (.iconst 0, 1) := by decide +kernel
theorem dX7_town_226 : decode cX7_town 226 = .ok (.putfield 97, 3) := by decide +kernel
theorem dX7_town_229 : decode cX7_town 229 = .ok (.aload_n 0, 1) := by decide +kernel
theorem dX7_town_230 : decode cX7_town 230 = .ok (.invokevirtual 119, 3) := by decide +kernel
theorem dX7_town_233 : decode cX7_town 233 = .ok (.ifCond .ne 11, 3) := by decide +kernel
theorem dX7_town_236 : decode cX7_town 236 = .ok (.ldc 155, 2) := by decide +kernel
theorem dX7_town_238 : decode cX7_town 238 = .ok (.aload_n 0, 1) := by decide +kernel
theorem dX7_town_239 : decode cX7_town 239 = .ok (.getfield 116, 3) := by decide +kernel
theorem dX7_town_242 : decode cX7_town 242 = .ok (.isub, 1) := by decide +kernel
theorem dX7_town_243 : decode cX7_town 243 = .ok (.ireturn, 1) := by decide +kernel
theorem dX7_town_244 : decode cX7_town 244 = .ok (.aload_n 0, 1) := by decide +kernel
theorem dX7_town_245 : decode cX7_town 245 = .ok (.getfield 28, 3) := by decide +kernel
theorem dX7_town_248 : decode cX7_town 248 = .ok (.iconst 0, 1) := by decide +kernel
theorem dX7_town_249 : decode cX7_town 249 = .ok (.aload_n 0, 1) := by decide +kernel
theorem dX7_town_250 : decode cX7_town 250 = .ok (.getfield 25, 3) := by decide +kernel
theorem dX7_town_253 : decode cX7_town 253 = .ok (.iconst 0, 1) := by decide +kernel
theorem dX7_town_254 : decode cX7_town 254 = .ok (.invokestatic 156, 3) := by decide +kernel
theorem dX7_town_257 : decode cX7_town 257 = .ok (.aload_n 0, 1) := by decide +kernel
theorem dX7_town_258 : decode cX7_town 258 = .ok (.iconst 0, 1) := by decide +kernel
theorem dX7_town_259 : decode cX7_town 259 = .ok (.putfield 160, 3) := by decide +kernel
theorem dX7_town_262 : decode cX7_town 262 = .ok (.aload_n 0, 1) := by decide +kernel
theorem dX7_town_263 : decode cX7_town 263 = .ok (.getfield 25, 3) := by decide +kernel
theorem dX7_town_266 : decode cX7_town 266 = .ok (.bipush 25, 2) := by decide +kernel
theorem dX7_town_268 : decode cX7_town 268 = .ok (.iaload, 1) := by decide +kernel
theorem dX7_town_269 : decode cX7_town 269 = .ok (.ireturn, 1) := by decide +kernel
theorem dX7_fault_0 : decode cX7_fault 0 = .ok (.aload_n 0, 1) := by decide +kernel
theorem dX7_fault_1 : decode cX7_fault 1 = .ok (.getfield 123, 3) := by decide +kernel
theorem dX7_fault_4 : decode cX7_fault 4 = .ok (.ireturn, 1) := by decide +kernel
theorem dX7_isTown_0 : decode cX7_isTown 0 = .ok (.aload_n 0, 1) := by decide +kernel
theorem dX7_isTown_1 : decode cX7_isTown 1 = .ok (.getfield 25, 3) := by decide +kernel
theorem dX7_isTown_4 : decode cX7_isTown 4 = .ok (.iconst 0, 1) := by decide +kernel
theorem dX7_isTown_5 : decode cX7_isTown 5 = .ok (.iaload, 1) := by decide +kernel
theorem dX7_isTown_6 : decode cX7_isTown 6 = .ok (.ifCond .le 7, 3) := by decide +kernel
theorem dX7_isTown_9 : decode cX7_isTown 9 = .ok (.iconst 1, 1) := by decide +kernel
theorem dX7_isTown_10 : decode cX7_isTown 10 = .ok (.goto 4, 3) := by decide +kernel
theorem dX7_isTown_13 : decode cX7_isTown 13 = .ok (.iconst 0, 1) := by decide +kernel
theorem dX7_isTown_14 : decode cX7_isTown 14 = .ok (.ireturn, 1) := by decide +kernel
theorem dX7_isCorner_0 : decode cX7_isCorner 0 = .ok (.iload_n 1, 1) := by decide +kernel
theorem dX7_isCorner_1 : decode cX7_isCorner 1 = .ok (.iconst 0, 1) := by decide +kernel
theorem dX7_isCorner_2 : decode cX7_isCorner 2 = .ok (.aload_n 0, 1) := by decide +kernel
theorem dX7_isCorner_3 : decode cX7_isCorner 3 = .ok (.getfield 25, 3) := by decide +kernel
theorem dX7_isCorner_6 : decode cX7_isCorner 6 = .ok (.bipush 6, 2) := by decide +kernel
theorem dX7_isCorner_8 : decode cX7_isCorner 8 = .ok (.iaload, 1) := by decide +kernel
theorem dX7_isCorner_9 : decode cX7_isCorner 9 = .ok (.iconst 1, 1) := by decide +kernel
theorem dX7_isCorner_10 : decode cX7_isCorner 10 = .ok (.isub, 1) := by decide +kernel
theorem dX7_isCorner_11 : decode cX7_isCorner 11 = .ok (.invokestatic 71, 3) := by decide +kernel
theorem dX7_isCorner_14 : decode cX7_isCorner 14 = .ok (.ireturn, 1) := by decide +kernel
theorem dX7_isStreet_0 : decode cX7_isStreet 0 = .ok (.iload_n 1, 1) := by decide +kernel
theorem dX7_isStreet_1 : decode cX7_isStreet 1 = .ok (.iconst 0, 1) := by decide +kernel
theorem dX7_isStreet_2 : decode cX7_isStreet 2 = .ok (.aload_n 0, 1) := by decide +kernel
theorem dX7_isStreet_3 : decode cX7_isStreet 3 = .ok (.getfield 25, 3) := by decide +kernel
theorem dX7_isStreet_6 : decode cX7_isStreet 6 = .ok (.bipush 25, 2) := by decide +kernel
theorem dX7_isStreet_8 : decode cX7_isStreet 8 = .ok (.iaload, 1) := by decide +kernel
theorem dX7_isStreet_9 : decode cX7_isStreet 9 = .ok (.iconst 1, 1) := by decide +kernel
theorem dX7_isStreet_10 : decode cX7_isStreet 10 = .ok (.isub, 1) := by decide +kernel
theorem dX7_isStreet_11 : decode cX7_isStreet 11 = .ok (.invokestatic 71, 3) := by decide +kernel
theorem dX7_isStreet_14 : decode cX7_isStreet 14 = .ok (.ireturn, 1) := by decide +kernel
theorem dX7_passed_0 : decode cX7_passed 0 = .ok (.aload_n 0, 1) := by decide +kernel
theorem dX7_passed_1 : decode cX7_passed 1 = .ok (.bipush 7, 2) := by decide +kernel
theorem dX7_passed_3 : decode cX7_passed 3 = .ok (.iconst 3, 1) := by decide +kernel
theorem dX7_passed_4 : decode cX7_passed 4 = .ok (.iload_n 1, 1) := by decide +kernel
theorem dX7_passed_5 : decode cX7_passed 5 = .ok (.imul, 1) := by decide +kernel
theorem dX7_passed_6 : decode cX7_passed 6 = .ok (.iadd, 1) := by decide +kernel
theorem dX7_passed_7 : decode cX7_passed 7 = .ok (.iconst 1, 1) := by decide +kernel
theorem dX7_passed_8 : decode cX7_passed 8 = .ok (.iadd, 1) := by decide +kernel
theorem dX7_passed_9 : decode cX7_passed 9 = .ok (.iaload, 1) := by decide +kernel
theorem dX7_passed_10 : decode cX7_passed 10 = .ok (.istore 4, 2) := by decide +kernel
theorem dX7_passed_12 : decode cX7_passed 12 = .ok (.iconst 0, 1) := by decide +kernel
theorem dX7_passed_13 : decode cX7_passed 13 = .ok (.istore 5, 2) := by decide +kernel
theorem dX7_passed_15 : decode cX7_passed 15 = .ok (.aload_n 0, 1) := by decide +kernel
theorem dX7_passed_16 : decode cX7_passed 16 = .ok (.bipush 7, 2) := by decide +kernel
theorem dX7_passed_18 : decode cX7_passed 18 = .ok (.iconst 3, 1) := by decide +kernel
theorem dX7_passed_19 : decode cX7_passed 19 = .ok (.iload_n 1, 1) := by decide +kernel
theorem dX7_passed_20 : decode cX7_passed 20 = .ok (.imul, 1) := by decide +kernel
theorem dX7_passed_21 : decode cX7_passed 21 = .ok (.iadd, 1) := by decide +kernel
theorem dX7_passed_22 : decode cX7_passed 22 = .ok (.iaload, 1) := by decide +kernel
theorem dX7_passed_23 : decode cX7_passed 23 = .ok (.tableswitch 69 1 3 #[25, 32, 51], 25) := by decide +kernel
theorem dX7_passed_48 : decode cX7_passed 48 = .ok (.iload 4, 2) := by decide +kernel
theorem dX7_passed_50 : decode cX7_passed 50 = .ok (.istore 5, 2) := by decide +kernel
theorem dX7_passed_52 : decode cX7_passed 52 = .ok (.goto 45, 3) := by decide +kernel
theorem dX7_passed_55 : decode cX7_passed 55 = .ok (.iload_n 2, 1) := by decide +kernel
theorem dX7_passed_56 : decode cX7_passed 56 = .ok (.iconst 4, 1) := by decide +kernel
theorem dX7_passed_57 : decode cX7_passed 57 = .ok (.if_icmp .le 10, 3) := by decide +kernel
theorem dX7_passed_60 : decode cX7_passed 60 = .ok (.iconst 2, 1) := by decide +kernel
theorem dX7_passed_61 : decode cX7_passed 61 = .ok (.iload 4, 2) := by decide +kernel
theorem dX7_passed_63 : decode cX7_passed 63 = .ok (.imul, 1) := by decide +kernel
theorem dX7_passed_64 : decode cX7_passed 64 = .ok (.goto 5, 3) := by decide +kernel
theorem dX7_passed_67 : decode cX7_passed 67 = .ok (.iload 4, 2) := by decide +kernel
theorem dX7_passed_69 : decode cX7_passed 69 = .ok (.istore 5, 2) := by decide +kernel
theorem dX7_passed_71 : decode cX7_passed 71 = .ok (.goto 26, 3) := by decide +kernel
theorem dX7_passed_74 : decode cX7_passed 74 = .ok (.iload_n 3, 1) := by decide +kernel
theorem dX7_passed_75 : decode cX7_passed 75 = .ok (.iconst 2, 1) := by decide +kernel
theorem dX7_passed_76 : decode cX7_passed 76 = .ok (.irem, 1) := by decide +kernel
theorem dX7_passed_77 : decode cX7_passed 77 = .ok (.iconst 1, 1) := by decide +kernel
theorem dX7_passed_78 : decode cX7_passed 78 = .ok (.if_icmp .ne 8, 3) := by decide +kernel
theorem dX7_passed_81 : decode cX7_passed 81 = .ok (.iload 4, 2) := by decide +kernel
theorem dX7_passed_83 : decode cX7_passed 83 = .ok (.goto 4, 3) := by decide +kernel
theorem dX7_passed_86 : decode cX7_passed 86 = .ok (.iconst 0, 1) := by decide +kernel
theorem dX7_passed_87 : decode cX7_passed 87 = .ok (.istore 5, 2) := by decide +kernel
theorem dX7_passed_89 : decode cX7_passed 89 = .ok (.goto 8, 3) := by decide +kernel
theorem dX7_passed_92 : decode cX7_passed 92 = .ok (.iload 4, 2) := by decide +kernel
theorem dX7_passed_94 : decode cX7_passed 94 = .ok (.ineg, 1) := by decide +kernel
theorem dX7_passed_95 : decode cX7_passed 95 = .ok (.istore 5, 2) := by decide +kernel
theorem dX7_passed_97 : decode cX7_passed 97 = .ok (.iload_n 2, 1) := by decide +kernel
theorem dX7_passed_98 : decode cX7_passed 98 = .ok (.iload 5, 2) := by decide +kernel
theorem dX7_passed_100 : decode cX7_passed 100 = .ok (.iadd, 1) := by decide +kernel
theorem dX7_passed_101 : decode cX7_passed 101 = .ok (.istore 6, 2) := by decide +kernel
theorem dX7_passed_103 : decode cX7_passed 103 = .ok (.iload 6, 2) := by decide +kernel
theorem dX7_passed_105 : decode cX7_passed 105 = .ok (.ifCond .ge 7, 3) := by decide +kernel
theorem dX7_passed_108 : decode cX7_passed 108 = .ok (.iconst 0, 1) := by decide +kernel
theorem dX7_passed_109 : decode cX7_passed 109 = .ok (.goto 17, 3) := by decide +kernel
theorem dX7_passed_112 : decode cX7_passed 112 = .ok (.iload 6, 2) := by decide +kernel
theorem dX7_passed_114 : decode cX7_passed 114 = .ok (.bipush 9, 2) := by decide +kernel
theorem dX7_passed_116 : decode cX7_passed 116 = .ok (.if_icmp .le 8, 3) := by decide +kernel
theorem dX7_passed_119 : decode cX7_passed 119 = .ok (.bipush 9, 2) := by decide +kernel
theorem dX7_passed_121 : decode cX7_passed 121 = .ok (.goto 5, 3) := by decide +kernel
theorem dX7_passed_124 : decode cX7_passed 124 = .ok (.iload 6, 2) := by decide +kernel
theorem dX7_passed_126 : decode cX7_passed 126 = .ok (.istore 6, 2) := by decide +kernel
theorem dX7_passed_128 : decode cX7_passed 128 = .ok (.aload_n 0, 1) := by decide +kernel
theorem dX7_passed_129 : decode cX7_passed 129 = .ok (.bipush 7, 2) := by decide +kernel
theorem dX7_passed_131 : decode cX7_passed 131 = .ok (.iconst 3, 1) := by decide +kernel
theorem dX7_passed_132 : decode cX7_passed 132 = .ok (.iload_n 1, 1) := by decide +kernel
theorem dX7_passed_133 : decode cX7_passed 133 = .ok (.imul, 1) := by decide +kernel
theorem dX7_passed_134 : decode cX7_passed 134 = .ok (.iadd, 1) := by decide +kernel
theorem dX7_passed_135 : decode cX7_passed 135 = .ok (.iaload, 1) := by decide +kernel
theorem dX7_passed_136 : decode cX7_passed 136 = .ok (.iconst 5, 1) := by decide +kernel
theorem dX7_passed_137 : decode cX7_passed 137 = .ok (.if_icmp .ne 10, 3) := by decide +kernel
theorem dX7_passed_140 : decode cX7_passed 140 = .ok (.iload 6, 2) := by decide +kernel
theorem dX7_passed_142 : decode cX7_passed 142 = .ok (.iconst 2, 1) := by decide +kernel
theorem dX7_passed_143 : decode cX7_passed 143 = .ok (.idiv, 1) := by decide +kernel
theorem dX7_passed_144 : decode cX7_passed 144 = .ok (.goto 5, 3) := by decide +kernel
theorem dX7_passed_147 : decode cX7_passed 147 = .ok (.iload 6, 2) := by decide +kernel
theorem dX7_passed_149 : decode cX7_passed 149 = .ok (.ireturn, 1) := by decide +kernel
theorem dX7_cost_0 : decode cX7_cost 0 = .ok (.aload_n 0, 1) := by decide +kernel
theorem dX7_cost_1 : decode cX7_cost 1 = .ok (.iload_n 1, 1) := by decide +kernel
theorem dX7_cost_2 : decode cX7_cost 2 = .ok (.iload_n 2, 1) := by decide +kernel
theorem dX7_cost_3 : decode cX7_cost 3 = .ok (.iload_n 3, 1) := by decide +kernel
theorem dX7_cost_4 : decode cX7_cost 4 = .ok (.invokestatic 163, 3) := by decide +kernel
theorem dX7_cost_7 : decode cX7_cost 7 = .ok (.istore 4, 2) := by decide +kernel
theorem dX7_cost_9 : decode cX7_cost 9 = .ok (.iload 4, 2) := by decide +kernel
theorem dX7_cost_11 : decode cX7_cost 11 = .ok (.iload_n 2, 1) := by decide +kernel
theorem dX7_cost_12 : decode cX7_cost 12 = .ok (.if_icmp .le 10, 3) := by decide +kernel
theorem dX7_cost_15 : decode cX7_cost 15 = .ok (.iload 4, 2) := by decide +kernel
theorem dX7_cost_17 : decode cX7_cost 17 = .ok (.iload_n 2, 1) := by decide +kernel
theorem dX7_cost_18 : decode cX7_cost 18 = .ok (.isub, 1) := by decide +kernel
theorem dX7_cost_19 : decode cX7_cost 19 = .ok (.goto 7, 3) := by decide +kernel
theorem dX7_cost_22 : decode cX7_cost 22 = .ok (.iload_n 2, 1) := by decide +kernel
theorem dX7_cost_23 : decode cX7_cost 23 = .ok (.iload 4, 2) := by decide +kernel
theorem dX7_cost_25 : decode cX7_cost 25 = .ok (.isub, 1) := by decide +kernel
theorem dX7_cost_26 : decode cX7_cost 26 = .ok (.aload_n 0, 1) := by decide +kernel
theorem dX7_cost_27 : decode cX7_cost 27 = .ok (.iconst 0, 1) := by decide +kernel
theorem dX7_cost_28 : decode cX7_cost 28 = .ok (.iaload, 1) := by decide +kernel
theorem dX7_cost_29 : decode cX7_cost 29 = .ok (.imul, 1) := by decide +kernel
theorem dX7_cost_30 : decode cX7_cost 30 = .ok (.aload_n 0, 1) := by decide +kernel
theorem dX7_cost_31 : decode cX7_cost 31 = .ok (.bipush 7, 2) := by decide +kernel
theorem dX7_cost_33 : decode cX7_cost 33 = .ok (.iconst 3, 1) := by decide +kernel
theorem dX7_cost_34 : decode cX7_cost 34 = .ok (.iload_n 1, 1) := by decide +kernel
theorem dX7_cost_35 : decode cX7_cost 35 = .ok (.imul, 1) := by decide +kernel
theorem dX7_cost_36 : decode cX7_cost 36 = .ok (.iadd, 1) := by decide +kernel
theorem dX7_cost_37 : decode cX7_cost 37 = .ok (.iconst 2, 1) := by decide +kernel
theorem dX7_cost_38 : decode cX7_cost 38 = .ok (.iadd, 1) := by decide +kernel
theorem dX7_cost_39 : decode cX7_cost 39 = .ok (.iaload, 1) := by decide +kernel
theorem dX7_cost_40 : decode cX7_cost 40 = .ok (.iadd, 1) := by decide +kernel
theorem dX7_cost_41 : decode cX7_cost 41 = .ok (.ireturn, 1) := by decide +kernel
theorem dX7_goes_0 : decode cX7_goes 0 = .ok (.iload_n 1, 1) := by decide +kernel
theorem dX7_goes_1 : decode cX7_goes 1 = .ok (.iconst 0, 1) := by decide +kernel
theorem dX7_goes_2 : decode cX7_goes 2 = .ok (.aload_n 0, 1) := by decide +kernel
theorem dX7_goes_3 : decode cX7_goes 3 = .ok (.bipush 25, 2) := by decide +kernel
theorem dX7_goes_5 : decode cX7_goes 5 = .ok (.iaload, 1) := by decide +kernel
theorem dX7_goes_6 : decode cX7_goes 6 = .ok (.iconst 1, 1) := by decide +kernel
theorem dX7_goes_7 : decode cX7_goes 7 = .ok (.isub, 1) := by decide +kernel
theorem dX7_goes_8 : decode cX7_goes 8 = .ok (.invokestatic 71, 3) := by decide +kernel
theorem dX7_goes_11 : decode cX7_goes 11 = .ok (.ifCond .eq 29, 3) := by decide +kernel
theorem dX7_goes_14 : decode cX7_goes 14 = .ok (.aload_n 0, 1) := by decide +kernel
theorem dX7_goes_15 : decode cX7_goes 15 = .ok (.iconst 5, 1) := by decide +kernel
theorem dX7_goes_16 : decode cX7_goes 16 = .ok (.iaload, 1) := by decide +kernel
theorem dX7_goes_17 : decode cX7_goes 17 = .ok (.iload_n 1, 1) := by decide +kernel
theorem dX7_goes_18 : decode cX7_goes 18 = .ok (.invokestatic 167, 3) := by decide +kernel
theorem dX7_goes_21 : decode cX7_goes 21 = .ok (.ifCond .eq 19, 3) := by decide +kernel
theorem dX7_goes_24 : decode cX7_goes 24 = .ok (.aload_n 0, 1) := by decide +kernel
theorem dX7_goes_25 : decode cX7_goes 25 = .ok (.bipush 26, 2) := by decide +kernel
theorem dX7_goes_27 : decode cX7_goes 27 = .ok (.iconst 2, 1) := by decide +kernel
theorem dX7_goes_28 : decode cX7_goes 28 = .ok (.iload_n 1, 1) := by decide +kernel
theorem dX7_goes_29 : decode cX7_goes 29 = .ok (.imul, 1) := by decide +kernel
theorem dX7_goes_30 : decode cX7_goes 30 = .ok (.iadd, 1) := by decide +kernel
theorem dX7_goes_31 : decode cX7_goes 31 = .ok (.iaload, 1) := by decide +kernel
theorem dX7_goes_32 : decode cX7_goes 32 = .ok (.iload_n 2, 1) := by decide +kernel
theorem dX7_goes_33 : decode cX7_goes 33 = .ok (.if_icmp .ne 7, 3) := by decide +kernel
theorem dX7_goes_36 : decode cX7_goes 36 = .ok (.iconst 1, 1) := by decide +kernel
theorem dX7_goes_37 : decode cX7_goes 37 = .ok (.goto 4, 3) := by decide +kernel
theorem dX7_goes_40 : decode cX7_goes 40 = .ok (.iconst 0, 1) := by decide +kernel
theorem dX7_goes_41 : decode cX7_goes 41 = .ok (.ireturn, 1) := by decide +kernel
theorem dX7_rides_0 : decode cX7_rides 0 = .ok (.aload_n 0, 1) := by decide +kernel
theorem dX7_rides_1 : decode cX7_rides 1 = .ok (.bipush 26, 2) := by decide +kernel
theorem dX7_rides_3 : decode cX7_rides 3 = .ok (.iconst 2, 1) := by decide +kernel
theorem dX7_rides_4 : decode cX7_rides 4 = .ok (.iload_n 1, 1) := by decide +kernel
theorem dX7_rides_5 : decode cX7_rides 5 = .ok (.imul, 1) := by decide +kernel
theorem dX7_rides_6 : decode cX7_rides 6 = .ok (.iadd, 1) := by decide +kernel
theorem dX7_rides_7 : decode cX7_rides 7 = .ok (.iconst 1, 1) := by decide +kernel
theorem dX7_rides_8 : decode cX7_rides 8 = .ok (.iadd, 1) := by decide +kernel
theorem dX7_rides_9 : decode cX7_rides 9 = .ok (.iaload, 1) := by decide +kernel
theorem dX7_rides_10 : decode cX7_rides 10 = .ok (.istore_n 2, 1) := by decide +kernel
theorem dX7_rides_11 : decode cX7_rides 11 = .ok (.aload_n 0, 1) := by decide +kernel
theorem dX7_rides_12 : decode cX7_rides 12 = .ok (.iconst 2, 1) := by decide +kernel
theorem dX7_rides_13 : decode cX7_rides 13 = .ok (.iaload, 1) := by decide +kernel
theorem dX7_rides_14 : decode cX7_rides 14 = .ok (.aload_n 0, 1) := by decide +kernel
theorem dX7_rides_15 : decode cX7_rides 15 = .ok (.iload_n 2, 1) := by decide +kernel
theorem dX7_rides_16 : decode cX7_rides 16 = .ok (.aload_n 0, 1) := by decide +kernel
theorem dX7_rides_17 : decode cX7_rides 17 = .ok (.iconst 1, 1) := by decide +kernel
theorem dX7_rides_18 : decode cX7_rides 18 = .ok (.iaload, 1) := by decide +kernel
theorem dX7_rides_19 : decode cX7_rides 19 = .ok (.aload_n 0, 1) := by decide +kernel
theorem dX7_rides_20 : decode cX7_rides 20 = .ok (.iconst 3, 1) := by decide +kernel
theorem dX7_rides_21 : decode cX7_rides 21 = .ok (.iaload, 1) := by decide +kernel
theorem dX7_rides_22 : decode cX7_rides 22 = .ok (.invokestatic 170, 3) := by decide +kernel
theorem dX7_rides_25 : decode cX7_rides 25 = .ok (.iadd, 1) := by decide +kernel
theorem dX7_rides_26 : decode cX7_rides 26 = .ok (.istore_n 3, 1) := by decide +kernel
theorem dX7_rides_27 : decode cX7_rides 27 = .ok (.aload_n 0, 1) := by decide +kernel
theorem dX7_rides_28 : decode cX7_rides 28 = .ok (.iconst 2, 1) := by decide +kernel
theorem dX7_rides_29 : decode cX7_rides 29 = .ok (.iload_n 3, 1) := by decide +kernel
theorem dX7_rides_30 : decode cX7_rides 30 = .ok (.sipush 9999, 3) := by decide +kernel
theorem dX7_rides_33 : decode cX7_rides 33 = .ok (.if_icmp .le 9, 3) := by decide +kernel
theorem dX7_rides_36 : decode cX7_rides 36 = .ok (.sipush 9999, 3) := by decide +kernel
theorem dX7_rides_39 : decode cX7_rides 39 = .ok (.goto 4, 3) := by decide +kernel
theorem dX7_rides_42 : decode cX7_rides 42 = .ok (.iload_n 3, 1) := by decide +kernel
theorem dX7_rides_43 : decode cX7_rides 43 = .ok (.iastore, 1) := by decide +kernel
theorem dX7_rides_44 : decode cX7_rides 44 = .ok (.aload_n 0, 1) := by decide +kernel
theorem dX7_rides_45 : decode cX7_rides 45 = .ok (.iconst 1, 1) := by decide +kernel
theorem dX7_rides_46 : decode cX7_rides 46 = .ok (.aload_n 0, 1) := by decide +kernel
theorem dX7_rides_47 : decode cX7_rides 47 = .ok (.iload_n 2, 1) := by decide +kernel
theorem dX7_rides_48 : decode cX7_rides 48 = .ok (.aload_n 0, 1) := by decide +kernel
theorem dX7_rides_49 : decode cX7_rides 49 = .ok (.iconst 1, 1) := by decide +kernel
theorem dX7_rides_50 : decode cX7_rides 50 = .ok (.iaload, 1) := by decide +kernel
theorem dX7_rides_51 : decode cX7_rides 51 = .ok (.aload_n 0, 1) := by decide +kernel
theorem dX7_rides_52 : decode cX7_rides 52 = .ok (.iconst 3, 1) := by decide +kernel
theorem dX7_rides_53 : decode cX7_rides 53 = .ok (.iaload, 1) := by decide +kernel
theorem dX7_rides_54 : decode cX7_rides 54 = .ok (.invokestatic 163, 3) := by decide +kernel
theorem dX7_rides_57 : decode cX7_rides 57 = .ok (.iastore, 1) := by decide +kernel
theorem dX7_rides_58 : decode cX7_rides 58 = .ok (.aload_n 0, 1) := by decide +kernel
theorem dX7_rides_59 : decode cX7_rides 59 = .ok (.iconst 4, 1) := by decide +kernel
theorem dX7_rides_60 : decode cX7_rides 60 = .ok (.iload_n 2, 1) := by decide +kernel
theorem dX7_rides_61 : decode cX7_rides 61 = .ok (.iastore, 1) := by decide +kernel
theorem dX7_rides_62 : decode cX7_rides 62 = .ok (.aload_n 0, 1) := by decide +kernel
theorem dX7_rides_63 : decode cX7_rides 63 = .ok (.iconst 3, 1) := by decide +kernel
theorem dX7_rides_64 : decode cX7_rides 64 = .ok (.dup2, 1) := by decide +kernel
theorem dX7_rides_65 : decode cX7_rides 65 = .ok (.iaload, 1) := by decide +kernel
theorem dX7_rides_66 : decode cX7_rides 66 = .ok (.iconst 1, 1) := by decide +kernel
theorem dX7_rides_67 : decode cX7_rides 67 = .ok (.iadd, 1) := by decide +kernel
theorem dX7_rides_68 : decode cX7_rides 68 = .ok (.iastore, 1) := by decide +kernel
theorem dX7_rides_69 : decode cX7_rides 69 = .ok (.return_, 1) := by decide +kernel
theorem dX7_notes_0 : decode cX7_notes 0 = .ok (.aload_n 0, 1) := by decide +kernel
theorem dX7_notes_1 : decode cX7_notes 1 = .ok (.getfield 160, 3) := by decide +kernel
theorem dX7_notes_4 : decode cX7_notes 4 = .ok (.bipush 24, 2) := by decide +kernel
theorem dX7_notes_6 : decode cX7_notes 6 = .ok (.if_icmp .ne 43, 3) := by decide +kernel
theorem dX7_notes_9 : decode cX7_notes 9 = .ok (.iconst 0, 1) := by decide +kernel
theorem dX7_notes_10 : decode cX7_notes 10 = .ok (.istore_n 1, 1) := by decide +kernel
theorem dX7_notes_11 : decode cX7_notes 11 = .ok (.iload_n 1, 1) := by decide +kernel
theorem dX7_notes_12 : decode cX7_notes 12 = .ok (.sipush 966, 3) := by decide +kernel
theorem dX7_notes_15 : decode cX7_notes 15 = .ok (.if_icmp .ge 24, 3) := by decide +kernel
theorem dX7_notes_18 : decode cX7_notes 18 = .ok (.aload_n 0, 1) := by decide +kernel
theorem dX7_notes_19 : decode cX7_notes 19 = .ok (.getfield 34, 3) := by decide +kernel
theorem dX7_notes_22 : decode cX7_notes 22 = .ok (.iload_n 1, 1) := by decide +kernel
theorem dX7_notes_23 : decode cX7_notes 23 = .ok (.aload_n 0, 1) := by decide +kernel
theorem dX7_notes_24 : decode cX7_notes 24 = .ok (.getfield 34, 3) := by decide +kernel
theorem dX7_notes_27 : decode cX7_notes 27 = .ok (.iload_n 1, 1) := by decide +kernel
theorem dX7_notes_28 : decode cX7_notes 28 = .ok (.bipush 42, 2) := by decide +kernel
theorem dX7_notes_30 : decode cX7_notes 30 = .ok (.iadd, 1) := by decide +kernel
theorem dX7_notes_31 : decode cX7_notes 31 = .ok (.iaload, 1) := by decide +kernel
theorem dX7_notes_32 : decode cX7_notes 32 = .ok (.iastore, 1) := by decide +kernel
theorem dX7_notes_33 : decode cX7_notes 33 = .ok (.iinc 1 1, 3) := by decide +kernel
theorem dX7_notes_36 : decode cX7_notes 36 = .ok (.goto (-25), 3) := by decide +kernel
theorem dX7_notes_39 : decode cX7_notes 39 = .ok (.aload_n 0, 1) := by decide +kernel
theorem dX7_notes_40 : decode cX7_notes 40 = .ok (.dup, 1) := by decide +kernel
theorem dX7_notes_41 : decode cX7_notes 41 = .ok (.getfield 160, 3) := by decide +kernel
theorem dX7_notes_44 : decode cX7_notes 44 = .ok (.iconst 1, 1) := by decide +kernel
theorem dX7_notes_45 : decode cX7_notes 45 = .ok (.isub, 1) := by decide +kernel
theorem dX7_notes_46 : decode cX7_notes 46 = .ok (.putfield 160, 3) := by decide +kernel
theorem dX7_notes_49 : decode cX7_notes 49 = .ok (.aload_n 0, 1) := by decide +kernel
theorem dX7_notes_50 : decode cX7_notes 50 = .ok (.getfield 25, 3) := by decide +kernel
theorem dX7_notes_53 : decode cX7_notes 53 = .ok (.iconst 0, 1) := by decide +kernel
theorem dX7_notes_54 : decode cX7_notes 54 = .ok (.aload_n 0, 1) := by decide +kernel
theorem dX7_notes_55 : decode cX7_notes 55 = .ok (.getfield 34, 3) := by decide +kernel
theorem dX7_notes_58 : decode cX7_notes 58 = .ok (.bipush 42, 2) := by decide +kernel
theorem dX7_notes_60 : decode cX7_notes 60 = .ok (.aload_n 0, 1) := by decide +kernel
theorem dX7_notes_61 : decode cX7_notes 61 = .ok (.getfield 160, 3) := by decide +kernel
theorem dX7_notes_64 : decode cX7_notes 64 = .ok (.imul, 1) := by decide +kernel
theorem dX7_notes_65 : decode cX7_notes 65 = .ok (.invokestatic 156, 3) := by decide +kernel
theorem dX7_notes_68 : decode cX7_notes 68 = .ok (.aload_n 0, 1) := by decide +kernel
theorem dX7_notes_69 : decode cX7_notes 69 = .ok (.dup, 1) := by decide +kernel
theorem dX7_notes_70 : decode cX7_notes 70 = .ok (.getfield 160, 3) := by decide +kernel
theorem dX7_notes_73 : decode cX7_notes 73 = .ok (.iconst 1, 1) := by decide +kernel
theorem dX7_notes_74 : decode cX7_notes 74 = .ok (.iadd, 1) := by decide +kernel
theorem dX7_notes_75 : decode cX7_notes 75 = .ok (.putfield 160, 3) := by decide +kernel
theorem dX7_notes_78 : decode cX7_notes 78 = .ok (.return_, 1) := by decide +kernel
theorem dX7_ride_0 : decode cX7_ride 0 = .ok (.aload_n 0, 1) := by decide +kernel
theorem dX7_ride_1 : decode cX7_ride 1 = .ok (.iload_n 1, 1) := by decide +kernel
theorem dX7_ride_2 : decode cX7_ride 2 = .ok (.invokevirtual 173, 3) := by decide +kernel
theorem dX7_ride_5 : decode cX7_ride 5 = .ok (.ifCond .ne 6, 3) := by decide +kernel
theorem dX7_ride_8 : decode cX7_ride 8 = .ok (.ldc 79, 2) := by decide +kernel
theorem dX7_ride_10 : decode cX7_ride 10 = .ok (.ireturn, 1) := by decide +kernel
theorem dX7_ride_11 : decode cX7_ride 11 = .ok (.aload_n 0, 1) := by decide +kernel
theorem dX7_ride_12 : decode cX7_ride 12 = .ok (.getfield 25, 3) := by decide +kernel
theorem dX7_ride_15 : decode cX7_ride 15 = .ok (.iload_n 1, 1) := by decide +kernel
theorem dX7_ride_16 : decode cX7_ride 16 = .ok (.aload_n 0, 1) := by decide +kernel
theorem dX7_ride_17 : decode cX7_ride 17 = .ok (.getfield 25, 3) := by decide +kernel
theorem dX7_ride_20 : decode cX7_ride 20 = .ok (.iconst 4, 1) := by decide +kernel
theorem dX7_ride_21 : decode cX7_ride 21 = .ok (.iaload, 1) := by decide +kernel
theorem dX7_ride_22 : decode cX7_ride 22 = .ok (.invokestatic 176, 3) := by decide +kernel
theorem dX7_ride_25 : decode cX7_ride 25 = .ok (.ifCond .ne 6, 3) := by decide +kernel
theorem dX7_ride_28 : decode cX7_ride 28 = .ok (.ldc 180, 2) := by decide +kernel
theorem dX7_ride_30 : decode cX7_ride 30 = .ok (.ireturn, 1) := by decide +kernel
theorem dX7_ride_31 : decode cX7_ride 31 = .ok (.aload_n 0, 1) := by decide +kernel
theorem dX7_ride_32 : decode cX7_ride 32 = .ok (.getfield 25, 3) := by decide +kernel
theorem dX7_ride_35 : decode cX7_ride 35 = .ok (.iconst 3, 1) := by decide +kernel
theorem dX7_ride_36 : decode cX7_ride 36 = .ok (.iaload, 1) := by decide +kernel
theorem dX7_ride_37 : decode cX7_ride 37 = .ok (.sipush 999, 3) := by decide +kernel
theorem dX7_ride_40 : decode cX7_ride 40 = .ok (.if_icmp .lt 6, 3) := by decide +kernel
theorem dX7_ride_43 : decode cX7_ride 43 = .ok (.ldc 100, 2) := by decide +kernel
theorem dX7_ride_45 : decode cX7_ride 45 = .ok (.ireturn, 1) := by decide +kernel
theorem dX7_ride_46 : decode cX7_ride 46 = .ok (.aload_n 0, 1) := by decide +kernel
theorem dX7_ride_47 : decode cX7_ride 47 = .ok (.invokevirtual 181, 3) := by decide +kernel
theorem dX7_ride_50 : decode cX7_ride 50 = .ok (.aload_n 0, 1) := by decide +kernel
theorem dX7_ride_51 : decode cX7_ride 51 = .ok (.getfield 25, 3) := by decide +kernel
theorem dX7_ride_54 : decode cX7_ride 54 = .ok (.iload_n 1, 1) := by decide +kernel
theorem dX7_ride_55 : decode cX7_ride 55 = .ok (.invokestatic 184, 3) := by decide +kernel
theorem dX7_ride_58 : decode cX7_ride 58 = .ok (.aload_n 0, 1) := by decide +kernel
theorem dX7_ride_59 : decode cX7_ride 59 = .ok (.getfield 25, 3) := by decide +kernel
theorem dX7_ride_62 : decode cX7_ride 62 = .ok (.iconst 1, 1) := by decide +kernel
theorem dX7_ride_63 : decode cX7_ride 63 = .ok (.iaload, 1) := by decide +kernel
theorem dX7_ride_64 : decode cX7_ride 64 = .ok (.ireturn, 1) := by decide +kernel
theorem dX7_lesson_0 : decode cX7_lesson 0 = .ok (.aload_n 0, 1) := by decide +kernel
theorem dX7_lesson_1 : decode cX7_lesson 1 = .ok (.iload_n 1, 1) := by decide +kernel
theorem dX7_lesson_2 : decode cX7_lesson 2 = .ok (.invokevirtual 188, 3) := by decide +kernel
theorem dX7_lesson_5 : decode cX7_lesson 5 = .ok (.ifCond .eq 13, 3) := by decide +kernel
theorem dX7_lesson_8 : decode cX7_lesson 8 = .ok (.iload_n 2, 1) := by decide +kernel
theorem dX7_lesson_9 : decode cX7_lesson 9 = .ok (.iconst 0, 1) := by decide +kernel
theorem dX7_lesson_10 : decode cX7_lesson 10 = .ok (.bipush 9, 2) := by decide +kernel
theorem dX7_lesson_12 : decode cX7_lesson 12 = .ok (.invokestatic 71, 3) := by decide +kernel
theorem dX7_lesson_15 : decode cX7_lesson 15 = .ok (.ifCond .ne 6, 3) := by decide +kernel
theorem dX7_lesson_18 : decode cX7_lesson 18 = .ok (.ldc 79, 2) := by decide +kernel
theorem dX7_lesson_20 : decode cX7_lesson 20 = .ok (.ireturn, 1) := by decide +kernel
theorem dX7_lesson_21 : decode cX7_lesson 21 = .ok (.aload_n 0, 1) := by decide +kernel
theorem dX7_lesson_22 : decode cX7_lesson 22 = .ok (.invokevirtual 181, 3) := by decide +kernel
theorem dX7_lesson_25 : decode cX7_lesson 25 = .ok (.aload_n 0, 1) := by decide +kernel
theorem dX7_lesson_26 : decode cX7_lesson 26 = .ok (.getfield 25, 3) := by decide +kernel
theorem dX7_lesson_29 : decode cX7_lesson 29 = .ok (.bipush 7, 2) := by decide +kernel
theorem dX7_lesson_31 : decode cX7_lesson 31 = .ok (.iconst 3, 1) := by decide +kernel
theorem dX7_lesson_32 : decode cX7_lesson 32 = .ok (.iload_n 1, 1) := by decide +kernel
theorem dX7_lesson_33 : decode cX7_lesson 33 = .ok (.imul, 1) := by decide +kernel
theorem dX7_lesson_34 : decode cX7_lesson 34 = .ok (.iadd, 1) := by decide +kernel
theorem dX7_lesson_35 : decode cX7_lesson 35 = .ok (.iconst 1, 1) := by decide +kernel
theorem dX7_lesson_36 : decode cX7_lesson 36 = .ok (.iadd, 1) := by decide +kernel
theorem dX7_lesson_37 : decode cX7_lesson 37 = .ok (.iaload, 1) := by decide +kernel
theorem dX7_lesson_38 : decode cX7_lesson 38 = .ok (.istore_n 3, 1) := by decide +kernel
theorem dX7_lesson_39 : decode cX7_lesson 39 = .ok (.aload_n 0, 1) := by decide +kernel
theorem dX7_lesson_40 : decode cX7_lesson 40 = .ok (.getfield 25, 3) := by decide +kernel
theorem dX7_lesson_43 : decode cX7_lesson 43 = .ok (.bipush 7, 2) := by decide +kernel
theorem dX7_lesson_45 : decode cX7_lesson 45 = .ok (.iconst 3, 1) := by decide +kernel
theorem dX7_lesson_46 : decode cX7_lesson 46 = .ok (.iload_n 1, 1) := by decide +kernel
theorem dX7_lesson_47 : decode cX7_lesson 47 = .ok (.imul, 1) := by decide +kernel
theorem dX7_lesson_48 : decode cX7_lesson 48 = .ok (.iadd, 1) := by decide +kernel
theorem dX7_lesson_49 : decode cX7_lesson 49 = .ok (.iconst 1, 1) := by decide +kernel
theorem dX7_lesson_50 : decode cX7_lesson 50 = .ok (.iadd, 1) := by decide +kernel
theorem dX7_lesson_51 : decode cX7_lesson 51 = .ok (.iload_n 2, 1) := by decide +kernel
theorem dX7_lesson_52 : decode cX7_lesson 52 = .ok (.iastore, 1) := by decide +kernel
theorem dX7_lesson_53 : decode cX7_lesson 53 = .ok (.iload_n 3, 1) := by decide +kernel
theorem dX7_lesson_54 : decode cX7_lesson 54 = .ok (.ireturn, 1) := by decide +kernel
theorem dX7_reset_0 : decode cX7_reset 0 = .ok (.aload_n 0, 1) := by decide +kernel
theorem dX7_reset_1 : decode cX7_reset 1 = .ok (.invokevirtual 191, 3) := by decide +kernel
theorem dX7_reset_4 : decode cX7_reset 4 = .ok (.ifCond .ne 6, 3) := by decide +kernel
theorem dX7_reset_7 : decode cX7_reset 7 = .ok (.ldc 180, 2) := by decide +kernel
theorem dX7_reset_9 : decode cX7_reset 9 = .ok (.ireturn, 1) := by decide +kernel
theorem dX7_reset_10 : decode cX7_reset 10 = .ok (.aload_n 0, 1) := by decide +kernel
theorem dX7_reset_11 : decode cX7_reset 11 = .ok (.invokevirtual 181, 3) := by decide +kernel
theorem dX7_reset_14 : decode cX7_reset 14 = .ok (.aload_n 0, 1) := by decide +kernel
theorem dX7_reset_15 : decode cX7_reset 15 = .ok (.getfield 25, 3) := by decide +kernel
theorem dX7_reset_18 : decode cX7_reset 18 = .ok (.iconst 2, 1) := by decide +kernel
theorem dX7_reset_19 : decode cX7_reset 19 = .ok (.iaload, 1) := by decide +kernel
theorem dX7_reset_20 : decode cX7_reset 20 = .ok (.istore_n 1, 1) := by decide +kernel
theorem dX7_reset_21 : decode cX7_reset 21 = .ok (.aload_n 0, 1) := by decide +kernel
theorem dX7_reset_22 : decode cX7_reset 22 = .ok (.getfield 25, 3) := by decide +kernel
theorem dX7_reset_25 : decode cX7_reset 25 = .ok (.iconst 2, 1) := by decide +kernel
theorem dX7_reset_26 : decode cX7_reset 26 = .ok (.iconst 0, 1) := by decide +kernel
theorem dX7_reset_27 : decode cX7_reset 27 = .ok (.iastore, 1) := by decide +kernel
theorem dX7_reset_28 : decode cX7_reset 28 = .ok (.iload_n 1, 1) := by decide +kernel
theorem dX7_reset_29 : decode cX7_reset 29 = .ok (.ireturn, 1) := by decide +kernel
theorem dX7_street_0 : decode cX7_street 0 = .ok (.aload_n 0, 1) := by decide +kernel
theorem dX7_street_1 : decode cX7_street 1 = .ok (.iload_n 1, 1) := by decide +kernel
theorem dX7_street_2 : decode cX7_street 2 = .ok (.invokevirtual 173, 3) := by decide +kernel
theorem dX7_street_5 : decode cX7_street 5 = .ok (.ifCond .eq 12, 3) := by decide +kernel
theorem dX7_street_8 : decode cX7_street 8 = .ok (.iload_n 2, 1) := by decide +kernel
theorem dX7_street_9 : decode cX7_street 9 = .ok (.iconst 0, 1) := by decide +kernel
theorem dX7_street_10 : decode cX7_street 10 = .ok (.iconst 1, 1) := by decide +kernel
theorem dX7_street_11 : decode cX7_street 11 = .ok (.invokestatic 71, 3) := by decide +kernel
theorem dX7_street_14 : decode cX7_street 14 = .ok (.ifCond .ne 6, 3) := by decide +kernel
theorem dX7_street_17 : decode cX7_street 17 = .ok (.ldc 79, 2) := by decide +kernel
theorem dX7_street_19 : decode cX7_street 19 = .ok (.ireturn, 1) := by decide +kernel
theorem dX7_street_20 : decode cX7_street 20 = .ok (.aload_n 0, 1) := by decide +kernel
theorem dX7_street_21 : decode cX7_street 21 = .ok (.getfield 25, 3) := by decide +kernel
theorem dX7_street_24 : decode cX7_street 24 = .ok (.iconst 5, 1) := by decide +kernel
theorem dX7_street_25 : decode cX7_street 25 = .ok (.iaload, 1) := by decide +kernel
theorem dX7_street_26 : decode cX7_street 26 = .ok (.iload_n 1, 1) := by decide +kernel
theorem dX7_street_27 : decode cX7_street 27 = .ok (.ishr, 1) := by decide +kernel
theorem dX7_street_28 : decode cX7_street 28 = .ok (.iconst 1, 1) := by decide +kernel
theorem dX7_street_29 : decode cX7_street 29 = .ok (.iand, 1) := by decide +kernel
theorem dX7_street_30 : decode cX7_street 30 = .ok (.iload_n 2, 1) := by decide +kernel
theorem dX7_street_31 : decode cX7_street 31 = .ok (.if_icmp .ne 6, 3) := by decide +kernel
theorem dX7_street_34 : decode cX7_street 34 = .ok (.ldc 180, 2) := by decide +kernel
theorem dX7_street_36 : decode cX7_street 36 = .ok (.ireturn, 1) := by decide +kernel
theorem dX7_street_37 : decode cX7_street 37 = .ok (.aload_n 0, 1) := by decide +kernel
theorem dX7_street_38 : decode cX7_street 38 = .ok (.invokevirtual 181, 3) := by decide +kernel
theorem dX7_street_41 : decode cX7_street 41 = .ok (.aload_n 0, 1) := by decide +kernel
theorem dX7_street_42 : decode cX7_street 42 = .ok (.getfield 25, 3) := by decide +kernel
theorem dX7_street_45 : decode cX7_street 45 = .ok (.iconst 5, 1) := by decide +kernel
theorem dX7_street_46 : decode cX7_street 46 = .ok (.dup2, 1) := by decide +kernel
theorem dX7_street_47 : decode cX7_street 47 = .ok (.iaload, 1) := by decide +kernel
theorem dX7_street_48 : decode cX7_street 48 = .ok (.iconst 1, 1) := by decide +kernel
theorem dX7_street_49 : decode cX7_street 49 = .ok (.iload_n 1, 1) := by decide +kernel
theorem dX7_street_50 : decode cX7_street 50 = .ok (.ishl, 1) := by decide +kernel
theorem dX7_street_51 : decode cX7_street 51 = .ok (.ixor, 1) := by decide +kernel
theorem dX7_street_52 : decode cX7_street 52 = .ok (.iastore, 1) := by decide +kernel
theorem dX7_street_53 : decode cX7_street 53 = .ok (.aload_n 0, 1) := by decide +kernel
theorem dX7_street_54 : decode cX7_street 54 = .ok (.getfield 25, 3) := by decide +kernel
theorem dX7_street_57 : decode cX7_street 57 = .ok (.iconst 5, 1) := by decide +kernel
theorem dX7_street_58 : decode cX7_street 58 = .ok (.iaload, 1) := by decide +kernel
theorem dX7_street_59 : decode cX7_street 59 = .ok (.ireturn, 1) := by decide +kernel
theorem dX7_undo_0 : decode cX7_undo 0 = .ok (.aload_n 0, 1) := by decide +kernel
theorem dX7_undo_1 : decode cX7_undo 1 = .ok (.getfield 160, 3) := by decide +kernel
theorem dX7_undo_4 : decode cX7_undo 4 = .ok (.ifCond .ne 6, 3) := by decide +kernel
theorem dX7_undo_7 : decode cX7_undo 7 = .ok (.ldc 180, 2) := by decide +kernel
theorem dX7_undo_9 : decode cX7_undo 9 = .ok (.ireturn, 1) := by decide +kernel
theorem dX7_undo_10 : decode cX7_undo 10 = .ok (.aload_n 0, 1) := by decide +kernel
theorem dX7_undo_11 : decode cX7_undo 11 = .ok (.dup, 1) := by decide +kernel
theorem dX7_undo_12 : decode cX7_undo 12 = .ok (.getfield 160, 3) := by decide +kernel
theorem dX7_undo_15 : decode cX7_undo 15 = .ok (.iconst 1, 1) := by decide +kernel
theorem dX7_undo_16 : decode cX7_undo 16 = .ok (.isub, 1) := by decide +kernel
theorem dX7_undo_17 : decode cX7_undo 17 = .ok (.putfield 160, 3) := by decide +kernel
theorem dX7_undo_20 : decode cX7_undo 20 = .ok (.aload_n 0, 1) := by decide +kernel
theorem dX7_undo_21 : decode cX7_undo 21 = .ok (.getfield 34, 3) := by decide +kernel
theorem dX7_undo_24 : decode cX7_undo 24 = .ok (.bipush 42, 2) := by decide +kernel
theorem dX7_undo_26 : decode cX7_undo 26 = .ok (.aload_n 0, 1) := by decide +kernel
theorem dX7_undo_27 : decode cX7_undo 27 = .ok (.getfield 160, 3) := by decide +kernel
theorem dX7_undo_30 : decode cX7_undo 30 = .ok (.imul, 1) := by decide +kernel
theorem dX7_undo_31 : decode cX7_undo 31 = .ok (.aload_n 0, 1) := by decide +kernel
theorem dX7_undo_32 : decode cX7_undo 32 = .ok (.getfield 25, 3) := by decide +kernel
theorem dX7_undo_35 : decode cX7_undo 35 = .ok (.iconst 0, 1) := by decide +kernel
theorem dX7_undo_36 : decode cX7_undo 36 = .ok (.invokestatic 156, 3) := by decide +kernel
theorem dX7_undo_39 : decode cX7_undo 39 = .ok (.aload_n 0, 1) := by decide +kernel
theorem dX7_undo_40 : decode cX7_undo 40 = .ok (.getfield 160, 3) := by decide +kernel
theorem dX7_undo_43 : decode cX7_undo 43 = .ok (.ireturn, 1) := by decide +kernel
theorem dX7_ends_0 : decode cX7_ends 0 = .ok (.iconst 0, 1) := by decide +kernel
theorem dX7_ends_1 : decode cX7_ends 1 = .ok (.istore_n 3, 1) := by decide +kernel
theorem dX7_ends_2 : decode cX7_ends 2 = .ok (.iconst 0, 1) := by decide +kernel
theorem dX7_ends_3 : decode cX7_ends 3 = .ok (.istore 4, 2) := by decide +kernel
theorem dX7_ends_5 : decode cX7_ends 5 = .ok (.iload 4, 2) := by decide +kernel
theorem dX7_ends_7 : decode cX7_ends 7 = .ok (.aload_n 0, 1) := by decide +kernel
theorem dX7_ends_8 : decode cX7_ends 8 = .ok (.getfield 25, 3) := by decide +kernel
theorem dX7_ends_11 : decode cX7_ends 11 = .ok (.bipush 25, 2) := by decide +kernel
theorem dX7_ends_13 : decode cX7_ends 13 = .ok (.iaload, 1) := by decide +kernel
theorem dX7_ends_14 : decode cX7_ends 14 = .ok (.if_icmp .ge 38, 3) := by decide +kernel
theorem dX7_ends_17 : decode cX7_ends 17 = .ok (.iload_n 3, 1) := by decide +kernel
theorem dX7_ends_18 : decode cX7_ends 18 = .ok (.aload_n 0, 1) := by decide +kernel
theorem dX7_ends_19 : decode cX7_ends 19 = .ok (.getfield 25, 3) := by decide +kernel
theorem dX7_ends_22 : decode cX7_ends 22 = .ok (.bipush 26, 2) := by decide +kernel
theorem dX7_ends_24 : decode cX7_ends 24 = .ok (.iconst 2, 1) := by decide +kernel
theorem dX7_ends_25 : decode cX7_ends 25 = .ok (.iload 4, 2) := by decide +kernel
theorem dX7_ends_27 : decode cX7_ends 27 = .ok (.imul, 1) := by decide +kernel
theorem dX7_ends_28 : decode cX7_ends 28 = .ok (.iadd, 1) := by decide +kernel
theorem dX7_ends_29 : decode cX7_ends 29 = .ok (.iload_n 2, 1) := by decide +kernel
theorem dX7_ends_30 : decode cX7_ends 30 = .ok (.iadd, 1) := by decide +kernel
theorem dX7_ends_31 : decode cX7_ends 31 = .ok (.iaload, 1) := by decide +kernel
theorem dX7_ends_32 : decode cX7_ends 32 = .ok (.iload_n 1, 1) := by decide +kernel
theorem dX7_ends_33 : decode cX7_ends 33 = .ok (.if_icmp .ne 10, 3) := by decide +kernel
theorem dX7_ends_36 : decode cX7_ends 36 = .ok (.iconst 1, 1) := by decide +kernel
theorem dX7_ends_37 : decode cX7_ends 37 = .ok (.iload 4, 2) := by decide +kernel
theorem dX7_ends_39 : decode cX7_ends 39 = .ok (.ishl, 1) := by decide +kernel
theorem dX7_ends_40 : decode cX7_ends 40 = .ok (.goto 4, 3) := by decide +kernel
theorem dX7_ends_43 : decode cX7_ends 43 = .ok (.iconst 0, 1) := by decide +kernel
theorem dX7_ends_44 : decode cX7_ends 44 = .ok (.ior, 1) := by decide +kernel
theorem dX7_ends_45 : decode cX7_ends 45 = .ok (.istore_n 3, 1) := by decide +kernel
theorem dX7_ends_46 : decode cX7_ends 46 = .ok (.iinc 4 1, 3) := by decide +kernel
theorem dX7_ends_49 : decode cX7_ends 49 = .ok (.goto (-44), 3) := by decide +kernel
theorem dX7_ends_52 : decode cX7_ends 52 = .ok (.iload_n 3, 1) := by decide +kernel
theorem dX7_ends_53 : decode cX7_ends 53 = .ok (.ireturn, 1) := by decide +kernel
theorem dX7_corner_0 : decode cX7_corner 0 = .ok (.aload_n 0, 1) := by decide +kernel
theorem dX7_corner_1 : decode cX7_corner 1 = .ok (.iload_n 1, 1) := by decide +kernel
theorem dX7_corner_2 : decode cX7_corner 2 = .ok (.invokevirtual 188, 3) := by decide +kernel
theorem dX7_corner_5 : decode cX7_corner 5 = .ok (.ifCond .ne 6, 3) := by decide +kernel
theorem dX7_corner_8 : decode cX7_corner 8 = .ok (.ldc 79, 2) := by decide +kernel
theorem dX7_corner_10 : decode cX7_corner 10 = .ok (.ireturn, 1) := by decide +kernel
theorem dX7_corner_11 : decode cX7_corner 11 = .ok (.iload_n 2, 1) := by decide +kernel
theorem dX7_corner_12 : decode cX7_corner 12 = .ok (.tableswitch 99 0 4 #[36, 50, 64, 71, 78], 36) := by decide +kernel
theorem dX7_corner_48 : decode cX7_corner 48 = .ok (.aload_n 0, 1) := by decide +kernel
theorem dX7_corner_49 : decode cX7_corner 49 = .ok (.getfield 25, 3) := by decide +kernel
theorem dX7_corner_52 : decode cX7_corner 52 = .ok (.bipush 7, 2) := by decide +kernel
theorem dX7_corner_54 : decode cX7_corner 54 = .ok (.iconst 3, 1) := by decide +kernel
theorem dX7_corner_55 : decode cX7_corner 55 = .ok (.iload_n 1, 1) := by decide +kernel
theorem dX7_corner_56 : decode cX7_corner 56 = .ok (.imul, 1) := by decide +kernel
theorem dX7_corner_57 : decode cX7_corner 57 = .ok (.iadd, 1) := by decide +kernel
theorem dX7_corner_58 : decode cX7_corner 58 = .ok (.iconst 1, 1) := by decide +kernel
theorem dX7_corner_59 : decode cX7_corner 59 = .ok (.iadd, 1) := by decide +kernel
theorem dX7_corner_60 : decode cX7_corner 60 = .ok (.iaload, 1) := by decide +kernel
theorem dX7_corner_61 : decode cX7_corner 61 = .ok (.ireturn, 1) := by decide +kernel
theorem dX7_corner_62 : decode cX7_corner 62 = .ok (.aload_n 0, 1) := by decide +kernel
theorem dX7_corner_63 : decode cX7_corner 63 = .ok (.getfield 25, 3) := by decide +kernel
theorem dX7_corner_66 : decode cX7_corner 66 = .ok (.bipush 7, 2) := by decide +kernel
theorem dX7_corner_68 : decode cX7_corner 68 = .ok (.iconst 3, 1) := by decide +kernel
theorem dX7_corner_69 : decode cX7_corner 69 = .ok (.iload_n 1, 1) := by decide +kernel
theorem dX7_corner_70 : decode cX7_corner 70 = .ok (.imul, 1) := by decide +kernel
theorem dX7_corner_71 : decode cX7_corner 71 = .ok (.iadd, 1) := by decide +kernel
theorem dX7_corner_72 : decode cX7_corner 72 = .ok (.iconst 2, 1) := by decide +kernel
theorem dX7_corner_73 : decode cX7_corner 73 = .ok (.iadd, 1) := by decide +kernel
theorem dX7_corner_74 : decode cX7_corner 74 = .ok (.iaload, 1) := by decide +kernel
theorem dX7_corner_75 : decode cX7_corner 75 = .ok (.ireturn, 1) := by decide +kernel
theorem dX7_corner_76 : decode cX7_corner 76 = .ok (.aload_n 0, 1) := by decide +kernel
theorem dX7_corner_77 : decode cX7_corner 77 = .ok (.iload_n 1, 1) := by decide +kernel
theorem dX7_corner_78 : decode cX7_corner 78 = .ok (.iconst 0, 1) := by decide +kernel
theorem dX7_corner_79 : decode cX7_corner 79 = .ok (.invokevirtual 194, 3) := by decide +kernel
theorem dX7_corner_82 : decode cX7_corner 82 = .ok (.ireturn, 1) := by decide +kernel
theorem dX7_corner_83 : decode cX7_corner 83 = .ok (.aload_n 0, 1) := by decide +kernel
theorem dX7_corner_84 : decode cX7_corner 84 = .ok (.iload_n 1, 1) := by decide +kernel
theorem dX7_corner_85 : decode cX7_corner 85 = .ok (.iconst 1, 1) := by decide +kernel
theorem dX7_corner_86 : decode cX7_corner 86 = .ok (.invokevirtual 194, 3) := by decide +kernel
theorem dX7_corner_89 : decode cX7_corner 89 = .ok (.ireturn, 1) := by decide +kernel
theorem dX7_corner_90 : decode cX7_corner 90 = .ok (.aload_n 0, 1) := by decide +kernel
theorem dX7_corner_91 : decode cX7_corner 91 = .ok (.getfield 25, 3) := by decide +kernel
theorem dX7_corner_94 : decode cX7_corner 94 = .ok (.iload_n 1, 1) := by decide +kernel
theorem dX7_corner_95 : decode cX7_corner 95 = .ok (.aload_n 0, 1) := by decide +kernel
theorem dX7_corner_96 : decode cX7_corner 96 = .ok (.getfield 25, 3) := by decide +kernel
theorem dX7_corner_99 : decode cX7_corner 99 = .ok (.iconst 1, 1) := by decide +kernel
theorem dX7_corner_100 : decode cX7_corner 100 = .ok (.iaload, 1) := by decide +kernel
theorem dX7_corner_101 : decode cX7_corner 101 = .ok (.aload_n 0, 1) := by decide +kernel
theorem dX7_corner_102 : decode cX7_corner 102 = .ok (.getfield 25, 3) := by decide +kernel
theorem dX7_corner_105 : decode cX7_corner 105 = .ok (.iconst 3, 1) := by decide +kernel
theorem dX7_corner_106 : decode cX7_corner 106 = .ok (.iaload, 1) := by decide +kernel
theorem dX7_corner_107 : decode cX7_corner 107 = .ok (.invokestatic 163, 3) := by decide +kernel
theorem dX7_corner_110 : decode cX7_corner 110 = .ok (.ireturn, 1) := by decide +kernel
theorem dX7_corner_111 : decode cX7_corner 111 = .ok (.ldc 79, 2) := by decide +kernel
theorem dX7_corner_113 : decode cX7_corner 113 = .ok (.ireturn, 1) := by decide +kernel
theorem dX7_way_0 : decode cX7_way 0 = .ok (.aload_n 0, 1) := by decide +kernel
theorem dX7_way_1 : decode cX7_way 1 = .ok (.iload_n 1, 1) := by decide +kernel
theorem dX7_way_2 : decode cX7_way 2 = .ok (.invokevirtual 173, 3) := by decide +kernel
theorem dX7_way_5 : decode cX7_way 5 = .ok (.ifCond .eq 12, 3) := by decide +kernel
theorem dX7_way_8 : decode cX7_way 8 = .ok (.iload_n 2, 1) := by decide +kernel
theorem dX7_way_9 : decode cX7_way 9 = .ok (.iconst 0, 1) := by decide +kernel
theorem dX7_way_10 : decode cX7_way 10 = .ok (.iconst 2, 1) := by decide +kernel
theorem dX7_way_11 : decode cX7_way 11 = .ok (.invokestatic 71, 3) := by decide +kernel
theorem dX7_way_14 : decode cX7_way 14 = .ok (.ifCond .ne 6, 3) := by decide +kernel
theorem dX7_way_17 : decode cX7_way 17 = .ok (.ldc 79, 2) := by decide +kernel
theorem dX7_way_19 : decode cX7_way 19 = .ok (.ireturn, 1) := by decide +kernel
theorem dX7_way_20 : decode cX7_way 20 = .ok (.iload_n 2, 1) := by decide +kernel
theorem dX7_way_21 : decode cX7_way 21 = .ok (.iconst 2, 1) := by decide +kernel
theorem dX7_way_22 : decode cX7_way 22 = .ok (.if_icmp .ge 19, 3) := by decide +kernel
theorem dX7_way_25 : decode cX7_way 25 = .ok (.aload_n 0, 1) := by decide +kernel
theorem dX7_way_26 : decode cX7_way 26 = .ok (.getfield 25, 3) := by decide +kernel
theorem dX7_way_29 : decode cX7_way 29 = .ok (.bipush 26, 2) := by decide +kernel
theorem dX7_way_31 : decode cX7_way 31 = .ok (.iconst 2, 1) := by decide +kernel
theorem dX7_way_32 : decode cX7_way 32 = .ok (.iload_n 1, 1) := by decide +kernel
theorem dX7_way_33 : decode cX7_way 33 = .ok (.imul, 1) := by decide +kernel
theorem dX7_way_34 : decode cX7_way 34 = .ok (.iadd, 1) := by decide +kernel
theorem dX7_way_35 : decode cX7_way 35 = .ok (.iload_n 2, 1) := by decide +kernel
theorem dX7_way_36 : decode cX7_way 36 = .ok (.iadd, 1) := by decide +kernel
theorem dX7_way_37 : decode cX7_way 37 = .ok (.iaload, 1) := by decide +kernel
theorem dX7_way_38 : decode cX7_way 38 = .ok (.goto 13, 3) := by decide +kernel
theorem dX7_way_41 : decode cX7_way 41 = .ok (.aload_n 0, 1) := by decide +kernel
theorem dX7_way_42 : decode cX7_way 42 = .ok (.getfield 25, 3) := by decide +kernel
theorem dX7_way_45 : decode cX7_way 45 = .ok (.iconst 5, 1) := by decide +kernel
theorem dX7_way_46 : decode cX7_way 46 = .ok (.iaload, 1) := by decide +kernel
theorem dX7_way_47 : decode cX7_way 47 = .ok (.iload_n 1, 1) := by decide +kernel
theorem dX7_way_48 : decode cX7_way 48 = .ok (.ishr, 1) := by decide +kernel
theorem dX7_way_49 : decode cX7_way 49 = .ok (.iconst 1, 1) := by decide +kernel
theorem dX7_way_50 : decode cX7_way 50 = .ok (.iand, 1) := by decide +kernel
theorem dX7_way_51 : decode cX7_way 51 = .ok (.ireturn, 1) := by decide +kernel
theorem dX7_would_0 : decode cX7_would 0 = .ok (.aload_n 0, 1) := by decide +kernel
theorem dX7_would_1 : decode cX7_would 1 = .ok (.iload_n 1, 1) := by decide +kernel
theorem dX7_would_2 : decode cX7_would 2 = .ok (.invokevirtual 173, 3) := by decide +kernel
theorem dX7_would_5 : decode cX7_would 5 = .ok (.ifCond .eq 12, 3) := by decide +kernel
theorem dX7_would_8 : decode cX7_would 8 = .ok (.iload_n 2, 1) := by decide +kernel
theorem dX7_would_9 : decode cX7_would 9 = .ok (.iconst 0, 1) := by decide +kernel
theorem dX7_would_10 : decode cX7_would 10 = .ok (.iconst 1, 1) := by decide +kernel
theorem dX7_would_11 : decode cX7_would 11 = .ok (.invokestatic 71, 3) := by decide +kernel
theorem dX7_would_14 : decode cX7_would 14 = .ok (.ifCond .ne 6, 3) := by decide +kernel
theorem dX7_would_17 : decode cX7_would 17 = .ok (.ldc 79, 2) := by decide +kernel
theorem dX7_would_19 : decode cX7_would 19 = .ok (.ireturn, 1) := by decide +kernel
theorem dX7_would_20 : decode cX7_would 20 = .ok (.aload_n 0, 1) := by decide +kernel
theorem dX7_would_21 : decode cX7_would 21 = .ok (.getfield 25, 3) := by decide +kernel
theorem dX7_would_24 : decode cX7_would 24 = .ok (.iload_n 1, 1) := by decide +kernel
theorem dX7_would_25 : decode cX7_would 25 = .ok (.aload_n 0, 1) := by decide +kernel
theorem dX7_would_26 : decode cX7_would 26 = .ok (.getfield 25, 3) := by decide +kernel
theorem dX7_would_29 : decode cX7_would 29 = .ok (.iconst 4, 1) := by decide +kernel
theorem dX7_would_30 : decode cX7_would 30 = .ok (.iaload, 1) := by decide +kernel
theorem dX7_would_31 : decode cX7_would 31 = .ok (.invokestatic 176, 3) := by decide +kernel
theorem dX7_would_34 : decode cX7_would 34 = .ok (.ifCond .ne 6, 3) := by decide +kernel
theorem dX7_would_37 : decode cX7_would 37 = .ok (.ldc 65, 2) := by decide +kernel
theorem dX7_would_39 : decode cX7_would 39 = .ok (.ireturn, 1) := by decide +kernel
theorem dX7_would_40 : decode cX7_would 40 = .ok (.aload_n 0, 1) := by decide +kernel
theorem dX7_would_41 : decode cX7_would 41 = .ok (.getfield 25, 3) := by decide +kernel
theorem dX7_would_44 : decode cX7_would 44 = .ok (.bipush 26, 2) := by decide +kernel
theorem dX7_would_46 : decode cX7_would 46 = .ok (.iconst 2, 1) := by decide +kernel
theorem dX7_would_47 : decode cX7_would 47 = .ok (.iload_n 1, 1) := by decide +kernel
theorem dX7_would_48 : decode cX7_would 48 = .ok (.imul, 1) := by decide +kernel
theorem dX7_would_49 : decode cX7_would 49 = .ok (.iadd, 1) := by decide +kernel
theorem dX7_would_50 : decode cX7_would 50 = .ok (.iconst 1, 1) := by decide +kernel
theorem dX7_would_51 : decode cX7_would 51 = .ok (.iadd, 1) := by decide +kernel
theorem dX7_would_52 : decode cX7_would 52 = .ok (.iaload, 1) := by decide +kernel
theorem dX7_would_53 : decode cX7_would 53 = .ok (.istore_n 3, 1) := by decide +kernel
theorem dX7_would_54 : decode cX7_would 54 = .ok (.iload_n 2, 1) := by decide +kernel
theorem dX7_would_55 : decode cX7_would 55 = .ok (.ifCond .ne 26, 3) := by decide +kernel
theorem dX7_would_58 : decode cX7_would 58 = .ok (.aload_n 0, 1) := by decide +kernel
theorem dX7_would_59 : decode cX7_would 59 = .ok (.getfield 25, 3) := by decide +kernel
theorem dX7_would_62 : decode cX7_would 62 = .ok (.iload_n 3, 1) := by decide +kernel
theorem dX7_would_63 : decode cX7_would 63 = .ok (.aload_n 0, 1) := by decide +kernel
theorem dX7_would_64 : decode cX7_would 64 = .ok (.getfield 25, 3) := by decide +kernel
theorem dX7_would_67 : decode cX7_would 67 = .ok (.iconst 1, 1) := by decide +kernel
theorem dX7_would_68 : decode cX7_would 68 = .ok (.iaload, 1) := by decide +kernel
theorem dX7_would_69 : decode cX7_would 69 = .ok (.aload_n 0, 1) := by decide +kernel
theorem dX7_would_70 : decode cX7_would 70 = .ok (.getfield 25, 3) := by decide +kernel
theorem dX7_would_73 : decode cX7_would 73 = .ok (.iconst 3, 1) := by decide +kernel
theorem dX7_would_74 : decode cX7_would 74 = .ok (.iaload, 1) := by decide +kernel
theorem dX7_would_75 : decode cX7_would 75 = .ok (.invokestatic 163, 3) := by decide +kernel
theorem dX7_would_78 : decode cX7_would 78 = .ok (.goto 23, 3) := by decide +kernel
theorem dX7_would_81 : decode cX7_would 81 = .ok (.aload_n 0, 1) := by decide +kernel
theorem dX7_would_82 : decode cX7_would 82 = .ok (.getfield 25, 3) := by decide +kernel
theorem dX7_would_85 : decode cX7_would 85 = .ok (.iload_n 3, 1) := by decide +kernel
theorem dX7_would_86 : decode cX7_would 86 = .ok (.aload_n 0, 1) := by decide +kernel
theorem dX7_would_87 : decode cX7_would 87 = .ok (.getfield 25, 3) := by decide +kernel
theorem dX7_would_90 : decode cX7_would 90 = .ok (.iconst 1, 1) := by decide +kernel
theorem dX7_would_91 : decode cX7_would 91 = .ok (.iaload, 1) := by decide +kernel
theorem dX7_would_92 : decode cX7_would 92 = .ok (.aload_n 0, 1) := by decide +kernel
theorem dX7_would_93 : decode cX7_would 93 = .ok (.getfield 25, 3) := by decide +kernel
theorem dX7_would_96 : decode cX7_would 96 = .ok (.iconst 3, 1) := by decide +kernel
theorem dX7_would_97 : decode cX7_would 97 = .ok (.iaload, 1) := by decide +kernel
theorem dX7_would_98 : decode cX7_would 98 = .ok (.invokestatic 170, 3) := by decide +kernel
theorem dX7_would_101 : decode cX7_would 101 = .ok (.ireturn, 1) := by decide +kernel
theorem dX7_reach_0 : decode cX7_reach 0 = .ok (.aload_n 0, 1) := by decide +kernel
theorem dX7_reach_1 : decode cX7_reach 1 = .ok (.invokevirtual 191, 3) := by decide +kernel
theorem dX7_reach_4 : decode cX7_reach 4 = .ok (.ifCond .ne 6, 3) := by decide +kernel
theorem dX7_reach_7 : decode cX7_reach 7 = .ok (.ldc 180, 2) := by decide +kernel
theorem dX7_reach_9 : decode cX7_reach 9 = .ok (.ireturn, 1) := by decide +kernel
theorem dX7_reach_10 : decode cX7_reach 10 = .ok (.iconst 1, 1) := by decide +kernel
theorem dX7_reach_11 : decode cX7_reach 11 = .ok (.aload_n 0, 1) := by decide +kernel
theorem dX7_reach_12 : decode cX7_reach 12 = .ok (.getfield 25, 3) := by decide +kernel
theorem dX7_reach_15 : decode cX7_reach 15 = .ok (.iconst 4, 1) := by decide +kernel
theorem dX7_reach_16 : decode cX7_reach 16 = .ok (.iaload, 1) := by decide +kernel
theorem dX7_reach_17 : decode cX7_reach 17 = .ok (.ishl, 1) := by decide +kernel
theorem dX7_reach_18 : decode cX7_reach 18 = .ok (.istore_n 1, 1) := by decide +kernel
theorem dX7_reach_19 : decode cX7_reach 19 = .ok (.iconst 0, 1) := by decide +kernel
theorem dX7_reach_20 : decode cX7_reach 20 = .ok (.istore_n 2, 1) := by decide +kernel
theorem dX7_reach_21 : decode cX7_reach 21 = .ok (.iload_n 2, 1) := by decide +kernel
theorem dX7_reach_22 : decode cX7_reach 22 = .ok (.bipush 6, 2) := by decide +kernel
theorem dX7_reach_24 : decode cX7_reach 24 = .ok (.if_icmp .ge 81, 3) := by decide +kernel
theorem dX7_reach_27 : decode cX7_reach 27 = .ok (.iconst 0, 1) := by decide +kernel
theorem dX7_reach_28 : decode cX7_reach 28 = .ok (.istore_n 3, 1) := by decide +kernel
theorem dX7_reach_29 : decode cX7_reach 29 = .ok (.iload_n 3, 1) := by decide +kernel
theorem dX7_reach_30 : decode cX7_reach 30 = .ok (.aload_n 0, 1) := by decide +kernel
theorem dX7_reach_31 : decode cX7_reach 31 = .ok (.getfield 25, 3) := by decide +kernel
theorem dX7_reach_34 : decode cX7_reach 34 = .ok (.bipush 25, 2) := by decide +kernel
theorem dX7_reach_36 : decode cX7_reach 36 = .ok (.iaload, 1) := by decide +kernel
theorem dX7_reach_37 : decode cX7_reach 37 = .ok (.if_icmp .ge 62, 3) := by decide +kernel
theorem dX7_reach_40 : decode cX7_reach 40 = .ok (.iload_n 1, 1) := by decide +kernel
theorem dX7_reach_41 : decode cX7_reach 41 = .ok (.aload_n 0, 1) := by decide +kernel
theorem dX7_reach_42 : decode cX7_reach 42 = .ok (.getfield 25, 3) := by decide +kernel
theorem dX7_reach_45 : decode cX7_reach 45 = .ok (.iconst 5, 1) := by decide +kernel
theorem dX7_reach_46 : decode cX7_reach 46 = .ok (.iaload, 1) := by decide +kernel
theorem dX7_reach_47 : decode cX7_reach 47 = .ok (.iload_n 3, 1) := by decide +kernel
theorem dX7_reach_48 : decode cX7_reach 48 = .ok (.invokestatic 167, 3) := by decide +kernel
theorem dX7_reach_51 : decode cX7_reach 51 = .ok (.ifCond .eq 39, 3) := by decide +kernel
theorem dX7_reach_54 : decode cX7_reach 54 = .ok (.iload_n 1, 1) := by decide +kernel
theorem dX7_reach_55 : decode cX7_reach 55 = .ok (.aload_n 0, 1) := by decide +kernel
theorem dX7_reach_56 : decode cX7_reach 56 = .ok (.getfield 25, 3) := by decide +kernel
theorem dX7_reach_59 : decode cX7_reach 59 = .ok (.bipush 26, 2) := by decide +kernel
theorem dX7_reach_61 : decode cX7_reach 61 = .ok (.iconst 2, 1) := by decide +kernel
theorem dX7_reach_62 : decode cX7_reach 62 = .ok (.iload_n 3, 1) := by decide +kernel
theorem dX7_reach_63 : decode cX7_reach 63 = .ok (.imul, 1) := by decide +kernel
theorem dX7_reach_64 : decode cX7_reach 64 = .ok (.iadd, 1) := by decide +kernel
theorem dX7_reach_65 : decode cX7_reach 65 = .ok (.iaload, 1) := by decide +kernel
theorem dX7_reach_66 : decode cX7_reach 66 = .ok (.invokestatic 167, 3) := by decide +kernel
theorem dX7_reach_69 : decode cX7_reach 69 = .ok (.ifCond .eq 21, 3) := by decide +kernel
theorem dX7_reach_72 : decode cX7_reach 72 = .ok (.iconst 1, 1) := by decide +kernel
theorem dX7_reach_73 : decode cX7_reach 73 = .ok (.aload_n 0, 1) := by decide +kernel
theorem dX7_reach_74 : decode cX7_reach 74 = .ok (.getfield 25, 3) := by decide +kernel
theorem dX7_reach_77 : decode cX7_reach 77 = .ok (.bipush 26, 2) := by decide +kernel
theorem dX7_reach_79 : decode cX7_reach 79 = .ok (.iconst 2, 1) := by decide +kernel
theorem dX7_reach_80 : decode cX7_reach 80 = .ok (.iload_n 3, 1) := by decide +kernel
theorem dX7_reach_81 : decode cX7_reach 81 = .ok (.imul, 1) := by decide +kernel
theorem dX7_reach_82 : decode cX7_reach 82 = .ok (.iadd, 1) := by decide +kernel
theorem dX7_reach_83 : decode cX7_reach 83 = .ok (.iconst 1, 1) := by decide +kernel
theorem dX7_reach_84 : decode cX7_reach 84 = .ok (.iadd, 1) := by decide +kernel
theorem dX7_reach_85 : decode cX7_reach 85 = .ok (.iaload, 1) := by decide +kernel
theorem dX7_reach_86 : decode cX7_reach 86 = .ok (.ishl, 1) := by decide +kernel
theorem dX7_reach_87 : decode cX7_reach 87 = .ok (.goto 4, 3) := by decide +kernel
theorem dX7_reach_90 : decode cX7_reach 90 = .ok (.iconst 0, 1) := by decide +kernel
theorem dX7_reach_91 : decode cX7_reach 91 = .ok (.ior, 1) := by decide +kernel
theorem dX7_reach_92 : decode cX7_reach 92 = .ok (.istore_n 1, 1) := by decide +kernel
theorem dX7_reach_93 : decode cX7_reach 93 = .ok (.iinc 3 1, 3) := by decide +kernel
theorem dX7_reach_96 : decode cX7_reach 96 = .ok (.goto (-67), 3) := by decide +kernel
theorem dX7_reach_99 : decode cX7_reach 99 = .ok (.iinc 2 1, 3) := by decide +kernel
theorem dX7_reach_102 : decode cX7_reach 102 = .ok (.goto (-81), 3) := by decide +kernel
theorem dX7_reach_105 : decode cX7_reach 105 = .ok (.iload_n 1, 1) := by decide +kernel
theorem dX7_reach_106 : decode cX7_reach 106 = .ok (.ireturn, 1) := by decide +kernel
theorem dX7_begins_0 : decode cX7_begins 0 = .ok (.aload_n 0, 1) := by decide +kernel
theorem dX7_begins_1 : decode cX7_begins 1 = .ok (.getfield 25, 3) := by decide +kernel
theorem dX7_begins_4 : decode cX7_begins 4 = .ok (.iconst 0, 1) := by decide +kernel
theorem dX7_begins_5 : decode cX7_begins 5 = .ok (.aload_n 0, 1) := by decide +kernel
theorem dX7_begins_6 : decode cX7_begins 6 = .ok (.getfield 31, 3) := by decide +kernel
theorem dX7_begins_9 : decode cX7_begins 9 = .ok (.iconst 0, 1) := by decide +kernel
theorem dX7_begins_10 : decode cX7_begins 10 = .ok (.invokestatic 156, 3) := by decide +kernel
theorem dX7_begins_13 : decode cX7_begins 13 = .ok (.aload_n 0, 1) := by decide +kernel
theorem dX7_begins_14 : decode cX7_begins 14 = .ok (.iconst 0, 1) := by decide +kernel
theorem dX7_begins_15 : decode cX7_begins 15 = .ok (.putfield 197, 3) := by decide +kernel
theorem dX7_begins_18 : decode cX7_begins 18 = .ok (.aload_n 0, 1) := by decide +kernel
theorem dX7_begins_19 : decode cX7_begins 19 = .ok (.getfield 47, 3) := by decide +kernel
theorem dX7_begins_22 : decode cX7_begins 22 = .ok (.iconst 0, 1) := by decide +kernel
theorem dX7_begins_23 : decode cX7_begins 23 = .ok (.iconst 0, 1) := by decide +kernel
theorem dX7_begins_24 : decode cX7_begins 24 = .ok (.iastore, 1) := by decide +kernel
theorem dX7_begins_25 : decode cX7_begins 25 = .ok (.aload_n 0, 1) := by decide +kernel
theorem dX7_begins_26 : decode cX7_begins 26 = .ok (.getfield 50, 3) := by decide +kernel
theorem dX7_begins_29 : decode cX7_begins 29 = .ok (.iconst 0, 1) := by decide +kernel
theorem dX7_begins_30 : decode cX7_begins 30 = .ok (.aload_n 0, 1) := by decide +kernel
theorem dX7_begins_31 : decode cX7_begins 31 = .ok (.getfield 25, 3) := by decide +kernel
theorem dX7_begins_34 : decode cX7_begins 34 = .ok (.iconst 4, 1) := by decide +kernel
theorem dX7_begins_35 : decode cX7_begins 35 = .ok (.iaload, 1) := by decide +kernel
theorem dX7_begins_36 : decode cX7_begins 36 = .ok (.iastore, 1) := by decide +kernel
theorem dX7_begins_37 : decode cX7_begins 37 = .ok (.aload_n 0, 1) := by decide +kernel
theorem dX7_begins_38 : decode cX7_begins 38 = .ok (.getfield 53, 3) := by decide +kernel
theorem dX7_begins_41 : decode cX7_begins 41 = .ok (.iconst 0, 1) := by decide +kernel
theorem dX7_begins_42 : decode cX7_begins 42 = .ok (.aload_n 0, 1) := by decide +kernel
theorem dX7_begins_43 : decode cX7_begins 43 = .ok (.getfield 25, 3) := by decide +kernel
theorem dX7_begins_46 : decode cX7_begins 46 = .ok (.iconst 1, 1) := by decide +kernel
theorem dX7_begins_47 : decode cX7_begins 47 = .ok (.iaload, 1) := by decide +kernel
theorem dX7_begins_48 : decode cX7_begins 48 = .ok (.iastore, 1) := by decide +kernel
theorem dX7_begins_49 : decode cX7_begins 49 = .ok (.aload_n 0, 1) := by decide +kernel
theorem dX7_begins_50 : decode cX7_begins 50 = .ok (.getfield 56, 3) := by decide +kernel
theorem dX7_begins_53 : decode cX7_begins 53 = .ok (.iconst 0, 1) := by decide +kernel
theorem dX7_begins_54 : decode cX7_begins 54 = .ok (.iconst 0, 1) := by decide +kernel
theorem dX7_begins_55 : decode cX7_begins 55 = .ok (.iastore, 1) := by decide +kernel
theorem dX7_begins_56 : decode cX7_begins 56 = .ok (.return_, 1) := by decide +kernel
theorem dX7_adds_0 : decode cX7_adds 0 = .ok (.aload_n 0, 1) := by decide +kernel
theorem dX7_adds_1 : decode cX7_adds 1 = .ok (.getfield 31, 3) := by decide +kernel
theorem dX7_adds_4 : decode cX7_adds 4 = .ok (.bipush 26, 2) := by decide +kernel
theorem dX7_adds_6 : decode cX7_adds 6 = .ok (.iconst 2, 1) := by decide +kernel
theorem dX7_adds_7 : decode cX7_adds 7 = .ok (.iload_n 1, 1) := by decide +kernel
theorem dX7_adds_8 : decode cX7_adds 8 = .ok (.imul, 1) := by decide +kernel
theorem dX7_adds_9 : decode cX7_adds 9 = .ok (.iadd, 1) := by decide +kernel
theorem dX7_adds_10 : decode cX7_adds 10 = .ok (.iconst 1, 1) := by decide +kernel
theorem dX7_adds_11 : decode cX7_adds 11 = .ok (.iadd, 1) := by decide +kernel
theorem dX7_adds_12 : decode cX7_adds 12 = .ok (.iaload, 1) := by decide +kernel
theorem dX7_adds_13 : decode cX7_adds 13 = .ok (.istore_n 2, 1) := by decide +kernel
theorem dX7_adds_14 : decode cX7_adds 14 = .ok (.aload_n 0, 1) := by decide +kernel
theorem dX7_adds_15 : decode cX7_adds 15 = .ok (.getfield 31, 3) := by decide +kernel
theorem dX7_adds_18 : decode cX7_adds 18 = .ok (.iconst 3, 1) := by decide +kernel
theorem dX7_adds_19 : decode cX7_adds 19 = .ok (.iaload, 1) := by decide +kernel
theorem dX7_adds_20 : decode cX7_adds 20 = .ok (.aload_n 0, 1) := by decide +kernel
theorem dX7_adds_21 : decode cX7_adds 21 = .ok (.getfield 197, 3) := by decide +kernel
theorem dX7_adds_24 : decode cX7_adds 24 = .ok (.iadd, 1) := by decide +kernel
theorem dX7_adds_25 : decode cX7_adds 25 = .ok (.istore_n 3, 1) := by decide +kernel
theorem dX7_adds_26 : decode cX7_adds 26 = .ok (.aload_n 0, 1) := by decide +kernel
theorem dX7_adds_27 : decode cX7_adds 27 = .ok (.getfield 44, 3) := by decide +kernel
theorem dX7_adds_30 : decode cX7_adds 30 = .ok (.aload_n 0, 1) := by decide +kernel
theorem dX7_adds_31 : decode cX7_adds 31 = .ok (.getfield 197, 3) := by decide +kernel
theorem dX7_adds_34 : decode cX7_adds 34 = .ok (.iload_n 1, 1) := by decide +kernel
theorem dX7_adds_35 : decode cX7_adds 35 = .ok (.iastore, 1) := by decide +kernel
theorem dX7_adds_36 : decode cX7_adds 36 = .ok (.aload_n 0, 1) := by decide +kernel
theorem dX7_adds_37 : decode cX7_adds 37 = .ok (.getfield 47, 3) := by decide +kernel
theorem dX7_adds_40 : decode cX7_adds 40 = .ok (.aload_n 0, 1) := by decide +kernel
theorem dX7_adds_41 : decode cX7_adds 41 = .ok (.getfield 197, 3) := by decide +kernel
theorem dX7_adds_44 : decode cX7_adds 44 = .ok (.iload_n 1, 1) := by decide +kernel
theorem dX7_adds_45 : decode cX7_adds 45 = .ok (.iconst 1, 1) := by decide +kernel
theorem dX7_adds_46 : decode cX7_adds 46 = .ok (.iadd, 1) := by decide +kernel
theorem dX7_adds_47 : decode cX7_adds 47 = .ok (.iastore, 1) := by decide +kernel
theorem dX7_adds_48 : decode cX7_adds 48 = .ok (.aload_n 0, 1) := by decide +kernel
theorem dX7_adds_49 : decode cX7_adds 49 = .ok (.getfield 50, 3) := by decide +kernel
theorem dX7_adds_52 : decode cX7_adds 52 = .ok (.aload_n 0, 1) := by decide +kernel
theorem dX7_adds_53 : decode cX7_adds 53 = .ok (.getfield 197, 3) := by decide +kernel
theorem dX7_adds_56 : decode cX7_adds 56 = .ok (.iconst 1, 1) := by decide +kernel
theorem dX7_adds_57 : decode cX7_adds 57 = .ok (.iadd, 1) := by decide +kernel
theorem dX7_adds_58 : decode cX7_adds 58 = .ok (.iload_n 2, 1) := by decide +kernel
theorem dX7_adds_59 : decode cX7_adds 59 = .ok (.iastore, 1) := by decide +kernel
theorem dX7_adds_60 : decode cX7_adds 60 = .ok (.aload_n 0, 1) := by decide +kernel
theorem dX7_adds_61 : decode cX7_adds 61 = .ok (.getfield 53, 3) := by decide +kernel
theorem dX7_adds_64 : decode cX7_adds 64 = .ok (.aload_n 0, 1) := by decide +kernel
theorem dX7_adds_65 : decode cX7_adds 65 = .ok (.getfield 197, 3) := by decide +kernel
theorem dX7_adds_68 : decode cX7_adds 68 = .ok (.iconst 1, 1) := by decide +kernel
theorem dX7_adds_69 : decode cX7_adds 69 = .ok (.iadd, 1) := by decide +kernel
theorem dX7_adds_70 : decode cX7_adds 70 = .ok (.aload_n 0, 1) := by decide +kernel
theorem dX7_adds_71 : decode cX7_adds 71 = .ok (.getfield 31, 3) := by decide +kernel
theorem dX7_adds_74 : decode cX7_adds 74 = .ok (.iload_n 2, 1) := by decide +kernel
theorem dX7_adds_75 : decode cX7_adds 75 = .ok (.aload_n 0, 1) := by decide +kernel
theorem dX7_adds_76 : decode cX7_adds 76 = .ok (.getfield 53, 3) := by decide +kernel
theorem dX7_adds_79 : decode cX7_adds 79 = .ok (.aload_n 0, 1) := by decide +kernel
theorem dX7_adds_80 : decode cX7_adds 80 = .ok (.getfield 197, 3) := by decide +kernel
theorem dX7_adds_83 : decode cX7_adds 83 = .ok (.iaload, 1) := by decide +kernel
theorem dX7_adds_84 : decode cX7_adds 84 = .ok (.iload_n 3, 1) := by decide +kernel
theorem dX7_adds_85 : decode cX7_adds 85 = .ok (.invokestatic 163, 3) := by decide +kernel
theorem dX7_adds_88 : decode cX7_adds 88 = .ok (.iastore, 1) := by decide +kernel
theorem dX7_adds_89 : decode cX7_adds 89 = .ok (.aload_n 0, 1) := by decide +kernel
theorem dX7_adds_90 : decode cX7_adds 90 = .ok (.getfield 56, 3) := by decide +kernel
theorem dX7_adds_93 : decode cX7_adds 93 = .ok (.aload_n 0, 1) := by decide +kernel
theorem dX7_adds_94 : decode cX7_adds 94 = .ok (.getfield 197, 3) := by decide +kernel
theorem dX7_adds_97 : decode cX7_adds 97 = .ok (.iconst 1, 1) := by decide +kernel
theorem dX7_adds_98 : decode cX7_adds 98 = .ok (.iadd, 1) := by decide +kernel
theorem dX7_adds_99 : decode cX7_adds 99 = .ok (.aload_n 0, 1) := by decide +kernel
theorem dX7_adds_100 : decode cX7_adds 100 = .ok (.getfield 56, 3) := by decide +kernel
theorem dX7_adds_103 : decode cX7_adds 103 = .ok (.aload_n 0, 1) := by decide +kernel
theorem dX7_adds_104 : decode cX7_adds 104 = .ok (.getfield 197, 3) := by decide +kernel
theorem dX7_adds_107 : decode cX7_adds 107 = .ok (.iaload, 1) := by decide +kernel
theorem dX7_adds_108 : decode cX7_adds 108 = .ok (.aload_n 0, 1) := by decide +kernel
theorem dX7_adds_109 : decode cX7_adds 109 = .ok (.getfield 31, 3) := by decide +kernel
theorem dX7_adds_112 : decode cX7_adds 112 = .ok (.iload_n 2, 1) := by decide +kernel
theorem dX7_adds_113 : decode cX7_adds 113 = .ok (.aload_n 0, 1) := by decide +kernel
theorem dX7_adds_114 : decode cX7_adds 114 = .ok (.getfield 53, 3) := by decide +kernel
theorem dX7_adds_117 : decode cX7_adds 117 = .ok (.aload_n 0, 1) := by decide +kernel
theorem dX7_adds_118 : decode cX7_adds 118 = .ok (.getfield 197, 3) := by decide +kernel
theorem dX7_adds_121 : decode cX7_adds 121 = .ok (.iaload, 1) := by decide +kernel
theorem dX7_adds_122 : decode cX7_adds 122 = .ok (.iload_n 3, 1) := by decide +kernel
theorem dX7_adds_123 : decode cX7_adds 123 = .ok (.invokestatic 170, 3) := by decide +kernel
theorem dX7_adds_126 : decode cX7_adds 126 = .ok (.iadd, 1) := by decide +kernel
theorem dX7_adds_127 : decode cX7_adds 127 = .ok (.iastore, 1) := by decide +kernel
theorem dX7_adds_128 : decode cX7_adds 128 = .ok (.aload_n 0, 1) := by decide +kernel
theorem dX7_adds_129 : decode cX7_adds 129 = .ok (.dup, 1) := by decide +kernel
theorem dX7_adds_130 : decode cX7_adds 130 = .ok (.getfield 197, 3) := by decide +kernel
theorem dX7_adds_133 : decode cX7_adds 133 = .ok (.iconst 1, 1) := by decide +kernel
theorem dX7_adds_134 : decode cX7_adds 134 = .ok (.iadd, 1) := by decide +kernel
theorem dX7_adds_135 : decode cX7_adds 135 = .ok (.putfield 197, 3) := by decide +kernel
theorem dX7_adds_138 : decode cX7_adds 138 = .ok (.return_, 1) := by decide +kernel
theorem dX7_goesOn_0 : decode cX7_goesOn 0 = .ok (.aload_n 0, 1) := by decide +kernel
theorem dX7_goesOn_1 : decode cX7_goesOn 1 = .ok (.getfield 197, 3) := by decide +kernel
theorem dX7_goesOn_4 : decode cX7_goesOn 4 = .ok (.iload_n 1, 1) := by decide +kernel
theorem dX7_goesOn_5 : decode cX7_goesOn 5 = .ok (.if_icmp .ge 16, 3) := by decide +kernel
theorem dX7_goesOn_8 : decode cX7_goesOn 8 = .ok (.aload_n 0, 1) := by decide +kernel
theorem dX7_goesOn_9 : decode cX7_goesOn 9 = .ok (.getfield 47, 3) := by decide +kernel
theorem dX7_goesOn_12 : decode cX7_goesOn 12 = .ok (.aload_n 0, 1) := by decide +kernel
theorem dX7_goesOn_13 : decode cX7_goesOn 13 = .ok (.getfield 197, 3) := by decide +kernel
theorem dX7_goesOn_16 : decode cX7_goesOn 16 = .ok (.iconst 0, 1) := by decide +kernel
theorem dX7_goesOn_17 : decode cX7_goesOn 17 = .ok (.iastore, 1) := by decide +kernel
theorem dX7_goesOn_18 : decode cX7_goesOn 18 = .ok (.goto 13, 3) := by decide +kernel
theorem dX7_goesOn_21 : decode cX7_goesOn 21 = .ok (.aload_n 0, 1) := by decide +kernel
theorem dX7_goesOn_22 : decode cX7_goesOn 22 = .ok (.dup, 1) := by decide +kernel
theorem dX7_goesOn_23 : decode cX7_goesOn 23 = .ok (.getfield 197, 3) := by decide +kernel
theorem dX7_goesOn_26 : decode cX7_goesOn 26 = .ok (.iconst 1, 1) := by decide +kernel
theorem dX7_goesOn_27 : decode cX7_goesOn 27 = .ok (.isub, 1) := by decide +kernel
theorem dX7_goesOn_28 : decode cX7_goesOn 28 = .ok (.putfield 197, 3) := by decide +kernel
theorem dX7_goesOn_31 : decode cX7_goesOn 31 = .ok (.aload_n 0, 1) := by decide +kernel
theorem dX7_goesOn_32 : decode cX7_goesOn 32 = .ok (.getfield 197, 3) := by decide +kernel
theorem dX7_goesOn_35 : decode cX7_goesOn 35 = .ok (.ifCond .lt 70, 3) := by decide +kernel
theorem dX7_goesOn_38 : decode cX7_goesOn 38 = .ok (.aload_n 0, 1) := by decide +kernel
theorem dX7_goesOn_39 : decode cX7_goesOn 39 = .ok (.getfield 47, 3) := by decide +kernel
theorem dX7_goesOn_42 : decode cX7_goesOn 42 = .ok (.aload_n 0, 1) := by decide +kernel
theorem dX7_goesOn_43 : decode cX7_goesOn 43 = .ok (.getfield 197, 3) := by decide +kernel
theorem dX7_goesOn_46 : decode cX7_goesOn 46 = .ok (.iaload, 1) := by decide +kernel
theorem dX7_goesOn_47 : decode cX7_goesOn 47 = .ok (.istore_n 2, 1) := by decide +kernel
theorem dX7_goesOn_48 : decode cX7_goesOn 48 = .ok (.iload_n 2, 1) := by decide +kernel
theorem dX7_goesOn_49 : decode cX7_goesOn 49 = .ok (.aload_n 0, 1) := by decide +kernel
theorem dX7_goesOn_50 : decode cX7_goesOn 50 = .ok (.getfield 31, 3) := by decide +kernel
theorem dX7_goesOn_53 : decode cX7_goesOn 53 = .ok (.bipush 25, 2) := by decide +kernel
theorem dX7_goesOn_55 : decode cX7_goesOn 55 = .ok (.iaload, 1) := by decide +kernel
theorem dX7_goesOn_56 : decode cX7_goesOn 56 = .ok (.if_icmp .ge 36, 3) := by decide +kernel
theorem dX7_goesOn_59 : decode cX7_goesOn 59 = .ok (.aload_n 0, 1) := by decide +kernel
theorem dX7_goesOn_60 : decode cX7_goesOn 60 = .ok (.getfield 31, 3) := by decide +kernel
theorem dX7_goesOn_63 : decode cX7_goesOn 63 = .ok (.iload_n 2, 1) := by decide +kernel
theorem dX7_goesOn_64 : decode cX7_goesOn 64 = .ok (.aload_n 0, 1) := by decide +kernel
theorem dX7_goesOn_65 : decode cX7_goesOn 65 = .ok (.getfield 50, 3) := by decide +kernel
theorem dX7_goesOn_68 : decode cX7_goesOn 68 = .ok (.aload_n 0, 1) := by decide +kernel
theorem dX7_goesOn_69 : decode cX7_goesOn 69 = .ok (.getfield 197, 3) := by decide +kernel
theorem dX7_goesOn_72 : decode cX7_goesOn 72 = .ok (.iaload, 1) := by decide +kernel
theorem dX7_goesOn_73 : decode cX7_goesOn 73 = .ok (.invokestatic 176, 3) := by decide +kernel
theorem dX7_goesOn_76 : decode cX7_goesOn 76 = .ok (.ifCond .eq 10, 3) := by decide +kernel
theorem dX7_goesOn_79 : decode cX7_goesOn 79 = .ok (.aload_n 0, 1) := by decide +kernel
theorem dX7_goesOn_80 : decode cX7_goesOn 80 = .ok (.iload_n 2, 1) := by decide +kernel
theorem dX7_goesOn_81 : decode cX7_goesOn 81 = .ok (.invokevirtual 200, 3) := by decide +kernel
theorem dX7_goesOn_84 : decode cX7_goesOn 84 = .ok (.iconst 1, 1) := by decide +kernel
theorem dX7_goesOn_85 : decode cX7_goesOn 85 = .ok (.ireturn, 1) := by decide +kernel
theorem dX7_goesOn_86 : decode cX7_goesOn 86 = .ok (.iinc 2 1, 3) := by decide +kernel
theorem dX7_goesOn_89 : decode cX7_goesOn 89 = .ok (.goto (-41), 3) := by decide +kernel
theorem dX7_goesOn_92 : decode cX7_goesOn 92 = .ok (.aload_n 0, 1) := by decide +kernel
theorem dX7_goesOn_93 : decode cX7_goesOn 93 = .ok (.dup, 1) := by decide +kernel
theorem dX7_goesOn_94 : decode cX7_goesOn 94 = .ok (.getfield 197, 3) := by decide +kernel
theorem dX7_goesOn_97 : decode cX7_goesOn 97 = .ok (.iconst 1, 1) := by decide +kernel
theorem dX7_goesOn_98 : decode cX7_goesOn 98 = .ok (.isub, 1) := by decide +kernel
theorem dX7_goesOn_99 : decode cX7_goesOn 99 = .ok (.putfield 197, 3) := by decide +kernel
theorem dX7_goesOn_102 : decode cX7_goesOn 102 = .ok (.goto (-71), 3) := by decide +kernel
theorem dX7_goesOn_105 : decode cX7_goesOn 105 = .ok (.iconst 0, 1) := by decide +kernel
theorem dX7_goesOn_106 : decode cX7_goesOn 106 = .ok (.ireturn, 1) := by decide +kernel
theorem dX7_keeps_0 : decode cX7_keeps 0 = .ok (.aload_n 0, 1) := by decide +kernel
theorem dX7_keeps_1 : decode cX7_keeps 1 = .ok (.aload_n 0, 1) := by decide +kernel
theorem dX7_keeps_2 : decode cX7_keeps 2 = .ok (.getfield 56, 3) := by decide +kernel
theorem dX7_keeps_5 : decode cX7_keeps 5 = .ok (.iload_n 1, 1) := by decide +kernel
theorem dX7_keeps_6 : decode cX7_keeps 6 = .ok (.iaload, 1) := by decide +kernel
theorem dX7_keeps_7 : decode cX7_keeps 7 = .ok (.putfield 204, 3) := by decide +kernel
theorem dX7_keeps_10 : decode cX7_keeps 10 = .ok (.aload_n 0, 1) := by decide +kernel
theorem dX7_keeps_11 : decode cX7_keeps 11 = .ok (.iload_n 1, 1) := by decide +kernel
theorem dX7_keeps_12 : decode cX7_keeps 12 = .ok (.putfield 207, 3) := by decide +kernel
theorem dX7_keeps_15 : decode cX7_keeps 15 = .ok (.aload_n 0, 1) := by decide +kernel
theorem dX7_keeps_16 : decode cX7_keeps 16 = .ok (.aload_n 0, 1) := by decide +kernel
theorem dX7_keeps_17 : decode cX7_keeps 17 = .ok (.getfield 50, 3) := by decide +kernel
theorem dX7_keeps_20 : decode cX7_keeps 20 = .ok (.iload_n 1, 1) := by decide +kernel
theorem dX7_keeps_21 : decode cX7_keeps 21 = .ok (.iaload, 1) := by decide +kernel
theorem dX7_keeps_22 : decode cX7_keeps 22 = .ok (.putfield 210, 3) := by decide +kernel
theorem dX7_keeps_25 : decode cX7_keeps 25 = .ok (.iconst 0, 1) := by decide +kernel
theorem dX7_keeps_26 : decode cX7_keeps 26 = .ok (.istore_n 2, 1) := by decide +kernel
theorem dX7_keeps_27 : decode cX7_keeps 27 = .ok (.iload_n 2, 1) := by decide +kernel
theorem dX7_keeps_28 : decode cX7_keeps 28 = .ok (.iload_n 1, 1) := by decide +kernel
theorem dX7_keeps_29 : decode cX7_keeps 29 = .ok (.if_icmp .ge 21, 3) := by decide +kernel
theorem dX7_keeps_32 : decode cX7_keeps 32 = .ok (.aload_n 0, 1) := by decide +kernel
theorem dX7_keeps_33 : decode cX7_keeps 33 = .ok (.getfield 59, 3) := by decide +kernel
theorem dX7_keeps_36 : decode cX7_keeps 36 = .ok (.iload_n 2, 1) := by decide +kernel
theorem dX7_keeps_37 : decode cX7_keeps 37 = .ok (.aload_n 0, 1) := by decide +kernel
theorem dX7_keeps_38 : decode cX7_keeps 38 = .ok (.getfield 44, 3) := by decide +kernel
theorem dX7_keeps_41 : decode cX7_keeps 41 = .ok (.iload_n 2, 1) := by decide +kernel
theorem dX7_keeps_42 : decode cX7_keeps 42 = .ok (.iaload, 1) := by decide +kernel
theorem dX7_keeps_43 : decode cX7_keeps 43 = .ok (.iastore, 1) := by decide +kernel
theorem dX7_keeps_44 : decode cX7_keeps 44 = .ok (.iinc 2 1, 3) := by decide +kernel
theorem dX7_keeps_47 : decode cX7_keeps 47 = .ok (.goto (-20), 3) := by decide +kernel
theorem dX7_keeps_50 : decode cX7_keeps 50 = .ok (.return_, 1) := by decide +kernel
theorem dX7_finds_0 : decode cX7_finds 0 = .ok (.aload_n 0, 1) := by decide +kernel
theorem dX7_finds_1 : decode cX7_finds 1 = .ok (.invokevirtual 213, 3) := by decide +kernel
theorem dX7_finds_4 : decode cX7_finds 4 = .ok (.aload_n 0, 1) := by decide +kernel
theorem dX7_finds_5 : decode cX7_finds 5 = .ok (.getfield 31, 3) := by decide +kernel
theorem dX7_finds_8 : decode cX7_finds 8 = .ok (.iconst 5, 1) := by decide +kernel
theorem dX7_finds_9 : decode cX7_finds 9 = .ok (.iload_n 2, 1) := by decide +kernel
theorem dX7_finds_10 : decode cX7_finds 10 = .ok (.iastore, 1) := by decide +kernel
theorem dX7_finds_11 : decode cX7_finds 11 = .ok (.aload_n 0, 1) := by decide +kernel
theorem dX7_finds_12 : decode cX7_finds 12 = .ok (.ldc 65, 2) := by decide +kernel
theorem dX7_finds_14 : decode cX7_finds 14 = .ok (.putfield 204, 3) := by decide +kernel
theorem dX7_finds_17 : decode cX7_finds 17 = .ok (.iconst 1, 1) := by decide +kernel
theorem dX7_finds_18 : decode cX7_finds 18 = .ok (.istore_n 3, 1) := by decide +kernel
theorem dX7_finds_19 : decode cX7_finds 19 = .ok (.iload_n 3, 1) := by decide +kernel
theorem dX7_finds_20 : decode cX7_finds 20 = .ok (.ifCond .eq 98, 3) := by decide +kernel
theorem dX7_finds_23 : decode cX7_finds 23 = .ok (.aload_n 0, 1) := by decide +kernel
theorem dX7_finds_24 : decode cX7_finds 24 = .ok (.getfield 204, 3) := by decide +kernel
theorem dX7_finds_27 : decode cX7_finds 27 = .ok (.ldc 65, 2) := by decide +kernel
theorem dX7_finds_29 : decode cX7_finds 29 = .ok (.if_icmp .eq 46, 3) := by decide +kernel
theorem dX7_finds_32 : decode cX7_finds 32 = .ok (.aload_n 0, 1) := by decide +kernel
theorem dX7_finds_33 : decode cX7_finds 33 = .ok (.getfield 56, 3) := by decide +kernel
theorem dX7_finds_36 : decode cX7_finds 36 = .ok (.aload_n 0, 1) := by decide +kernel
theorem dX7_finds_37 : decode cX7_finds 37 = .ok (.getfield 197, 3) := by decide +kernel
theorem dX7_finds_40 : decode cX7_finds 40 = .ok (.iaload, 1) := by decide +kernel
theorem dX7_finds_41 : decode cX7_finds 41 = .ok (.aload_n 0, 1) := by decide +kernel
theorem dX7_finds_42 : decode cX7_finds 42 = .ok (.getfield 204, 3) := by decide +kernel
theorem dX7_finds_45 : decode cX7_finds 45 = .ok (.if_icmp .lt 30, 3) := by decide +kernel
theorem dX7_finds_48 : decode cX7_finds 48 = .ok (.aload_n 0, 1) := by decide +kernel
theorem dX7_finds_49 : decode cX7_finds 49 = .ok (.getfield 56, 3) := by decide +kernel
theorem dX7_finds_52 : decode cX7_finds 52 = .ok (.aload_n 0, 1) := by decide +kernel
theorem dX7_finds_53 : decode cX7_finds 53 = .ok (.getfield 197, 3) := by decide +kernel
theorem dX7_finds_56 : decode cX7_finds 56 = .ok (.iaload, 1) := by decide +kernel
theorem dX7_finds_57 : decode cX7_finds 57 = .ok (.aload_n 0, 1) := by decide +kernel
theorem dX7_finds_58 : decode cX7_finds 58 = .ok (.getfield 204, 3) := by decide +kernel
theorem dX7_finds_61 : decode cX7_finds 61 = .ok (.if_icmp .ne 18, 3) := by decide +kernel
theorem dX7_finds_64 : decode cX7_finds 64 = .ok (.aload_n 0, 1) := by decide +kernel
theorem dX7_finds_65 : decode cX7_finds 65 = .ok (.getfield 197, 3) := by decide +kernel
theorem dX7_finds_68 : decode cX7_finds 68 = .ok (.aload_n 0, 1) := by decide +kernel
theorem dX7_finds_69 : decode cX7_finds 69 = .ok (.getfield 207, 3) := by decide +kernel
theorem dX7_finds_72 : decode cX7_finds 72 = .ok (.if_icmp .ge 7, 3) := by decide +kernel
theorem dX7_finds_75 : decode cX7_finds 75 = .ok (.iconst 1, 1) := by decide +kernel
theorem dX7_finds_76 : decode cX7_finds 76 = .ok (.goto 4, 3) := by decide +kernel
theorem dX7_finds_79 : decode cX7_finds 79 = .ok (.iconst 0, 1) := by decide +kernel
theorem dX7_finds_80 : decode cX7_finds 80 = .ok (.istore 4, 2) := by decide +kernel
theorem dX7_finds_82 : decode cX7_finds 82 = .ok (.aload_n 0, 1) := by decide +kernel
theorem dX7_finds_83 : decode cX7_finds 83 = .ok (.getfield 50, 3) := by decide +kernel
theorem dX7_finds_86 : decode cX7_finds 86 = .ok (.aload_n 0, 1) := by decide +kernel
theorem dX7_finds_87 : decode cX7_finds 87 = .ok (.getfield 197, 3) := by decide +kernel
theorem dX7_finds_90 : decode cX7_finds 90 = .ok (.iaload, 1) := by decide +kernel
theorem dX7_finds_91 : decode cX7_finds 91 = .ok (.iload_n 1, 1) := by decide +kernel
theorem dX7_finds_92 : decode cX7_finds 92 = .ok (.if_icmp .ne 16, 3) := by decide +kernel
theorem dX7_finds_95 : decode cX7_finds 95 = .ok (.iload 4, 2) := by decide +kernel
theorem dX7_finds_97 : decode cX7_finds 97 = .ok (.ifCond .eq 11, 3) := by decide +kernel
theorem dX7_finds_100 : decode cX7_finds 100 = .ok (.aload_n 0, 1) := by decide +kernel
theorem dX7_finds_101 : decode cX7_finds 101 = .ok (.aload_n 0, 1) := by decide +kernel
theorem dX7_finds_102 : decode cX7_finds 102 = .ok (.getfield 197, 3) := by decide +kernel
theorem dX7_finds_105 : decode cX7_finds 105 = .ok (.invokevirtual 216, 3) := by decide +kernel
theorem dX7_finds_108 : decode cX7_finds 108 = .ok (.aload_n 0, 1) := by decide +kernel
theorem dX7_finds_109 : decode cX7_finds 109 = .ok (.bipush 8, 2) := by decide +kernel
theorem dX7_finds_111 : decode cX7_finds 111 = .ok (.invokevirtual 219, 3) := by decide +kernel
theorem dX7_finds_114 : decode cX7_finds 114 = .ok (.istore_n 3, 1) := by decide +kernel
theorem dX7_finds_115 : decode cX7_finds 115 = .ok (.goto (-96), 3) := by decide +kernel
theorem dX7_finds_118 : decode cX7_finds 118 = .ok (.return_, 1) := by decide +kernel
theorem dX7_told_0 : decode cX7_told 0 = .ok (.aload_n 0, 1) := by decide +kernel
theorem dX7_told_1 : decode cX7_told 1 = .ok (.getfield 204, 3) := by decide +kernel
theorem dX7_told_4 : decode cX7_told 4 = .ok (.ldc 65, 2) := by decide +kernel
theorem dX7_told_6 : decode cX7_told 6 = .ok (.if_icmp .ne 8, 3) := by decide +kernel
theorem dX7_told_9 : decode cX7_told 9 = .ok (.ldc 65, 2) := by decide +kernel
theorem dX7_told_11 : decode cX7_told 11 = .ok (.goto 44, 3) := by decide +kernel
theorem dX7_told_14 : decode cX7_told 14 = .ok (.iload_n 1, 1) := by decide +kernel
theorem dX7_told_15 : decode cX7_told 15 = .ok (.iconst (-1), 1) := by decide +kernel
theorem dX7_told_16 : decode cX7_told 16 = .ok (.if_icmp .ne 10, 3) := by decide +kernel
theorem dX7_told_19 : decode cX7_told 19 = .ok (.aload_n 0, 1) := by decide +kernel
theorem dX7_told_20 : decode cX7_told 20 = .ok (.getfield 204, 3) := by decide +kernel
theorem dX7_told_23 : decode cX7_told 23 = .ok (.goto 32, 3) := by decide +kernel
theorem dX7_told_26 : decode cX7_told 26 = .ok (.iload_n 1, 1) := by decide +kernel
theorem dX7_told_27 : decode cX7_told 27 = .ok (.bipush (-2), 2) := by decide +kernel
theorem dX7_told_29 : decode cX7_told 29 = .ok (.if_icmp .ne 7, 3) := by decide +kernel
theorem dX7_told_32 : decode cX7_told 32 = .ok (.iload_n 2, 1) := by decide +kernel
theorem dX7_told_33 : decode cX7_told 33 = .ok (.goto 22, 3) := by decide +kernel
theorem dX7_told_36 : decode cX7_told 36 = .ok (.iload_n 1, 1) := by decide +kernel
theorem dX7_told_37 : decode cX7_told 37 = .ok (.aload_n 0, 1) := by decide +kernel
theorem dX7_told_38 : decode cX7_told 38 = .ok (.getfield 207, 3) := by decide +kernel
theorem dX7_told_41 : decode cX7_told 41 = .ok (.if_icmp .ge 12, 3) := by decide +kernel
theorem dX7_told_44 : decode cX7_told 44 = .ok (.aload_n 0, 1) := by decide +kernel
theorem dX7_told_45 : decode cX7_told 45 = .ok (.getfield 59, 3) := by decide +kernel
theorem dX7_told_48 : decode cX7_told 48 = .ok (.iload_n 1, 1) := by decide +kernel
theorem dX7_told_49 : decode cX7_told 49 = .ok (.iaload, 1) := by decide +kernel
theorem dX7_told_50 : decode cX7_told 50 = .ok (.goto 5, 3) := by decide +kernel
theorem dX7_told_53 : decode cX7_told 53 = .ok (.ldc 65, 2) := by decide +kernel
theorem dX7_told_55 : decode cX7_told 55 = .ok (.ireturn, 1) := by decide +kernel
theorem dX7_cheapest_0 : decode cX7_cheapest 0 = .ok (.aload_n 0, 1) := by decide +kernel
theorem dX7_cheapest_1 : decode cX7_cheapest 1 = .ok (.iload_n 1, 1) := by decide +kernel
theorem dX7_cheapest_2 : decode cX7_cheapest 2 = .ok (.invokevirtual 188, 3) := by decide +kernel
theorem dX7_cheapest_5 : decode cX7_cheapest 5 = .ok (.ifCond .eq 14, 3) := by decide +kernel
theorem dX7_cheapest_8 : decode cX7_cheapest 8 = .ok (.iload_n 2, 1) := by decide +kernel
theorem dX7_cheapest_9 : decode cX7_cheapest 9 = .ok (.bipush (-2), 2) := by decide +kernel
theorem dX7_cheapest_11 : decode cX7_cheapest 11 = .ok (.bipush 7, 2) := by decide +kernel
theorem dX7_cheapest_13 : decode cX7_cheapest 13 = .ok (.invokestatic 71, 3) := by decide +kernel
theorem dX7_cheapest_16 : decode cX7_cheapest 16 = .ok (.ifCond .ne 6, 3) := by decide +kernel
theorem dX7_cheapest_19 : decode cX7_cheapest 19 = .ok (.ldc 79, 2) := by decide +kernel
theorem dX7_cheapest_21 : decode cX7_cheapest 21 = .ok (.ireturn, 1) := by decide +kernel
theorem dX7_cheapest_22 : decode cX7_cheapest 22 = .ok (.aload_n 0, 1) := by decide +kernel
theorem dX7_cheapest_23 : decode cX7_cheapest 23 = .ok (.iload_n 1, 1) := by decide +kernel
theorem dX7_cheapest_24 : decode cX7_cheapest 24 = .ok (.aload_n 0, 1) := by decide +kernel
theorem dX7_cheapest_25 : decode cX7_cheapest 25 = .ok (.getfield 25, 3) := by decide +kernel
theorem dX7_cheapest_28 : decode cX7_cheapest 28 = .ok (.iconst 5, 1) := by decide +kernel
theorem dX7_cheapest_29 : decode cX7_cheapest 29 = .ok (.iaload, 1) := by decide +kernel
theorem dX7_cheapest_30 : decode cX7_cheapest 30 = .ok (.invokevirtual 222, 3) := by decide +kernel
theorem dX7_cheapest_33 : decode cX7_cheapest 33 = .ok (.aload_n 0, 1) := by decide +kernel
theorem dX7_cheapest_34 : decode cX7_cheapest 34 = .ok (.iload_n 2, 1) := by decide +kernel
theorem dX7_cheapest_35 : decode cX7_cheapest 35 = .ok (.aload_n 0, 1) := by decide +kernel
theorem dX7_cheapest_36 : decode cX7_cheapest 36 = .ok (.getfield 207, 3) := by decide +kernel
theorem dX7_cheapest_39 : decode cX7_cheapest 39 = .ok (.invokevirtual 226, 3) := by decide +kernel
theorem dX7_cheapest_42 : decode cX7_cheapest 42 = .ok (.ireturn, 1) := by decide +kernel
theorem dX7_dearest_0 : decode cX7_dearest 0 = .ok (.aload_n 0, 1) := by decide +kernel
theorem dX7_dearest_1 : decode cX7_dearest 1 = .ok (.invokevirtual 191, 3) := by decide +kernel
theorem dX7_dearest_4 : decode cX7_dearest 4 = .ok (.ifCond .ne 6, 3) := by decide +kernel
theorem dX7_dearest_7 : decode cX7_dearest 7 = .ok (.ldc 180, 2) := by decide +kernel
theorem dX7_dearest_9 : decode cX7_dearest 9 = .ok (.ireturn, 1) := by decide +kernel
theorem dX7_dearest_10 : decode cX7_dearest 10 = .ok (.iload_n 1, 1) := by decide +kernel
theorem dX7_dearest_11 : decode cX7_dearest 11 = .ok (.iconst 0, 1) := by decide +kernel
theorem dX7_dearest_12 : decode cX7_dearest 12 = .ok (.bipush 8, 2) := by decide +kernel
theorem dX7_dearest_14 : decode cX7_dearest 14 = .ok (.invokestatic 71, 3) := by decide +kernel
theorem dX7_dearest_17 : decode cX7_dearest 17 = .ok (.ifCond .eq 14, 3) := by decide +kernel
theorem dX7_dearest_20 : decode cX7_dearest 20 = .ok (.iload_n 2, 1) := by decide +kernel
theorem dX7_dearest_21 : decode cX7_dearest 21 = .ok (.bipush (-2), 2) := by decide +kernel
theorem dX7_dearest_23 : decode cX7_dearest 23 = .ok (.bipush 7, 2) := by decide +kernel
theorem dX7_dearest_25 : decode cX7_dearest 25 = .ok (.invokestatic 71, 3) := by decide +kernel
theorem dX7_dearest_28 : decode cX7_dearest 28 = .ok (.ifCond .ne 6, 3) := by decide +kernel
theorem dX7_dearest_31 : decode cX7_dearest 31 = .ok (.ldc 79, 2) := by decide +kernel
theorem dX7_dearest_33 : decode cX7_dearest 33 = .ok (.ireturn, 1) := by decide +kernel
theorem dX7_dearest_34 : decode cX7_dearest 34 = .ok (.aload_n 0, 1) := by decide +kernel
theorem dX7_dearest_35 : decode cX7_dearest 35 = .ok (.invokevirtual 213, 3) := by decide +kernel
theorem dX7_dearest_38 : decode cX7_dearest 38 = .ok (.aload_n 0, 1) := by decide +kernel
theorem dX7_dearest_39 : decode cX7_dearest 39 = .ok (.ldc 65, 2) := by decide +kernel
theorem dX7_dearest_41 : decode cX7_dearest 41 = .ok (.putfield 204, 3) := by decide +kernel
theorem dX7_dearest_44 : decode cX7_dearest 44 = .ok (.iconst 1, 1) := by decide +kernel
theorem dX7_dearest_45 : decode cX7_dearest 45 = .ok (.istore_n 3, 1) := by decide +kernel
theorem dX7_dearest_46 : decode cX7_dearest 46 = .ok (.iload_n 3, 1) := by decide +kernel
theorem dX7_dearest_47 : decode cX7_dearest 47 = .ok (.ifCond .eq 56, 3) := by decide +kernel
theorem dX7_dearest_50 : decode cX7_dearest 50 = .ok (.aload_n 0, 1) := by decide +kernel
theorem dX7_dearest_51 : decode cX7_dearest 51 = .ok (.getfield 197, 3) := by decide +kernel
theorem dX7_dearest_54 : decode cX7_dearest 54 = .ok (.iload_n 1, 1) := by decide +kernel
theorem dX7_dearest_55 : decode cX7_dearest 55 = .ok (.if_icmp .ne 27, 3) := by decide +kernel
theorem dX7_dearest_58 : decode cX7_dearest 58 = .ok (.aload_n 0, 1) := by decide +kernel
theorem dX7_dearest_59 : decode cX7_dearest 59 = .ok (.getfield 56, 3) := by decide +kernel
theorem dX7_dearest_62 : decode cX7_dearest 62 = .ok (.aload_n 0, 1) := by decide +kernel
theorem dX7_dearest_63 : decode cX7_dearest 63 = .ok (.getfield 197, 3) := by decide +kernel
theorem dX7_dearest_66 : decode cX7_dearest 66 = .ok (.iaload, 1) := by decide +kernel
theorem dX7_dearest_67 : decode cX7_dearest 67 = .ok (.aload_n 0, 1) := by decide +kernel
theorem dX7_dearest_68 : decode cX7_dearest 68 = .ok (.getfield 204, 3) := by decide +kernel
theorem dX7_dearest_71 : decode cX7_dearest 71 = .ok (.if_icmp .le 11, 3) := by decide +kernel
theorem dX7_dearest_74 : decode cX7_dearest 74 = .ok (.aload_n 0, 1) := by decide +kernel
theorem dX7_dearest_75 : decode cX7_dearest 75 = .ok (.aload_n 0, 1) := by decide +kernel
theorem dX7_dearest_76 : decode cX7_dearest 76 = .ok (.getfield 197, 3) := by decide +kernel
theorem dX7_dearest_79 : decode cX7_dearest 79 = .ok (.invokevirtual 216, 3) := by decide +kernel
theorem dX7_dearest_82 : decode cX7_dearest 82 = .ok (.iload_n 1, 1) := by decide +kernel
theorem dX7_dearest_83 : decode cX7_dearest 83 = .ok (.ifCond .le 15, 3) := by decide +kernel
theorem dX7_dearest_86 : decode cX7_dearest 86 = .ok (.aload_n 0, 1) := by decide +kernel
theorem dX7_dearest_87 : decode cX7_dearest 87 = .ok (.iload_n 1, 1) := by decide +kernel
theorem dX7_dearest_88 : decode cX7_dearest 88 = .ok (.invokevirtual 219, 3) := by decide +kernel
theorem dX7_dearest_91 : decode cX7_dearest 91 = .ok (.ifCond .eq 7, 3) := by decide +kernel
theorem dX7_dearest_94 : decode cX7_dearest 94 = .ok (.iconst 1, 1) := by decide +kernel
theorem dX7_dearest_95 : decode cX7_dearest 95 = .ok (.goto 4, 3) := by decide +kernel
theorem dX7_dearest_98 : decode cX7_dearest 98 = .ok (.iconst 0, 1) := by decide +kernel
theorem dX7_dearest_99 : decode cX7_dearest 99 = .ok (.istore_n 3, 1) := by decide +kernel
theorem dX7_dearest_100 : decode cX7_dearest 100 = .ok (.goto (-54), 3) := by decide +kernel
theorem dX7_dearest_103 : decode cX7_dearest 103 = .ok (.aload_n 0, 1) := by decide +kernel
theorem dX7_dearest_104 : decode cX7_dearest 104 = .ok (.iload_n 2, 1) := by decide +kernel
theorem dX7_dearest_105 : decode cX7_dearest 105 = .ok (.aload_n 0, 1) := by decide +kernel
theorem dX7_dearest_106 : decode cX7_dearest 106 = .ok (.getfield 210, 3) := by decide +kernel
theorem dX7_dearest_109 : decode cX7_dearest 109 = .ok (.invokevirtual 226, 3) := by decide +kernel
theorem dX7_dearest_112 : decode cX7_dearest 112 = .ok (.ireturn, 1) := by decide +kernel
theorem dX7_moods_0 : decode cX7_moods 0 = .ok (.aload_n 0, 1) := by decide +kernel
theorem dX7_moods_1 : decode cX7_moods 1 = .ok (.iload_n 1, 1) := by decide +kernel
theorem dX7_moods_2 : decode cX7_moods 2 = .ok (.invokevirtual 188, 3) := by decide +kernel
theorem dX7_moods_5 : decode cX7_moods 5 = .ok (.ifCond .eq 13, 3) := by decide +kernel
theorem dX7_moods_8 : decode cX7_moods 8 = .ok (.iload_n 2, 1) := by decide +kernel
theorem dX7_moods_9 : decode cX7_moods 9 = .ok (.iconst 0, 1) := by decide +kernel
theorem dX7_moods_10 : decode cX7_moods 10 = .ok (.bipush 8, 2) := by decide +kernel
theorem dX7_moods_12 : decode cX7_moods 12 = .ok (.invokestatic 71, 3) := by decide +kernel
theorem dX7_moods_15 : decode cX7_moods 15 = .ok (.ifCond .ne 6, 3) := by decide +kernel
theorem dX7_moods_18 : decode cX7_moods 18 = .ok (.ldc 79, 2) := by decide +kernel
theorem dX7_moods_20 : decode cX7_moods 20 = .ok (.ireturn, 1) := by decide +kernel
theorem dX7_moods_21 : decode cX7_moods 21 = .ok (.aload_n 0, 1) := by decide +kernel
theorem dX7_moods_22 : decode cX7_moods 22 = .ok (.invokevirtual 213, 3) := by decide +kernel
theorem dX7_moods_25 : decode cX7_moods 25 = .ok (.iconst 0, 1) := by decide +kernel
theorem dX7_moods_26 : decode cX7_moods 26 = .ok (.istore_n 3, 1) := by decide +kernel
theorem dX7_moods_27 : decode cX7_moods 27 = .ok (.iconst 1, 1) := by decide +kernel
theorem dX7_moods_28 : decode cX7_moods 28 = .ok (.istore 4, 2) := by decide +kernel
theorem dX7_moods_30 : decode cX7_moods 30 = .ok (.iload 4, 2) := by decide +kernel
theorem dX7_moods_32 : decode cX7_moods 32 = .ok (.ifCond .eq 64, 3) := by decide +kernel
theorem dX7_moods_35 : decode cX7_moods 35 = .ok (.iload_n 3, 1) := by decide +kernel
theorem dX7_moods_36 : decode cX7_moods 36 = .ok (.aload_n 0, 1) := by decide +kernel
theorem dX7_moods_37 : decode cX7_moods 37 = .ok (.getfield 197, 3) := by decide +kernel
theorem dX7_moods_40 : decode cX7_moods 40 = .ok (.iload_n 2, 1) := by decide +kernel
theorem dX7_moods_41 : decode cX7_moods 41 = .ok (.if_icmp .ne 30, 3) := by decide +kernel
theorem dX7_moods_44 : decode cX7_moods 44 = .ok (.aload_n 0, 1) := by decide +kernel
theorem dX7_moods_45 : decode cX7_moods 45 = .ok (.getfield 50, 3) := by decide +kernel
theorem dX7_moods_48 : decode cX7_moods 48 = .ok (.aload_n 0, 1) := by decide +kernel
theorem dX7_moods_49 : decode cX7_moods 49 = .ok (.getfield 197, 3) := by decide +kernel
theorem dX7_moods_52 : decode cX7_moods 52 = .ok (.iaload, 1) := by decide +kernel
theorem dX7_moods_53 : decode cX7_moods 53 = .ok (.iload_n 1, 1) := by decide +kernel
theorem dX7_moods_54 : decode cX7_moods 54 = .ok (.if_icmp .ne 17, 3) := by decide +kernel
theorem dX7_moods_57 : decode cX7_moods 57 = .ok (.iconst 1, 1) := by decide +kernel
theorem dX7_moods_58 : decode cX7_moods 58 = .ok (.aload_n 0, 1) := by decide +kernel
theorem dX7_moods_59 : decode cX7_moods 59 = .ok (.getfield 53, 3) := by decide +kernel
theorem dX7_moods_62 : decode cX7_moods 62 = .ok (.aload_n 0, 1) := by decide +kernel
theorem dX7_moods_63 : decode cX7_moods 63 = .ok (.getfield 197, 3) := by decide +kernel
theorem dX7_moods_66 : decode cX7_moods 66 = .ok (.iaload, 1) := by decide +kernel
theorem dX7_moods_67 : decode cX7_moods 67 = .ok (.ishl, 1) := by decide +kernel
theorem dX7_moods_68 : decode cX7_moods 68 = .ok (.goto 4, 3) := by decide +kernel
theorem dX7_moods_71 : decode cX7_moods 71 = .ok (.iconst 0, 1) := by decide +kernel
theorem dX7_moods_72 : decode cX7_moods 72 = .ok (.ior, 1) := by decide +kernel
theorem dX7_moods_73 : decode cX7_moods 73 = .ok (.istore_n 3, 1) := by decide +kernel
theorem dX7_moods_74 : decode cX7_moods 74 = .ok (.iload_n 2, 1) := by decide +kernel
theorem dX7_moods_75 : decode cX7_moods 75 = .ok (.ifCond .le 15, 3) := by decide +kernel
theorem dX7_moods_78 : decode cX7_moods 78 = .ok (.aload_n 0, 1) := by decide +kernel
theorem dX7_moods_79 : decode cX7_moods 79 = .ok (.iload_n 2, 1) := by decide +kernel
theorem dX7_moods_80 : decode cX7_moods 80 = .ok (.invokevirtual 219, 3) := by decide +kernel
theorem dX7_moods_83 : decode cX7_moods 83 = .ok (.ifCond .eq 7, 3) := by decide +kernel
theorem dX7_moods_86 : decode cX7_moods 86 = .ok (.iconst 1, 1) := by decide +kernel
theorem dX7_moods_87 : decode cX7_moods 87 = .ok (.goto 4, 3) := by decide +kernel
theorem dX7_moods_90 : decode cX7_moods 90 = .ok (.iconst 0, 1) := by decide +kernel
theorem dX7_moods_91 : decode cX7_moods 91 = .ok (.istore 4, 2) := by decide +kernel
theorem dX7_moods_93 : decode cX7_moods 93 = .ok (.goto (-63), 3) := by decide +kernel
theorem dX7_moods_96 : decode cX7_moods 96 = .ok (.iload_n 3, 1) := by decide +kernel
theorem dX7_moods_97 : decode cX7_moods 97 = .ok (.ireturn, 1) := by decide +kernel
theorem dX7_gets_0 : decode cX7_gets 0 = .ok (.aload_n 0, 1) := by decide +kernel
theorem dX7_gets_1 : decode cX7_gets 1 = .ok (.invokevirtual 191, 3) := by decide +kernel
theorem dX7_gets_4 : decode cX7_gets 4 = .ok (.ifCond .ne 6, 3) := by decide +kernel
theorem dX7_gets_7 : decode cX7_gets 7 = .ok (.ldc 180, 2) := by decide +kernel
theorem dX7_gets_9 : decode cX7_gets 9 = .ok (.ireturn, 1) := by decide +kernel
theorem dX7_gets_10 : decode cX7_gets 10 = .ok (.iload_n 1, 1) := by decide +kernel
theorem dX7_gets_11 : decode cX7_gets 11 = .ok (.iconst 0, 1) := by decide +kernel
theorem dX7_gets_12 : decode cX7_gets 12 = .ok (.bipush 9, 2) := by decide +kernel
theorem dX7_gets_14 : decode cX7_gets 14 = .ok (.invokestatic 71, 3) := by decide +kernel
theorem dX7_gets_17 : decode cX7_gets 17 = .ok (.ifCond .eq 13, 3) := by decide +kernel
theorem dX7_gets_20 : decode cX7_gets 20 = .ok (.iload_n 2, 1) := by decide +kernel
theorem dX7_gets_21 : decode cX7_gets 21 = .ok (.iconst (-1), 1) := by decide +kernel
theorem dX7_gets_22 : decode cX7_gets 22 = .ok (.bipush 7, 2) := by decide +kernel
theorem dX7_gets_24 : decode cX7_gets 24 = .ok (.invokestatic 71, 3) := by decide +kernel
theorem dX7_gets_27 : decode cX7_gets 27 = .ok (.ifCond .ne 6, 3) := by decide +kernel
theorem dX7_gets_30 : decode cX7_gets 30 = .ok (.ldc 79, 2) := by decide +kernel
theorem dX7_gets_32 : decode cX7_gets 32 = .ok (.ireturn, 1) := by decide +kernel
theorem dX7_gets_33 : decode cX7_gets 33 = .ok (.aload_n 0, 1) := by decide +kernel
theorem dX7_gets_34 : decode cX7_gets 34 = .ok (.invokevirtual 213, 3) := by decide +kernel
theorem dX7_gets_37 : decode cX7_gets 37 = .ok (.aload_n 0, 1) := by decide +kernel
theorem dX7_gets_38 : decode cX7_gets 38 = .ok (.ldc 65, 2) := by decide +kernel
theorem dX7_gets_40 : decode cX7_gets 40 = .ok (.putfield 204, 3) := by decide +kernel
theorem dX7_gets_43 : decode cX7_gets 43 = .ok (.iconst 1, 1) := by decide +kernel
theorem dX7_gets_44 : decode cX7_gets 44 = .ok (.istore_n 3, 1) := by decide +kernel
theorem dX7_gets_45 : decode cX7_gets 45 = .ok (.iload_n 3, 1) := by decide +kernel
theorem dX7_gets_46 : decode cX7_gets 46 = .ok (.ifCond .eq 54, 3) := by decide +kernel
theorem dX7_gets_49 : decode cX7_gets 49 = .ok (.aload_n 0, 1) := by decide +kernel
theorem dX7_gets_50 : decode cX7_gets 50 = .ok (.getfield 53, 3) := by decide +kernel
theorem dX7_gets_53 : decode cX7_gets 53 = .ok (.aload_n 0, 1) := by decide +kernel
theorem dX7_gets_54 : decode cX7_gets 54 = .ok (.getfield 197, 3) := by decide +kernel
theorem dX7_gets_57 : decode cX7_gets 57 = .ok (.iaload, 1) := by decide +kernel
theorem dX7_gets_58 : decode cX7_gets 58 = .ok (.iload_n 1, 1) := by decide +kernel
theorem dX7_gets_59 : decode cX7_gets 59 = .ok (.if_icmp .ne 31, 3) := by decide +kernel
theorem dX7_gets_62 : decode cX7_gets 62 = .ok (.aload_n 0, 1) := by decide +kernel
theorem dX7_gets_63 : decode cX7_gets 63 = .ok (.getfield 204, 3) := by decide +kernel
theorem dX7_gets_66 : decode cX7_gets 66 = .ok (.ldc 65, 2) := by decide +kernel
theorem dX7_gets_68 : decode cX7_gets 68 = .ok (.if_icmp .eq 14, 3) := by decide +kernel
theorem dX7_gets_71 : decode cX7_gets 71 = .ok (.aload_n 0, 1) := by decide +kernel
theorem dX7_gets_72 : decode cX7_gets 72 = .ok (.getfield 197, 3) := by decide +kernel
theorem dX7_gets_75 : decode cX7_gets 75 = .ok (.aload_n 0, 1) := by decide +kernel
theorem dX7_gets_76 : decode cX7_gets 76 = .ok (.getfield 207, 3) := by decide +kernel
theorem dX7_gets_79 : decode cX7_gets 79 = .ok (.if_icmp .ge 11, 3) := by decide +kernel
theorem dX7_gets_82 : decode cX7_gets 82 = .ok (.aload_n 0, 1) := by decide +kernel
theorem dX7_gets_83 : decode cX7_gets 83 = .ok (.aload_n 0, 1) := by decide +kernel
theorem dX7_gets_84 : decode cX7_gets 84 = .ok (.getfield 197, 3) := by decide +kernel
theorem dX7_gets_87 : decode cX7_gets 87 = .ok (.invokevirtual 216, 3) := by decide +kernel
theorem dX7_gets_90 : decode cX7_gets 90 = .ok (.aload_n 0, 1) := by decide +kernel
theorem dX7_gets_91 : decode cX7_gets 91 = .ok (.bipush 8, 2) := by decide +kernel
theorem dX7_gets_93 : decode cX7_gets 93 = .ok (.invokevirtual 219, 3) := by decide +kernel
theorem dX7_gets_96 : decode cX7_gets 96 = .ok (.istore_n 3, 1) := by decide +kernel
theorem dX7_gets_97 : decode cX7_gets 97 = .ok (.goto (-52), 3) := by decide +kernel
theorem dX7_gets_100 : decode cX7_gets 100 = .ok (.aload_n 0, 1) := by decide +kernel
theorem dX7_gets_101 : decode cX7_gets 101 = .ok (.getfield 204, 3) := by decide +kernel
theorem dX7_gets_104 : decode cX7_gets 104 = .ok (.ldc 65, 2) := by decide +kernel
theorem dX7_gets_106 : decode cX7_gets 106 = .ok (.if_icmp .ne 8, 3) := by decide +kernel
theorem dX7_gets_109 : decode cX7_gets 109 = .ok (.ldc 65, 2) := by decide +kernel
theorem dX7_gets_111 : decode cX7_gets 111 = .ok (.goto 34, 3) := by decide +kernel
theorem dX7_gets_114 : decode cX7_gets 114 = .ok (.iload_n 2, 1) := by decide +kernel
theorem dX7_gets_115 : decode cX7_gets 115 = .ok (.iconst (-1), 1) := by decide +kernel
theorem dX7_gets_116 : decode cX7_gets 116 = .ok (.if_icmp .ne 10, 3) := by decide +kernel
theorem dX7_gets_119 : decode cX7_gets 119 = .ok (.aload_n 0, 1) := by decide +kernel
theorem dX7_gets_120 : decode cX7_gets 120 = .ok (.getfield 207, 3) := by decide +kernel
theorem dX7_gets_123 : decode cX7_gets 123 = .ok (.goto 22, 3) := by decide +kernel
theorem dX7_gets_126 : decode cX7_gets 126 = .ok (.iload_n 2, 1) := by decide +kernel
theorem dX7_gets_127 : decode cX7_gets 127 = .ok (.aload_n 0, 1) := by decide +kernel
theorem dX7_gets_128 : decode cX7_gets 128 = .ok (.getfield 207, 3) := by decide +kernel
theorem dX7_gets_131 : decode cX7_gets 131 = .ok (.if_icmp .ge 12, 3) := by decide +kernel
theorem dX7_gets_134 : decode cX7_gets 134 = .ok (.aload_n 0, 1) := by decide +kernel
theorem dX7_gets_135 : decode cX7_gets 135 = .ok (.getfield 59, 3) := by decide +kernel
theorem dX7_gets_138 : decode cX7_gets 138 = .ok (.iload_n 2, 1) := by decide +kernel
theorem dX7_gets_139 : decode cX7_gets 139 = .ok (.iaload, 1) := by decide +kernel
theorem dX7_gets_140 : decode cX7_gets 140 = .ok (.goto 5, 3) := by decide +kernel
theorem dX7_gets_143 : decode cX7_gets 143 = .ok (.ldc 65, 2) := by decide +kernel
theorem dX7_gets_145 : decode cX7_gets 145 = .ok (.ireturn, 1) := by decide +kernel
theorem dX7_goesSo_0 : decode cX7_goesSo 0 = .ok (.iconst 1, 1) := by decide +kernel
theorem dX7_goesSo_1 : decode cX7_goesSo 1 = .ok (.istore 4, 2) := by decide +kernel
theorem dX7_goesSo_3 : decode cX7_goesSo 3 = .ok (.iconst 0, 1) := by decide +kernel
theorem dX7_goesSo_4 : decode cX7_goesSo 4 = .ok (.istore 5, 2) := by decide +kernel
theorem dX7_goesSo_6 : decode cX7_goesSo 6 = .ok (.iload 5, 2) := by decide +kernel
theorem dX7_goesSo_8 : decode cX7_goesSo 8 = .ok (.iload_n 3, 1) := by decide +kernel
theorem dX7_goesSo_9 : decode cX7_goesSo 9 = .ok (.if_icmp .ge 109, 3) := by decide +kernel
theorem dX7_goesSo_12 : decode cX7_goesSo 12 = .ok (.iload 4, 2) := by decide +kernel
theorem dX7_goesSo_14 : decode cX7_goesSo 14 = .ok (.ifCond .eq 104, 3) := by decide +kernel
theorem dX7_goesSo_17 : decode cX7_goesSo 17 = .ok (.aload_n 0, 1) := by decide +kernel
theorem dX7_goesSo_18 : decode cX7_goesSo 18 = .ok (.getfield 16, 3) := by decide +kernel
theorem dX7_goesSo_21 : decode cX7_goesSo 21 = .ok (.iload_n 2, 1) := by decide +kernel
theorem dX7_goesSo_22 : decode cX7_goesSo 22 = .ok (.iload 5, 2) := by decide +kernel
theorem dX7_goesSo_24 : decode cX7_goesSo 24 = .ok (.iadd, 1) := by decide +kernel
theorem dX7_goesSo_25 : decode cX7_goesSo 25 = .ok (.iaload, 1) := by decide +kernel
theorem dX7_goesSo_26 : decode cX7_goesSo 26 = .ok (.istore 6, 2) := by decide +kernel
theorem dX7_goesSo_28 : decode cX7_goesSo 28 = .ok (.aload_n 0, 1) := by decide +kernel
theorem dX7_goesSo_29 : decode cX7_goesSo 29 = .ok (.getfield 31, 3) := by decide +kernel
theorem dX7_goesSo_32 : decode cX7_goesSo 32 = .ok (.iload 6, 2) := by decide +kernel
theorem dX7_goesSo_34 : decode cX7_goesSo 34 = .ok (.aload_n 0, 1) := by decide +kernel
theorem dX7_goesSo_35 : decode cX7_goesSo 35 = .ok (.getfield 31, 3) := by decide +kernel
theorem dX7_goesSo_38 : decode cX7_goesSo 38 = .ok (.iconst 4, 1) := by decide +kernel
theorem dX7_goesSo_39 : decode cX7_goesSo 39 = .ok (.iaload, 1) := by decide +kernel
theorem dX7_goesSo_40 : decode cX7_goesSo 40 = .ok (.invokestatic 176, 3) := by decide +kernel
theorem dX7_goesSo_43 : decode cX7_goesSo 43 = .ok (.ifCond .eq 52, 3) := by decide +kernel
theorem dX7_goesSo_46 : decode cX7_goesSo 46 = .ok (.aload_n 0, 1) := by decide +kernel
theorem dX7_goesSo_47 : decode cX7_goesSo 47 = .ok (.getfield 31, 3) := by decide +kernel
theorem dX7_goesSo_50 : decode cX7_goesSo 50 = .ok (.aload_n 0, 1) := by decide +kernel
theorem dX7_goesSo_51 : decode cX7_goesSo 51 = .ok (.getfield 31, 3) := by decide +kernel
theorem dX7_goesSo_54 : decode cX7_goesSo 54 = .ok (.bipush 26, 2) := by decide +kernel
theorem dX7_goesSo_56 : decode cX7_goesSo 56 = .ok (.iconst 2, 1) := by decide +kernel
theorem dX7_goesSo_57 : decode cX7_goesSo 57 = .ok (.iload 6, 2) := by decide +kernel
theorem dX7_goesSo_59 : decode cX7_goesSo 59 = .ok (.imul, 1) := by decide +kernel
theorem dX7_goesSo_60 : decode cX7_goesSo 60 = .ok (.iadd, 1) := by decide +kernel
theorem dX7_goesSo_61 : decode cX7_goesSo 61 = .ok (.iconst 1, 1) := by decide +kernel
theorem dX7_goesSo_62 : decode cX7_goesSo 62 = .ok (.iadd, 1) := by decide +kernel
theorem dX7_goesSo_63 : decode cX7_goesSo 63 = .ok (.iaload, 1) := by decide +kernel
theorem dX7_goesSo_64 : decode cX7_goesSo 64 = .ok (.aload_n 0, 1) := by decide +kernel
theorem dX7_goesSo_65 : decode cX7_goesSo 65 = .ok (.getfield 31, 3) := by decide +kernel
theorem dX7_goesSo_68 : decode cX7_goesSo 68 = .ok (.iconst 1, 1) := by decide +kernel
theorem dX7_goesSo_69 : decode cX7_goesSo 69 = .ok (.iaload, 1) := by decide +kernel
theorem dX7_goesSo_70 : decode cX7_goesSo 70 = .ok (.aload_n 0, 1) := by decide +kernel
theorem dX7_goesSo_71 : decode cX7_goesSo 71 = .ok (.getfield 31, 3) := by decide +kernel
theorem dX7_goesSo_74 : decode cX7_goesSo 74 = .ok (.iconst 3, 1) := by decide +kernel
theorem dX7_goesSo_75 : decode cX7_goesSo 75 = .ok (.iaload, 1) := by decide +kernel
theorem dX7_goesSo_76 : decode cX7_goesSo 76 = .ok (.invokestatic 170, 3) := by decide +kernel
theorem dX7_goesSo_79 : decode cX7_goesSo 79 = .ok (.aload_n 0, 1) := by decide +kernel
theorem dX7_goesSo_80 : decode cX7_goesSo 80 = .ok (.getfield 16, 3) := by decide +kernel
theorem dX7_goesSo_83 : decode cX7_goesSo 83 = .ok (.iload_n 1, 1) := by decide +kernel
theorem dX7_goesSo_84 : decode cX7_goesSo 84 = .ok (.iload 5, 2) := by decide +kernel
theorem dX7_goesSo_86 : decode cX7_goesSo 86 = .ok (.iadd, 1) := by decide +kernel
theorem dX7_goesSo_87 : decode cX7_goesSo 87 = .ok (.iaload, 1) := by decide +kernel
theorem dX7_goesSo_88 : decode cX7_goesSo 88 = .ok (.if_icmp .ne 7, 3) := by decide +kernel
theorem dX7_goesSo_91 : decode cX7_goesSo 91 = .ok (.iconst 1, 1) := by decide +kernel
theorem dX7_goesSo_92 : decode cX7_goesSo 92 = .ok (.goto 4, 3) := by decide +kernel
theorem dX7_goesSo_95 : decode cX7_goesSo 95 = .ok (.iconst 0, 1) := by decide +kernel
theorem dX7_goesSo_96 : decode cX7_goesSo 96 = .ok (.istore 4, 2) := by decide +kernel
theorem dX7_goesSo_98 : decode cX7_goesSo 98 = .ok (.iload 4, 2) := by decide +kernel
theorem dX7_goesSo_100 : decode cX7_goesSo 100 = .ok (.ifCond .eq 12, 3) := by decide +kernel
theorem dX7_goesSo_103 : decode cX7_goesSo 103 = .ok (.aload_n 0, 1) := by decide +kernel
theorem dX7_goesSo_104 : decode cX7_goesSo 104 = .ok (.getfield 31, 3) := by decide +kernel
theorem dX7_goesSo_107 : decode cX7_goesSo 107 = .ok (.iload 6, 2) := by decide +kernel
theorem dX7_goesSo_109 : decode cX7_goesSo 109 = .ok (.invokestatic 184, 3) := by decide +kernel
theorem dX7_goesSo_112 : decode cX7_goesSo 112 = .ok (.iinc 5 1, 3) := by decide +kernel
theorem dX7_goesSo_115 : decode cX7_goesSo 115 = .ok (.goto (-109), 3) := by decide +kernel
theorem dX7_goesSo_118 : decode cX7_goesSo 118 = .ok (.iload 4, 2) := by decide +kernel
theorem dX7_goesSo_120 : decode cX7_goesSo 120 = .ok (.ireturn, 1) := by decide +kernel
theorem dX7_bar_0 : decode cX7_bar 0 = .ok (.aload_n 0, 1) := by decide +kernel
theorem dX7_bar_1 : decode cX7_bar 1 = .ok (.iload_n 1, 1) := by decide +kernel
theorem dX7_bar_2 : decode cX7_bar 2 = .ok (.invokevirtual 87, 3) := by decide +kernel
theorem dX7_bar_5 : decode cX7_bar 5 = .ok (.ifCond .eq 9, 3) := by decide +kernel
theorem dX7_bar_8 : decode cX7_bar 8 = .ok (.aload_n 0, 1) := by decide +kernel
theorem dX7_bar_9 : decode cX7_bar 9 = .ok (.iconst 1, 1) := by decide +kernel
theorem dX7_bar_10 : decode cX7_bar 10 = .ok (.invokevirtual 80, 3) := by decide +kernel
theorem dX7_bar_13 : decode cX7_bar 13 = .ok (.ireturn, 1) := by decide +kernel
theorem dX7_bar_14 : decode cX7_bar 14 = .ok (.aload_n 0, 1) := by decide +kernel
theorem dX7_bar_15 : decode cX7_bar 15 = .ok (.iload_n 1, 1) := by decide +kernel
theorem dX7_bar_16 : decode cX7_bar 16 = .ok (.iload_n 2, 1) := by decide +kernel
theorem dX7_bar_17 : decode cX7_bar 17 = .ok (.iload 5, 2) := by decide +kernel
theorem dX7_bar_19 : decode cX7_bar 19 = .ok (.invokevirtual 94, 3) := by decide +kernel
theorem dX7_bar_22 : decode cX7_bar 22 = .ok (.ifCond .ne 9, 3) := by decide +kernel
theorem dX7_bar_25 : decode cX7_bar 25 = .ok (.aload_n 0, 1) := by decide +kernel
theorem dX7_bar_26 : decode cX7_bar 26 = .ok (.iconst 2, 1) := by decide +kernel
theorem dX7_bar_27 : decode cX7_bar 27 = .ok (.invokevirtual 80, 3) := by decide +kernel
theorem dX7_bar_30 : decode cX7_bar 30 = .ok (.ireturn, 1) := by decide +kernel
theorem dX7_bar_31 : decode cX7_bar 31 = .ok (.aload_n 0, 1) := by decide +kernel
theorem dX7_bar_32 : decode cX7_bar 32 = .ok (.iload_n 3, 1) := by decide +kernel
theorem dX7_bar_33 : decode cX7_bar 33 = .ok (.invokevirtual 87, 3) := by decide +kernel
theorem dX7_bar_36 : decode cX7_bar 36 = .ok (.ifCond .eq 9, 3) := by decide +kernel
theorem dX7_bar_39 : decode cX7_bar 39 = .ok (.aload_n 0, 1) := by decide +kernel
theorem dX7_bar_40 : decode cX7_bar 40 = .ok (.iconst 1, 1) := by decide +kernel
theorem dX7_bar_41 : decode cX7_bar 41 = .ok (.invokevirtual 80, 3) := by decide +kernel
theorem dX7_bar_44 : decode cX7_bar 44 = .ok (.ireturn, 1) := by decide +kernel
theorem dX7_bar_45 : decode cX7_bar 45 = .ok (.aload_n 0, 1) := by decide +kernel
theorem dX7_bar_46 : decode cX7_bar 46 = .ok (.iload_n 3, 1) := by decide +kernel
theorem dX7_bar_47 : decode cX7_bar 47 = .ok (.iload 4, 2) := by decide +kernel
theorem dX7_bar_49 : decode cX7_bar 49 = .ok (.iload 5, 2) := by decide +kernel
theorem dX7_bar_51 : decode cX7_bar 51 = .ok (.invokevirtual 94, 3) := by decide +kernel
theorem dX7_bar_54 : decode cX7_bar 54 = .ok (.ifCond .eq 7, 3) := by decide +kernel
theorem dX7_bar_57 : decode cX7_bar 57 = .ok (.iconst 0, 1) := by decide +kernel
theorem dX7_bar_58 : decode cX7_bar 58 = .ok (.goto 8, 3) := by decide +kernel
theorem dX7_bar_61 : decode cX7_bar 61 = .ok (.aload_n 0, 1) := by decide +kernel
theorem dX7_bar_62 : decode cX7_bar 62 = .ok (.iconst 2, 1) := by decide +kernel
theorem dX7_bar_63 : decode cX7_bar 63 = .ok (.invokevirtual 80, 3) := by decide +kernel
theorem dX7_bar_66 : decode cX7_bar 66 = .ok (.ireturn, 1) := by decide +kernel
theorem dX7_all_0 : decode cX7_all 0 = .ok (.iconst 0, 1) := by decide +kernel
theorem dX7_all_1 : decode cX7_all 1 = .ok (.istore 7, 2) := by decide +kernel
theorem dX7_all_3 : decode cX7_all 3 = .ok (.iload_n 2, 1) := by decide +kernel
theorem dX7_all_4 : decode cX7_all 4 = .ok (.istore 8, 2) := by decide +kernel
theorem dX7_all_6 : decode cX7_all 6 = .ok (.iload 8, 2) := by decide +kernel
theorem dX7_all_8 : decode cX7_all 8 = .ok (.iload_n 3, 1) := by decide +kernel
theorem dX7_all_9 : decode cX7_all 9 = .ok (.if_icmp .gt 56, 3) := by decide +kernel
theorem dX7_all_12 : decode cX7_all 12 = .ok (.aload_n 0, 1) := by decide +kernel
theorem dX7_all_13 : decode cX7_all 13 = .ok (.getfield 25, 3) := by decide +kernel
theorem dX7_all_16 : decode cX7_all 16 = .ok (.iconst 0, 1) := by decide +kernel
theorem dX7_all_17 : decode cX7_all 17 = .ok (.aload_n 0, 1) := by decide +kernel
theorem dX7_all_18 : decode cX7_all 18 = .ok (.getfield 31, 3) := by decide +kernel
theorem dX7_all_21 : decode cX7_all 21 = .ok (.iconst 0, 1) := by decide +kernel
theorem dX7_all_22 : decode cX7_all 22 = .ok (.invokestatic 156, 3) := by decide +kernel
theorem dX7_all_25 : decode cX7_all 25 = .ok (.aload_n 0, 1) := by decide +kernel
theorem dX7_all_26 : decode cX7_all 26 = .ok (.getfield 31, 3) := by decide +kernel
theorem dX7_all_29 : decode cX7_all 29 = .ok (.iload_n 1, 1) := by decide +kernel
theorem dX7_all_30 : decode cX7_all 30 = .ok (.iload 8, 2) := by decide +kernel
theorem dX7_all_32 : decode cX7_all 32 = .ok (.iastore, 1) := by decide +kernel
theorem dX7_all_33 : decode cX7_all 33 = .ok (.iload 7, 2) := by decide +kernel
theorem dX7_all_35 : decode cX7_all 35 = .ok (.aload_n 0, 1) := by decide +kernel
theorem dX7_all_36 : decode cX7_all 36 = .ok (.iload 4, 2) := by decide +kernel
theorem dX7_all_38 : decode cX7_all 38 = .ok (.iload 5, 2) := by decide +kernel
theorem dX7_all_40 : decode cX7_all 40 = .ok (.iload 6, 2) := by decide +kernel
theorem dX7_all_42 : decode cX7_all 42 = .ok (.invokevirtual 229, 3) := by decide +kernel
theorem dX7_all_45 : decode cX7_all 45 = .ok (.ifCond .eq 10, 3) := by decide +kernel
theorem dX7_all_48 : decode cX7_all 48 = .ok (.iconst 1, 1) := by decide +kernel
theorem dX7_all_49 : decode cX7_all 49 = .ok (.iload 8, 2) := by decide +kernel
theorem dX7_all_51 : decode cX7_all 51 = .ok (.ishl, 1) := by decide +kernel
theorem dX7_all_52 : decode cX7_all 52 = .ok (.goto 4, 3) := by decide +kernel
theorem dX7_all_55 : decode cX7_all 55 = .ok (.iconst 0, 1) := by decide +kernel
theorem dX7_all_56 : decode cX7_all 56 = .ok (.ior, 1) := by decide +kernel
theorem dX7_all_57 : decode cX7_all 57 = .ok (.istore 7, 2) := by decide +kernel
theorem dX7_all_59 : decode cX7_all 59 = .ok (.iinc 8 1, 3) := by decide +kernel
theorem dX7_all_62 : decode cX7_all 62 = .ok (.goto (-56), 3) := by decide +kernel
theorem dX7_all_65 : decode cX7_all 65 = .ok (.aload_n 0, 1) := by decide +kernel
theorem dX7_all_66 : decode cX7_all 66 = .ok (.iload 7, 2) := by decide +kernel
theorem dX7_all_68 : decode cX7_all 68 = .ok (.invokevirtual 84, 3) := by decide +kernel
theorem dX7_all_71 : decode cX7_all 71 = .ok (.ireturn, 1) := by decide +kernel
theorem dX7_fits_0 : decode cX7_fits 0 = .ok (.aload_n 0, 1) := by decide +kernel
theorem dX7_fits_1 : decode cX7_fits 1 = .ok (.invokevirtual 191, 3) := by decide +kernel
theorem dX7_fits_4 : decode cX7_fits 4 = .ok (.ifCond .ne 6, 3) := by decide +kernel
theorem dX7_fits_7 : decode cX7_fits 7 = .ok (.ldc 180, 2) := by decide +kernel
theorem dX7_fits_9 : decode cX7_fits 9 = .ok (.ireturn, 1) := by decide +kernel
theorem dX7_fits_10 : decode cX7_fits 10 = .ok (.iload_n 1, 1) := by decide +kernel
theorem dX7_fits_11 : decode cX7_fits 11 = .ok (.invokestatic 75, 3) := by decide +kernel
theorem dX7_fits_14 : decode cX7_fits 14 = .ok (.ifCond .eq 31, 3) := by decide +kernel
theorem dX7_fits_17 : decode cX7_fits 17 = .ok (.iload_n 3, 1) := by decide +kernel
theorem dX7_fits_18 : decode cX7_fits 18 = .ok (.invokestatic 75, 3) := by decide +kernel
theorem dX7_fits_21 : decode cX7_fits 21 = .ok (.ifCond .eq 24, 3) := by decide +kernel
theorem dX7_fits_24 : decode cX7_fits 24 = .ok (.iload 5, 2) := by decide +kernel
theorem dX7_fits_26 : decode cX7_fits 26 = .ok (.iconst 1, 1) := by decide +kernel
theorem dX7_fits_27 : decode cX7_fits 27 = .ok (.bipush 8, 2) := by decide +kernel
theorem dX7_fits_29 : decode cX7_fits 29 = .ok (.invokestatic 71, 3) := by decide +kernel
theorem dX7_fits_32 : decode cX7_fits 32 = .ok (.ifCond .eq 13, 3) := by decide +kernel
theorem dX7_fits_35 : decode cX7_fits 35 = .ok (.iload 6, 2) := by decide +kernel
theorem dX7_fits_37 : decode cX7_fits 37 = .ok (.iconst 0, 1) := by decide +kernel
theorem dX7_fits_38 : decode cX7_fits 38 = .ok (.iconst 1, 1) := by decide +kernel
theorem dX7_fits_39 : decode cX7_fits 39 = .ok (.invokestatic 71, 3) := by decide +kernel
theorem dX7_fits_42 : decode cX7_fits 42 = .ok (.ifCond .ne 6, 3) := by decide +kernel
theorem dX7_fits_45 : decode cX7_fits 45 = .ok (.ldc 79, 2) := by decide +kernel
theorem dX7_fits_47 : decode cX7_fits 47 = .ok (.ireturn, 1) := by decide +kernel
theorem dX7_fits_48 : decode cX7_fits 48 = .ok (.aload_n 0, 1) := by decide +kernel
theorem dX7_fits_49 : decode cX7_fits 49 = .ok (.iload_n 1, 1) := by decide +kernel
theorem dX7_fits_50 : decode cX7_fits 50 = .ok (.iload_n 2, 1) := by decide +kernel
theorem dX7_fits_51 : decode cX7_fits 51 = .ok (.iload_n 3, 1) := by decide +kernel
theorem dX7_fits_52 : decode cX7_fits 52 = .ok (.iload 4, 2) := by decide +kernel
theorem dX7_fits_54 : decode cX7_fits 54 = .ok (.iload 5, 2) := by decide +kernel
theorem dX7_fits_56 : decode cX7_fits 56 = .ok (.invokevirtual 232, 3) := by decide +kernel
theorem dX7_fits_59 : decode cX7_fits 59 = .ok (.istore 7, 2) := by decide +kernel
theorem dX7_fits_61 : decode cX7_fits 61 = .ok (.iload 7, 2) := by decide +kernel
theorem dX7_fits_63 : decode cX7_fits 63 = .ok (.ifCond .eq 6, 3) := by decide +kernel
theorem dX7_fits_66 : decode cX7_fits 66 = .ok (.iload 7, 2) := by decide +kernel
theorem dX7_fits_68 : decode cX7_fits 68 = .ok (.ireturn, 1) := by decide +kernel
theorem dX7_fits_69 : decode cX7_fits 69 = .ok (.iload 6, 2) := by decide +kernel
theorem dX7_fits_71 : decode cX7_fits 71 = .ok (.ifCond .ne 29, 3) := by decide +kernel
theorem dX7_fits_74 : decode cX7_fits 74 = .ok (.aload_n 0, 1) := by decide +kernel
theorem dX7_fits_75 : decode cX7_fits 75 = .ok (.iconst 1, 1) := by decide +kernel
theorem dX7_fits_76 : decode cX7_fits 76 = .ok (.iconst 0, 1) := by decide +kernel
theorem dX7_fits_77 : decode cX7_fits 77 = .ok (.bipush 9, 2) := by decide +kernel
theorem dX7_fits_79 : decode cX7_fits 79 = .ok (.bipush 40, 2) := by decide +kernel
theorem dX7_fits_81 : decode cX7_fits 81 = .ok (.iload_n 1, 1) := by decide +kernel
theorem dX7_fits_82 : decode cX7_fits 82 = .ok (.imul, 1) := by decide +kernel
theorem dX7_fits_83 : decode cX7_fits 83 = .ok (.iload_n 2, 1) := by decide +kernel
theorem dX7_fits_84 : decode cX7_fits 84 = .ok (.iadd, 1) := by decide +kernel
theorem dX7_fits_85 : decode cX7_fits 85 = .ok (.bipush 40, 2) := by decide +kernel
theorem dX7_fits_87 : decode cX7_fits 87 = .ok (.iload_n 3, 1) := by decide +kernel
theorem dX7_fits_88 : decode cX7_fits 88 = .ok (.imul, 1) := by decide +kernel
theorem dX7_fits_89 : decode cX7_fits 89 = .ok (.iload 4, 2) := by decide +kernel
theorem dX7_fits_91 : decode cX7_fits 91 = .ok (.iadd, 1) := by decide +kernel
theorem dX7_fits_92 : decode cX7_fits 92 = .ok (.iload 5, 2) := by decide +kernel
theorem dX7_fits_94 : decode cX7_fits 94 = .ok (.invokevirtual 236, 3) := by decide +kernel
theorem dX7_fits_97 : decode cX7_fits 97 = .ok (.goto 26, 3) := by decide +kernel
theorem dX7_fits_100 : decode cX7_fits 100 = .ok (.aload_n 0, 1) := by decide +kernel
theorem dX7_fits_101 : decode cX7_fits 101 = .ok (.iconst 0, 1) := by decide +kernel
theorem dX7_fits_102 : decode cX7_fits 102 = .ok (.iconst 1, 1) := by decide +kernel
theorem dX7_fits_103 : decode cX7_fits 103 = .ok (.bipush 9, 2) := by decide +kernel
theorem dX7_fits_105 : decode cX7_fits 105 = .ok (.bipush 40, 2) := by decide +kernel
theorem dX7_fits_107 : decode cX7_fits 107 = .ok (.iload_n 1, 1) := by decide +kernel
theorem dX7_fits_108 : decode cX7_fits 108 = .ok (.imul, 1) := by decide +kernel
theorem dX7_fits_109 : decode cX7_fits 109 = .ok (.iload_n 2, 1) := by decide +kernel
theorem dX7_fits_110 : decode cX7_fits 110 = .ok (.iadd, 1) := by decide +kernel
theorem dX7_fits_111 : decode cX7_fits 111 = .ok (.bipush 40, 2) := by decide +kernel
theorem dX7_fits_113 : decode cX7_fits 113 = .ok (.iload_n 3, 1) := by decide +kernel
theorem dX7_fits_114 : decode cX7_fits 114 = .ok (.imul, 1) := by decide +kernel
theorem dX7_fits_115 : decode cX7_fits 115 = .ok (.iload 4, 2) := by decide +kernel
theorem dX7_fits_117 : decode cX7_fits 117 = .ok (.iadd, 1) := by decide +kernel
theorem dX7_fits_118 : decode cX7_fits 118 = .ok (.iload 5, 2) := by decide +kernel
theorem dX7_fits_120 : decode cX7_fits 120 = .ok (.invokevirtual 236, 3) := by decide +kernel
theorem dX7_fits_123 : decode cX7_fits 123 = .ok (.ireturn, 1) := by decide +kernel
theorem dX7_fitsOf_0 : decode cX7_fitsOf 0 = .ok (.aload_n 0, 1) := by decide +kernel
theorem dX7_fitsOf_1 : decode cX7_fitsOf 1 = .ok (.iload_n 1, 1) := by decide +kernel
theorem dX7_fitsOf_2 : decode cX7_fitsOf 2 = .ok (.invokevirtual 188, 3) := by decide +kernel
theorem dX7_fitsOf_5 : decode cX7_fitsOf 5 = .ok (.ifCond .eq 39, 3) := by decide +kernel
theorem dX7_fitsOf_8 : decode cX7_fitsOf 8 = .ok (.iload_n 2, 1) := by decide +kernel
theorem dX7_fitsOf_9 : decode cX7_fitsOf 9 = .ok (.invokestatic 75, 3) := by decide +kernel
theorem dX7_fitsOf_12 : decode cX7_fitsOf 12 = .ok (.ifCond .eq 32, 3) := by decide +kernel
theorem dX7_fitsOf_15 : decode cX7_fitsOf 15 = .ok (.iload 4, 2) := by decide +kernel
theorem dX7_fitsOf_17 : decode cX7_fitsOf 17 = .ok (.invokestatic 75, 3) := by decide +kernel
theorem dX7_fitsOf_20 : decode cX7_fitsOf 20 = .ok (.ifCond .eq 24, 3) := by decide +kernel
theorem dX7_fitsOf_23 : decode cX7_fitsOf 23 = .ok (.iload 6, 2) := by decide +kernel
theorem dX7_fitsOf_25 : decode cX7_fitsOf 25 = .ok (.iconst 1, 1) := by decide +kernel
theorem dX7_fitsOf_26 : decode cX7_fitsOf 26 = .ok (.bipush 8, 2) := by decide +kernel
theorem dX7_fitsOf_28 : decode cX7_fitsOf 28 = .ok (.invokestatic 71, 3) := by decide +kernel
theorem dX7_fitsOf_31 : decode cX7_fitsOf 31 = .ok (.ifCond .eq 13, 3) := by decide +kernel
theorem dX7_fitsOf_34 : decode cX7_fitsOf 34 = .ok (.iload 7, 2) := by decide +kernel
theorem dX7_fitsOf_36 : decode cX7_fitsOf 36 = .ok (.iconst 0, 1) := by decide +kernel
theorem dX7_fitsOf_37 : decode cX7_fitsOf 37 = .ok (.iconst 1, 1) := by decide +kernel
theorem dX7_fitsOf_38 : decode cX7_fitsOf 38 = .ok (.invokestatic 71, 3) := by decide +kernel
theorem dX7_fitsOf_41 : decode cX7_fitsOf 41 = .ok (.ifCond .ne 6, 3) := by decide +kernel
theorem dX7_fitsOf_44 : decode cX7_fitsOf 44 = .ok (.ldc 79, 2) := by decide +kernel
theorem dX7_fitsOf_46 : decode cX7_fitsOf 46 = .ok (.ireturn, 1) := by decide +kernel
theorem dX7_fitsOf_47 : decode cX7_fitsOf 47 = .ok (.aload_n 0, 1) := by decide +kernel
theorem dX7_fitsOf_48 : decode cX7_fitsOf 48 = .ok (.iload_n 2, 1) := by decide +kernel
theorem dX7_fitsOf_49 : decode cX7_fitsOf 49 = .ok (.iload_n 3, 1) := by decide +kernel
theorem dX7_fitsOf_50 : decode cX7_fitsOf 50 = .ok (.iload 4, 2) := by decide +kernel
theorem dX7_fitsOf_52 : decode cX7_fitsOf 52 = .ok (.iload 5, 2) := by decide +kernel
theorem dX7_fitsOf_54 : decode cX7_fitsOf 54 = .ok (.iload 6, 2) := by decide +kernel
theorem dX7_fitsOf_56 : decode cX7_fitsOf 56 = .ok (.invokevirtual 232, 3) := by decide +kernel
theorem dX7_fitsOf_59 : decode cX7_fitsOf 59 = .ok (.istore 8, 2) := by decide +kernel
theorem dX7_fitsOf_61 : decode cX7_fitsOf 61 = .ok (.iload 8, 2) := by decide +kernel
theorem dX7_fitsOf_63 : decode cX7_fitsOf 63 = .ok (.ifCond .eq 6, 3) := by decide +kernel
theorem dX7_fitsOf_66 : decode cX7_fitsOf 66 = .ok (.iload 8, 2) := by decide +kernel
theorem dX7_fitsOf_68 : decode cX7_fitsOf 68 = .ok (.ireturn, 1) := by decide +kernel
theorem dX7_fitsOf_69 : decode cX7_fitsOf 69 = .ok (.bipush 7, 2) := by decide +kernel
theorem dX7_fitsOf_71 : decode cX7_fitsOf 71 = .ok (.iconst 3, 1) := by decide +kernel
theorem dX7_fitsOf_72 : decode cX7_fitsOf 72 = .ok (.iload_n 1, 1) := by decide +kernel
theorem dX7_fitsOf_73 : decode cX7_fitsOf 73 = .ok (.imul, 1) := by decide +kernel
theorem dX7_fitsOf_74 : decode cX7_fitsOf 74 = .ok (.iadd, 1) := by decide +kernel
theorem dX7_fitsOf_75 : decode cX7_fitsOf 75 = .ok (.istore 9, 2) := by decide +kernel
theorem dX7_fitsOf_77 : decode cX7_fitsOf 77 = .ok (.iload 7, 2) := by decide +kernel
theorem dX7_fitsOf_79 : decode cX7_fitsOf 79 = .ok (.ifCond .ne 30, 3) := by decide +kernel
theorem dX7_fitsOf_82 : decode cX7_fitsOf 82 = .ok (.aload_n 0, 1) := by decide +kernel
theorem dX7_fitsOf_83 : decode cX7_fitsOf 83 = .ok (.iload 9, 2) := by decide +kernel
theorem dX7_fitsOf_85 : decode cX7_fitsOf 85 = .ok (.iconst 1, 1) := by decide +kernel
theorem dX7_fitsOf_86 : decode cX7_fitsOf 86 = .ok (.iconst 5, 1) := by decide +kernel
theorem dX7_fitsOf_87 : decode cX7_fitsOf 87 = .ok (.bipush 40, 2) := by decide +kernel
theorem dX7_fitsOf_89 : decode cX7_fitsOf 89 = .ok (.iload_n 2, 1) := by decide +kernel
theorem dX7_fitsOf_90 : decode cX7_fitsOf 90 = .ok (.imul, 1) := by decide +kernel
theorem dX7_fitsOf_91 : decode cX7_fitsOf 91 = .ok (.iload_n 3, 1) := by decide +kernel
theorem dX7_fitsOf_92 : decode cX7_fitsOf 92 = .ok (.iadd, 1) := by decide +kernel
theorem dX7_fitsOf_93 : decode cX7_fitsOf 93 = .ok (.bipush 40, 2) := by decide +kernel
theorem dX7_fitsOf_95 : decode cX7_fitsOf 95 = .ok (.iload 4, 2) := by decide +kernel
theorem dX7_fitsOf_97 : decode cX7_fitsOf 97 = .ok (.imul, 1) := by decide +kernel
theorem dX7_fitsOf_98 : decode cX7_fitsOf 98 = .ok (.iload 5, 2) := by decide +kernel
theorem dX7_fitsOf_100 : decode cX7_fitsOf 100 = .ok (.iadd, 1) := by decide +kernel
theorem dX7_fitsOf_101 : decode cX7_fitsOf 101 = .ok (.iload 6, 2) := by decide +kernel
theorem dX7_fitsOf_103 : decode cX7_fitsOf 103 = .ok (.invokevirtual 236, 3) := by decide +kernel
theorem dX7_fitsOf_106 : decode cX7_fitsOf 106 = .ok (.goto 30, 3) := by decide +kernel
theorem dX7_fitsOf_109 : decode cX7_fitsOf 109 = .ok (.aload_n 0, 1) := by decide +kernel
theorem dX7_fitsOf_110 : decode cX7_fitsOf 110 = .ok (.iload 9, 2) := by decide +kernel
theorem dX7_fitsOf_112 : decode cX7_fitsOf 112 = .ok (.iconst 1, 1) := by decide +kernel
theorem dX7_fitsOf_113 : decode cX7_fitsOf 113 = .ok (.iadd, 1) := by decide +kernel
theorem dX7_fitsOf_114 : decode cX7_fitsOf 114 = .ok (.iconst 0, 1) := by decide +kernel
theorem dX7_fitsOf_115 : decode cX7_fitsOf 115 = .ok (.bipush 9, 2) := by decide +kernel
theorem dX7_fitsOf_117 : decode cX7_fitsOf 117 = .ok (.bipush 40, 2) := by decide +kernel
theorem dX7_fitsOf_119 : decode cX7_fitsOf 119 = .ok (.iload_n 2, 1) := by decide +kernel
theorem dX7_fitsOf_120 : decode cX7_fitsOf 120 = .ok (.imul, 1) := by decide +kernel
theorem dX7_fitsOf_121 : decode cX7_fitsOf 121 = .ok (.iload_n 3, 1) := by decide +kernel
theorem dX7_fitsOf_122 : decode cX7_fitsOf 122 = .ok (.iadd, 1) := by decide +kernel
theorem dX7_fitsOf_123 : decode cX7_fitsOf 123 = .ok (.bipush 40, 2) := by decide +kernel
theorem dX7_fitsOf_125 : decode cX7_fitsOf 125 = .ok (.iload 4, 2) := by decide +kernel
theorem dX7_fitsOf_127 : decode cX7_fitsOf 127 = .ok (.imul, 1) := by decide +kernel
theorem dX7_fitsOf_128 : decode cX7_fitsOf 128 = .ok (.iload 5, 2) := by decide +kernel
theorem dX7_fitsOf_130 : decode cX7_fitsOf 130 = .ok (.iadd, 1) := by decide +kernel
theorem dX7_fitsOf_131 : decode cX7_fitsOf 131 = .ok (.iload 6, 2) := by decide +kernel
theorem dX7_fitsOf_133 : decode cX7_fitsOf 133 = .ok (.invokevirtual 236, 3) := by decide +kernel
theorem dX7_fitsOf_136 : decode cX7_fitsOf 136 = .ok (.ireturn, 1) := by decide +kernel
theorem dX7_share_0 : decode cX7_share 0 = .ok (.aload_n 0, 1) := by decide +kernel
theorem dX7_share_1 : decode cX7_share 1 = .ok (.invokevirtual 191, 3) := by decide +kernel
theorem dX7_share_4 : decode cX7_share 4 = .ok (.ifCond .ne 6, 3) := by decide +kernel
theorem dX7_share_7 : decode cX7_share 7 = .ok (.ldc 180, 2) := by decide +kernel
theorem dX7_share_9 : decode cX7_share 9 = .ok (.ireturn, 1) := by decide +kernel
theorem dX7_share_10 : decode cX7_share 10 = .ok (.iload_n 1, 1) := by decide +kernel
theorem dX7_share_11 : decode cX7_share 11 = .ok (.invokestatic 75, 3) := by decide +kernel
theorem dX7_share_14 : decode cX7_share 14 = .ok (.ifCond .eq 25, 3) := by decide +kernel
theorem dX7_share_17 : decode cX7_share 17 = .ok (.iload_n 3, 1) := by decide +kernel
theorem dX7_share_18 : decode cX7_share 18 = .ok (.iconst 1, 1) := by decide +kernel
theorem dX7_share_19 : decode cX7_share 19 = .ok (.bipush 8, 2) := by decide +kernel
theorem dX7_share_21 : decode cX7_share 21 = .ok (.invokestatic 71, 3) := by decide +kernel
theorem dX7_share_24 : decode cX7_share 24 = .ok (.ifCond .eq 15, 3) := by decide +kernel
theorem dX7_share_27 : decode cX7_share 27 = .ok (.iload 4, 2) := by decide +kernel
theorem dX7_share_29 : decode cX7_share 29 = .ok (.iconst 0, 1) := by decide +kernel
theorem dX7_share_30 : decode cX7_share 30 = .ok (.iload_n 3, 1) := by decide +kernel
theorem dX7_share_31 : decode cX7_share 31 = .ok (.iconst 1, 1) := by decide +kernel
theorem dX7_share_32 : decode cX7_share 32 = .ok (.isub, 1) := by decide +kernel
theorem dX7_share_33 : decode cX7_share 33 = .ok (.invokestatic 71, 3) := by decide +kernel
theorem dX7_share_36 : decode cX7_share 36 = .ok (.ifCond .ne 6, 3) := by decide +kernel
theorem dX7_share_39 : decode cX7_share 39 = .ok (.ldc 79, 2) := by decide +kernel
theorem dX7_share_41 : decode cX7_share 41 = .ok (.ireturn, 1) := by decide +kernel
theorem dX7_share_42 : decode cX7_share 42 = .ok (.aload_n 0, 1) := by decide +kernel
theorem dX7_share_43 : decode cX7_share 43 = .ok (.iload_n 1, 1) := by decide +kernel
theorem dX7_share_44 : decode cX7_share 44 = .ok (.invokevirtual 87, 3) := by decide +kernel
theorem dX7_share_47 : decode cX7_share 47 = .ok (.ifCond .eq 9, 3) := by decide +kernel
theorem dX7_share_50 : decode cX7_share 50 = .ok (.aload_n 0, 1) := by decide +kernel
theorem dX7_share_51 : decode cX7_share 51 = .ok (.iconst 1, 1) := by decide +kernel
theorem dX7_share_52 : decode cX7_share 52 = .ok (.invokevirtual 80, 3) := by decide +kernel
theorem dX7_share_55 : decode cX7_share 55 = .ok (.ireturn, 1) := by decide +kernel
theorem dX7_share_56 : decode cX7_share 56 = .ok (.aload_n 0, 1) := by decide +kernel
theorem dX7_share_57 : decode cX7_share 57 = .ok (.iload_n 1, 1) := by decide +kernel
theorem dX7_share_58 : decode cX7_share 58 = .ok (.iload_n 2, 1) := by decide +kernel
theorem dX7_share_59 : decode cX7_share 59 = .ok (.iload_n 3, 1) := by decide +kernel
theorem dX7_share_60 : decode cX7_share 60 = .ok (.invokevirtual 94, 3) := by decide +kernel
theorem dX7_share_63 : decode cX7_share 63 = .ok (.ifCond .ne 9, 3) := by decide +kernel
theorem dX7_share_66 : decode cX7_share 66 = .ok (.aload_n 0, 1) := by decide +kernel
theorem dX7_share_67 : decode cX7_share 67 = .ok (.iconst 2, 1) := by decide +kernel
theorem dX7_share_68 : decode cX7_share 68 = .ok (.invokevirtual 80, 3) := by decide +kernel
theorem dX7_share_71 : decode cX7_share 71 = .ok (.ireturn, 1) := by decide +kernel
theorem dX7_share_72 : decode cX7_share 72 = .ok (.aload_n 0, 1) := by decide +kernel
theorem dX7_share_73 : decode cX7_share 73 = .ok (.getfield 25, 3) := by decide +kernel
theorem dX7_share_76 : decode cX7_share 76 = .ok (.iconst 0, 1) := by decide +kernel
theorem dX7_share_77 : decode cX7_share 77 = .ok (.aload_n 0, 1) := by decide +kernel
theorem dX7_share_78 : decode cX7_share 78 = .ok (.getfield 31, 3) := by decide +kernel
theorem dX7_share_81 : decode cX7_share 81 = .ok (.iconst 0, 1) := by decide +kernel
theorem dX7_share_82 : decode cX7_share 82 = .ok (.invokestatic 156, 3) := by decide +kernel
theorem dX7_share_85 : decode cX7_share 85 = .ok (.iconst 0, 1) := by decide +kernel
theorem dX7_share_86 : decode cX7_share 86 = .ok (.istore 5, 2) := by decide +kernel
theorem dX7_share_88 : decode cX7_share 88 = .ok (.iconst 0, 1) := by decide +kernel
theorem dX7_share_89 : decode cX7_share 89 = .ok (.istore 6, 2) := by decide +kernel
theorem dX7_share_91 : decode cX7_share 91 = .ok (.iload 6, 2) := by decide +kernel
theorem dX7_share_93 : decode cX7_share 93 = .ok (.iload_n 3, 1) := by decide +kernel
theorem dX7_share_94 : decode cX7_share 94 = .ok (.if_icmp .ge 110, 3) := by decide +kernel
theorem dX7_share_97 : decode cX7_share 97 = .ok (.aload_n 0, 1) := by decide +kernel
theorem dX7_share_98 : decode cX7_share 98 = .ok (.getfield 16, 3) := by decide +kernel
theorem dX7_share_101 : decode cX7_share 101 = .ok (.bipush 40, 2) := by decide +kernel
theorem dX7_share_103 : decode cX7_share 103 = .ok (.iload_n 1, 1) := by decide +kernel
theorem dX7_share_104 : decode cX7_share 104 = .ok (.imul, 1) := by decide +kernel
theorem dX7_share_105 : decode cX7_share 105 = .ok (.iload_n 2, 1) := by decide +kernel
theorem dX7_share_106 : decode cX7_share 106 = .ok (.iadd, 1) := by decide +kernel
theorem dX7_share_107 : decode cX7_share 107 = .ok (.iload 6, 2) := by decide +kernel
theorem dX7_share_109 : decode cX7_share 109 = .ok (.iadd, 1) := by decide +kernel
theorem dX7_share_110 : decode cX7_share 110 = .ok (.iaload, 1) := by decide +kernel
theorem dX7_share_111 : decode cX7_share 111 = .ok (.istore 7, 2) := by decide +kernel
theorem dX7_share_113 : decode cX7_share 113 = .ok (.aload_n 0, 1) := by decide +kernel
theorem dX7_share_114 : decode cX7_share 114 = .ok (.getfield 31, 3) := by decide +kernel
theorem dX7_share_117 : decode cX7_share 117 = .ok (.iload 7, 2) := by decide +kernel
theorem dX7_share_119 : decode cX7_share 119 = .ok (.aload_n 0, 1) := by decide +kernel
theorem dX7_share_120 : decode cX7_share 120 = .ok (.getfield 31, 3) := by decide +kernel
theorem dX7_share_123 : decode cX7_share 123 = .ok (.iconst 4, 1) := by decide +kernel
theorem dX7_share_124 : decode cX7_share 124 = .ok (.iaload, 1) := by decide +kernel
theorem dX7_share_125 : decode cX7_share 125 = .ok (.invokestatic 176, 3) := by decide +kernel
theorem dX7_share_128 : decode cX7_share 128 = .ok (.ifCond .ne 10, 3) := by decide +kernel
theorem dX7_share_131 : decode cX7_share 131 = .ok (.aload_n 0, 1) := by decide +kernel
theorem dX7_share_132 : decode cX7_share 132 = .ok (.ldc 65, 2) := by decide +kernel
theorem dX7_share_134 : decode cX7_share 134 = .ok (.invokevirtual 84, 3) := by decide +kernel
theorem dX7_share_137 : decode cX7_share 137 = .ok (.ireturn, 1) := by decide +kernel
theorem dX7_share_138 : decode cX7_share 138 = .ok (.iload 5, 2) := by decide +kernel
theorem dX7_share_140 : decode cX7_share 140 = .ok (.iload 6, 2) := by decide +kernel
theorem dX7_share_142 : decode cX7_share 142 = .ok (.iload 4, 2) := by decide +kernel
theorem dX7_share_144 : decode cX7_share 144 = .ok (.if_icmp .ge 7, 3) := by decide +kernel
theorem dX7_share_147 : decode cX7_share 147 = .ok (.iconst 0, 1) := by decide +kernel
theorem dX7_share_148 : decode cX7_share 148 = .ok (.goto 38, 3) := by decide +kernel
theorem dX7_share_151 : decode cX7_share 151 = .ok (.aload_n 0, 1) := by decide +kernel
theorem dX7_share_152 : decode cX7_share 152 = .ok (.getfield 31, 3) := by decide +kernel
theorem dX7_share_155 : decode cX7_share 155 = .ok (.aload_n 0, 1) := by decide +kernel
theorem dX7_share_156 : decode cX7_share 156 = .ok (.getfield 31, 3) := by decide +kernel
theorem dX7_share_159 : decode cX7_share 159 = .ok (.bipush 26, 2) := by decide +kernel
theorem dX7_share_161 : decode cX7_share 161 = .ok (.iconst 2, 1) := by decide +kernel
theorem dX7_share_162 : decode cX7_share 162 = .ok (.iload 7, 2) := by decide +kernel
theorem dX7_share_164 : decode cX7_share 164 = .ok (.imul, 1) := by decide +kernel
theorem dX7_share_165 : decode cX7_share 165 = .ok (.iadd, 1) := by decide +kernel
theorem dX7_share_166 : decode cX7_share 166 = .ok (.iconst 1, 1) := by decide +kernel
theorem dX7_share_167 : decode cX7_share 167 = .ok (.iadd, 1) := by decide +kernel
theorem dX7_share_168 : decode cX7_share 168 = .ok (.iaload, 1) := by decide +kernel
theorem dX7_share_169 : decode cX7_share 169 = .ok (.aload_n 0, 1) := by decide +kernel
theorem dX7_share_170 : decode cX7_share 170 = .ok (.getfield 31, 3) := by decide +kernel
theorem dX7_share_173 : decode cX7_share 173 = .ok (.iconst 1, 1) := by decide +kernel
theorem dX7_share_174 : decode cX7_share 174 = .ok (.iaload, 1) := by decide +kernel
theorem dX7_share_175 : decode cX7_share 175 = .ok (.aload_n 0, 1) := by decide +kernel
theorem dX7_share_176 : decode cX7_share 176 = .ok (.getfield 31, 3) := by decide +kernel
theorem dX7_share_179 : decode cX7_share 179 = .ok (.iconst 3, 1) := by decide +kernel
theorem dX7_share_180 : decode cX7_share 180 = .ok (.iaload, 1) := by decide +kernel
theorem dX7_share_181 : decode cX7_share 181 = .ok (.invokestatic 170, 3) := by decide +kernel
theorem dX7_share_184 : decode cX7_share 184 = .ok (.iconst 2, 1) := by decide +kernel
theorem dX7_share_185 : decode cX7_share 185 = .ok (.idiv, 1) := by decide +kernel
theorem dX7_share_186 : decode cX7_share 186 = .ok (.iadd, 1) := by decide +kernel
theorem dX7_share_187 : decode cX7_share 187 = .ok (.istore 5, 2) := by decide +kernel
theorem dX7_share_189 : decode cX7_share 189 = .ok (.aload_n 0, 1) := by decide +kernel
theorem dX7_share_190 : decode cX7_share 190 = .ok (.getfield 31, 3) := by decide +kernel
theorem dX7_share_193 : decode cX7_share 193 = .ok (.iload 7, 2) := by decide +kernel
theorem dX7_share_195 : decode cX7_share 195 = .ok (.invokestatic 184, 3) := by decide +kernel
theorem dX7_share_198 : decode cX7_share 198 = .ok (.iinc 6 1, 3) := by decide +kernel
theorem dX7_share_201 : decode cX7_share 201 = .ok (.goto (-110), 3) := by decide +kernel
theorem dX7_share_204 : decode cX7_share 204 = .ok (.aload_n 0, 1) := by decide +kernel
theorem dX7_share_205 : decode cX7_share 205 = .ok (.iload 5, 2) := by decide +kernel
theorem dX7_share_207 : decode cX7_share 207 = .ok (.invokevirtual 84, 3) := by decide +kernel
theorem dX7_share_210 : decode cX7_share 210 = .ok (.ireturn, 1) := by decide +kernel
theorem dX7_shut_0 : decode cX7_shut 0 = .ok (.aload_n 0, 1) := by decide +kernel
theorem dX7_shut_1 : decode cX7_shut 1 = .ok (.iload_n 1, 1) := by decide +kernel
theorem dX7_shut_2 : decode cX7_shut 2 = .ok (.invokevirtual 188, 3) := by decide +kernel
theorem dX7_shut_5 : decode cX7_shut 5 = .ok (.ifCond .eq 34, 3) := by decide +kernel
theorem dX7_shut_8 : decode cX7_shut 8 = .ok (.iload_n 2, 1) := by decide +kernel
theorem dX7_shut_9 : decode cX7_shut 9 = .ok (.iconst 0, 1) := by decide +kernel
theorem dX7_shut_10 : decode cX7_shut 10 = .ok (.sipush 999, 3) := by decide +kernel
theorem dX7_shut_13 : decode cX7_shut 13 = .ok (.invokestatic 71, 3) := by decide +kernel
theorem dX7_shut_16 : decode cX7_shut 16 = .ok (.ifCond .eq 23, 3) := by decide +kernel
theorem dX7_shut_19 : decode cX7_shut 19 = .ok (.iload_n 3, 1) := by decide +kernel
theorem dX7_shut_20 : decode cX7_shut 20 = .ok (.iconst 0, 1) := by decide +kernel
theorem dX7_shut_21 : decode cX7_shut 21 = .ok (.bipush 10, 2) := by decide +kernel
theorem dX7_shut_23 : decode cX7_shut 23 = .ok (.invokestatic 71, 3) := by decide +kernel
theorem dX7_shut_26 : decode cX7_shut 26 = .ok (.ifCond .eq 13, 3) := by decide +kernel
theorem dX7_shut_29 : decode cX7_shut 29 = .ok (.iload 4, 2) := by decide +kernel
theorem dX7_shut_31 : decode cX7_shut 31 = .ok (.iconst 0, 1) := by decide +kernel
theorem dX7_shut_32 : decode cX7_shut 32 = .ok (.iconst 1, 1) := by decide +kernel
theorem dX7_shut_33 : decode cX7_shut 33 = .ok (.invokestatic 71, 3) := by decide +kernel
theorem dX7_shut_36 : decode cX7_shut 36 = .ok (.ifCond .ne 6, 3) := by decide +kernel
theorem dX7_shut_39 : decode cX7_shut 39 = .ok (.ldc 79, 2) := by decide +kernel
theorem dX7_shut_41 : decode cX7_shut 41 = .ok (.ireturn, 1) := by decide +kernel
theorem dX7_shut_42 : decode cX7_shut 42 = .ok (.iconst 0, 1) := by decide +kernel
theorem dX7_shut_43 : decode cX7_shut 43 = .ok (.istore 5, 2) := by decide +kernel
theorem dX7_shut_45 : decode cX7_shut 45 = .ok (.iconst 1, 1) := by decide +kernel
theorem dX7_shut_46 : decode cX7_shut 46 = .ok (.istore 6, 2) := by decide +kernel
theorem dX7_shut_48 : decode cX7_shut 48 = .ok (.iconst 0, 1) := by decide +kernel
theorem dX7_shut_49 : decode cX7_shut 49 = .ok (.istore 7, 2) := by decide +kernel
theorem dX7_shut_51 : decode cX7_shut 51 = .ok (.iload 7, 2) := by decide +kernel
theorem dX7_shut_53 : decode cX7_shut 53 = .ok (.aload_n 0, 1) := by decide +kernel
theorem dX7_shut_54 : decode cX7_shut 54 = .ok (.getfield 25, 3) := by decide +kernel
theorem dX7_shut_57 : decode cX7_shut 57 = .ok (.bipush 25, 2) := by decide +kernel
theorem dX7_shut_59 : decode cX7_shut 59 = .ok (.iaload, 1) := by decide +kernel
theorem dX7_shut_60 : decode cX7_shut 60 = .ok (.if_icmp .ge 34, 3) := by decide +kernel
theorem dX7_shut_63 : decode cX7_shut 63 = .ok (.iload 6, 2) := by decide +kernel
theorem dX7_shut_65 : decode cX7_shut 65 = .ok (.aload_n 0, 1) := by decide +kernel
theorem dX7_shut_66 : decode cX7_shut 66 = .ok (.getfield 25, 3) := by decide +kernel
theorem dX7_shut_69 : decode cX7_shut 69 = .ok (.iconst 5, 1) := by decide +kernel
theorem dX7_shut_70 : decode cX7_shut 70 = .ok (.iaload, 1) := by decide +kernel
theorem dX7_shut_71 : decode cX7_shut 71 = .ok (.iload 7, 2) := by decide +kernel
theorem dX7_shut_73 : decode cX7_shut 73 = .ok (.invokestatic 167, 3) := by decide +kernel
theorem dX7_shut_76 : decode cX7_shut 76 = .ok (.ifCond .eq 8, 3) := by decide +kernel
theorem dX7_shut_79 : decode cX7_shut 79 = .ok (.bipush 10, 2) := by decide +kernel
theorem dX7_shut_81 : decode cX7_shut 81 = .ok (.goto 4, 3) := by decide +kernel
theorem dX7_shut_84 : decode cX7_shut 84 = .ok (.iconst 1, 1) := by decide +kernel
theorem dX7_shut_85 : decode cX7_shut 85 = .ok (.imul, 1) := by decide +kernel
theorem dX7_shut_86 : decode cX7_shut 86 = .ok (.istore 6, 2) := by decide +kernel
theorem dX7_shut_88 : decode cX7_shut 88 = .ok (.iinc 7 1, 3) := by decide +kernel
theorem dX7_shut_91 : decode cX7_shut 91 = .ok (.goto (-40), 3) := by decide +kernel
theorem dX7_shut_94 : decode cX7_shut 94 = .ok (.iconst 0, 1) := by decide +kernel
theorem dX7_shut_95 : decode cX7_shut 95 = .ok (.istore 7, 2) := by decide +kernel
theorem dX7_shut_97 : decode cX7_shut 97 = .ok (.iload 7, 2) := by decide +kernel
theorem dX7_shut_99 : decode cX7_shut 99 = .ok (.aload_n 0, 1) := by decide +kernel
theorem dX7_shut_100 : decode cX7_shut 100 = .ok (.getfield 25, 3) := by decide +kernel
theorem dX7_shut_103 : decode cX7_shut 103 = .ok (.iconst 5, 1) := by decide +kernel
theorem dX7_shut_104 : decode cX7_shut 104 = .ok (.iaload, 1) := by decide +kernel
theorem dX7_shut_105 : decode cX7_shut 105 = .ok (.if_icmp .gt 132, 3) := by decide +kernel
theorem dX7_shut_108 : decode cX7_shut 108 = .ok (.iload 7, 2) := by decide +kernel
theorem dX7_shut_110 : decode cX7_shut 110 = .ok (.aload_n 0, 1) := by decide +kernel
theorem dX7_shut_111 : decode cX7_shut 111 = .ok (.getfield 25, 3) := by decide +kernel
theorem dX7_shut_114 : decode cX7_shut 114 = .ok (.iconst 5, 1) := by decide +kernel
theorem dX7_shut_115 : decode cX7_shut 115 = .ok (.iaload, 1) := by decide +kernel
theorem dX7_shut_116 : decode cX7_shut 116 = .ok (.iconst (-1), 1) := by decide +kernel
theorem dX7_shut_117 : decode cX7_shut 117 = .ok (.ixor, 1) := by decide +kernel
theorem dX7_shut_118 : decode cX7_shut 118 = .ok (.iand, 1) := by decide +kernel
theorem dX7_shut_119 : decode cX7_shut 119 = .ok (.ifCond .ne 7, 3) := by decide +kernel
theorem dX7_shut_122 : decode cX7_shut 122 = .ok (.iconst 1, 1) := by decide +kernel
theorem dX7_shut_123 : decode cX7_shut 123 = .ok (.goto 4, 3) := by decide +kernel
theorem dX7_shut_126 : decode cX7_shut 126 = .ok (.iconst 0, 1) := by decide +kernel
theorem dX7_shut_127 : decode cX7_shut 127 = .ok (.istore 8, 2) := by decide +kernel
theorem dX7_shut_129 : decode cX7_shut 129 = .ok (.iconst 0, 1) := by decide +kernel
theorem dX7_shut_130 : decode cX7_shut 130 = .ok (.istore 9, 2) := by decide +kernel
theorem dX7_shut_132 : decode cX7_shut 132 = .ok (.iload 9, 2) := by decide +kernel
theorem dX7_shut_134 : decode cX7_shut 134 = .ok (.aload_n 0, 1) := by decide +kernel
theorem dX7_shut_135 : decode cX7_shut 135 = .ok (.getfield 25, 3) := by decide +kernel
theorem dX7_shut_138 : decode cX7_shut 138 = .ok (.bipush 25, 2) := by decide +kernel
theorem dX7_shut_140 : decode cX7_shut 140 = .ok (.iaload, 1) := by decide +kernel
theorem dX7_shut_141 : decode cX7_shut 141 = .ok (.if_icmp .ge 50, 3) := by decide +kernel
theorem dX7_shut_144 : decode cX7_shut 144 = .ok (.iload 8, 2) := by decide +kernel
theorem dX7_shut_146 : decode cX7_shut 146 = .ok (.aload_n 0, 1) := by decide +kernel
theorem dX7_shut_147 : decode cX7_shut 147 = .ok (.getfield 25, 3) := by decide +kernel
theorem dX7_shut_150 : decode cX7_shut 150 = .ok (.iconst 5, 1) := by decide +kernel
theorem dX7_shut_151 : decode cX7_shut 151 = .ok (.iaload, 1) := by decide +kernel
theorem dX7_shut_152 : decode cX7_shut 152 = .ok (.iload 9, 2) := by decide +kernel
theorem dX7_shut_154 : decode cX7_shut 154 = .ok (.invokestatic 167, 3) := by decide +kernel
theorem dX7_shut_157 : decode cX7_shut 157 = .ok (.ifCond .ne 7, 3) := by decide +kernel
theorem dX7_shut_160 : decode cX7_shut 160 = .ok (.iconst 1, 1) := by decide +kernel
theorem dX7_shut_161 : decode cX7_shut 161 = .ok (.goto 21, 3) := by decide +kernel
theorem dX7_shut_164 : decode cX7_shut 164 = .ok (.iload 7, 2) := by decide +kernel
theorem dX7_shut_166 : decode cX7_shut 166 = .ok (.iload 9, 2) := by decide +kernel
theorem dX7_shut_168 : decode cX7_shut 168 = .ok (.invokestatic 167, 3) := by decide +kernel
theorem dX7_shut_171 : decode cX7_shut 171 = .ok (.ifCond .eq 10, 3) := by decide +kernel
theorem dX7_shut_174 : decode cX7_shut 174 = .ok (.bipush 10, 2) := by decide +kernel
theorem dX7_shut_176 : decode cX7_shut 176 = .ok (.iload_n 3, 1) := by decide +kernel
theorem dX7_shut_177 : decode cX7_shut 177 = .ok (.isub, 1) := by decide +kernel
theorem dX7_shut_178 : decode cX7_shut 178 = .ok (.goto 4, 3) := by decide +kernel
theorem dX7_shut_181 : decode cX7_shut 181 = .ok (.iload_n 3, 1) := by decide +kernel
theorem dX7_shut_182 : decode cX7_shut 182 = .ok (.imul, 1) := by decide +kernel
theorem dX7_shut_183 : decode cX7_shut 183 = .ok (.istore 8, 2) := by decide +kernel
theorem dX7_shut_185 : decode cX7_shut 185 = .ok (.iinc 9 1, 3) := by decide +kernel
theorem dX7_shut_188 : decode cX7_shut 188 = .ok (.goto (-56), 3) := by decide +kernel
theorem dX7_shut_191 : decode cX7_shut 191 = .ok (.iload 8, 2) := by decide +kernel
theorem dX7_shut_193 : decode cX7_shut 193 = .ok (.ifCond .le 38, 3) := by decide +kernel
theorem dX7_shut_196 : decode cX7_shut 196 = .ok (.aload_n 0, 1) := by decide +kernel
theorem dX7_shut_197 : decode cX7_shut 197 = .ok (.iload_n 1, 1) := by decide +kernel
theorem dX7_shut_198 : decode cX7_shut 198 = .ok (.iload 7, 2) := by decide +kernel
theorem dX7_shut_200 : decode cX7_shut 200 = .ok (.invokevirtual 222, 3) := by decide +kernel
theorem dX7_shut_203 : decode cX7_shut 203 = .ok (.iload 5, 2) := by decide +kernel
theorem dX7_shut_205 : decode cX7_shut 205 = .ok (.aload_n 0, 1) := by decide +kernel
theorem dX7_shut_206 : decode cX7_shut 206 = .ok (.getfield 204, 3) := by decide +kernel
theorem dX7_shut_209 : decode cX7_shut 209 = .ok (.ldc 65, 2) := by decide +kernel
theorem dX7_shut_211 : decode cX7_shut 211 = .ok (.if_icmp .eq 16, 3) := by decide +kernel
theorem dX7_shut_214 : decode cX7_shut 214 = .ok (.aload_n 0, 1) := by decide +kernel
theorem dX7_shut_215 : decode cX7_shut 215 = .ok (.getfield 204, 3) := by decide +kernel
theorem dX7_shut_218 : decode cX7_shut 218 = .ok (.iload_n 2, 1) := by decide +kernel
theorem dX7_shut_219 : decode cX7_shut 219 = .ok (.if_icmp .gt 8, 3) := by decide +kernel
theorem dX7_shut_222 : decode cX7_shut 222 = .ok (.iload 8, 2) := by decide +kernel
theorem dX7_shut_224 : decode cX7_shut 224 = .ok (.goto 4, 3) := by decide +kernel
theorem dX7_shut_227 : decode cX7_shut 227 = .ok (.iconst 0, 1) := by decide +kernel
theorem dX7_shut_228 : decode cX7_shut 228 = .ok (.iadd, 1) := by decide +kernel
theorem dX7_shut_229 : decode cX7_shut 229 = .ok (.istore 5, 2) := by decide +kernel
theorem dX7_shut_231 : decode cX7_shut 231 = .ok (.iinc 7 1, 3) := by decide +kernel
theorem dX7_shut_234 : decode cX7_shut 234 = .ok (.goto (-137), 3) := by decide +kernel
theorem dX7_shut_237 : decode cX7_shut 237 = .ok (.iload 5, 2) := by decide +kernel
theorem dX7_shut_239 : decode cX7_shut 239 = .ok (.istore 7, 2) := by decide +kernel
theorem dX7_shut_241 : decode cX7_shut 241 = .ok (.iload 6, 2) := by decide +kernel
theorem dX7_shut_243 : decode cX7_shut 243 = .ok (.istore 8, 2) := by decide +kernel
theorem dX7_shut_245 : decode cX7_shut 245 = .ok (.iload 8, 2) := by decide +kernel
theorem dX7_shut_247 : decode cX7_shut 247 = .ok (.ifCond .eq 21, 3) := by decide +kernel
theorem dX7_shut_250 : decode cX7_shut 250 = .ok (.iload 7, 2) := by decide +kernel
theorem dX7_shut_252 : decode cX7_shut 252 = .ok (.iload 8, 2) := by decide +kernel
theorem dX7_shut_254 : decode cX7_shut 254 = .ok (.irem, 1) := by decide +kernel
theorem dX7_shut_255 : decode cX7_shut 255 = .ok (.istore 9, 2) := by decide +kernel
theorem dX7_shut_257 : decode cX7_shut 257 = .ok (.iload 8, 2) := by decide +kernel
theorem dX7_shut_259 : decode cX7_shut 259 = .ok (.istore 7, 2) := by decide +kernel
theorem dX7_shut_261 : decode cX7_shut 261 = .ok (.iload 9, 2) := by decide +kernel
theorem dX7_shut_263 : decode cX7_shut 263 = .ok (.istore 8, 2) := by decide +kernel
theorem dX7_shut_265 : decode cX7_shut 265 = .ok (.goto (-20), 3) := by decide +kernel
theorem dX7_shut_268 : decode cX7_shut 268 = .ok (.iload 4, 2) := by decide +kernel
theorem dX7_shut_270 : decode cX7_shut 270 = .ok (.ifCond .ne 8, 3) := by decide +kernel
theorem dX7_shut_273 : decode cX7_shut 273 = .ok (.iload 5, 2) := by decide +kernel
theorem dX7_shut_275 : decode cX7_shut 275 = .ok (.goto 5, 3) := by decide +kernel
theorem dX7_shut_278 : decode cX7_shut 278 = .ok (.iload 6, 2) := by decide +kernel
theorem dX7_shut_280 : decode cX7_shut 280 = .ok (.iload 7, 2) := by decide +kernel
theorem dX7_shut_282 : decode cX7_shut 282 = .ok (.idiv, 1) := by decide +kernel
theorem dX7_shut_283 : decode cX7_shut 283 = .ok (.ireturn, 1) := by decide +kernel
theorem dX7_streetAfter_0 : decode cX7_streetAfter 0 = .ok (.iload_n 1, 1) := by decide +kernel
theorem dX7_streetAfter_1 : decode cX7_streetAfter 1 = .ok (.istore_n 2, 1) := by decide +kernel
theorem dX7_streetAfter_2 : decode cX7_streetAfter 2 = .ok (.iconst 0, 1) := by decide +kernel
theorem dX7_streetAfter_3 : decode cX7_streetAfter 3 = .ok (.istore_n 3, 1) := by decide +kernel
theorem dX7_streetAfter_4 : decode cX7_streetAfter 4 = .ok (.iload_n 3, 1) := by decide +kernel
theorem dX7_streetAfter_5 : decode cX7_streetAfter 5 = .ok (.aload_n 0, 1) := by decide +kernel
theorem dX7_streetAfter_6 : decode cX7_streetAfter 6 = .ok (.getfield 31, 3) := by decide +kernel
theorem dX7_streetAfter_9 : decode cX7_streetAfter 9 = .ok (.bipush 25, 2) := by decide +kernel
theorem dX7_streetAfter_11 : decode cX7_streetAfter 11 = .ok (.iaload, 1) := by decide +kernel
theorem dX7_streetAfter_12 : decode cX7_streetAfter 12 = .ok (.if_icmp .ge 35, 3) := by decide +kernel
theorem dX7_streetAfter_15 : decode cX7_streetAfter 15 = .ok (.aload_n 0, 1) := by decide +kernel
theorem dX7_streetAfter_16 : decode cX7_streetAfter 16 = .ok (.getfield 31, 3) := by decide +kernel
theorem dX7_streetAfter_19 : decode cX7_streetAfter 19 = .ok (.iload_n 3, 1) := by decide +kernel
theorem dX7_streetAfter_20 : decode cX7_streetAfter 20 = .ok (.aload_n 0, 1) := by decide +kernel
theorem dX7_streetAfter_21 : decode cX7_streetAfter 21 = .ok (.getfield 31, 3) := by decide +kernel
theorem dX7_streetAfter_24 : decode cX7_streetAfter 24 = .ok (.iconst 4, 1) := by decide +kernel
theorem dX7_streetAfter_25 : decode cX7_streetAfter 25 = .ok (.iaload, 1) := by decide +kernel
theorem dX7_streetAfter_26 : decode cX7_streetAfter 26 = .ok (.invokestatic 176, 3) := by decide +kernel
theorem dX7_streetAfter_29 : decode cX7_streetAfter 29 = .ok (.ifCond .eq 12, 3) := by decide +kernel
theorem dX7_streetAfter_32 : decode cX7_streetAfter 32 = .ok (.iload_n 2, 1) := by decide +kernel
theorem dX7_streetAfter_33 : decode cX7_streetAfter 33 = .ok (.ifCond .ne 5, 3) := by decide +kernel
theorem dX7_streetAfter_36 : decode cX7_streetAfter 36 = .ok (.iload_n 3, 1) := by decide +kernel
theorem dX7_streetAfter_37 : decode cX7_streetAfter 37 = .ok (.ireturn, 1) := by decide +kernel
theorem dX7_streetAfter_38 : decode cX7_streetAfter 38 = .ok (.iinc 2 (-1), 3) := by decide +kernel
theorem dX7_streetAfter_41 : decode cX7_streetAfter 41 = .ok (.iinc 3 1, 3) := by decide +kernel
theorem dX7_streetAfter_44 : decode cX7_streetAfter 44 = .ok (.goto (-40), 3) := by decide +kernel
theorem dX7_streetAfter_47 : decode cX7_streetAfter 47 = .ok (.ldc 65, 2) := by decide +kernel
theorem dX7_streetAfter_49 : decode cX7_streetAfter 49 = .ok (.ireturn, 1) := by decide +kernel
theorem dX7_drawn_0 : decode cX7_drawn 0 = .ok (.aload_n 0, 1) := by decide +kernel
theorem dX7_drawn_1 : decode cX7_drawn 1 = .ok (.invokevirtual 191, 3) := by decide +kernel
theorem dX7_drawn_4 : decode cX7_drawn 4 = .ok (.ifCond .ne 6, 3) := by decide +kernel
theorem dX7_drawn_7 : decode cX7_drawn 7 = .ok (.ldc 180, 2) := by decide +kernel
theorem dX7_drawn_9 : decode cX7_drawn 9 = .ok (.ireturn, 1) := by decide +kernel
theorem dX7_drawn_10 : decode cX7_drawn 10 = .ok (.iload_n 1, 1) := by decide +kernel
theorem dX7_drawn_11 : decode cX7_drawn 11 = .ok (.iconst 0, 1) := by decide +kernel
theorem dX7_drawn_12 : decode cX7_drawn 12 = .ok (.bipush 60, 2) := by decide +kernel
theorem dX7_drawn_14 : decode cX7_drawn 14 = .ok (.invokestatic 71, 3) := by decide +kernel
theorem dX7_drawn_17 : decode cX7_drawn 17 = .ok (.ifCond .eq 22, 3) := by decide +kernel
theorem dX7_drawn_20 : decode cX7_drawn 20 = .ok (.iload_n 2, 1) := by decide +kernel
theorem dX7_drawn_21 : decode cX7_drawn 21 = .ok (.iconst 1, 1) := by decide +kernel
theorem dX7_drawn_22 : decode cX7_drawn 22 = .ok (.ldc 240, 2) := by decide +kernel
theorem dX7_drawn_24 : decode cX7_drawn 24 = .ok (.invokestatic 71, 3) := by decide +kernel
theorem dX7_drawn_27 : decode cX7_drawn 27 = .ok (.ifCond .eq 12, 3) := by decide +kernel
theorem dX7_drawn_30 : decode cX7_drawn 30 = .ok (.iload_n 3, 1) := by decide +kernel
theorem dX7_drawn_31 : decode cX7_drawn 31 = .ok (.iconst 0, 1) := by decide +kernel
theorem dX7_drawn_32 : decode cX7_drawn 32 = .ok (.iconst 1, 1) := by decide +kernel
theorem dX7_drawn_33 : decode cX7_drawn 33 = .ok (.invokestatic 71, 3) := by decide +kernel
theorem dX7_drawn_36 : decode cX7_drawn 36 = .ok (.ifCond .ne 6, 3) := by decide +kernel
theorem dX7_drawn_39 : decode cX7_drawn 39 = .ok (.ldc 79, 2) := by decide +kernel
theorem dX7_drawn_41 : decode cX7_drawn 41 = .ok (.ireturn, 1) := by decide +kernel
theorem dX7_drawn_42 : decode cX7_drawn 42 = .ok (.aload_n 0, 1) := by decide +kernel
theorem dX7_drawn_43 : decode cX7_drawn 43 = .ok (.getfield 25, 3) := by decide +kernel
theorem dX7_drawn_46 : decode cX7_drawn 46 = .ok (.iconst 0, 1) := by decide +kernel
theorem dX7_drawn_47 : decode cX7_drawn 47 = .ok (.aload_n 0, 1) := by decide +kernel
theorem dX7_drawn_48 : decode cX7_drawn 48 = .ok (.getfield 31, 3) := by decide +kernel
theorem dX7_drawn_51 : decode cX7_drawn 51 = .ok (.iconst 0, 1) := by decide +kernel
theorem dX7_drawn_52 : decode cX7_drawn 52 = .ok (.invokestatic 156, 3) := by decide +kernel
theorem dX7_drawn_55 : decode cX7_drawn 55 = .ok (.iload_n 2, 1) := by decide +kernel
theorem dX7_drawn_56 : decode cX7_drawn 56 = .ok (.i2l, 1) := by decide +kernel
theorem dX7_drawn_57 : decode cX7_drawn 57 = .ok (.lstore 4, 2) := by decide +kernel
theorem dX7_drawn_59 : decode cX7_drawn 59 = .ok (.iconst 0, 1) := by decide +kernel
theorem dX7_drawn_60 : decode cX7_drawn 60 = .ok (.istore 6, 2) := by decide +kernel
theorem dX7_drawn_62 : decode cX7_drawn 62 = .ok (.iload 6, 2) := by decide +kernel
theorem dX7_drawn_64 : decode cX7_drawn 64 = .ok (.iload_n 1, 1) := by decide +kernel
theorem dX7_drawn_65 : decode cX7_drawn 65 = .ok (.if_icmp .ge 77, 3) := by decide +kernel
theorem dX7_drawn_68 : decode cX7_drawn 68 = .ok (.lload 4, 2) := by decide +kernel
theorem dX7_drawn_70 : decode cX7_drawn 70 = .ok (.ldc2_w 241, 3) := by decide +kernel
theorem dX7_drawn_73 : decode cX7_drawn 73 = .ok (.lmul, 1) := by decide +kernel
theorem dX7_drawn_74 : decode cX7_drawn 74 = .ok (.ldc2_w 243, 3) := by decide +kernel
theorem dX7_drawn_77 : decode cX7_drawn 77 = .ok (.lrem, 1) := by decide +kernel
theorem dX7_drawn_78 : decode cX7_drawn 78 = .ok (.lstore 4, 2) := by decide +kernel
theorem dX7_drawn_80 : decode cX7_drawn 80 = .ok (.iconst 0, 1) := by decide +kernel
theorem dX7_drawn_81 : decode cX7_drawn 81 = .ok (.istore 7, 2) := by decide +kernel
theorem dX7_drawn_83 : decode cX7_drawn 83 = .ok (.aload_n 0, 1) := by decide +kernel
theorem dX7_drawn_84 : decode cX7_drawn 84 = .ok (.iload 7, 2) := by decide +kernel
theorem dX7_drawn_86 : decode cX7_drawn 86 = .ok (.invokevirtual 245, 3) := by decide +kernel
theorem dX7_drawn_89 : decode cX7_drawn 89 = .ok (.ldc 65, 2) := by decide +kernel
theorem dX7_drawn_91 : decode cX7_drawn 91 = .ok (.if_icmp .eq 9, 3) := by decide +kernel
theorem dX7_drawn_94 : decode cX7_drawn 94 = .ok (.iinc 7 1, 3) := by decide +kernel
theorem dX7_drawn_97 : decode cX7_drawn 97 = .ok (.goto (-14), 3) := by decide +kernel
theorem dX7_drawn_100 : decode cX7_drawn 100 = .ok (.iload 7, 2) := by decide +kernel
theorem dX7_drawn_102 : decode cX7_drawn 102 = .ok (.ifCond .le 24, 3) := by decide +kernel
theorem dX7_drawn_105 : decode cX7_drawn 105 = .ok (.aload_n 0, 1) := by decide +kernel
theorem dX7_drawn_106 : decode cX7_drawn 106 = .ok (.getfield 31, 3) := by decide +kernel
theorem dX7_drawn_109 : decode cX7_drawn 109 = .ok (.aload_n 0, 1) := by decide +kernel
theorem dX7_drawn_110 : decode cX7_drawn 110 = .ok (.lload 4, 2) := by decide +kernel
theorem dX7_drawn_112 : decode cX7_drawn 112 = .ok (.iload 7, 2) := by decide +kernel
theorem dX7_drawn_114 : decode cX7_drawn 114 = .ok (.i2l, 1) := by decide +kernel
theorem dX7_drawn_115 : decode cX7_drawn 115 = .ok (.lrem, 1) := by decide +kernel
theorem dX7_drawn_116 : decode cX7_drawn 116 = .ok (.l2i, 1) := by decide +kernel
theorem dX7_drawn_117 : decode cX7_drawn 117 = .ok (.invokevirtual 245, 3) := by decide +kernel
theorem dX7_drawn_120 : decode cX7_drawn 120 = .ok (.invokestatic 184, 3) := by decide +kernel
theorem dX7_drawn_123 : decode cX7_drawn 123 = .ok (.goto 13, 3) := by decide +kernel
theorem dX7_drawn_126 : decode cX7_drawn 126 = .ok (.aload_n 0, 1) := by decide +kernel
theorem dX7_drawn_127 : decode cX7_drawn 127 = .ok (.getfield 31, 3) := by decide +kernel
theorem dX7_drawn_130 : decode cX7_drawn 130 = .ok (.iconst 3, 1) := by decide +kernel
theorem dX7_drawn_131 : decode cX7_drawn 131 = .ok (.dup2, 1) := by decide +kernel
theorem dX7_drawn_132 : decode cX7_drawn 132 = .ok (.iaload, 1) := by decide +kernel
theorem dX7_drawn_133 : decode cX7_drawn 133 = .ok (.iconst 1, 1) := by decide +kernel
theorem dX7_drawn_134 : decode cX7_drawn 134 = .ok (.iadd, 1) := by decide +kernel
theorem dX7_drawn_135 : decode cX7_drawn 135 = .ok (.iastore, 1) := by decide +kernel
theorem dX7_drawn_136 : decode cX7_drawn 136 = .ok (.iinc 6 1, 3) := by decide +kernel
theorem dX7_drawn_139 : decode cX7_drawn 139 = .ok (.goto (-77), 3) := by decide +kernel
theorem dX7_drawn_142 : decode cX7_drawn 142 = .ok (.iload_n 3, 1) := by decide +kernel
theorem dX7_drawn_143 : decode cX7_drawn 143 = .ok (.ifCond .ne 12, 3) := by decide +kernel
theorem dX7_drawn_146 : decode cX7_drawn 146 = .ok (.aload_n 0, 1) := by decide +kernel
theorem dX7_drawn_147 : decode cX7_drawn 147 = .ok (.getfield 31, 3) := by decide +kernel
theorem dX7_drawn_150 : decode cX7_drawn 150 = .ok (.iconst 2, 1) := by decide +kernel
theorem dX7_drawn_151 : decode cX7_drawn 151 = .ok (.iaload, 1) := by decide +kernel
theorem dX7_drawn_152 : decode cX7_drawn 152 = .ok (.goto 9, 3) := by decide +kernel
theorem dX7_drawn_155 : decode cX7_drawn 155 = .ok (.aload_n 0, 1) := by decide +kernel
theorem dX7_drawn_156 : decode cX7_drawn 156 = .ok (.getfield 31, 3) := by decide +kernel
theorem dX7_drawn_159 : decode cX7_drawn 159 = .ok (.iconst 4, 1) := by decide +kernel
theorem dX7_drawn_160 : decode cX7_drawn 160 = .ok (.iaload, 1) := by decide +kernel
theorem dX7_drawn_161 : decode cX7_drawn 161 = .ok (.ireturn, 1) := by decide +kernel
theorem dX7_image_0 : decode cX7_image 0 = .ok (.iload_n 1, 1) := by decide +kernel
theorem dX7_image_1 : decode cX7_image 1 = .ok (.iconst 0, 1) := by decide +kernel
theorem dX7_image_2 : decode cX7_image 2 = .ok (.iconst 1, 1) := by decide +kernel
theorem dX7_image_3 : decode cX7_image 3 = .ok (.invokestatic 71, 3) := by decide +kernel
theorem dX7_image_6 : decode cX7_image 6 = .ok (.ifCond .ne 6, 3) := by decide +kernel
theorem dX7_image_9 : decode cX7_image 9 = .ok (.ldc 79, 2) := by decide +kernel
theorem dX7_image_11 : decode cX7_image 11 = .ok (.ireturn, 1) := by decide +kernel
theorem dX7_image_12 : decode cX7_image 12 = .ok (.aload_n 0, 1) := by decide +kernel
theorem dX7_image_13 : decode cX7_image 13 = .ok (.invokevirtual 191, 3) := by decide +kernel
theorem dX7_image_16 : decode cX7_image 16 = .ok (.ifCond .ne 6, 3) := by decide +kernel
theorem dX7_image_19 : decode cX7_image 19 = .ok (.ldc 180, 2) := by decide +kernel
theorem dX7_image_21 : decode cX7_image 21 = .ok (.ireturn, 1) := by decide +kernel
theorem dX7_image_22 : decode cX7_image 22 = .ok (.aload_n 0, 1) := by decide +kernel
theorem dX7_image_23 : decode cX7_image 23 = .ok (.getfield 25, 3) := by decide +kernel
theorem dX7_image_26 : decode cX7_image 26 = .ok (.iconst 0, 1) := by decide +kernel
theorem dX7_image_27 : decode cX7_image 27 = .ok (.aload_n 0, 1) := by decide +kernel
theorem dX7_image_28 : decode cX7_image 28 = .ok (.getfield 37, 3) := by decide +kernel
theorem dX7_image_31 : decode cX7_image 31 = .ok (.bipush 42, 2) := by decide +kernel
theorem dX7_image_33 : decode cX7_image 33 = .ok (.iload_n 1, 1) := by decide +kernel
theorem dX7_image_34 : decode cX7_image 34 = .ok (.imul, 1) := by decide +kernel
theorem dX7_image_35 : decode cX7_image 35 = .ok (.invokestatic 156, 3) := by decide +kernel
theorem dX7_image_38 : decode cX7_image 38 = .ok (.aload_n 0, 1) := by decide +kernel
theorem dX7_image_39 : decode cX7_image 39 = .ok (.getfield 40, 3) := by decide +kernel
theorem dX7_image_42 : decode cX7_image 42 = .ok (.iload_n 1, 1) := by decide +kernel
theorem dX7_image_43 : decode cX7_image 43 = .ok (.iconst 1, 1) := by decide +kernel
theorem dX7_image_44 : decode cX7_image 44 = .ok (.bastore, 1) := by decide +kernel
theorem dX7_image_45 : decode cX7_image 45 = .ok (.iconst 1, 1) := by decide +kernel
theorem dX7_image_46 : decode cX7_image 46 = .ok (.ireturn, 1) := by decide +kernel
theorem dX7_restore_0 : decode cX7_restore 0 = .ok (.iload_n 1, 1) := by decide +kernel
theorem dX7_restore_1 : decode cX7_restore 1 = .ok (.iconst 0, 1) := by decide +kernel
theorem dX7_restore_2 : decode cX7_restore 2 = .ok (.iconst 1, 1) := by decide +kernel
theorem dX7_restore_3 : decode cX7_restore 3 = .ok (.invokestatic 71, 3) := by decide +kernel
theorem dX7_restore_6 : decode cX7_restore 6 = .ok (.ifCond .ne 6, 3) := by decide +kernel
theorem dX7_restore_9 : decode cX7_restore 9 = .ok (.ldc 79, 2) := by decide +kernel
theorem dX7_restore_11 : decode cX7_restore 11 = .ok (.ireturn, 1) := by decide +kernel
theorem dX7_restore_12 : decode cX7_restore 12 = .ok (.aload_n 0, 1) := by decide +kernel
theorem dX7_restore_13 : decode cX7_restore 13 = .ok (.getfield 40, 3) := by decide +kernel
theorem dX7_restore_16 : decode cX7_restore 16 = .ok (.iload_n 1, 1) := by decide +kernel
theorem dX7_restore_17 : decode cX7_restore 17 = .ok (.baload, 1) := by decide +kernel
theorem dX7_restore_18 : decode cX7_restore 18 = .ok (.ifCond .ne 6, 3) := by decide +kernel
theorem dX7_restore_21 : decode cX7_restore 21 = .ok (.ldc 180, 2) := by decide +kernel
theorem dX7_restore_23 : decode cX7_restore 23 = .ok (.ireturn, 1) := by decide +kernel
theorem dX7_restore_24 : decode cX7_restore 24 = .ok (.aload_n 0, 1) := by decide +kernel
theorem dX7_restore_25 : decode cX7_restore 25 = .ok (.getfield 37, 3) := by decide +kernel
theorem dX7_restore_28 : decode cX7_restore 28 = .ok (.bipush 42, 2) := by decide +kernel
theorem dX7_restore_30 : decode cX7_restore 30 = .ok (.iload_n 1, 1) := by decide +kernel
theorem dX7_restore_31 : decode cX7_restore 31 = .ok (.imul, 1) := by decide +kernel
theorem dX7_restore_32 : decode cX7_restore 32 = .ok (.aload_n 0, 1) := by decide +kernel
theorem dX7_restore_33 : decode cX7_restore 33 = .ok (.getfield 25, 3) := by decide +kernel
theorem dX7_restore_36 : decode cX7_restore 36 = .ok (.iconst 0, 1) := by decide +kernel
theorem dX7_restore_37 : decode cX7_restore 37 = .ok (.invokestatic 156, 3) := by decide +kernel
theorem dX7_restore_40 : decode cX7_restore 40 = .ok (.aload_n 0, 1) := by decide +kernel
theorem dX7_restore_41 : decode cX7_restore 41 = .ok (.iconst 0, 1) := by decide +kernel
theorem dX7_restore_42 : decode cX7_restore 42 = .ok (.putfield 160, 3) := by decide +kernel
theorem dX7_restore_45 : decode cX7_restore 45 = .ok (.iconst 1, 1) := by decide +kernel
theorem dX7_restore_46 : decode cX7_restore 46 = .ok (.ireturn, 1) := by decide +kernel
theorem dX7_kindIn_0 : decode cX7_kindIn 0 = .ok (.aload_n 0, 1) := by decide +kernel
theorem dX7_kindIn_1 : decode cX7_kindIn 1 = .ok (.getfield 25, 3) := by decide +kernel
theorem dX7_kindIn_4 : decode cX7_kindIn 4 = .ok (.bipush 7, 2) := by decide +kernel
theorem dX7_kindIn_6 : decode cX7_kindIn 6 = .ok (.iconst 3, 1) := by decide +kernel
theorem dX7_kindIn_7 : decode cX7_kindIn 7 = .ok (.iload_n 1, 1) := by decide +kernel
theorem dX7_kindIn_8 : decode cX7_kindIn 8 = .ok (.imul, 1) := by decide +kernel
theorem dX7_kindIn_9 : decode cX7_kindIn 9 = .ok (.iadd, 1) := by decide +kernel
theorem dX7_kindIn_10 : decode cX7_kindIn 10 = .ok (.iaload, 1) := by decide +kernel
theorem dX7_kindIn_11 : decode cX7_kindIn 11 = .ok (.ireturn, 1) := by decide +kernel
theorem dX7_kind_0 : decode cX7_kind 0 = .ok (.aload_n 0, 1) := by decide +kernel
theorem dX7_kind_1 : decode cX7_kind 1 = .ok (.iload_n 1, 1) := by decide +kernel
theorem dX7_kind_2 : decode cX7_kind 2 = .ok (.invokevirtual 188, 3) := by decide +kernel
theorem dX7_kind_5 : decode cX7_kind 5 = .ok (.ifCond .eq 11, 3) := by decide +kernel
theorem dX7_kind_8 : decode cX7_kind 8 = .ok (.aload_n 0, 1) := by decide +kernel
theorem dX7_kind_9 : decode cX7_kind 9 = .ok (.iload_n 1, 1) := by decide +kernel
theorem dX7_kind_10 : decode cX7_kind 10 = .ok (.invokevirtual 248, 3) := by decide +kernel
theorem dX7_kind_13 : decode cX7_kind 13 = .ok (.goto 5, 3) := by decide +kernel
theorem dX7_kind_16 : decode cX7_kind 16 = .ok (.ldc 79, 2) := by decide +kernel
theorem dX7_kind_18 : decode cX7_kind 18 = .ok (.ireturn, 1) := by decide +kernel
theorem dX7_as_0 : decode cX7_as 0 = .ok (.aload_n 0, 1) := by decide +kernel
theorem dX7_as_1 : decode cX7_as 1 = .ok (.iload_n 1, 1) := by decide +kernel
theorem dX7_as_2 : decode cX7_as 2 = .ok (.invokevirtual 188, 3) := by decide +kernel
theorem dX7_as_5 : decode cX7_as 5 = .ok (.ifCond .eq 12, 3) := by decide +kernel
theorem dX7_as_8 : decode cX7_as 8 = .ok (.iload_n 2, 1) := by decide +kernel
theorem dX7_as_9 : decode cX7_as 9 = .ok (.iconst 0, 1) := by decide +kernel
theorem dX7_as_10 : decode cX7_as 10 = .ok (.iconst 5, 1) := by decide +kernel
theorem dX7_as_11 : decode cX7_as 11 = .ok (.invokestatic 71, 3) := by decide +kernel
theorem dX7_as_14 : decode cX7_as 14 = .ok (.ifCond .ne 6, 3) := by decide +kernel
theorem dX7_as_17 : decode cX7_as 17 = .ok (.ldc 79, 2) := by decide +kernel
theorem dX7_as_19 : decode cX7_as 19 = .ok (.ireturn, 1) := by decide +kernel
theorem dX7_as_20 : decode cX7_as 20 = .ok (.aload_n 0, 1) := by decide +kernel
theorem dX7_as_21 : decode cX7_as 21 = .ok (.iload_n 1, 1) := by decide +kernel
theorem dX7_as_22 : decode cX7_as 22 = .ok (.invokevirtual 248, 3) := by decide +kernel
theorem dX7_as_25 : decode cX7_as 25 = .ok (.istore_n 3, 1) := by decide +kernel
theorem dX7_as_26 : decode cX7_as 26 = .ok (.iload_n 2, 1) := by decide +kernel
theorem dX7_as_27 : decode cX7_as 27 = .ok (.ifCond .eq 28, 3) := by decide +kernel
theorem dX7_as_30 : decode cX7_as 30 = .ok (.iload_n 2, 1) := by decide +kernel
theorem dX7_as_31 : decode cX7_as 31 = .ok (.iload_n 3, 1) := by decide +kernel
theorem dX7_as_32 : decode cX7_as 32 = .ok (.if_icmp .eq 23, 3) := by decide +kernel
theorem dX7_as_35 : decode cX7_as 35 = .ok (.iload_n 2, 1) := by decide +kernel
theorem dX7_as_36 : decode cX7_as 36 = .ok (.iconst 1, 1) := by decide +kernel
theorem dX7_as_37 : decode cX7_as 37 = .ok (.if_icmp .ne 8, 3) := by decide +kernel
theorem dX7_as_40 : decode cX7_as 40 = .ok (.iload_n 3, 1) := by decide +kernel
theorem dX7_as_41 : decode cX7_as 41 = .ok (.iconst 4, 1) := by decide +kernel
theorem dX7_as_42 : decode cX7_as 42 = .ok (.if_icmp .lt 13, 3) := by decide +kernel
theorem dX7_as_45 : decode cX7_as 45 = .ok (.iload_n 2, 1) := by decide +kernel
theorem dX7_as_46 : decode cX7_as 46 = .ok (.iconst 4, 1) := by decide +kernel
theorem dX7_as_47 : decode cX7_as 47 = .ok (.if_icmp .ne 12, 3) := by decide +kernel
theorem dX7_as_50 : decode cX7_as 50 = .ok (.iload_n 3, 1) := by decide +kernel
theorem dX7_as_51 : decode cX7_as 51 = .ok (.iconst 5, 1) := by decide +kernel
theorem dX7_as_52 : decode cX7_as 52 = .ok (.if_icmp .ne 7, 3) := by decide +kernel
theorem dX7_as_55 : decode cX7_as 55 = .ok (.iconst 1, 1) := by decide +kernel
theorem dX7_as_56 : decode cX7_as 56 = .ok (.goto 4, 3) := by decide +kernel
theorem dX7_as_59 : decode cX7_as 59 = .ok (.iconst 0, 1) := by decide +kernel
theorem dX7_as_60 : decode cX7_as 60 = .ok (.istore 4, 2) := by decide +kernel
theorem dX7_as_62 : decode cX7_as 62 = .ok (.iload 4, 2) := by decide +kernel
theorem dX7_as_64 : decode cX7_as 64 = .ok (.ifCond .eq 11, 3) := by decide +kernel
theorem dX7_as_67 : decode cX7_as 67 = .ok (.aload_n 0, 1) := by decide +kernel
theorem dX7_as_68 : decode cX7_as 68 = .ok (.iload_n 1, 1) := by decide +kernel
theorem dX7_as_69 : decode cX7_as 69 = .ok (.invokevirtual 84, 3) := by decide +kernel
theorem dX7_as_72 : decode cX7_as 72 = .ok (.goto 8, 3) := by decide +kernel
theorem dX7_as_75 : decode cX7_as 75 = .ok (.aload_n 0, 1) := by decide +kernel
theorem dX7_as_76 : decode cX7_as 76 = .ok (.iconst 3, 1) := by decide +kernel
theorem dX7_as_77 : decode cX7_as 77 = .ok (.invokevirtual 80, 3) := by decide +kernel
theorem dX7_as_80 : decode cX7_as 80 = .ok (.ireturn, 1) := by decide +kernel
theorem dX7_leaves_0 : decode cX7_leaves 0 = .ok (.aload_n 0, 1) := by decide +kernel
theorem dX7_leaves_1 : decode cX7_leaves 1 = .ok (.getfield 251, 3) := by decide +kernel
theorem dX7_leaves_4 : decode cX7_leaves 4 = .ok (.bipush 16, 2) := by decide +kernel
theorem dX7_leaves_6 : decode cX7_leaves 6 = .ok (.if_icmp .ge 23, 3) := by decide +kernel
theorem dX7_leaves_9 : decode cX7_leaves 9 = .ok (.aload_n 0, 1) := by decide +kernel
theorem dX7_leaves_10 : decode cX7_leaves 10 = .ok (.getfield 62, 3) := by decide +kernel
theorem dX7_leaves_13 : decode cX7_leaves 13 = .ok (.aload_n 0, 1) := by decide +kernel
theorem dX7_leaves_14 : decode cX7_leaves 14 = .ok (.getfield 251, 3) := by decide +kernel
theorem dX7_leaves_17 : decode cX7_leaves 17 = .ok (.iload_n 1, 1) := by decide +kernel
theorem dX7_leaves_18 : decode cX7_leaves 18 = .ok (.iastore, 1) := by decide +kernel
theorem dX7_leaves_19 : decode cX7_leaves 19 = .ok (.aload_n 0, 1) := by decide +kernel
theorem dX7_leaves_20 : decode cX7_leaves 20 = .ok (.dup, 1) := by decide +kernel
theorem dX7_leaves_21 : decode cX7_leaves 21 = .ok (.getfield 251, 3) := by decide +kernel
theorem dX7_leaves_24 : decode cX7_leaves 24 = .ok (.iconst 1, 1) := by decide +kernel
theorem dX7_leaves_25 : decode cX7_leaves 25 = .ok (.iadd, 1) := by decide +kernel
theorem dX7_leaves_26 : decode cX7_leaves 26 = .ok (.putfield 251, 3) := by decide +kernel
theorem dX7_leaves_29 : decode cX7_leaves 29 = .ok (.return_, 1) := by decide +kernel
theorem dX7_joyMark_0 : decode cX7_joyMark 0 = .ok (.aload_n 0, 1) := by decide +kernel
theorem dX7_joyMark_1 : decode cX7_joyMark 1 = .ok (.iload_n 1, 1) := by decide +kernel
theorem dX7_joyMark_2 : decode cX7_joyMark 2 = .ok (.invokevirtual 248, 3) := by decide +kernel
theorem dX7_joyMark_5 : decode cX7_joyMark 5 = .ok (.istore_n 2, 1) := by decide +kernel
theorem dX7_joyMark_6 : decode cX7_joyMark 6 = .ok (.iload_n 2, 1) := by decide +kernel
theorem dX7_joyMark_7 : decode cX7_joyMark 7 = .ok (.iconst 1, 1) := by decide +kernel
theorem dX7_joyMark_8 : decode cX7_joyMark 8 = .ok (.if_icmp .eq 19, 3) := by decide +kernel
theorem dX7_joyMark_11 : decode cX7_joyMark 11 = .ok (.aload_n 0, 1) := by decide +kernel
theorem dX7_joyMark_12 : decode cX7_joyMark 12 = .ok (.iload_n 2, 1) := by decide +kernel
theorem dX7_joyMark_13 : decode cX7_joyMark 13 = .ok (.iconst 2, 1) := by decide +kernel
theorem dX7_joyMark_14 : decode cX7_joyMark 14 = .ok (.if_icmp .ne 8, 3) := by decide +kernel
theorem dX7_joyMark_17 : decode cX7_joyMark 17 = .ok (.bipush 24, 2) := by decide +kernel
theorem dX7_joyMark_19 : decode cX7_joyMark 19 = .ok (.goto 5, 3) := by decide +kernel
theorem dX7_joyMark_22 : decode cX7_joyMark 22 = .ok (.bipush 22, 2) := by decide +kernel
theorem dX7_joyMark_24 : decode cX7_joyMark 24 = .ok (.invokevirtual 254, 3) := by decide +kernel
theorem dX7_joyMark_27 : decode cX7_joyMark 27 = .ok (.aload_n 0, 1) := by decide +kernel
theorem dX7_joyMark_28 : decode cX7_joyMark 28 = .ok (.bipush 21, 2) := by decide +kernel
theorem dX7_joyMark_30 : decode cX7_joyMark 30 = .ok (.invokevirtual 254, 3) := by decide +kernel
theorem dX7_joyMark_33 : decode cX7_joyMark 33 = .ok (.aload_n 0, 1) := by decide +kernel
theorem dX7_joyMark_34 : decode cX7_joyMark 34 = .ok (.bipush 20, 2) := by decide +kernel
theorem dX7_joyMark_36 : decode cX7_joyMark 36 = .ok (.invokevirtual 254, 3) := by decide +kernel
theorem dX7_joyMark_39 : decode cX7_joyMark 39 = .ok (.iload_n 1, 1) := by decide +kernel
theorem dX7_joyMark_40 : decode cX7_joyMark 40 = .ok (.aload_n 0, 1) := by decide +kernel
theorem dX7_joyMark_41 : decode cX7_joyMark 41 = .ok (.getfield 25, 3) := by decide +kernel
theorem dX7_joyMark_44 : decode cX7_joyMark 44 = .ok (.bipush 7, 2) := by decide +kernel
theorem dX7_joyMark_46 : decode cX7_joyMark 46 = .ok (.iconst 3, 1) := by decide +kernel
theorem dX7_joyMark_47 : decode cX7_joyMark 47 = .ok (.iload_n 1, 1) := by decide +kernel
theorem dX7_joyMark_48 : decode cX7_joyMark 48 = .ok (.imul, 1) := by decide +kernel
theorem dX7_joyMark_49 : decode cX7_joyMark 49 = .ok (.iadd, 1) := by decide +kernel
theorem dX7_joyMark_50 : decode cX7_joyMark 50 = .ok (.iconst 1, 1) := by decide +kernel
theorem dX7_joyMark_51 : decode cX7_joyMark 51 = .ok (.iadd, 1) := by decide +kernel
theorem dX7_joyMark_52 : decode cX7_joyMark 52 = .ok (.iaload, 1) := by decide +kernel
theorem dX7_joyMark_53 : decode cX7_joyMark 53 = .ok (.iadd, 1) := by decide +kernel
theorem dX7_joyMark_54 : decode cX7_joyMark 54 = .ok (.istore_n 3, 1) := by decide +kernel
theorem dX7_joyMark_55 : decode cX7_joyMark 55 = .ok (.iload_n 2, 1) := by decide +kernel
theorem dX7_joyMark_56 : decode cX7_joyMark 56 = .ok (.iconst 2, 1) := by decide +kernel
theorem dX7_joyMark_57 : decode cX7_joyMark 57 = .ok (.if_icmp .ne 9, 3) := by decide +kernel
theorem dX7_joyMark_60 : decode cX7_joyMark 60 = .ok (.iconst 2, 1) := by decide +kernel
theorem dX7_joyMark_61 : decode cX7_joyMark 61 = .ok (.iload_n 3, 1) := by decide +kernel
theorem dX7_joyMark_62 : decode cX7_joyMark 62 = .ok (.imul, 1) := by decide +kernel
theorem dX7_joyMark_63 : decode cX7_joyMark 63 = .ok (.goto 17, 3) := by decide +kernel
theorem dX7_joyMark_66 : decode cX7_joyMark 66 = .ok (.iload_n 2, 1) := by decide +kernel
theorem dX7_joyMark_67 : decode cX7_joyMark 67 = .ok (.iconst 3, 1) := by decide +kernel
theorem dX7_joyMark_68 : decode cX7_joyMark 68 = .ok (.if_icmp .ne 11, 3) := by decide +kernel
theorem dX7_joyMark_71 : decode cX7_joyMark 71 = .ok (.iload_n 3, 1) := by decide +kernel
theorem dX7_joyMark_72 : decode cX7_joyMark 72 = .ok (.sipush 1000, 3) := by decide +kernel
theorem dX7_joyMark_75 : decode cX7_joyMark 75 = .ok (.isub, 1) := by decide +kernel
theorem dX7_joyMark_76 : decode cX7_joyMark 76 = .ok (.goto 4, 3) := by decide +kernel
theorem dX7_joyMark_79 : decode cX7_joyMark 79 = .ok (.iload_n 3, 1) := by decide +kernel
theorem dX7_joyMark_80 : decode cX7_joyMark 80 = .ok (.ireturn, 1) := by decide +kernel
theorem dX7_griefSize_0 : decode cX7_griefSize 0 = .ok (.aload_n 0, 1) := by decide +kernel
theorem dX7_griefSize_1 : decode cX7_griefSize 1 = .ok (.iload_n 1, 1) := by decide +kernel
theorem dX7_griefSize_2 : decode cX7_griefSize 2 = .ok (.invokevirtual 248, 3) := by decide +kernel
theorem dX7_griefSize_5 : decode cX7_griefSize 5 = .ok (.iconst 5, 1) := by decide +kernel
theorem dX7_griefSize_6 : decode cX7_griefSize 6 = .ok (.if_icmp .ne 7, 3) := by decide +kernel
theorem dX7_griefSize_9 : decode cX7_griefSize 9 = .ok (.iconst 1, 1) := by decide +kernel
theorem dX7_griefSize_10 : decode cX7_griefSize 10 = .ok (.goto 4, 3) := by decide +kernel
theorem dX7_griefSize_13 : decode cX7_griefSize 13 = .ok (.iconst 0, 1) := by decide +kernel
theorem dX7_griefSize_14 : decode cX7_griefSize 14 = .ok (.istore_n 2, 1) := by decide +kernel
theorem dX7_griefSize_15 : decode cX7_griefSize 15 = .ok (.iload_n 2, 1) := by decide +kernel
theorem dX7_griefSize_16 : decode cX7_griefSize 16 = .ok (.ifCond .eq 9, 3) := by decide +kernel
theorem dX7_griefSize_19 : decode cX7_griefSize 19 = .ok (.aload_n 0, 1) := by decide +kernel
theorem dX7_griefSize_20 : decode cX7_griefSize 20 = .ok (.bipush 14, 2) := by decide +kernel
theorem dX7_griefSize_22 : decode cX7_griefSize 22 = .ok (.invokevirtual 254, 3) := by decide +kernel
theorem dX7_griefSize_25 : decode cX7_griefSize 25 = .ok (.aload_n 0, 1) := by decide +kernel
theorem dX7_griefSize_26 : decode cX7_griefSize 26 = .ok (.bipush 13, 2) := by decide +kernel
theorem dX7_griefSize_28 : decode cX7_griefSize 28 = .ok (.invokevirtual 254, 3) := by decide +kernel
theorem dX7_griefSize_31 : decode cX7_griefSize 31 = .ok (.aload_n 0, 1) := by decide +kernel
theorem dX7_griefSize_32 : decode cX7_griefSize 32 = .ok (.bipush 10, 2) := by decide +kernel
theorem dX7_griefSize_34 : decode cX7_griefSize 34 = .ok (.invokevirtual 254, 3) := by decide +kernel
theorem dX7_griefSize_37 : decode cX7_griefSize 37 = .ok (.aload_n 0, 1) := by decide +kernel
theorem dX7_griefSize_38 : decode cX7_griefSize 38 = .ok (.getfield 25, 3) := by decide +kernel
theorem dX7_griefSize_41 : decode cX7_griefSize 41 = .ok (.bipush 7, 2) := by decide +kernel
theorem dX7_griefSize_43 : decode cX7_griefSize 43 = .ok (.iconst 3, 1) := by decide +kernel
theorem dX7_griefSize_44 : decode cX7_griefSize 44 = .ok (.iload_n 1, 1) := by decide +kernel
theorem dX7_griefSize_45 : decode cX7_griefSize 45 = .ok (.imul, 1) := by decide +kernel
theorem dX7_griefSize_46 : decode cX7_griefSize 46 = .ok (.iadd, 1) := by decide +kernel
theorem dX7_griefSize_47 : decode cX7_griefSize 47 = .ok (.iconst 2, 1) := by decide +kernel
theorem dX7_griefSize_48 : decode cX7_griefSize 48 = .ok (.iadd, 1) := by decide +kernel
theorem dX7_griefSize_49 : decode cX7_griefSize 49 = .ok (.iaload, 1) := by decide +kernel
theorem dX7_griefSize_50 : decode cX7_griefSize 50 = .ok (.bipush 100, 2) := by decide +kernel
theorem dX7_griefSize_52 : decode cX7_griefSize 52 = .ok (.isub, 1) := by decide +kernel
theorem dX7_griefSize_53 : decode cX7_griefSize 53 = .ok (.istore_n 3, 1) := by decide +kernel
theorem dX7_griefSize_54 : decode cX7_griefSize 54 = .ok (.iload_n 2, 1) := by decide +kernel
theorem dX7_griefSize_55 : decode cX7_griefSize 55 = .ok (.ifCond .eq 9, 3) := by decide +kernel
theorem dX7_griefSize_58 : decode cX7_griefSize 58 = .ok (.iconst 2, 1) := by decide +kernel
theorem dX7_griefSize_59 : decode cX7_griefSize 59 = .ok (.iload_n 3, 1) := by decide +kernel
theorem dX7_griefSize_60 : decode cX7_griefSize 60 = .ok (.imul, 1) := by decide +kernel
theorem dX7_griefSize_61 : decode cX7_griefSize 61 = .ok (.goto 4, 3) := by decide +kernel
theorem dX7_griefSize_64 : decode cX7_griefSize 64 = .ok (.iload_n 3, 1) := by decide +kernel
theorem dX7_griefSize_65 : decode cX7_griefSize 65 = .ok (.ireturn, 1) := by decide +kernel
theorem dX7_joySize_0 : decode cX7_joySize 0 = .ok (.aload_n 0, 1) := by decide +kernel
theorem dX7_joySize_1 : decode cX7_joySize 1 = .ok (.iload_n 1, 1) := by decide +kernel
theorem dX7_joySize_2 : decode cX7_joySize 2 = .ok (.invokevirtual 248, 3) := by decide +kernel
theorem dX7_joySize_5 : decode cX7_joySize 5 = .ok (.iconst 2, 1) := by decide +kernel
theorem dX7_joySize_6 : decode cX7_joySize 6 = .ok (.if_icmp .ne 7, 3) := by decide +kernel
theorem dX7_joySize_9 : decode cX7_joySize 9 = .ok (.iconst 1, 1) := by decide +kernel
theorem dX7_joySize_10 : decode cX7_joySize 10 = .ok (.goto 4, 3) := by decide +kernel
theorem dX7_joySize_13 : decode cX7_joySize 13 = .ok (.iconst 0, 1) := by decide +kernel
theorem dX7_joySize_14 : decode cX7_joySize 14 = .ok (.istore_n 2, 1) := by decide +kernel
theorem dX7_joySize_15 : decode cX7_joySize 15 = .ok (.iload_n 2, 1) := by decide +kernel
theorem dX7_joySize_16 : decode cX7_joySize 16 = .ok (.ifCond .eq 9, 3) := by decide +kernel
theorem dX7_joySize_19 : decode cX7_joySize 19 = .ok (.aload_n 0, 1) := by decide +kernel
theorem dX7_joySize_20 : decode cX7_joySize 20 = .ok (.bipush 12, 2) := by decide +kernel
theorem dX7_joySize_22 : decode cX7_joySize 22 = .ok (.invokevirtual 254, 3) := by decide +kernel
theorem dX7_joySize_25 : decode cX7_joySize 25 = .ok (.aload_n 0, 1) := by decide +kernel
theorem dX7_joySize_26 : decode cX7_joySize 26 = .ok (.bipush 11, 2) := by decide +kernel
theorem dX7_joySize_28 : decode cX7_joySize 28 = .ok (.invokevirtual 254, 3) := by decide +kernel
theorem dX7_joySize_31 : decode cX7_joySize 31 = .ok (.aload_n 0, 1) := by decide +kernel
theorem dX7_joySize_32 : decode cX7_joySize 32 = .ok (.bipush 10, 2) := by decide +kernel
theorem dX7_joySize_34 : decode cX7_joySize 34 = .ok (.invokevirtual 254, 3) := by decide +kernel
theorem dX7_joySize_37 : decode cX7_joySize 37 = .ok (.aload_n 0, 1) := by decide +kernel
theorem dX7_joySize_38 : decode cX7_joySize 38 = .ok (.getfield 25, 3) := by decide +kernel
theorem dX7_joySize_41 : decode cX7_joySize 41 = .ok (.bipush 7, 2) := by decide +kernel
theorem dX7_joySize_43 : decode cX7_joySize 43 = .ok (.iconst 3, 1) := by decide +kernel
theorem dX7_joySize_44 : decode cX7_joySize 44 = .ok (.iload_n 1, 1) := by decide +kernel
theorem dX7_joySize_45 : decode cX7_joySize 45 = .ok (.imul, 1) := by decide +kernel
theorem dX7_joySize_46 : decode cX7_joySize 46 = .ok (.iadd, 1) := by decide +kernel
theorem dX7_joySize_47 : decode cX7_joySize 47 = .ok (.iconst 2, 1) := by decide +kernel
theorem dX7_joySize_48 : decode cX7_joySize 48 = .ok (.iadd, 1) := by decide +kernel
theorem dX7_joySize_49 : decode cX7_joySize 49 = .ok (.iaload, 1) := by decide +kernel
theorem dX7_joySize_50 : decode cX7_joySize 50 = .ok (.aload_n 0, 1) := by decide +kernel
theorem dX7_joySize_51 : decode cX7_joySize 51 = .ok (.iload_n 1, 1) := by decide +kernel
theorem dX7_joySize_52 : decode cX7_joySize 52 = .ok (.invokevirtual 257, 3) := by decide +kernel
theorem dX7_joySize_55 : decode cX7_joySize 55 = .ok (.iadd, 1) := by decide +kernel
theorem dX7_joySize_56 : decode cX7_joySize 56 = .ok (.istore_n 3, 1) := by decide +kernel
theorem dX7_joySize_57 : decode cX7_joySize 57 = .ok (.iload_n 2, 1) := by decide +kernel
theorem dX7_joySize_58 : decode cX7_joySize 58 = .ok (.ifCond .eq 8, 3) := by decide +kernel
theorem dX7_joySize_61 : decode cX7_joySize 61 = .ok (.iload_n 3, 1) := by decide +kernel
theorem dX7_joySize_62 : decode cX7_joySize 62 = .ok (.ineg, 1) := by decide +kernel
theorem dX7_joySize_63 : decode cX7_joySize 63 = .ok (.goto 4, 3) := by decide +kernel
theorem dX7_joySize_66 : decode cX7_joySize 66 = .ok (.iload_n 3, 1) := by decide +kernel
theorem dX7_joySize_67 : decode cX7_joySize 67 = .ok (.ireturn, 1) := by decide +kernel
theorem dX7_griefMark_0 : decode cX7_griefMark 0 = .ok (.aload_n 0, 1) := by decide +kernel
theorem dX7_griefMark_1 : decode cX7_griefMark 1 = .ok (.bipush 23, 2) := by decide +kernel
theorem dX7_griefMark_3 : decode cX7_griefMark 3 = .ok (.invokevirtual 254, 3) := by decide +kernel
theorem dX7_griefMark_6 : decode cX7_griefMark 6 = .ok (.aload_n 0, 1) := by decide +kernel
theorem dX7_griefMark_7 : decode cX7_griefMark 7 = .ok (.bipush 20, 2) := by decide +kernel
theorem dX7_griefMark_9 : decode cX7_griefMark 9 = .ok (.invokevirtual 254, 3) := by decide +kernel
theorem dX7_griefMark_12 : decode cX7_griefMark 12 = .ok (.iload_n 1, 1) := by decide +kernel
theorem dX7_griefMark_13 : decode cX7_griefMark 13 = .ok (.aload_n 0, 1) := by decide +kernel
theorem dX7_griefMark_14 : decode cX7_griefMark 14 = .ok (.iload_n 1, 1) := by decide +kernel
theorem dX7_griefMark_15 : decode cX7_griefMark 15 = .ok (.invokevirtual 260, 3) := by decide +kernel
theorem dX7_griefMark_18 : decode cX7_griefMark 18 = .ok (.isub, 1) := by decide +kernel
theorem dX7_griefMark_19 : decode cX7_griefMark 19 = .ok (.ireturn, 1) := by decide +kernel
theorem dX7_ask_0 : decode cX7_ask 0 = .ok (.aload_n 0, 1) := by decide +kernel
theorem dX7_ask_1 : decode cX7_ask 1 = .ok (.iload_n 1, 1) := by decide +kernel
theorem dX7_ask_2 : decode cX7_ask 2 = .ok (.invokevirtual 188, 3) := by decide +kernel
theorem dX7_ask_5 : decode cX7_ask 5 = .ok (.ifCond .eq 12, 3) := by decide +kernel
theorem dX7_ask_8 : decode cX7_ask 8 = .ok (.iload_n 2, 1) := by decide +kernel
theorem dX7_ask_9 : decode cX7_ask 9 = .ok (.iconst 0, 1) := by decide +kernel
theorem dX7_ask_10 : decode cX7_ask 10 = .ok (.iconst 1, 1) := by decide +kernel
theorem dX7_ask_11 : decode cX7_ask 11 = .ok (.invokestatic 71, 3) := by decide +kernel
theorem dX7_ask_14 : decode cX7_ask 14 = .ok (.ifCond .ne 6, 3) := by decide +kernel
theorem dX7_ask_17 : decode cX7_ask 17 = .ok (.ldc 79, 2) := by decide +kernel
theorem dX7_ask_19 : decode cX7_ask 19 = .ok (.ireturn, 1) := by decide +kernel
theorem dX7_ask_20 : decode cX7_ask 20 = .ok (.aload_n 0, 1) := by decide +kernel
theorem dX7_ask_21 : decode cX7_ask 21 = .ok (.iconst 0, 1) := by decide +kernel
theorem dX7_ask_22 : decode cX7_ask 22 = .ok (.putfield 251, 3) := by decide +kernel
theorem dX7_ask_25 : decode cX7_ask 25 = .ok (.aload_n 0, 1) := by decide +kernel
theorem dX7_ask_26 : decode cX7_ask 26 = .ok (.iload_n 1, 1) := by decide +kernel
theorem dX7_ask_27 : decode cX7_ask 27 = .ok (.invokevirtual 248, 3) := by decide +kernel
theorem dX7_ask_30 : decode cX7_ask 30 = .ok (.iconst 4, 1) := by decide +kernel
theorem dX7_ask_31 : decode cX7_ask 31 = .ok (.if_icmp .lt 7, 3) := by decide +kernel
theorem dX7_ask_34 : decode cX7_ask 34 = .ok (.iconst 1, 1) := by decide +kernel
theorem dX7_ask_35 : decode cX7_ask 35 = .ok (.goto 4, 3) := by decide +kernel
theorem dX7_ask_38 : decode cX7_ask 38 = .ok (.iconst 0, 1) := by decide +kernel
theorem dX7_ask_39 : decode cX7_ask 39 = .ok (.istore_n 3, 1) := by decide +kernel
theorem dX7_ask_40 : decode cX7_ask 40 = .ok (.iload_n 2, 1) := by decide +kernel
theorem dX7_ask_41 : decode cX7_ask 41 = .ok (.ifCond .ne 21, 3) := by decide +kernel
theorem dX7_ask_44 : decode cX7_ask 44 = .ok (.iload_n 3, 1) := by decide +kernel
theorem dX7_ask_45 : decode cX7_ask 45 = .ok (.ifCond .eq 11, 3) := by decide +kernel
theorem dX7_ask_48 : decode cX7_ask 48 = .ok (.aload_n 0, 1) := by decide +kernel
theorem dX7_ask_49 : decode cX7_ask 49 = .ok (.iload_n 1, 1) := by decide +kernel
theorem dX7_ask_50 : decode cX7_ask 50 = .ok (.invokevirtual 260, 3) := by decide +kernel
theorem dX7_ask_53 : decode cX7_ask 53 = .ok (.goto 8, 3) := by decide +kernel
theorem dX7_ask_56 : decode cX7_ask 56 = .ok (.aload_n 0, 1) := by decide +kernel
theorem dX7_ask_57 : decode cX7_ask 57 = .ok (.iload_n 1, 1) := by decide +kernel
theorem dX7_ask_58 : decode cX7_ask 58 = .ok (.invokevirtual 263, 3) := by decide +kernel
theorem dX7_ask_61 : decode cX7_ask 61 = .ok (.ireturn, 1) := by decide +kernel
theorem dX7_ask_62 : decode cX7_ask 62 = .ok (.iload_n 3, 1) := by decide +kernel
theorem dX7_ask_63 : decode cX7_ask 63 = .ok (.ifCond .eq 11, 3) := by decide +kernel
theorem dX7_ask_66 : decode cX7_ask 66 = .ok (.aload_n 0, 1) := by decide +kernel
theorem dX7_ask_67 : decode cX7_ask 67 = .ok (.iload_n 1, 1) := by decide +kernel
theorem dX7_ask_68 : decode cX7_ask 68 = .ok (.invokevirtual 266, 3) := by decide +kernel
theorem dX7_ask_71 : decode cX7_ask 71 = .ok (.goto 8, 3) := by decide +kernel
theorem dX7_ask_74 : decode cX7_ask 74 = .ok (.aload_n 0, 1) := by decide +kernel
theorem dX7_ask_75 : decode cX7_ask 75 = .ok (.iload_n 1, 1) := by decide +kernel
theorem dX7_ask_76 : decode cX7_ask 76 = .ok (.invokevirtual 257, 3) := by decide +kernel
theorem dX7_ask_79 : decode cX7_ask 79 = .ok (.ireturn, 1) := by decide +kernel
theorem dX7_trace_0 : decode cX7_trace 0 = .ok (.iload_n 1, 1) := by decide +kernel
theorem dX7_trace_1 : decode cX7_trace 1 = .ok (.iconst 0, 1) := by decide +kernel
theorem dX7_trace_2 : decode cX7_trace 2 = .ok (.aload_n 0, 1) := by decide +kernel
theorem dX7_trace_3 : decode cX7_trace 3 = .ok (.getfield 251, 3) := by decide +kernel
theorem dX7_trace_6 : decode cX7_trace 6 = .ok (.iconst 1, 1) := by decide +kernel
theorem dX7_trace_7 : decode cX7_trace 7 = .ok (.isub, 1) := by decide +kernel
theorem dX7_trace_8 : decode cX7_trace 8 = .ok (.invokestatic 71, 3) := by decide +kernel
theorem dX7_trace_11 : decode cX7_trace 11 = .ok (.ifCond .eq 12, 3) := by decide +kernel
theorem dX7_trace_14 : decode cX7_trace 14 = .ok (.aload_n 0, 1) := by decide +kernel
theorem dX7_trace_15 : decode cX7_trace 15 = .ok (.getfield 62, 3) := by decide +kernel
theorem dX7_trace_18 : decode cX7_trace 18 = .ok (.iload_n 1, 1) := by decide +kernel
theorem dX7_trace_19 : decode cX7_trace 19 = .ok (.iaload, 1) := by decide +kernel
theorem dX7_trace_20 : decode cX7_trace 20 = .ok (.goto 5, 3) := by decide +kernel
theorem dX7_trace_23 : decode cX7_trace 23 = .ok (.ldc 65, 2) := by decide +kernel
theorem dX7_trace_25 : decode cX7_trace 25 = .ok (.ireturn, 1) := by decide +kernel
theorem dX7_count_0 : decode cX7_count 0 = .ok (.iconst 0, 1) := by decide +kernel
theorem dX7_count_1 : decode cX7_count 1 = .ok (.istore_n 2, 1) := by decide +kernel
theorem dX7_count_2 : decode cX7_count 2 = .ok (.iload_n 1, 1) := by decide +kernel
theorem dX7_count_3 : decode cX7_count 3 = .ok (.tableswitch 146 0 9 #[53, 85, 93, 101, 108, 115, 122, 127, 132, 139], 53) := by decide +kernel
theorem dX7_count_56 : decode cX7_count 56 = .ok (.iconst 0, 1) := by decide +kernel
theorem dX7_count_57 : decode cX7_count 57 = .ok (.istore_n 3, 1) := by decide +kernel
theorem dX7_count_58 : decode cX7_count 58 = .ok (.iload_n 3, 1) := by decide +kernel
theorem dX7_count_59 : decode cX7_count 59 = .ok (.bipush 8, 2) := by decide +kernel
theorem dX7_count_61 : decode cX7_count 61 = .ok (.if_icmp .ge 25, 3) := by decide +kernel
theorem dX7_count_64 : decode cX7_count 64 = .ok (.iload_n 2, 1) := by decide +kernel
theorem dX7_count_65 : decode cX7_count 65 = .ok (.aload_n 0, 1) := by decide +kernel
theorem dX7_count_66 : decode cX7_count 66 = .ok (.iload_n 3, 1) := by decide +kernel
theorem dX7_count_67 : decode cX7_count 67 = .ok (.invokevirtual 87, 3) := by decide +kernel
theorem dX7_count_70 : decode cX7_count 70 = .ok (.ifCond .eq 7, 3) := by decide +kernel
theorem dX7_count_73 : decode cX7_count 73 = .ok (.iconst 0, 1) := by decide +kernel
theorem dX7_count_74 : decode cX7_count 74 = .ok (.goto 4, 3) := by decide +kernel
theorem dX7_count_77 : decode cX7_count 77 = .ok (.iconst 1, 1) := by decide +kernel
theorem dX7_count_78 : decode cX7_count 78 = .ok (.iadd, 1) := by decide +kernel
theorem dX7_count_79 : decode cX7_count 79 = .ok (.istore_n 2, 1) := by decide +kernel
theorem dX7_count_80 : decode cX7_count 80 = .ok (.iinc 3 1, 3) := by decide +kernel
theorem dX7_count_83 : decode cX7_count 83 = .ok (.goto (-25), 3) := by decide +kernel
theorem dX7_count_86 : decode cX7_count 86 = .ok (.iload_n 2, 1) := by decide +kernel
theorem dX7_count_87 : decode cX7_count 87 = .ok (.ireturn, 1) := by decide +kernel
theorem dX7_count_88 : decode cX7_count 88 = .ok (.aload_n 0, 1) := by decide +kernel
theorem dX7_count_89 : decode cX7_count 89 = .ok (.getfield 25, 3) := by decide +kernel
theorem dX7_count_92 : decode cX7_count 92 = .ok (.bipush 6, 2) := by decide +kernel
theorem dX7_count_94 : decode cX7_count 94 = .ok (.iaload, 1) := by decide +kernel
theorem dX7_count_95 : decode cX7_count 95 = .ok (.ireturn, 1) := by decide +kernel
theorem dX7_count_96 : decode cX7_count 96 = .ok (.aload_n 0, 1) := by decide +kernel
theorem dX7_count_97 : decode cX7_count 97 = .ok (.getfield 25, 3) := by decide +kernel
theorem dX7_count_100 : decode cX7_count 100 = .ok (.bipush 25, 2) := by decide +kernel
theorem dX7_count_102 : decode cX7_count 102 = .ok (.iaload, 1) := by decide +kernel
theorem dX7_count_103 : decode cX7_count 103 = .ok (.ireturn, 1) := by decide +kernel
theorem dX7_count_104 : decode cX7_count 104 = .ok (.aload_n 0, 1) := by decide +kernel
theorem dX7_count_105 : decode cX7_count 105 = .ok (.getfield 25, 3) := by decide +kernel
theorem dX7_count_108 : decode cX7_count 108 = .ok (.iconst 3, 1) := by decide +kernel
theorem dX7_count_109 : decode cX7_count 109 = .ok (.iaload, 1) := by decide +kernel
theorem dX7_count_110 : decode cX7_count 110 = .ok (.ireturn, 1) := by decide +kernel
theorem dX7_count_111 : decode cX7_count 111 = .ok (.aload_n 0, 1) := by decide +kernel
theorem dX7_count_112 : decode cX7_count 112 = .ok (.getfield 25, 3) := by decide +kernel
theorem dX7_count_115 : decode cX7_count 115 = .ok (.iconst 4, 1) := by decide +kernel
theorem dX7_count_116 : decode cX7_count 116 = .ok (.iaload, 1) := by decide +kernel
theorem dX7_count_117 : decode cX7_count 117 = .ok (.ireturn, 1) := by decide +kernel
theorem dX7_count_118 : decode cX7_count 118 = .ok (.aload_n 0, 1) := by decide +kernel
theorem dX7_count_119 : decode cX7_count 119 = .ok (.getfield 25, 3) := by decide +kernel
theorem dX7_count_122 : decode cX7_count 122 = .ok (.iconst 1, 1) := by decide +kernel
theorem dX7_count_123 : decode cX7_count 123 = .ok (.iaload, 1) := by decide +kernel
theorem dX7_count_124 : decode cX7_count 124 = .ok (.ireturn, 1) := by decide +kernel
theorem dX7_count_125 : decode cX7_count 125 = .ok (.aload_n 0, 1) := by decide +kernel
theorem dX7_count_126 : decode cX7_count 126 = .ok (.getfield 160, 3) := by decide +kernel
theorem dX7_count_129 : decode cX7_count 129 = .ok (.ireturn, 1) := by decide +kernel
theorem dX7_count_130 : decode cX7_count 130 = .ok (.aload_n 0, 1) := by decide +kernel
theorem dX7_count_131 : decode cX7_count 131 = .ok (.getfield 97, 3) := by decide +kernel
theorem dX7_count_134 : decode cX7_count 134 = .ok (.ireturn, 1) := by decide +kernel
theorem dX7_count_135 : decode cX7_count 135 = .ok (.aload_n 0, 1) := by decide +kernel
theorem dX7_count_136 : decode cX7_count 136 = .ok (.getfield 25, 3) := by decide +kernel
theorem dX7_count_139 : decode cX7_count 139 = .ok (.iconst 2, 1) := by decide +kernel
theorem dX7_count_140 : decode cX7_count 140 = .ok (.iaload, 1) := by decide +kernel
theorem dX7_count_141 : decode cX7_count 141 = .ok (.ireturn, 1) := by decide +kernel
theorem dX7_count_142 : decode cX7_count 142 = .ok (.aload_n 0, 1) := by decide +kernel
theorem dX7_count_143 : decode cX7_count 143 = .ok (.getfield 25, 3) := by decide +kernel
theorem dX7_count_146 : decode cX7_count 146 = .ok (.iconst 5, 1) := by decide +kernel
theorem dX7_count_147 : decode cX7_count 147 = .ok (.iaload, 1) := by decide +kernel
theorem dX7_count_148 : decode cX7_count 148 = .ok (.ireturn, 1) := by decide +kernel
theorem dX7_count_149 : decode cX7_count 149 = .ok (.ldc 79, 2) := by decide +kernel
theorem dX7_count_151 : decode cX7_count 151 = .ok (.ireturn, 1) := by decide +kernel
theorem dX7_status_0 : decode cX7_status 0 = .ok (.aload_n 0, 1) := by decide +kernel
theorem dX7_status_1 : decode cX7_status 1 = .ok (.getfield 66, 3) := by decide +kernel
theorem dX7_status_4 : decode cX7_status 4 = .ok (.ireturn, 1) := by decide +kernel
end
section
theorem dL_law_0 : decode cL_law 0 = .ok (.new 7, 3) := by decide +kernel
theorem dL_law_3 : decode cL_law 3 = .ok (.dup, 1) := by decide +kernel
theorem dL_law_4 : decode cL_law 4 = .ok (.invokespecial 9, 3) := by decide +kernel
theorem dL_law_7 : decode cL_law 7 = .ok (.astore_n 1, 1) := by decide +kernel
theorem dL_law_8 : decode cL_law 8 = .ok (.new 10, 3) := by decide +kernel
theorem dL_law_11 : decode cL_law 11 = .ok (.dup, 1) := by decide +kernel
theorem dL_law_12 : decode cL_law 12 = .ok (.invokespecial 12, 3) := by decide +kernel
theorem dL_law_15 : decode cL_law 15 = .ok (.astore_n 2, 1) := by decide +kernel
theorem dL_law_16 : decode cL_law 16 = .ok (.iconst 0, 1) := by decide +kernel
theorem dL_law_17 : decode cL_law 17 = .ok (.istore_n 3, 1) := by decide +kernel
theorem dL_law_18 : decode cL_law 18 = .ok (.iload_n 3, 1) := by decide +kernel
theorem dL_law_19 : decode cL_law 19 = .ok (.aload_n 0, 1) := by decide +kernel
theorem dL_law_20 : decode cL_law 20 = .ok (.arraylength, 1) := by decide +kernel
theorem dL_law_21 : decode cL_law 21 = .ok (.bipush 8, 2) := by decide +kernel
theorem dL_law_23 : decode cL_law 23 = .ok (.isub, 1) := by decide +kernel
theorem dL_law_24 : decode cL_law 24 = .ok (.if_icmp .gt 1247, 3) := by decide +kernel
theorem dL_law_27 : decode cL_law 27 = .ok (.aload_n 0, 1) := by decide +kernel
theorem dL_law_28 : decode cL_law 28 = .ok (.iload_n 3, 1) := by decide +kernel
theorem dL_law_29 : decode cL_law 29 = .ok (.iaload, 1) := by decide +kernel
theorem dL_law_30 : decode cL_law 30 = .ok (.bipush 63, 2) := by decide +kernel
theorem dL_law_32 : decode cL_law 32 = .ok (.iand, 1) := by decide +kernel
theorem dL_law_33 : decode cL_law 33 = .ok (.tableswitch 1232 0 32 #[147, 190, 233, 296, 319, 342, 355, 368, 391, 424, 437, 470, 483, 516, 549, 582, 595, 628, 661, 694, 727, 802, 889, 942, 995, 1038, 1061, 1084, 1107, 1140, 1173, 1196, 1219], 147) := by decide +kernel
theorem dL_law_180 : decode cL_law 180 = .ok (.aload_n 1, 1) := by decide +kernel
theorem dL_law_181 : decode cL_law 181 = .ok (.aload_n 0, 1) := by decide +kernel
theorem dL_law_182 : decode cL_law 182 = .ok (.iload_n 3, 1) := by decide +kernel
theorem dL_law_183 : decode cL_law 183 = .ok (.iconst 1, 1) := by decide +kernel
theorem dL_law_184 : decode cL_law 184 = .ok (.iadd, 1) := by decide +kernel
theorem dL_law_185 : decode cL_law 185 = .ok (.iaload, 1) := by decide +kernel
theorem dL_law_186 : decode cL_law 186 = .ok (.aload_n 0, 1) := by decide +kernel
theorem dL_law_187 : decode cL_law 187 = .ok (.iload_n 3, 1) := by decide +kernel
theorem dL_law_188 : decode cL_law 188 = .ok (.iconst 2, 1) := by decide +kernel
theorem dL_law_189 : decode cL_law 189 = .ok (.iadd, 1) := by decide +kernel
theorem dL_law_190 : decode cL_law 190 = .ok (.iaload, 1) := by decide +kernel
theorem dL_law_191 : decode cL_law 191 = .ok (.aload_n 0, 1) := by decide +kernel
theorem dL_law_192 : decode cL_law 192 = .ok (.iload_n 3, 1) := by decide +kernel
theorem dL_law_193 : decode cL_law 193 = .ok (.iconst 3, 1) := by decide +kernel
theorem dL_law_194 : decode cL_law 194 = .ok (.iadd, 1) := by decide +kernel
theorem dL_law_195 : decode cL_law 195 = .ok (.iaload, 1) := by decide +kernel
theorem dL_law_196 : decode cL_law 196 = .ok (.invokevirtual 13, 3) := by decide +kernel
theorem dL_law_199 : decode cL_law 199 = .ok (.aload_n 2, 1) := by decide +kernel
theorem dL_law_200 : decode cL_law 200 = .ok (.aload_n 0, 1) := by decide +kernel
theorem dL_law_201 : decode cL_law 201 = .ok (.iload_n 3, 1) := by decide +kernel
theorem dL_law_202 : decode cL_law 202 = .ok (.iconst 1, 1) := by decide +kernel
theorem dL_law_203 : decode cL_law 203 = .ok (.iadd, 1) := by decide +kernel
theorem dL_law_204 : decode cL_law 204 = .ok (.iaload, 1) := by decide +kernel
theorem dL_law_205 : decode cL_law 205 = .ok (.aload_n 0, 1) := by decide +kernel
theorem dL_law_206 : decode cL_law 206 = .ok (.iload_n 3, 1) := by decide +kernel
theorem dL_law_207 : decode cL_law 207 = .ok (.iconst 2, 1) := by decide +kernel
theorem dL_law_208 : decode cL_law 208 = .ok (.iadd, 1) := by decide +kernel
theorem dL_law_209 : decode cL_law 209 = .ok (.iaload, 1) := by decide +kernel
theorem dL_law_210 : decode cL_law 210 = .ok (.aload_n 0, 1) := by decide +kernel
theorem dL_law_211 : decode cL_law 211 = .ok (.iload_n 3, 1) := by decide +kernel
theorem dL_law_212 : decode cL_law 212 = .ok (.iconst 3, 1) := by decide +kernel
theorem dL_law_213 : decode cL_law 213 = .ok (.iadd, 1) := by decide +kernel
theorem dL_law_214 : decode cL_law 214 = .ok (.iaload, 1) := by decide +kernel
theorem dL_law_215 : decode cL_law 215 = .ok (.invokevirtual 17, 3) := by decide +kernel
theorem dL_law_218 : decode cL_law 218 = .ok (.if_icmp .eq 1047, 3) := by decide +kernel
theorem dL_law_221 : decode cL_law 221 = .ok (.iconst 0, 1) := by decide +kernel
theorem dL_law_222 : decode cL_law 222 = .ok (.ireturn, 1) := by decide +kernel
theorem dL_law_223 : decode cL_law 223 = .ok (.aload_n 1, 1) := by decide +kernel
theorem dL_law_224 : decode cL_law 224 = .ok (.aload_n 0, 1) := by decide +kernel
theorem dL_law_225 : decode cL_law 225 = .ok (.iload_n 3, 1) := by decide +kernel
theorem dL_law_226 : decode cL_law 226 = .ok (.iconst 1, 1) := by decide +kernel
theorem dL_law_227 : decode cL_law 227 = .ok (.iadd, 1) := by decide +kernel
theorem dL_law_228 : decode cL_law 228 = .ok (.iaload, 1) := by decide +kernel
theorem dL_law_229 : decode cL_law 229 = .ok (.aload_n 0, 1) := by decide +kernel
theorem dL_law_230 : decode cL_law 230 = .ok (.iload_n 3, 1) := by decide +kernel
theorem dL_law_231 : decode cL_law 231 = .ok (.iconst 2, 1) := by decide +kernel
theorem dL_law_232 : decode cL_law 232 = .ok (.iadd, 1) := by decide +kernel
theorem dL_law_233 : decode cL_law 233 = .ok (.iaload, 1) := by decide +kernel
theorem dL_law_234 : decode cL_law 234 = .ok (.aload_n 0, 1) := by decide +kernel
theorem dL_law_235 : decode cL_law 235 = .ok (.iload_n 3, 1) := by decide +kernel
theorem dL_law_236 : decode cL_law 236 = .ok (.iconst 3, 1) := by decide +kernel
theorem dL_law_237 : decode cL_law 237 = .ok (.iadd, 1) := by decide +kernel
theorem dL_law_238 : decode cL_law 238 = .ok (.iaload, 1) := by decide +kernel
theorem dL_law_239 : decode cL_law 239 = .ok (.invokevirtual 18, 3) := by decide +kernel
theorem dL_law_242 : decode cL_law 242 = .ok (.aload_n 2, 1) := by decide +kernel
theorem dL_law_243 : decode cL_law 243 = .ok (.aload_n 0, 1) := by decide +kernel
theorem dL_law_244 : decode cL_law 244 = .ok (.iload_n 3, 1) := by decide +kernel
theorem dL_law_245 : decode cL_law 245 = .ok (.iconst 1, 1) := by decide +kernel
theorem dL_law_246 : decode cL_law 246 = .ok (.iadd, 1) := by decide +kernel
theorem dL_law_247 : decode cL_law 247 = .ok (.iaload, 1) := by decide +kernel
theorem dL_law_248 : decode cL_law 248 = .ok (.aload_n 0, 1) := by decide +kernel
theorem dL_law_249 : decode cL_law 249 = .ok (.iload_n 3, 1) := by decide +kernel
theorem dL_law_250 : decode cL_law 250 = .ok (.iconst 2, 1) := by decide +kernel
theorem dL_law_251 : decode cL_law 251 = .ok (.iadd, 1) := by decide +kernel
theorem dL_law_252 : decode cL_law 252 = .ok (.iaload, 1) := by decide +kernel
theorem dL_law_253 : decode cL_law 253 = .ok (.aload_n 0, 1) := by decide +kernel
theorem dL_law_254 : decode cL_law 254 = .ok (.iload_n 3, 1) := by decide +kernel
theorem dL_law_255 : decode cL_law 255 = .ok (.iconst 3, 1) := by decide +kernel
theorem dL_law_256 : decode cL_law 256 = .ok (.iadd, 1) := by decide +kernel
theorem dL_law_257 : decode cL_law 257 = .ok (.iaload, 1) := by decide +kernel
theorem dL_law_258 : decode cL_law 258 = .ok (.invokevirtual 21, 3) := by decide +kernel
theorem dL_law_261 : decode cL_law 261 = .ok (.if_icmp .eq 1004, 3) := by decide +kernel
theorem dL_law_264 : decode cL_law 264 = .ok (.iconst 0, 1) := by decide +kernel
theorem dL_law_265 : decode cL_law 265 = .ok (.ireturn, 1) := by decide +kernel
theorem dL_law_266 : decode cL_law 266 = .ok (.aload_n 1, 1) := by decide +kernel
theorem dL_law_267 : decode cL_law 267 = .ok (.aload_n 0, 1) := by decide +kernel
theorem dL_law_268 : decode cL_law 268 = .ok (.iload_n 3, 1) := by decide +kernel
theorem dL_law_269 : decode cL_law 269 = .ok (.iconst 1, 1) := by decide +kernel
theorem dL_law_270 : decode cL_law 270 = .ok (.iadd, 1) := by decide +kernel
theorem dL_law_271 : decode cL_law 271 = .ok (.iaload, 1) := by decide +kernel
theorem dL_law_272 : decode cL_law 272 = .ok (.aload_n 0, 1) := by decide +kernel
theorem dL_law_273 : decode cL_law 273 = .ok (.iload_n 3, 1) := by decide +kernel
theorem dL_law_274 : decode cL_law 274 = .ok (.iconst 2, 1) := by decide +kernel
theorem dL_law_275 : decode cL_law 275 = .ok (.iadd, 1) := by decide +kernel
theorem dL_law_276 : decode cL_law 276 = .ok (.iaload, 1) := by decide +kernel
theorem dL_law_277 : decode cL_law 277 = .ok (.aload_n 0, 1) := by decide +kernel
theorem dL_law_278 : decode cL_law 278 = .ok (.iload_n 3, 1) := by decide +kernel
theorem dL_law_279 : decode cL_law 279 = .ok (.iconst 3, 1) := by decide +kernel
theorem dL_law_280 : decode cL_law 280 = .ok (.iadd, 1) := by decide +kernel
theorem dL_law_281 : decode cL_law 281 = .ok (.iaload, 1) := by decide +kernel
theorem dL_law_282 : decode cL_law 282 = .ok (.aload_n 0, 1) := by decide +kernel
theorem dL_law_283 : decode cL_law 283 = .ok (.iload_n 3, 1) := by decide +kernel
theorem dL_law_284 : decode cL_law 284 = .ok (.iconst 4, 1) := by decide +kernel
theorem dL_law_285 : decode cL_law 285 = .ok (.iadd, 1) := by decide +kernel
theorem dL_law_286 : decode cL_law 286 = .ok (.iaload, 1) := by decide +kernel
theorem dL_law_287 : decode cL_law 287 = .ok (.aload_n 0, 1) := by decide +kernel
theorem dL_law_288 : decode cL_law 288 = .ok (.iload_n 3, 1) := by decide +kernel
theorem dL_law_289 : decode cL_law 289 = .ok (.iconst 5, 1) := by decide +kernel
theorem dL_law_290 : decode cL_law 290 = .ok (.iadd, 1) := by decide +kernel
theorem dL_law_291 : decode cL_law 291 = .ok (.iaload, 1) := by decide +kernel
theorem dL_law_292 : decode cL_law 292 = .ok (.invokevirtual 22, 3) := by decide +kernel
theorem dL_law_295 : decode cL_law 295 = .ok (.aload_n 2, 1) := by decide +kernel
theorem dL_law_296 : decode cL_law 296 = .ok (.aload_n 0, 1) := by decide +kernel
theorem dL_law_297 : decode cL_law 297 = .ok (.iload_n 3, 1) := by decide +kernel
theorem dL_law_298 : decode cL_law 298 = .ok (.iconst 1, 1) := by decide +kernel
theorem dL_law_299 : decode cL_law 299 = .ok (.iadd, 1) := by decide +kernel
theorem dL_law_300 : decode cL_law 300 = .ok (.iaload, 1) := by decide +kernel
theorem dL_law_301 : decode cL_law 301 = .ok (.aload_n 0, 1) := by decide +kernel
theorem dL_law_302 : decode cL_law 302 = .ok (.iload_n 3, 1) := by decide +kernel
theorem dL_law_303 : decode cL_law 303 = .ok (.iconst 2, 1) := by decide +kernel
theorem dL_law_304 : decode cL_law 304 = .ok (.iadd, 1) := by decide +kernel
theorem dL_law_305 : decode cL_law 305 = .ok (.iaload, 1) := by decide +kernel
theorem dL_law_306 : decode cL_law 306 = .ok (.aload_n 0, 1) := by decide +kernel
theorem dL_law_307 : decode cL_law 307 = .ok (.iload_n 3, 1) := by decide +kernel
theorem dL_law_308 : decode cL_law 308 = .ok (.iconst 3, 1) := by decide +kernel
theorem dL_law_309 : decode cL_law 309 = .ok (.iadd, 1) := by decide +kernel
theorem dL_law_310 : decode cL_law 310 = .ok (.iaload, 1) := by decide +kernel
theorem dL_law_311 : decode cL_law 311 = .ok (.aload_n 0, 1) := by decide +kernel
theorem dL_law_312 : decode cL_law 312 = .ok (.iload_n 3, 1) := by decide +kernel
theorem dL_law_313 : decode cL_law 313 = .ok (.iconst 4, 1) := by decide +kernel
theorem dL_law_314 : decode cL_law 314 = .ok (.iadd, 1) := by decide +kernel
theorem dL_law_315 : decode cL_law 315 = .ok (.iaload, 1) := by decide +kernel
theorem dL_law_316 : decode cL_law 316 = .ok (.aload_n 0, 1) := by decide +kernel
theorem dL_law_317 : decode cL_law 317 = .ok (.iload_n 3, 1) := by decide +kernel
theorem dL_law_318 : decode cL_law 318 = .ok (.iconst 5, 1) := by decide +kernel
theorem dL_law_319 : decode cL_law 319 = .ok (.iadd, 1) := by decide +kernel
theorem dL_law_320 : decode cL_law 320 = .ok (.iaload, 1) := by decide +kernel
theorem dL_law_321 : decode cL_law 321 = .ok (.invokevirtual 26, 3) := by decide +kernel
theorem dL_law_324 : decode cL_law 324 = .ok (.if_icmp .eq 941, 3) := by decide +kernel
theorem dL_law_327 : decode cL_law 327 = .ok (.iconst 0, 1) := by decide +kernel
theorem dL_law_328 : decode cL_law 328 = .ok (.ireturn, 1) := by decide +kernel
theorem dL_law_329 : decode cL_law 329 = .ok (.aload_n 1, 1) := by decide +kernel
theorem dL_law_330 : decode cL_law 330 = .ok (.aload_n 0, 1) := by decide +kernel
theorem dL_law_331 : decode cL_law 331 = .ok (.iload_n 3, 1) := by decide +kernel
theorem dL_law_332 : decode cL_law 332 = .ok (.iconst 1, 1) := by decide +kernel
theorem dL_law_333 : decode cL_law 333 = .ok (.iadd, 1) := by decide +kernel
theorem dL_law_334 : decode cL_law 334 = .ok (.iaload, 1) := by decide +kernel
theorem dL_law_335 : decode cL_law 335 = .ok (.invokevirtual 27, 3) := by decide +kernel
theorem dL_law_338 : decode cL_law 338 = .ok (.aload_n 2, 1) := by decide +kernel
theorem dL_law_339 : decode cL_law 339 = .ok (.aload_n 0, 1) := by decide +kernel
theorem dL_law_340 : decode cL_law 340 = .ok (.iload_n 3, 1) := by decide +kernel
theorem dL_law_341 : decode cL_law 341 = .ok (.iconst 1, 1) := by decide +kernel
theorem dL_law_342 : decode cL_law 342 = .ok (.iadd, 1) := by decide +kernel
theorem dL_law_343 : decode cL_law 343 = .ok (.iaload, 1) := by decide +kernel
theorem dL_law_344 : decode cL_law 344 = .ok (.invokevirtual 31, 3) := by decide +kernel
theorem dL_law_347 : decode cL_law 347 = .ok (.if_icmp .eq 918, 3) := by decide +kernel
theorem dL_law_350 : decode cL_law 350 = .ok (.iconst 0, 1) := by decide +kernel
theorem dL_law_351 : decode cL_law 351 = .ok (.ireturn, 1) := by decide +kernel
theorem dL_law_352 : decode cL_law 352 = .ok (.aload_n 1, 1) := by decide +kernel
theorem dL_law_353 : decode cL_law 353 = .ok (.aload_n 0, 1) := by decide +kernel
theorem dL_law_354 : decode cL_law 354 = .ok (.iload_n 3, 1) := by decide +kernel
theorem dL_law_355 : decode cL_law 355 = .ok (.iconst 1, 1) := by decide +kernel
theorem dL_law_356 : decode cL_law 356 = .ok (.iadd, 1) := by decide +kernel
theorem dL_law_357 : decode cL_law 357 = .ok (.iaload, 1) := by decide +kernel
theorem dL_law_358 : decode cL_law 358 = .ok (.invokevirtual 32, 3) := by decide +kernel
theorem dL_law_361 : decode cL_law 361 = .ok (.aload_n 2, 1) := by decide +kernel
theorem dL_law_362 : decode cL_law 362 = .ok (.aload_n 0, 1) := by decide +kernel
theorem dL_law_363 : decode cL_law 363 = .ok (.iload_n 3, 1) := by decide +kernel
theorem dL_law_364 : decode cL_law 364 = .ok (.iconst 1, 1) := by decide +kernel
theorem dL_law_365 : decode cL_law 365 = .ok (.iadd, 1) := by decide +kernel
theorem dL_law_366 : decode cL_law 366 = .ok (.iaload, 1) := by decide +kernel
theorem dL_law_367 : decode cL_law 367 = .ok (.invokevirtual 35, 3) := by decide +kernel
theorem dL_law_370 : decode cL_law 370 = .ok (.if_icmp .eq 895, 3) := by decide +kernel
theorem dL_law_373 : decode cL_law 373 = .ok (.iconst 0, 1) := by decide +kernel
theorem dL_law_374 : decode cL_law 374 = .ok (.ireturn, 1) := by decide +kernel
theorem dL_law_375 : decode cL_law 375 = .ok (.aload_n 1, 1) := by decide +kernel
theorem dL_law_376 : decode cL_law 376 = .ok (.invokevirtual 36, 3) := by decide +kernel
theorem dL_law_379 : decode cL_law 379 = .ok (.aload_n 2, 1) := by decide +kernel
theorem dL_law_380 : decode cL_law 380 = .ok (.invokevirtual 40, 3) := by decide +kernel
theorem dL_law_383 : decode cL_law 383 = .ok (.if_icmp .eq 882, 3) := by decide +kernel
theorem dL_law_386 : decode cL_law 386 = .ok (.iconst 0, 1) := by decide +kernel
theorem dL_law_387 : decode cL_law 387 = .ok (.ireturn, 1) := by decide +kernel
theorem dL_law_388 : decode cL_law 388 = .ok (.aload_n 1, 1) := by decide +kernel
theorem dL_law_389 : decode cL_law 389 = .ok (.invokevirtual 41, 3) := by decide +kernel
theorem dL_law_392 : decode cL_law 392 = .ok (.aload_n 2, 1) := by decide +kernel
theorem dL_law_393 : decode cL_law 393 = .ok (.invokevirtual 44, 3) := by decide +kernel
theorem dL_law_396 : decode cL_law 396 = .ok (.if_icmp .eq 869, 3) := by decide +kernel
theorem dL_law_399 : decode cL_law 399 = .ok (.iconst 0, 1) := by decide +kernel
theorem dL_law_400 : decode cL_law 400 = .ok (.ireturn, 1) := by decide +kernel
theorem dL_law_401 : decode cL_law 401 = .ok (.aload_n 1, 1) := by decide +kernel
theorem dL_law_402 : decode cL_law 402 = .ok (.aload_n 0, 1) := by decide +kernel
theorem dL_law_403 : decode cL_law 403 = .ok (.iload_n 3, 1) := by decide +kernel
theorem dL_law_404 : decode cL_law 404 = .ok (.iconst 1, 1) := by decide +kernel
theorem dL_law_405 : decode cL_law 405 = .ok (.iadd, 1) := by decide +kernel
theorem dL_law_406 : decode cL_law 406 = .ok (.iaload, 1) := by decide +kernel
theorem dL_law_407 : decode cL_law 407 = .ok (.invokevirtual 45, 3) := by decide +kernel
theorem dL_law_410 : decode cL_law 410 = .ok (.aload_n 2, 1) := by decide +kernel
theorem dL_law_411 : decode cL_law 411 = .ok (.aload_n 0, 1) := by decide +kernel
theorem dL_law_412 : decode cL_law 412 = .ok (.iload_n 3, 1) := by decide +kernel
theorem dL_law_413 : decode cL_law 413 = .ok (.iconst 1, 1) := by decide +kernel
theorem dL_law_414 : decode cL_law 414 = .ok (.iadd, 1) := by decide +kernel
theorem dL_law_415 : decode cL_law 415 = .ok (.iaload, 1) := by decide +kernel
theorem dL_law_416 : decode cL_law 416 = .ok (.invokevirtual 48, 3) := by decide +kernel
theorem dL_law_419 : decode cL_law 419 = .ok (.if_icmp .eq 846, 3) := by decide +kernel
theorem dL_law_422 : decode cL_law 422 = .ok (.iconst 0, 1) := by decide +kernel
theorem dL_law_423 : decode cL_law 423 = .ok (.ireturn, 1) := by decide +kernel
theorem dL_law_424 : decode cL_law 424 = .ok (.aload_n 1, 1) := by decide +kernel
theorem dL_law_425 : decode cL_law 425 = .ok (.aload_n 0, 1) := by decide +kernel
theorem dL_law_426 : decode cL_law 426 = .ok (.iload_n 3, 1) := by decide +kernel
theorem dL_law_427 : decode cL_law 427 = .ok (.iconst 1, 1) := by decide +kernel
theorem dL_law_428 : decode cL_law 428 = .ok (.iadd, 1) := by decide +kernel
theorem dL_law_429 : decode cL_law 429 = .ok (.iaload, 1) := by decide +kernel
theorem dL_law_430 : decode cL_law 430 = .ok (.aload_n 0, 1) := by decide +kernel
theorem dL_law_431 : decode cL_law 431 = .ok (.iload_n 3, 1) := by decide +kernel
theorem dL_law_432 : decode cL_law 432 = .ok (.iconst 2, 1) := by decide +kernel
theorem dL_law_433 : decode cL_law 433 = .ok (.iadd, 1) := by decide +kernel
theorem dL_law_434 : decode cL_law 434 = .ok (.iaload, 1) := by decide +kernel
theorem dL_law_435 : decode cL_law 435 = .ok (.invokevirtual 49, 3) := by decide +kernel
theorem dL_law_438 : decode cL_law 438 = .ok (.aload_n 2, 1) := by decide +kernel
theorem dL_law_439 : decode cL_law 439 = .ok (.aload_n 0, 1) := by decide +kernel
theorem dL_law_440 : decode cL_law 440 = .ok (.iload_n 3, 1) := by decide +kernel
theorem dL_law_441 : decode cL_law 441 = .ok (.iconst 1, 1) := by decide +kernel
theorem dL_law_442 : decode cL_law 442 = .ok (.iadd, 1) := by decide +kernel
theorem dL_law_443 : decode cL_law 443 = .ok (.iaload, 1) := by decide +kernel
theorem dL_law_444 : decode cL_law 444 = .ok (.aload_n 0, 1) := by decide +kernel
theorem dL_law_445 : decode cL_law 445 = .ok (.iload_n 3, 1) := by decide +kernel
theorem dL_law_446 : decode cL_law 446 = .ok (.iconst 2, 1) := by decide +kernel
theorem dL_law_447 : decode cL_law 447 = .ok (.iadd, 1) := by decide +kernel
theorem dL_law_448 : decode cL_law 448 = .ok (.iaload, 1) := by decide +kernel
theorem dL_law_449 : decode cL_law 449 = .ok (.invokevirtual 53, 3) := by decide +kernel
theorem dL_law_452 : decode cL_law 452 = .ok (.if_icmp .eq 813, 3) := by decide +kernel
theorem dL_law_455 : decode cL_law 455 = .ok (.iconst 0, 1) := by decide +kernel
theorem dL_law_456 : decode cL_law 456 = .ok (.ireturn, 1) := by decide +kernel
theorem dL_law_457 : decode cL_law 457 = .ok (.aload_n 1, 1) := by decide +kernel
theorem dL_law_458 : decode cL_law 458 = .ok (.invokevirtual 54, 3) := by decide +kernel
theorem dL_law_461 : decode cL_law 461 = .ok (.aload_n 2, 1) := by decide +kernel
theorem dL_law_462 : decode cL_law 462 = .ok (.invokevirtual 57, 3) := by decide +kernel
theorem dL_law_465 : decode cL_law 465 = .ok (.if_icmp .eq 800, 3) := by decide +kernel
theorem dL_law_468 : decode cL_law 468 = .ok (.iconst 0, 1) := by decide +kernel
theorem dL_law_469 : decode cL_law 469 = .ok (.ireturn, 1) := by decide +kernel
theorem dL_law_470 : decode cL_law 470 = .ok (.aload_n 1, 1) := by decide +kernel
theorem dL_law_471 : decode cL_law 471 = .ok (.aload_n 0, 1) := by decide +kernel
theorem dL_law_472 : decode cL_law 472 = .ok (.iload_n 3, 1) := by decide +kernel
theorem dL_law_473 : decode cL_law 473 = .ok (.iconst 1, 1) := by decide +kernel
theorem dL_law_474 : decode cL_law 474 = .ok (.iadd, 1) := by decide +kernel
theorem dL_law_475 : decode cL_law 475 = .ok (.iaload, 1) := by decide +kernel
theorem dL_law_476 : decode cL_law 476 = .ok (.aload_n 0, 1) := by decide +kernel
theorem dL_law_477 : decode cL_law 477 = .ok (.iload_n 3, 1) := by decide +kernel
theorem dL_law_478 : decode cL_law 478 = .ok (.iconst 2, 1) := by decide +kernel
theorem dL_law_479 : decode cL_law 479 = .ok (.iadd, 1) := by decide +kernel
theorem dL_law_480 : decode cL_law 480 = .ok (.iaload, 1) := by decide +kernel
theorem dL_law_481 : decode cL_law 481 = .ok (.invokevirtual 58, 3) := by decide +kernel
theorem dL_law_484 : decode cL_law 484 = .ok (.aload_n 2, 1) := by decide +kernel
theorem dL_law_485 : decode cL_law 485 = .ok (.aload_n 0, 1) := by decide +kernel
theorem dL_law_486 : decode cL_law 486 = .ok (.iload_n 3, 1) := by decide +kernel
theorem dL_law_487 : decode cL_law 487 = .ok (.iconst 1, 1) := by decide +kernel
theorem dL_law_488 : decode cL_law 488 = .ok (.iadd, 1) := by decide +kernel
theorem dL_law_489 : decode cL_law 489 = .ok (.iaload, 1) := by decide +kernel
theorem dL_law_490 : decode cL_law 490 = .ok (.aload_n 0, 1) := by decide +kernel
theorem dL_law_491 : decode cL_law 491 = .ok (.iload_n 3, 1) := by decide +kernel
theorem dL_law_492 : decode cL_law 492 = .ok (.iconst 2, 1) := by decide +kernel
theorem dL_law_493 : decode cL_law 493 = .ok (.iadd, 1) := by decide +kernel
theorem dL_law_494 : decode cL_law 494 = .ok (.iaload, 1) := by decide +kernel
theorem dL_law_495 : decode cL_law 495 = .ok (.invokevirtual 61, 3) := by decide +kernel
theorem dL_law_498 : decode cL_law 498 = .ok (.if_icmp .eq 767, 3) := by decide +kernel
theorem dL_law_501 : decode cL_law 501 = .ok (.iconst 0, 1) := by decide +kernel
theorem dL_law_502 : decode cL_law 502 = .ok (.ireturn, 1) := by decide +kernel
theorem dL_law_503 : decode cL_law 503 = .ok (.aload_n 1, 1) := by decide +kernel
theorem dL_law_504 : decode cL_law 504 = .ok (.invokevirtual 62, 3) := by decide +kernel
theorem dL_law_507 : decode cL_law 507 = .ok (.aload_n 2, 1) := by decide +kernel
theorem dL_law_508 : decode cL_law 508 = .ok (.invokevirtual 65, 3) := by decide +kernel
theorem dL_law_511 : decode cL_law 511 = .ok (.if_icmp .eq 754, 3) := by decide +kernel
theorem dL_law_514 : decode cL_law 514 = .ok (.iconst 0, 1) := by decide +kernel
theorem dL_law_515 : decode cL_law 515 = .ok (.ireturn, 1) := by decide +kernel
theorem dL_law_516 : decode cL_law 516 = .ok (.aload_n 1, 1) := by decide +kernel
theorem dL_law_517 : decode cL_law 517 = .ok (.aload_n 0, 1) := by decide +kernel
theorem dL_law_518 : decode cL_law 518 = .ok (.iload_n 3, 1) := by decide +kernel
theorem dL_law_519 : decode cL_law 519 = .ok (.iconst 1, 1) := by decide +kernel
theorem dL_law_520 : decode cL_law 520 = .ok (.iadd, 1) := by decide +kernel
theorem dL_law_521 : decode cL_law 521 = .ok (.iaload, 1) := by decide +kernel
theorem dL_law_522 : decode cL_law 522 = .ok (.aload_n 0, 1) := by decide +kernel
theorem dL_law_523 : decode cL_law 523 = .ok (.iload_n 3, 1) := by decide +kernel
theorem dL_law_524 : decode cL_law 524 = .ok (.iconst 2, 1) := by decide +kernel
theorem dL_law_525 : decode cL_law 525 = .ok (.iadd, 1) := by decide +kernel
theorem dL_law_526 : decode cL_law 526 = .ok (.iaload, 1) := by decide +kernel
theorem dL_law_527 : decode cL_law 527 = .ok (.invokevirtual 66, 3) := by decide +kernel
theorem dL_law_530 : decode cL_law 530 = .ok (.aload_n 2, 1) := by decide +kernel
theorem dL_law_531 : decode cL_law 531 = .ok (.aload_n 0, 1) := by decide +kernel
theorem dL_law_532 : decode cL_law 532 = .ok (.iload_n 3, 1) := by decide +kernel
theorem dL_law_533 : decode cL_law 533 = .ok (.iconst 1, 1) := by decide +kernel
theorem dL_law_534 : decode cL_law 534 = .ok (.iadd, 1) := by decide +kernel
theorem dL_law_535 : decode cL_law 535 = .ok (.iaload, 1) := by decide +kernel
theorem dL_law_536 : decode cL_law 536 = .ok (.aload_n 0, 1) := by decide +kernel
theorem dL_law_537 : decode cL_law 537 = .ok (.iload_n 3, 1) := by decide +kernel
theorem dL_law_538 : decode cL_law 538 = .ok (.iconst 2, 1) := by decide +kernel
theorem dL_law_539 : decode cL_law 539 = .ok (.iadd, 1) := by decide +kernel
theorem dL_law_540 : decode cL_law 540 = .ok (.iaload, 1) := by decide +kernel
theorem dL_law_541 : decode cL_law 541 = .ok (.invokevirtual 69, 3) := by decide +kernel
theorem dL_law_544 : decode cL_law 544 = .ok (.if_icmp .eq 721, 3) := by decide +kernel
theorem dL_law_547 : decode cL_law 547 = .ok (.iconst 0, 1) := by decide +kernel
theorem dL_law_548 : decode cL_law 548 = .ok (.ireturn, 1) := by decide +kernel
theorem dL_law_549 : decode cL_law 549 = .ok (.aload_n 1, 1) := by decide +kernel
theorem dL_law_550 : decode cL_law 550 = .ok (.aload_n 0, 1) := by decide +kernel
theorem dL_law_551 : decode cL_law 551 = .ok (.iload_n 3, 1) := by decide +kernel
theorem dL_law_552 : decode cL_law 552 = .ok (.iconst 1, 1) := by decide +kernel
theorem dL_law_553 : decode cL_law 553 = .ok (.iadd, 1) := by decide +kernel
theorem dL_law_554 : decode cL_law 554 = .ok (.iaload, 1) := by decide +kernel
theorem dL_law_555 : decode cL_law 555 = .ok (.aload_n 0, 1) := by decide +kernel
theorem dL_law_556 : decode cL_law 556 = .ok (.iload_n 3, 1) := by decide +kernel
theorem dL_law_557 : decode cL_law 557 = .ok (.iconst 2, 1) := by decide +kernel
theorem dL_law_558 : decode cL_law 558 = .ok (.iadd, 1) := by decide +kernel
theorem dL_law_559 : decode cL_law 559 = .ok (.iaload, 1) := by decide +kernel
theorem dL_law_560 : decode cL_law 560 = .ok (.invokevirtual 70, 3) := by decide +kernel
theorem dL_law_563 : decode cL_law 563 = .ok (.aload_n 2, 1) := by decide +kernel
theorem dL_law_564 : decode cL_law 564 = .ok (.aload_n 0, 1) := by decide +kernel
theorem dL_law_565 : decode cL_law 565 = .ok (.iload_n 3, 1) := by decide +kernel
theorem dL_law_566 : decode cL_law 566 = .ok (.iconst 1, 1) := by decide +kernel
theorem dL_law_567 : decode cL_law 567 = .ok (.iadd, 1) := by decide +kernel
theorem dL_law_568 : decode cL_law 568 = .ok (.iaload, 1) := by decide +kernel
theorem dL_law_569 : decode cL_law 569 = .ok (.aload_n 0, 1) := by decide +kernel
theorem dL_law_570 : decode cL_law 570 = .ok (.iload_n 3, 1) := by decide +kernel
theorem dL_law_571 : decode cL_law 571 = .ok (.iconst 2, 1) := by decide +kernel
theorem dL_law_572 : decode cL_law 572 = .ok (.iadd, 1) := by decide +kernel
theorem dL_law_573 : decode cL_law 573 = .ok (.iaload, 1) := by decide +kernel
theorem dL_law_574 : decode cL_law 574 = .ok (.invokevirtual 73, 3) := by decide +kernel
theorem dL_law_577 : decode cL_law 577 = .ok (.if_icmp .eq 688, 3) := by decide +kernel
theorem dL_law_580 : decode cL_law 580 = .ok (.iconst 0, 1) := by decide +kernel
theorem dL_law_581 : decode cL_law 581 = .ok (.ireturn, 1) := by decide +kernel
theorem dL_law_582 : decode cL_law 582 = .ok (.aload_n 1, 1) := by decide +kernel
theorem dL_law_583 : decode cL_law 583 = .ok (.aload_n 0, 1) := by decide +kernel
theorem dL_law_584 : decode cL_law 584 = .ok (.iload_n 3, 1) := by decide +kernel
theorem dL_law_585 : decode cL_law 585 = .ok (.iconst 1, 1) := by decide +kernel
theorem dL_law_586 : decode cL_law 586 = .ok (.iadd, 1) := by decide +kernel
theorem dL_law_587 : decode cL_law 587 = .ok (.iaload, 1) := by decide +kernel
theorem dL_law_588 : decode cL_law 588 = .ok (.aload_n 0, 1) := by decide +kernel
theorem dL_law_589 : decode cL_law 589 = .ok (.iload_n 3, 1) := by decide +kernel
theorem dL_law_590 : decode cL_law 590 = .ok (.iconst 2, 1) := by decide +kernel
theorem dL_law_591 : decode cL_law 591 = .ok (.iadd, 1) := by decide +kernel
theorem dL_law_592 : decode cL_law 592 = .ok (.iaload, 1) := by decide +kernel
theorem dL_law_593 : decode cL_law 593 = .ok (.invokevirtual 74, 3) := by decide +kernel
theorem dL_law_596 : decode cL_law 596 = .ok (.aload_n 2, 1) := by decide +kernel
theorem dL_law_597 : decode cL_law 597 = .ok (.aload_n 0, 1) := by decide +kernel
theorem dL_law_598 : decode cL_law 598 = .ok (.iload_n 3, 1) := by decide +kernel
theorem dL_law_599 : decode cL_law 599 = .ok (.iconst 1, 1) := by decide +kernel
theorem dL_law_600 : decode cL_law 600 = .ok (.iadd, 1) := by decide +kernel
theorem dL_law_601 : decode cL_law 601 = .ok (.iaload, 1) := by decide +kernel
theorem dL_law_602 : decode cL_law 602 = .ok (.aload_n 0, 1) := by decide +kernel
theorem dL_law_603 : decode cL_law 603 = .ok (.iload_n 3, 1) := by decide +kernel
theorem dL_law_604 : decode cL_law 604 = .ok (.iconst 2, 1) := by decide +kernel
theorem dL_law_605 : decode cL_law 605 = .ok (.iadd, 1) := by decide +kernel
theorem dL_law_606 : decode cL_law 606 = .ok (.iaload, 1) := by decide +kernel
theorem dL_law_607 : decode cL_law 607 = .ok (.invokevirtual 77, 3) := by decide +kernel
theorem dL_law_610 : decode cL_law 610 = .ok (.if_icmp .eq 655, 3) := by decide +kernel
theorem dL_law_613 : decode cL_law 613 = .ok (.iconst 0, 1) := by decide +kernel
theorem dL_law_614 : decode cL_law 614 = .ok (.ireturn, 1) := by decide +kernel
theorem dL_law_615 : decode cL_law 615 = .ok (.aload_n 1, 1) := by decide +kernel
theorem dL_law_616 : decode cL_law 616 = .ok (.invokevirtual 78, 3) := by decide +kernel
theorem dL_law_619 : decode cL_law 619 = .ok (.aload_n 2, 1) := by decide +kernel
theorem dL_law_620 : decode cL_law 620 = .ok (.invokevirtual 81, 3) := by decide +kernel
theorem dL_law_623 : decode cL_law 623 = .ok (.if_icmp .eq 642, 3) := by decide +kernel
theorem dL_law_626 : decode cL_law 626 = .ok (.iconst 0, 1) := by decide +kernel
theorem dL_law_627 : decode cL_law 627 = .ok (.ireturn, 1) := by decide +kernel
theorem dL_law_628 : decode cL_law 628 = .ok (.aload_n 1, 1) := by decide +kernel
theorem dL_law_629 : decode cL_law 629 = .ok (.aload_n 0, 1) := by decide +kernel
theorem dL_law_630 : decode cL_law 630 = .ok (.iload_n 3, 1) := by decide +kernel
theorem dL_law_631 : decode cL_law 631 = .ok (.iconst 1, 1) := by decide +kernel
theorem dL_law_632 : decode cL_law 632 = .ok (.iadd, 1) := by decide +kernel
theorem dL_law_633 : decode cL_law 633 = .ok (.iaload, 1) := by decide +kernel
theorem dL_law_634 : decode cL_law 634 = .ok (.aload_n 0, 1) := by decide +kernel
theorem dL_law_635 : decode cL_law 635 = .ok (.iload_n 3, 1) := by decide +kernel
theorem dL_law_636 : decode cL_law 636 = .ok (.iconst 2, 1) := by decide +kernel
theorem dL_law_637 : decode cL_law 637 = .ok (.iadd, 1) := by decide +kernel
theorem dL_law_638 : decode cL_law 638 = .ok (.iaload, 1) := by decide +kernel
theorem dL_law_639 : decode cL_law 639 = .ok (.invokevirtual 82, 3) := by decide +kernel
theorem dL_law_642 : decode cL_law 642 = .ok (.aload_n 2, 1) := by decide +kernel
theorem dL_law_643 : decode cL_law 643 = .ok (.aload_n 0, 1) := by decide +kernel
theorem dL_law_644 : decode cL_law 644 = .ok (.iload_n 3, 1) := by decide +kernel
theorem dL_law_645 : decode cL_law 645 = .ok (.iconst 1, 1) := by decide +kernel
theorem dL_law_646 : decode cL_law 646 = .ok (.iadd, 1) := by decide +kernel
theorem dL_law_647 : decode cL_law 647 = .ok (.iaload, 1) := by decide +kernel
theorem dL_law_648 : decode cL_law 648 = .ok (.aload_n 0, 1) := by decide +kernel
theorem dL_law_649 : decode cL_law 649 = .ok (.iload_n 3, 1) := by decide +kernel
theorem dL_law_650 : decode cL_law 650 = .ok (.iconst 2, 1) := by decide +kernel
theorem dL_law_651 : decode cL_law 651 = .ok (.iadd, 1) := by decide +kernel
theorem dL_law_652 : decode cL_law 652 = .ok (.iaload, 1) := by decide +kernel
theorem dL_law_653 : decode cL_law 653 = .ok (.invokevirtual 85, 3) := by decide +kernel
theorem dL_law_656 : decode cL_law 656 = .ok (.if_icmp .eq 609, 3) := by decide +kernel
theorem dL_law_659 : decode cL_law 659 = .ok (.iconst 0, 1) := by decide +kernel
theorem dL_law_660 : decode cL_law 660 = .ok (.ireturn, 1) := by decide +kernel
theorem dL_law_661 : decode cL_law 661 = .ok (.aload_n 1, 1) := by decide +kernel
theorem dL_law_662 : decode cL_law 662 = .ok (.aload_n 0, 1) := by decide +kernel
theorem dL_law_663 : decode cL_law 663 = .ok (.iload_n 3, 1) := by decide +kernel
theorem dL_law_664 : decode cL_law 664 = .ok (.iconst 1, 1) := by decide +kernel
theorem dL_law_665 : decode cL_law 665 = .ok (.iadd, 1) := by decide +kernel
theorem dL_law_666 : decode cL_law 666 = .ok (.iaload, 1) := by decide +kernel
theorem dL_law_667 : decode cL_law 667 = .ok (.aload_n 0, 1) := by decide +kernel
theorem dL_law_668 : decode cL_law 668 = .ok (.iload_n 3, 1) := by decide +kernel
theorem dL_law_669 : decode cL_law 669 = .ok (.iconst 2, 1) := by decide +kernel
theorem dL_law_670 : decode cL_law 670 = .ok (.iadd, 1) := by decide +kernel
theorem dL_law_671 : decode cL_law 671 = .ok (.iaload, 1) := by decide +kernel
theorem dL_law_672 : decode cL_law 672 = .ok (.invokevirtual 86, 3) := by decide +kernel
theorem dL_law_675 : decode cL_law 675 = .ok (.aload_n 2, 1) := by decide +kernel
theorem dL_law_676 : decode cL_law 676 = .ok (.aload_n 0, 1) := by decide +kernel
theorem dL_law_677 : decode cL_law 677 = .ok (.iload_n 3, 1) := by decide +kernel
theorem dL_law_678 : decode cL_law 678 = .ok (.iconst 1, 1) := by decide +kernel
theorem dL_law_679 : decode cL_law 679 = .ok (.iadd, 1) := by decide +kernel
theorem dL_law_680 : decode cL_law 680 = .ok (.iaload, 1) := by decide +kernel
theorem dL_law_681 : decode cL_law 681 = .ok (.aload_n 0, 1) := by decide +kernel
theorem dL_law_682 : decode cL_law 682 = .ok (.iload_n 3, 1) := by decide +kernel
theorem dL_law_683 : decode cL_law 683 = .ok (.iconst 2, 1) := by decide +kernel
theorem dL_law_684 : decode cL_law 684 = .ok (.iadd, 1) := by decide +kernel
theorem dL_law_685 : decode cL_law 685 = .ok (.iaload, 1) := by decide +kernel
theorem dL_law_686 : decode cL_law 686 = .ok (.invokevirtual 89, 3) := by decide +kernel
theorem dL_law_689 : decode cL_law 689 = .ok (.if_icmp .eq 576, 3) := by decide +kernel
theorem dL_law_692 : decode cL_law 692 = .ok (.iconst 0, 1) := by decide +kernel
theorem dL_law_693 : decode cL_law 693 = .ok (.ireturn, 1) := by decide +kernel
theorem dL_law_694 : decode cL_law 694 = .ok (.aload_n 1, 1) := by decide +kernel
theorem dL_law_695 : decode cL_law 695 = .ok (.aload_n 0, 1) := by decide +kernel
theorem dL_law_696 : decode cL_law 696 = .ok (.iload_n 3, 1) := by decide +kernel
theorem dL_law_697 : decode cL_law 697 = .ok (.iconst 1, 1) := by decide +kernel
theorem dL_law_698 : decode cL_law 698 = .ok (.iadd, 1) := by decide +kernel
theorem dL_law_699 : decode cL_law 699 = .ok (.iaload, 1) := by decide +kernel
theorem dL_law_700 : decode cL_law 700 = .ok (.aload_n 0, 1) := by decide +kernel
theorem dL_law_701 : decode cL_law 701 = .ok (.iload_n 3, 1) := by decide +kernel
theorem dL_law_702 : decode cL_law 702 = .ok (.iconst 2, 1) := by decide +kernel
theorem dL_law_703 : decode cL_law 703 = .ok (.iadd, 1) := by decide +kernel
theorem dL_law_704 : decode cL_law 704 = .ok (.iaload, 1) := by decide +kernel
theorem dL_law_705 : decode cL_law 705 = .ok (.invokevirtual 90, 3) := by decide +kernel
theorem dL_law_708 : decode cL_law 708 = .ok (.aload_n 2, 1) := by decide +kernel
theorem dL_law_709 : decode cL_law 709 = .ok (.aload_n 0, 1) := by decide +kernel
theorem dL_law_710 : decode cL_law 710 = .ok (.iload_n 3, 1) := by decide +kernel
theorem dL_law_711 : decode cL_law 711 = .ok (.iconst 1, 1) := by decide +kernel
theorem dL_law_712 : decode cL_law 712 = .ok (.iadd, 1) := by decide +kernel
theorem dL_law_713 : decode cL_law 713 = .ok (.iaload, 1) := by decide +kernel
theorem dL_law_714 : decode cL_law 714 = .ok (.aload_n 0, 1) := by decide +kernel
theorem dL_law_715 : decode cL_law 715 = .ok (.iload_n 3, 1) := by decide +kernel
theorem dL_law_716 : decode cL_law 716 = .ok (.iconst 2, 1) := by decide +kernel
theorem dL_law_717 : decode cL_law 717 = .ok (.iadd, 1) := by decide +kernel
theorem dL_law_718 : decode cL_law 718 = .ok (.iaload, 1) := by decide +kernel
theorem dL_law_719 : decode cL_law 719 = .ok (.invokevirtual 93, 3) := by decide +kernel
theorem dL_law_722 : decode cL_law 722 = .ok (.if_icmp .eq 543, 3) := by decide +kernel
theorem dL_law_725 : decode cL_law 725 = .ok (.iconst 0, 1) := by decide +kernel
theorem dL_law_726 : decode cL_law 726 = .ok (.ireturn, 1) := by decide +kernel
theorem dL_law_727 : decode cL_law 727 = .ok (.aload_n 1, 1) := by decide +kernel
theorem dL_law_728 : decode cL_law 728 = .ok (.aload_n 0, 1) := by decide +kernel
theorem dL_law_729 : decode cL_law 729 = .ok (.iload_n 3, 1) := by decide +kernel
theorem dL_law_730 : decode cL_law 730 = .ok (.iconst 1, 1) := by decide +kernel
theorem dL_law_731 : decode cL_law 731 = .ok (.iadd, 1) := by decide +kernel
theorem dL_law_732 : decode cL_law 732 = .ok (.iaload, 1) := by decide +kernel
theorem dL_law_733 : decode cL_law 733 = .ok (.aload_n 0, 1) := by decide +kernel
theorem dL_law_734 : decode cL_law 734 = .ok (.iload_n 3, 1) := by decide +kernel
theorem dL_law_735 : decode cL_law 735 = .ok (.iconst 2, 1) := by decide +kernel
theorem dL_law_736 : decode cL_law 736 = .ok (.iadd, 1) := by decide +kernel
theorem dL_law_737 : decode cL_law 737 = .ok (.iaload, 1) := by decide +kernel
theorem dL_law_738 : decode cL_law 738 = .ok (.invokevirtual 94, 3) := by decide +kernel
theorem dL_law_741 : decode cL_law 741 = .ok (.aload_n 2, 1) := by decide +kernel
theorem dL_law_742 : decode cL_law 742 = .ok (.aload_n 0, 1) := by decide +kernel
theorem dL_law_743 : decode cL_law 743 = .ok (.iload_n 3, 1) := by decide +kernel
theorem dL_law_744 : decode cL_law 744 = .ok (.iconst 1, 1) := by decide +kernel
theorem dL_law_745 : decode cL_law 745 = .ok (.iadd, 1) := by decide +kernel
theorem dL_law_746 : decode cL_law 746 = .ok (.iaload, 1) := by decide +kernel
theorem dL_law_747 : decode cL_law 747 = .ok (.aload_n 0, 1) := by decide +kernel
theorem dL_law_748 : decode cL_law 748 = .ok (.iload_n 3, 1) := by decide +kernel
theorem dL_law_749 : decode cL_law 749 = .ok (.iconst 2, 1) := by decide +kernel
theorem dL_law_750 : decode cL_law 750 = .ok (.iadd, 1) := by decide +kernel
theorem dL_law_751 : decode cL_law 751 = .ok (.iaload, 1) := by decide +kernel
theorem dL_law_752 : decode cL_law 752 = .ok (.invokevirtual 97, 3) := by decide +kernel
theorem dL_law_755 : decode cL_law 755 = .ok (.if_icmp .eq 510, 3) := by decide +kernel
theorem dL_law_758 : decode cL_law 758 = .ok (.iconst 0, 1) := by decide +kernel
theorem dL_law_759 : decode cL_law 759 = .ok (.ireturn, 1) := by decide +kernel
theorem dL_law_760 : decode cL_law 760 = .ok (.aload_n 1, 1) := by decide +kernel
theorem dL_law_761 : decode cL_law 761 = .ok (.aload_n 0, 1) := by decide +kernel
theorem dL_law_762 : decode cL_law 762 = .ok (.iload_n 3, 1) := by decide +kernel
theorem dL_law_763 : decode cL_law 763 = .ok (.iconst 1, 1) := by decide +kernel
theorem dL_law_764 : decode cL_law 764 = .ok (.iadd, 1) := by decide +kernel
theorem dL_law_765 : decode cL_law 765 = .ok (.iaload, 1) := by decide +kernel
theorem dL_law_766 : decode cL_law 766 = .ok (.aload_n 0, 1) := by decide +kernel
theorem dL_law_767 : decode cL_law 767 = .ok (.iload_n 3, 1) := by decide +kernel
theorem dL_law_768 : decode cL_law 768 = .ok (.iconst 2, 1) := by decide +kernel
theorem dL_law_769 : decode cL_law 769 = .ok (.iadd, 1) := by decide +kernel
theorem dL_law_770 : decode cL_law 770 = .ok (.iaload, 1) := by decide +kernel
theorem dL_law_771 : decode cL_law 771 = .ok (.aload_n 0, 1) := by decide +kernel
theorem dL_law_772 : decode cL_law 772 = .ok (.iload_n 3, 1) := by decide +kernel
theorem dL_law_773 : decode cL_law 773 = .ok (.iconst 3, 1) := by decide +kernel
theorem dL_law_774 : decode cL_law 774 = .ok (.iadd, 1) := by decide +kernel
theorem dL_law_775 : decode cL_law 775 = .ok (.iaload, 1) := by decide +kernel
theorem dL_law_776 : decode cL_law 776 = .ok (.aload_n 0, 1) := by decide +kernel
theorem dL_law_777 : decode cL_law 777 = .ok (.iload_n 3, 1) := by decide +kernel
theorem dL_law_778 : decode cL_law 778 = .ok (.iconst 4, 1) := by decide +kernel
theorem dL_law_779 : decode cL_law 779 = .ok (.iadd, 1) := by decide +kernel
theorem dL_law_780 : decode cL_law 780 = .ok (.iaload, 1) := by decide +kernel
theorem dL_law_781 : decode cL_law 781 = .ok (.aload_n 0, 1) := by decide +kernel
theorem dL_law_782 : decode cL_law 782 = .ok (.iload_n 3, 1) := by decide +kernel
theorem dL_law_783 : decode cL_law 783 = .ok (.iconst 5, 1) := by decide +kernel
theorem dL_law_784 : decode cL_law 784 = .ok (.iadd, 1) := by decide +kernel
theorem dL_law_785 : decode cL_law 785 = .ok (.iaload, 1) := by decide +kernel
theorem dL_law_786 : decode cL_law 786 = .ok (.aload_n 0, 1) := by decide +kernel
theorem dL_law_787 : decode cL_law 787 = .ok (.iload_n 3, 1) := by decide +kernel
theorem dL_law_788 : decode cL_law 788 = .ok (.bipush 6, 2) := by decide +kernel
theorem dL_law_790 : decode cL_law 790 = .ok (.iadd, 1) := by decide +kernel
theorem dL_law_791 : decode cL_law 791 = .ok (.iaload, 1) := by decide +kernel
theorem dL_law_792 : decode cL_law 792 = .ok (.invokevirtual 98, 3) := by decide +kernel
theorem dL_law_795 : decode cL_law 795 = .ok (.aload_n 2, 1) := by decide +kernel
theorem dL_law_796 : decode cL_law 796 = .ok (.aload_n 0, 1) := by decide +kernel
theorem dL_law_797 : decode cL_law 797 = .ok (.iload_n 3, 1) := by decide +kernel
theorem dL_law_798 : decode cL_law 798 = .ok (.iconst 1, 1) := by decide +kernel
theorem dL_law_799 : decode cL_law 799 = .ok (.iadd, 1) := by decide +kernel
theorem dL_law_800 : decode cL_law 800 = .ok (.iaload, 1) := by decide +kernel
theorem dL_law_801 : decode cL_law 801 = .ok (.aload_n 0, 1) := by decide +kernel
theorem dL_law_802 : decode cL_law 802 = .ok (.iload_n 3, 1) := by decide +kernel
theorem dL_law_803 : decode cL_law 803 = .ok (.iconst 2, 1) := by decide +kernel
theorem dL_law_804 : decode cL_law 804 = .ok (.iadd, 1) := by decide +kernel
theorem dL_law_805 : decode cL_law 805 = .ok (.iaload, 1) := by decide +kernel
theorem dL_law_806 : decode cL_law 806 = .ok (.aload_n 0, 1) := by decide +kernel
theorem dL_law_807 : decode cL_law 807 = .ok (.iload_n 3, 1) := by decide +kernel
theorem dL_law_808 : decode cL_law 808 = .ok (.iconst 3, 1) := by decide +kernel
theorem dL_law_809 : decode cL_law 809 = .ok (.iadd, 1) := by decide +kernel
theorem dL_law_810 : decode cL_law 810 = .ok (.iaload, 1) := by decide +kernel
theorem dL_law_811 : decode cL_law 811 = .ok (.aload_n 0, 1) := by decide +kernel
theorem dL_law_812 : decode cL_law 812 = .ok (.iload_n 3, 1) := by decide +kernel
theorem dL_law_813 : decode cL_law 813 = .ok (.iconst 4, 1) := by decide +kernel
theorem dL_law_814 : decode cL_law 814 = .ok (.iadd, 1) := by decide +kernel
theorem dL_law_815 : decode cL_law 815 = .ok (.iaload, 1) := by decide +kernel
theorem dL_law_816 : decode cL_law 816 = .ok (.aload_n 0, 1) := by decide +kernel
theorem dL_law_817 : decode cL_law 817 = .ok (.iload_n 3, 1) := by decide +kernel
theorem dL_law_818 : decode cL_law 818 = .ok (.iconst 5, 1) := by decide +kernel
theorem dL_law_819 : decode cL_law 819 = .ok (.iadd, 1) := by decide +kernel
theorem dL_law_820 : decode cL_law 820 = .ok (.iaload, 1) := by decide +kernel
theorem dL_law_821 : decode cL_law 821 = .ok (.aload_n 0, 1) := by decide +kernel
theorem dL_law_822 : decode cL_law 822 = .ok (.iload_n 3, 1) := by decide +kernel
theorem dL_law_823 : decode cL_law 823 = .ok (.bipush 6, 2) := by decide +kernel
theorem dL_law_825 : decode cL_law 825 = .ok (.iadd, 1) := by decide +kernel
theorem dL_law_826 : decode cL_law 826 = .ok (.iaload, 1) := by decide +kernel
theorem dL_law_827 : decode cL_law 827 = .ok (.invokevirtual 102, 3) := by decide +kernel
theorem dL_law_830 : decode cL_law 830 = .ok (.if_icmp .eq 435, 3) := by decide +kernel
theorem dL_law_833 : decode cL_law 833 = .ok (.iconst 0, 1) := by decide +kernel
theorem dL_law_834 : decode cL_law 834 = .ok (.ireturn, 1) := by decide +kernel
theorem dL_law_835 : decode cL_law 835 = .ok (.aload_n 1, 1) := by decide +kernel
theorem dL_law_836 : decode cL_law 836 = .ok (.aload_n 0, 1) := by decide +kernel
theorem dL_law_837 : decode cL_law 837 = .ok (.iload_n 3, 1) := by decide +kernel
theorem dL_law_838 : decode cL_law 838 = .ok (.iconst 1, 1) := by decide +kernel
theorem dL_law_839 : decode cL_law 839 = .ok (.iadd, 1) := by decide +kernel
theorem dL_law_840 : decode cL_law 840 = .ok (.iaload, 1) := by decide +kernel
theorem dL_law_841 : decode cL_law 841 = .ok (.aload_n 0, 1) := by decide +kernel
theorem dL_law_842 : decode cL_law 842 = .ok (.iload_n 3, 1) := by decide +kernel
theorem dL_law_843 : decode cL_law 843 = .ok (.iconst 2, 1) := by decide +kernel
theorem dL_law_844 : decode cL_law 844 = .ok (.iadd, 1) := by decide +kernel
theorem dL_law_845 : decode cL_law 845 = .ok (.iaload, 1) := by decide +kernel
theorem dL_law_846 : decode cL_law 846 = .ok (.aload_n 0, 1) := by decide +kernel
theorem dL_law_847 : decode cL_law 847 = .ok (.iload_n 3, 1) := by decide +kernel
theorem dL_law_848 : decode cL_law 848 = .ok (.iconst 3, 1) := by decide +kernel
theorem dL_law_849 : decode cL_law 849 = .ok (.iadd, 1) := by decide +kernel
theorem dL_law_850 : decode cL_law 850 = .ok (.iaload, 1) := by decide +kernel
theorem dL_law_851 : decode cL_law 851 = .ok (.aload_n 0, 1) := by decide +kernel
theorem dL_law_852 : decode cL_law 852 = .ok (.iload_n 3, 1) := by decide +kernel
theorem dL_law_853 : decode cL_law 853 = .ok (.iconst 4, 1) := by decide +kernel
theorem dL_law_854 : decode cL_law 854 = .ok (.iadd, 1) := by decide +kernel
theorem dL_law_855 : decode cL_law 855 = .ok (.iaload, 1) := by decide +kernel
theorem dL_law_856 : decode cL_law 856 = .ok (.aload_n 0, 1) := by decide +kernel
theorem dL_law_857 : decode cL_law 857 = .ok (.iload_n 3, 1) := by decide +kernel
theorem dL_law_858 : decode cL_law 858 = .ok (.iconst 5, 1) := by decide +kernel
theorem dL_law_859 : decode cL_law 859 = .ok (.iadd, 1) := by decide +kernel
theorem dL_law_860 : decode cL_law 860 = .ok (.iaload, 1) := by decide +kernel
theorem dL_law_861 : decode cL_law 861 = .ok (.aload_n 0, 1) := by decide +kernel
theorem dL_law_862 : decode cL_law 862 = .ok (.iload_n 3, 1) := by decide +kernel
theorem dL_law_863 : decode cL_law 863 = .ok (.bipush 6, 2) := by decide +kernel
theorem dL_law_865 : decode cL_law 865 = .ok (.iadd, 1) := by decide +kernel
theorem dL_law_866 : decode cL_law 866 = .ok (.iaload, 1) := by decide +kernel
theorem dL_law_867 : decode cL_law 867 = .ok (.aload_n 0, 1) := by decide +kernel
theorem dL_law_868 : decode cL_law 868 = .ok (.iload_n 3, 1) := by decide +kernel
theorem dL_law_869 : decode cL_law 869 = .ok (.bipush 7, 2) := by decide +kernel
theorem dL_law_871 : decode cL_law 871 = .ok (.iadd, 1) := by decide +kernel
theorem dL_law_872 : decode cL_law 872 = .ok (.iaload, 1) := by decide +kernel
theorem dL_law_873 : decode cL_law 873 = .ok (.invokevirtual 103, 3) := by decide +kernel
theorem dL_law_876 : decode cL_law 876 = .ok (.aload_n 2, 1) := by decide +kernel
theorem dL_law_877 : decode cL_law 877 = .ok (.aload_n 0, 1) := by decide +kernel
theorem dL_law_878 : decode cL_law 878 = .ok (.iload_n 3, 1) := by decide +kernel
theorem dL_law_879 : decode cL_law 879 = .ok (.iconst 1, 1) := by decide +kernel
theorem dL_law_880 : decode cL_law 880 = .ok (.iadd, 1) := by decide +kernel
theorem dL_law_881 : decode cL_law 881 = .ok (.iaload, 1) := by decide +kernel
theorem dL_law_882 : decode cL_law 882 = .ok (.aload_n 0, 1) := by decide +kernel
theorem dL_law_883 : decode cL_law 883 = .ok (.iload_n 3, 1) := by decide +kernel
theorem dL_law_884 : decode cL_law 884 = .ok (.iconst 2, 1) := by decide +kernel
theorem dL_law_885 : decode cL_law 885 = .ok (.iadd, 1) := by decide +kernel
theorem dL_law_886 : decode cL_law 886 = .ok (.iaload, 1) := by decide +kernel
theorem dL_law_887 : decode cL_law 887 = .ok (.aload_n 0, 1) := by decide +kernel
theorem dL_law_888 : decode cL_law 888 = .ok (.iload_n 3, 1) := by decide +kernel
theorem dL_law_889 : decode cL_law 889 = .ok (.iconst 3, 1) := by decide +kernel
theorem dL_law_890 : decode cL_law 890 = .ok (.iadd, 1) := by decide +kernel
theorem dL_law_891 : decode cL_law 891 = .ok (.iaload, 1) := by decide +kernel
theorem dL_law_892 : decode cL_law 892 = .ok (.aload_n 0, 1) := by decide +kernel
theorem dL_law_893 : decode cL_law 893 = .ok (.iload_n 3, 1) := by decide +kernel
theorem dL_law_894 : decode cL_law 894 = .ok (.iconst 4, 1) := by decide +kernel
theorem dL_law_895 : decode cL_law 895 = .ok (.iadd, 1) := by decide +kernel
theorem dL_law_896 : decode cL_law 896 = .ok (.iaload, 1) := by decide +kernel
theorem dL_law_897 : decode cL_law 897 = .ok (.aload_n 0, 1) := by decide +kernel
theorem dL_law_898 : decode cL_law 898 = .ok (.iload_n 3, 1) := by decide +kernel
theorem dL_law_899 : decode cL_law 899 = .ok (.iconst 5, 1) := by decide +kernel
theorem dL_law_900 : decode cL_law 900 = .ok (.iadd, 1) := by decide +kernel
theorem dL_law_901 : decode cL_law 901 = .ok (.iaload, 1) := by decide +kernel
theorem dL_law_902 : decode cL_law 902 = .ok (.aload_n 0, 1) := by decide +kernel
theorem dL_law_903 : decode cL_law 903 = .ok (.iload_n 3, 1) := by decide +kernel
theorem dL_law_904 : decode cL_law 904 = .ok (.bipush 6, 2) := by decide +kernel
theorem dL_law_906 : decode cL_law 906 = .ok (.iadd, 1) := by decide +kernel
theorem dL_law_907 : decode cL_law 907 = .ok (.iaload, 1) := by decide +kernel
theorem dL_law_908 : decode cL_law 908 = .ok (.aload_n 0, 1) := by decide +kernel
theorem dL_law_909 : decode cL_law 909 = .ok (.iload_n 3, 1) := by decide +kernel
theorem dL_law_910 : decode cL_law 910 = .ok (.bipush 7, 2) := by decide +kernel
theorem dL_law_912 : decode cL_law 912 = .ok (.iadd, 1) := by decide +kernel
theorem dL_law_913 : decode cL_law 913 = .ok (.iaload, 1) := by decide +kernel
theorem dL_law_914 : decode cL_law 914 = .ok (.invokevirtual 107, 3) := by decide +kernel
theorem dL_law_917 : decode cL_law 917 = .ok (.if_icmp .eq 348, 3) := by decide +kernel
theorem dL_law_920 : decode cL_law 920 = .ok (.iconst 0, 1) := by decide +kernel
theorem dL_law_921 : decode cL_law 921 = .ok (.ireturn, 1) := by decide +kernel
theorem dL_law_922 : decode cL_law 922 = .ok (.aload_n 1, 1) := by decide +kernel
theorem dL_law_923 : decode cL_law 923 = .ok (.aload_n 0, 1) := by decide +kernel
theorem dL_law_924 : decode cL_law 924 = .ok (.iload_n 3, 1) := by decide +kernel
theorem dL_law_925 : decode cL_law 925 = .ok (.iconst 1, 1) := by decide +kernel
theorem dL_law_926 : decode cL_law 926 = .ok (.iadd, 1) := by decide +kernel
theorem dL_law_927 : decode cL_law 927 = .ok (.iaload, 1) := by decide +kernel
theorem dL_law_928 : decode cL_law 928 = .ok (.aload_n 0, 1) := by decide +kernel
theorem dL_law_929 : decode cL_law 929 = .ok (.iload_n 3, 1) := by decide +kernel
theorem dL_law_930 : decode cL_law 930 = .ok (.iconst 2, 1) := by decide +kernel
theorem dL_law_931 : decode cL_law 931 = .ok (.iadd, 1) := by decide +kernel
theorem dL_law_932 : decode cL_law 932 = .ok (.iaload, 1) := by decide +kernel
theorem dL_law_933 : decode cL_law 933 = .ok (.aload_n 0, 1) := by decide +kernel
theorem dL_law_934 : decode cL_law 934 = .ok (.iload_n 3, 1) := by decide +kernel
theorem dL_law_935 : decode cL_law 935 = .ok (.iconst 3, 1) := by decide +kernel
theorem dL_law_936 : decode cL_law 936 = .ok (.iadd, 1) := by decide +kernel
theorem dL_law_937 : decode cL_law 937 = .ok (.iaload, 1) := by decide +kernel
theorem dL_law_938 : decode cL_law 938 = .ok (.aload_n 0, 1) := by decide +kernel
theorem dL_law_939 : decode cL_law 939 = .ok (.iload_n 3, 1) := by decide +kernel
theorem dL_law_940 : decode cL_law 940 = .ok (.iconst 4, 1) := by decide +kernel
theorem dL_law_941 : decode cL_law 941 = .ok (.iadd, 1) := by decide +kernel
theorem dL_law_942 : decode cL_law 942 = .ok (.iaload, 1) := by decide +kernel
theorem dL_law_943 : decode cL_law 943 = .ok (.invokevirtual 108, 3) := by decide +kernel
theorem dL_law_946 : decode cL_law 946 = .ok (.aload_n 2, 1) := by decide +kernel
theorem dL_law_947 : decode cL_law 947 = .ok (.aload_n 0, 1) := by decide +kernel
theorem dL_law_948 : decode cL_law 948 = .ok (.iload_n 3, 1) := by decide +kernel
theorem dL_law_949 : decode cL_law 949 = .ok (.iconst 1, 1) := by decide +kernel
theorem dL_law_950 : decode cL_law 950 = .ok (.iadd, 1) := by decide +kernel
theorem dL_law_951 : decode cL_law 951 = .ok (.iaload, 1) := by decide +kernel
theorem dL_law_952 : decode cL_law 952 = .ok (.aload_n 0, 1) := by decide +kernel
theorem dL_law_953 : decode cL_law 953 = .ok (.iload_n 3, 1) := by decide +kernel
theorem dL_law_954 : decode cL_law 954 = .ok (.iconst 2, 1) := by decide +kernel
theorem dL_law_955 : decode cL_law 955 = .ok (.iadd, 1) := by decide +kernel
theorem dL_law_956 : decode cL_law 956 = .ok (.iaload, 1) := by decide +kernel
theorem dL_law_957 : decode cL_law 957 = .ok (.aload_n 0, 1) := by decide +kernel
theorem dL_law_958 : decode cL_law 958 = .ok (.iload_n 3, 1) := by decide +kernel
theorem dL_law_959 : decode cL_law 959 = .ok (.iconst 3, 1) := by decide +kernel
theorem dL_law_960 : decode cL_law 960 = .ok (.iadd, 1) := by decide +kernel
theorem dL_law_961 : decode cL_law 961 = .ok (.iaload, 1) := by decide +kernel
theorem dL_law_962 : decode cL_law 962 = .ok (.aload_n 0, 1) := by decide +kernel
theorem dL_law_963 : decode cL_law 963 = .ok (.iload_n 3, 1) := by decide +kernel
theorem dL_law_964 : decode cL_law 964 = .ok (.iconst 4, 1) := by decide +kernel
theorem dL_law_965 : decode cL_law 965 = .ok (.iadd, 1) := by decide +kernel
theorem dL_law_966 : decode cL_law 966 = .ok (.iaload, 1) := by decide +kernel
theorem dL_law_967 : decode cL_law 967 = .ok (.invokevirtual 112, 3) := by decide +kernel
theorem dL_law_970 : decode cL_law 970 = .ok (.if_icmp .eq 295, 3) := by decide +kernel
theorem dL_law_973 : decode cL_law 973 = .ok (.iconst 0, 1) := by decide +kernel
theorem dL_law_974 : decode cL_law 974 = .ok (.ireturn, 1) := by decide +kernel
theorem dL_law_975 : decode cL_law 975 = .ok (.aload_n 1, 1) := by decide +kernel
theorem dL_law_976 : decode cL_law 976 = .ok (.aload_n 0, 1) := by decide +kernel
theorem dL_law_977 : decode cL_law 977 = .ok (.iload_n 3, 1) := by decide +kernel
theorem dL_law_978 : decode cL_law 978 = .ok (.iconst 1, 1) := by decide +kernel
theorem dL_law_979 : decode cL_law 979 = .ok (.iadd, 1) := by decide +kernel
theorem dL_law_980 : decode cL_law 980 = .ok (.iaload, 1) := by decide +kernel
theorem dL_law_981 : decode cL_law 981 = .ok (.aload_n 0, 1) := by decide +kernel
theorem dL_law_982 : decode cL_law 982 = .ok (.iload_n 3, 1) := by decide +kernel
theorem dL_law_983 : decode cL_law 983 = .ok (.iconst 2, 1) := by decide +kernel
theorem dL_law_984 : decode cL_law 984 = .ok (.iadd, 1) := by decide +kernel
theorem dL_law_985 : decode cL_law 985 = .ok (.iaload, 1) := by decide +kernel
theorem dL_law_986 : decode cL_law 986 = .ok (.aload_n 0, 1) := by decide +kernel
theorem dL_law_987 : decode cL_law 987 = .ok (.iload_n 3, 1) := by decide +kernel
theorem dL_law_988 : decode cL_law 988 = .ok (.iconst 3, 1) := by decide +kernel
theorem dL_law_989 : decode cL_law 989 = .ok (.iadd, 1) := by decide +kernel
theorem dL_law_990 : decode cL_law 990 = .ok (.iaload, 1) := by decide +kernel
theorem dL_law_991 : decode cL_law 991 = .ok (.aload_n 0, 1) := by decide +kernel
theorem dL_law_992 : decode cL_law 992 = .ok (.iload_n 3, 1) := by decide +kernel
theorem dL_law_993 : decode cL_law 993 = .ok (.iconst 4, 1) := by decide +kernel
theorem dL_law_994 : decode cL_law 994 = .ok (.iadd, 1) := by decide +kernel
theorem dL_law_995 : decode cL_law 995 = .ok (.iaload, 1) := by decide +kernel
theorem dL_law_996 : decode cL_law 996 = .ok (.invokevirtual 113, 3) := by decide +kernel
theorem dL_law_999 : decode cL_law 999 = .ok (.aload_n 2, 1) := by decide +kernel
theorem dL_law_1000 : decode cL_law 1000 = .ok (.aload_n 0, 1) := by decide +kernel
theorem dL_law_1001 : decode cL_law 1001 = .ok (.iload_n 3, 1) := by decide +kernel
theorem dL_law_1002 : decode cL_law 1002 = .ok (.iconst 1, 1) := by decide +kernel
theorem dL_law_1003 : decode cL_law 1003 = .ok (.iadd, 1) := by decide +kernel
theorem dL_law_1004 : decode cL_law 1004 = .ok (.iaload, 1) := by decide +kernel
theorem dL_law_1005 : decode cL_law 1005 = .ok (.aload_n 0, 1) := by decide +kernel
theorem dL_law_1006 : decode cL_law 1006 = .ok (.iload_n 3, 1) := by decide +kernel
theorem dL_law_1007 : decode cL_law 1007 = .ok (.iconst 2, 1) := by decide +kernel
theorem dL_law_1008 : decode cL_law 1008 = .ok (.iadd, 1) := by decide +kernel
theorem dL_law_1009 : decode cL_law 1009 = .ok (.iaload, 1) := by decide +kernel
theorem dL_law_1010 : decode cL_law 1010 = .ok (.aload_n 0, 1) := by decide +kernel
theorem dL_law_1011 : decode cL_law 1011 = .ok (.iload_n 3, 1) := by decide +kernel
theorem dL_law_1012 : decode cL_law 1012 = .ok (.iconst 3, 1) := by decide +kernel
theorem dL_law_1013 : decode cL_law 1013 = .ok (.iadd, 1) := by decide +kernel
theorem dL_law_1014 : decode cL_law 1014 = .ok (.iaload, 1) := by decide +kernel
theorem dL_law_1015 : decode cL_law 1015 = .ok (.aload_n 0, 1) := by decide +kernel
theorem dL_law_1016 : decode cL_law 1016 = .ok (.iload_n 3, 1) := by decide +kernel
theorem dL_law_1017 : decode cL_law 1017 = .ok (.iconst 4, 1) := by decide +kernel
theorem dL_law_1018 : decode cL_law 1018 = .ok (.iadd, 1) := by decide +kernel
theorem dL_law_1019 : decode cL_law 1019 = .ok (.iaload, 1) := by decide +kernel
theorem dL_law_1020 : decode cL_law 1020 = .ok (.invokevirtual 116, 3) := by decide +kernel
theorem dL_law_1023 : decode cL_law 1023 = .ok (.if_icmp .eq 242, 3) := by decide +kernel
theorem dL_law_1026 : decode cL_law 1026 = .ok (.iconst 0, 1) := by decide +kernel
theorem dL_law_1027 : decode cL_law 1027 = .ok (.ireturn, 1) := by decide +kernel
theorem dL_law_1028 : decode cL_law 1028 = .ok (.aload_n 1, 1) := by decide +kernel
theorem dL_law_1029 : decode cL_law 1029 = .ok (.aload_n 0, 1) := by decide +kernel
theorem dL_law_1030 : decode cL_law 1030 = .ok (.iload_n 3, 1) := by decide +kernel
theorem dL_law_1031 : decode cL_law 1031 = .ok (.iconst 1, 1) := by decide +kernel
theorem dL_law_1032 : decode cL_law 1032 = .ok (.iadd, 1) := by decide +kernel
theorem dL_law_1033 : decode cL_law 1033 = .ok (.iaload, 1) := by decide +kernel
theorem dL_law_1034 : decode cL_law 1034 = .ok (.aload_n 0, 1) := by decide +kernel
theorem dL_law_1035 : decode cL_law 1035 = .ok (.iload_n 3, 1) := by decide +kernel
theorem dL_law_1036 : decode cL_law 1036 = .ok (.iconst 2, 1) := by decide +kernel
theorem dL_law_1037 : decode cL_law 1037 = .ok (.iadd, 1) := by decide +kernel
theorem dL_law_1038 : decode cL_law 1038 = .ok (.iaload, 1) := by decide +kernel
theorem dL_law_1039 : decode cL_law 1039 = .ok (.aload_n 0, 1) := by decide +kernel
theorem dL_law_1040 : decode cL_law 1040 = .ok (.iload_n 3, 1) := by decide +kernel
theorem dL_law_1041 : decode cL_law 1041 = .ok (.iconst 3, 1) := by decide +kernel
theorem dL_law_1042 : decode cL_law 1042 = .ok (.iadd, 1) := by decide +kernel
theorem dL_law_1043 : decode cL_law 1043 = .ok (.iaload, 1) := by decide +kernel
theorem dL_law_1044 : decode cL_law 1044 = .ok (.invokevirtual 117, 3) := by decide +kernel
theorem dL_law_1047 : decode cL_law 1047 = .ok (.aload_n 2, 1) := by decide +kernel
theorem dL_law_1048 : decode cL_law 1048 = .ok (.aload_n 0, 1) := by decide +kernel
theorem dL_law_1049 : decode cL_law 1049 = .ok (.iload_n 3, 1) := by decide +kernel
theorem dL_law_1050 : decode cL_law 1050 = .ok (.iconst 1, 1) := by decide +kernel
theorem dL_law_1051 : decode cL_law 1051 = .ok (.iadd, 1) := by decide +kernel
theorem dL_law_1052 : decode cL_law 1052 = .ok (.iaload, 1) := by decide +kernel
theorem dL_law_1053 : decode cL_law 1053 = .ok (.aload_n 0, 1) := by decide +kernel
theorem dL_law_1054 : decode cL_law 1054 = .ok (.iload_n 3, 1) := by decide +kernel
theorem dL_law_1055 : decode cL_law 1055 = .ok (.iconst 2, 1) := by decide +kernel
theorem dL_law_1056 : decode cL_law 1056 = .ok (.iadd, 1) := by decide +kernel
theorem dL_law_1057 : decode cL_law 1057 = .ok (.iaload, 1) := by decide +kernel
theorem dL_law_1058 : decode cL_law 1058 = .ok (.aload_n 0, 1) := by decide +kernel
theorem dL_law_1059 : decode cL_law 1059 = .ok (.iload_n 3, 1) := by decide +kernel
theorem dL_law_1060 : decode cL_law 1060 = .ok (.iconst 3, 1) := by decide +kernel
theorem dL_law_1061 : decode cL_law 1061 = .ok (.iadd, 1) := by decide +kernel
theorem dL_law_1062 : decode cL_law 1062 = .ok (.iaload, 1) := by decide +kernel
theorem dL_law_1063 : decode cL_law 1063 = .ok (.invokevirtual 120, 3) := by decide +kernel
theorem dL_law_1066 : decode cL_law 1066 = .ok (.if_icmp .eq 199, 3) := by decide +kernel
theorem dL_law_1069 : decode cL_law 1069 = .ok (.iconst 0, 1) := by decide +kernel
theorem dL_law_1070 : decode cL_law 1070 = .ok (.ireturn, 1) := by decide +kernel
theorem dL_law_1071 : decode cL_law 1071 = .ok (.aload_n 1, 1) := by decide +kernel
theorem dL_law_1072 : decode cL_law 1072 = .ok (.aload_n 0, 1) := by decide +kernel
theorem dL_law_1073 : decode cL_law 1073 = .ok (.iload_n 3, 1) := by decide +kernel
theorem dL_law_1074 : decode cL_law 1074 = .ok (.iconst 1, 1) := by decide +kernel
theorem dL_law_1075 : decode cL_law 1075 = .ok (.iadd, 1) := by decide +kernel
theorem dL_law_1076 : decode cL_law 1076 = .ok (.iaload, 1) := by decide +kernel
theorem dL_law_1077 : decode cL_law 1077 = .ok (.invokevirtual 121, 3) := by decide +kernel
theorem dL_law_1080 : decode cL_law 1080 = .ok (.aload_n 2, 1) := by decide +kernel
theorem dL_law_1081 : decode cL_law 1081 = .ok (.aload_n 0, 1) := by decide +kernel
theorem dL_law_1082 : decode cL_law 1082 = .ok (.iload_n 3, 1) := by decide +kernel
theorem dL_law_1083 : decode cL_law 1083 = .ok (.iconst 1, 1) := by decide +kernel
theorem dL_law_1084 : decode cL_law 1084 = .ok (.iadd, 1) := by decide +kernel
theorem dL_law_1085 : decode cL_law 1085 = .ok (.iaload, 1) := by decide +kernel
theorem dL_law_1086 : decode cL_law 1086 = .ok (.invokevirtual 124, 3) := by decide +kernel
theorem dL_law_1089 : decode cL_law 1089 = .ok (.if_icmp .eq 176, 3) := by decide +kernel
theorem dL_law_1092 : decode cL_law 1092 = .ok (.iconst 0, 1) := by decide +kernel
theorem dL_law_1093 : decode cL_law 1093 = .ok (.ireturn, 1) := by decide +kernel
theorem dL_law_1094 : decode cL_law 1094 = .ok (.aload_n 1, 1) := by decide +kernel
theorem dL_law_1095 : decode cL_law 1095 = .ok (.aload_n 0, 1) := by decide +kernel
theorem dL_law_1096 : decode cL_law 1096 = .ok (.iload_n 3, 1) := by decide +kernel
theorem dL_law_1097 : decode cL_law 1097 = .ok (.iconst 1, 1) := by decide +kernel
theorem dL_law_1098 : decode cL_law 1098 = .ok (.iadd, 1) := by decide +kernel
theorem dL_law_1099 : decode cL_law 1099 = .ok (.iaload, 1) := by decide +kernel
theorem dL_law_1100 : decode cL_law 1100 = .ok (.invokevirtual 125, 3) := by decide +kernel
theorem dL_law_1103 : decode cL_law 1103 = .ok (.aload_n 2, 1) := by decide +kernel
theorem dL_law_1104 : decode cL_law 1104 = .ok (.aload_n 0, 1) := by decide +kernel
theorem dL_law_1105 : decode cL_law 1105 = .ok (.iload_n 3, 1) := by decide +kernel
theorem dL_law_1106 : decode cL_law 1106 = .ok (.iconst 1, 1) := by decide +kernel
theorem dL_law_1107 : decode cL_law 1107 = .ok (.iadd, 1) := by decide +kernel
theorem dL_law_1108 : decode cL_law 1108 = .ok (.iaload, 1) := by decide +kernel
theorem dL_law_1109 : decode cL_law 1109 = .ok (.invokevirtual 128, 3) := by decide +kernel
theorem dL_law_1112 : decode cL_law 1112 = .ok (.if_icmp .eq 153, 3) := by decide +kernel
theorem dL_law_1115 : decode cL_law 1115 = .ok (.iconst 0, 1) := by decide +kernel
theorem dL_law_1116 : decode cL_law 1116 = .ok (.ireturn, 1) := by decide +kernel
theorem dL_law_1117 : decode cL_law 1117 = .ok (.aload_n 1, 1) := by decide +kernel
theorem dL_law_1118 : decode cL_law 1118 = .ok (.aload_n 0, 1) := by decide +kernel
theorem dL_law_1119 : decode cL_law 1119 = .ok (.iload_n 3, 1) := by decide +kernel
theorem dL_law_1120 : decode cL_law 1120 = .ok (.iconst 1, 1) := by decide +kernel
theorem dL_law_1121 : decode cL_law 1121 = .ok (.iadd, 1) := by decide +kernel
theorem dL_law_1122 : decode cL_law 1122 = .ok (.iaload, 1) := by decide +kernel
theorem dL_law_1123 : decode cL_law 1123 = .ok (.invokevirtual 129, 3) := by decide +kernel
theorem dL_law_1126 : decode cL_law 1126 = .ok (.aload_n 2, 1) := by decide +kernel
theorem dL_law_1127 : decode cL_law 1127 = .ok (.aload_n 0, 1) := by decide +kernel
theorem dL_law_1128 : decode cL_law 1128 = .ok (.iload_n 3, 1) := by decide +kernel
theorem dL_law_1129 : decode cL_law 1129 = .ok (.iconst 1, 1) := by decide +kernel
theorem dL_law_1130 : decode cL_law 1130 = .ok (.iadd, 1) := by decide +kernel
theorem dL_law_1131 : decode cL_law 1131 = .ok (.iaload, 1) := by decide +kernel
theorem dL_law_1132 : decode cL_law 1132 = .ok (.invokevirtual 132, 3) := by decide +kernel
theorem dL_law_1135 : decode cL_law 1135 = .ok (.if_icmp .eq 130, 3) := by decide +kernel
theorem dL_law_1138 : decode cL_law 1138 = .ok (.iconst 0, 1) := by decide +kernel
theorem dL_law_1139 : decode cL_law 1139 = .ok (.ireturn, 1) := by decide +kernel
theorem dL_law_1140 : decode cL_law 1140 = .ok (.aload_n 1, 1) := by decide +kernel
theorem dL_law_1141 : decode cL_law 1141 = .ok (.aload_n 0, 1) := by decide +kernel
theorem dL_law_1142 : decode cL_law 1142 = .ok (.iload_n 3, 1) := by decide +kernel
theorem dL_law_1143 : decode cL_law 1143 = .ok (.iconst 1, 1) := by decide +kernel
theorem dL_law_1144 : decode cL_law 1144 = .ok (.iadd, 1) := by decide +kernel
theorem dL_law_1145 : decode cL_law 1145 = .ok (.iaload, 1) := by decide +kernel
theorem dL_law_1146 : decode cL_law 1146 = .ok (.aload_n 0, 1) := by decide +kernel
theorem dL_law_1147 : decode cL_law 1147 = .ok (.iload_n 3, 1) := by decide +kernel
theorem dL_law_1148 : decode cL_law 1148 = .ok (.iconst 2, 1) := by decide +kernel
theorem dL_law_1149 : decode cL_law 1149 = .ok (.iadd, 1) := by decide +kernel
theorem dL_law_1150 : decode cL_law 1150 = .ok (.iaload, 1) := by decide +kernel
theorem dL_law_1151 : decode cL_law 1151 = .ok (.invokevirtual 133, 3) := by decide +kernel
theorem dL_law_1154 : decode cL_law 1154 = .ok (.aload_n 2, 1) := by decide +kernel
theorem dL_law_1155 : decode cL_law 1155 = .ok (.aload_n 0, 1) := by decide +kernel
theorem dL_law_1156 : decode cL_law 1156 = .ok (.iload_n 3, 1) := by decide +kernel
theorem dL_law_1157 : decode cL_law 1157 = .ok (.iconst 1, 1) := by decide +kernel
theorem dL_law_1158 : decode cL_law 1158 = .ok (.iadd, 1) := by decide +kernel
theorem dL_law_1159 : decode cL_law 1159 = .ok (.iaload, 1) := by decide +kernel
theorem dL_law_1160 : decode cL_law 1160 = .ok (.aload_n 0, 1) := by decide +kernel
theorem dL_law_1161 : decode cL_law 1161 = .ok (.iload_n 3, 1) := by decide +kernel
theorem dL_law_1162 : decode cL_law 1162 = .ok (.iconst 2, 1) := by decide +kernel
theorem dL_law_1163 : decode cL_law 1163 = .ok (.iadd, 1) := by decide +kernel
theorem dL_law_1164 : decode cL_law 1164 = .ok (.iaload, 1) := by decide +kernel
theorem dL_law_1165 : decode cL_law 1165 = .ok (.invokevirtual 136, 3) := by decide +kernel
theorem dL_law_1168 : decode cL_law 1168 = .ok (.if_icmp .eq 97, 3) := by decide +kernel
theorem dL_law_1171 : decode cL_law 1171 = .ok (.iconst 0, 1) := by decide +kernel
theorem dL_law_1172 : decode cL_law 1172 = .ok (.ireturn, 1) := by decide +kernel
theorem dL_law_1173 : decode cL_law 1173 = .ok (.aload_n 1, 1) := by decide +kernel
theorem dL_law_1174 : decode cL_law 1174 = .ok (.aload_n 0, 1) := by decide +kernel
theorem dL_law_1175 : decode cL_law 1175 = .ok (.iload_n 3, 1) := by decide +kernel
theorem dL_law_1176 : decode cL_law 1176 = .ok (.iconst 1, 1) := by decide +kernel
theorem dL_law_1177 : decode cL_law 1177 = .ok (.iadd, 1) := by decide +kernel
theorem dL_law_1178 : decode cL_law 1178 = .ok (.iaload, 1) := by decide +kernel
theorem dL_law_1179 : decode cL_law 1179 = .ok (.aload_n 0, 1) := by decide +kernel
theorem dL_law_1180 : decode cL_law 1180 = .ok (.iload_n 3, 1) := by decide +kernel
theorem dL_law_1181 : decode cL_law 1181 = .ok (.iconst 2, 1) := by decide +kernel
theorem dL_law_1182 : decode cL_law 1182 = .ok (.iadd, 1) := by decide +kernel
theorem dL_law_1183 : decode cL_law 1183 = .ok (.iaload, 1) := by decide +kernel
theorem dL_law_1184 : decode cL_law 1184 = .ok (.invokevirtual 137, 3) := by decide +kernel
theorem dL_law_1187 : decode cL_law 1187 = .ok (.aload_n 2, 1) := by decide +kernel
theorem dL_law_1188 : decode cL_law 1188 = .ok (.aload_n 0, 1) := by decide +kernel
theorem dL_law_1189 : decode cL_law 1189 = .ok (.iload_n 3, 1) := by decide +kernel
theorem dL_law_1190 : decode cL_law 1190 = .ok (.iconst 1, 1) := by decide +kernel
theorem dL_law_1191 : decode cL_law 1191 = .ok (.iadd, 1) := by decide +kernel
theorem dL_law_1192 : decode cL_law 1192 = .ok (.iaload, 1) := by decide +kernel
theorem dL_law_1193 : decode cL_law 1193 = .ok (.aload_n 0, 1) := by decide +kernel
theorem dL_law_1194 : decode cL_law 1194 = .ok (.iload_n 3, 1) := by decide +kernel
theorem dL_law_1195 : decode cL_law 1195 = .ok (.iconst 2, 1) := by decide +kernel
theorem dL_law_1196 : decode cL_law 1196 = .ok (.iadd, 1) := by decide +kernel
theorem dL_law_1197 : decode cL_law 1197 = .ok (.iaload, 1) := by decide +kernel
theorem dL_law_1198 : decode cL_law 1198 = .ok (.invokevirtual 140, 3) := by decide +kernel
theorem dL_law_1201 : decode cL_law 1201 = .ok (.if_icmp .eq 64, 3) := by decide +kernel
theorem dL_law_1204 : decode cL_law 1204 = .ok (.iconst 0, 1) := by decide +kernel
theorem dL_law_1205 : decode cL_law 1205 = .ok (.ireturn, 1) := by decide +kernel
theorem dL_law_1206 : decode cL_law 1206 = .ok (.aload_n 1, 1) := by decide +kernel
theorem dL_law_1207 : decode cL_law 1207 = .ok (.aload_n 0, 1) := by decide +kernel
theorem dL_law_1208 : decode cL_law 1208 = .ok (.iload_n 3, 1) := by decide +kernel
theorem dL_law_1209 : decode cL_law 1209 = .ok (.iconst 1, 1) := by decide +kernel
theorem dL_law_1210 : decode cL_law 1210 = .ok (.iadd, 1) := by decide +kernel
theorem dL_law_1211 : decode cL_law 1211 = .ok (.iaload, 1) := by decide +kernel
theorem dL_law_1212 : decode cL_law 1212 = .ok (.invokevirtual 141, 3) := by decide +kernel
theorem dL_law_1215 : decode cL_law 1215 = .ok (.aload_n 2, 1) := by decide +kernel
theorem dL_law_1216 : decode cL_law 1216 = .ok (.aload_n 0, 1) := by decide +kernel
theorem dL_law_1217 : decode cL_law 1217 = .ok (.iload_n 3, 1) := by decide +kernel
theorem dL_law_1218 : decode cL_law 1218 = .ok (.iconst 1, 1) := by decide +kernel
theorem dL_law_1219 : decode cL_law 1219 = .ok (.iadd, 1) := by decide +kernel
theorem dL_law_1220 : decode cL_law 1220 = .ok (.iaload, 1) := by decide +kernel
theorem dL_law_1221 : decode cL_law 1221 = .ok (.invokevirtual 144, 3) := by decide +kernel
theorem dL_law_1224 : decode cL_law 1224 = .ok (.if_icmp .eq 41, 3) := by decide +kernel
theorem dL_law_1227 : decode cL_law 1227 = .ok (.iconst 0, 1) := by decide +kernel
theorem dL_law_1228 : decode cL_law 1228 = .ok (.ireturn, 1) := by decide +kernel
theorem dL_law_1229 : decode cL_law 1229 = .ok (.aload_n 1, 1) := by decide +kernel
theorem dL_law_1230 : decode cL_law 1230 = .ok (.aload_n 0, 1) := by decide +kernel
theorem dL_law_1231 : decode cL_law 1231 = .ok (.iload_n 3, 1) := by decide +kernel
theorem dL_law_1232 : decode cL_law 1232 = .ok (.iconst 1, 1) := by decide +kernel
theorem dL_law_1233 : decode cL_law 1233 = .ok (.iadd, 1) := by decide +kernel
theorem dL_law_1234 : decode cL_law 1234 = .ok (.iaload, 1) := by decide +kernel
theorem dL_law_1235 : decode cL_law 1235 = .ok (.invokevirtual 145, 3) := by decide +kernel
theorem dL_law_1238 : decode cL_law 1238 = .ok (.aload_n 2, 1) := by decide +kernel
theorem dL_law_1239 : decode cL_law 1239 = .ok (.aload_n 0, 1) := by decide +kernel
theorem dL_law_1240 : decode cL_law 1240 = .ok (.iload_n 3, 1) := by decide +kernel
theorem dL_law_1241 : decode cL_law 1241 = .ok (.iconst 1, 1) := by decide +kernel
theorem dL_law_1242 : decode cL_law 1242 = .ok (.iadd, 1) := by decide +kernel
theorem dL_law_1243 : decode cL_law 1243 = .ok (.iaload, 1) := by decide +kernel
theorem dL_law_1244 : decode cL_law 1244 = .ok (.invokevirtual 148, 3) := by decide +kernel
theorem dL_law_1247 : decode cL_law 1247 = .ok (.if_icmp .eq 18, 3) := by decide +kernel
theorem dL_law_1250 : decode cL_law 1250 = .ok (.iconst 0, 1) := by decide +kernel
theorem dL_law_1251 : decode cL_law 1251 = .ok (.ireturn, 1) := by decide +kernel
theorem dL_law_1252 : decode cL_law 1252 = .ok (.aload_n 1, 1) := by decide +kernel
theorem dL_law_1253 : decode cL_law 1253 = .ok (.invokevirtual 149, 3) := by decide +kernel
theorem dL_law_1256 : decode cL_law 1256 = .ok (.aload_n 2, 1) := by decide +kernel
theorem dL_law_1257 : decode cL_law 1257 = .ok (.invokevirtual 152, 3) := by decide +kernel
theorem dL_law_1260 : decode cL_law 1260 = .ok (.if_icmp .eq 5, 3) := by decide +kernel
theorem dL_law_1263 : decode cL_law 1263 = .ok (.iconst 0, 1) := by decide +kernel
theorem dL_law_1264 : decode cL_law 1264 = .ok (.ireturn, 1) := by decide +kernel
theorem dL_law_1265 : decode cL_law 1265 = .ok (.iinc 3 8, 3) := by decide +kernel
theorem dL_law_1268 : decode cL_law 1268 = .ok (.goto (-1250), 3) := by decide +kernel
theorem dL_law_1271 : decode cL_law 1271 = .ok (.iconst 1, 1) := by decide +kernel
theorem dL_law_1272 : decode cL_law 1272 = .ok (.ireturn, 1) := by decide +kernel
end
section
/-! ===== a small machine over whole numbers: memory by (cell, place), values, frames; its steps ===== -/
abbrev am_Mem : Type := Nat → Int → Int
/-- an int, a long, a cell's number -/
abbrev am_V : Type := Int ⊕ (Int ⊕ Nat)
/-- kind (below 100: an object of that number's class; 100 int[], 101 boolean[], 102 Town[], 103 int[][]), length, references (number + 1; 0: null) -/
abbrev am_SE : Type := Nat × Nat × List Nat
/-- shapes, cells and slots made since the method's entry, memory -/
abbrev am_H : Type := List am_SE × Nat × Nat × am_Mem
abbrev am_L : Type := List (Option am_V)
/-- owner's number, name, code, locals, result, cells and slots that it may make -/
abbrev am_M : Type := Nat × MethodName × ByteArray × Nat × Option FieldType × Nat × Nat
abbrev am_Res : Type := (Nat × am_L × List am_V × am_H) ⊕ ((Option am_V × am_H) ⊕ (am_M × List am_V × Nat × am_L × List am_V × am_H))
abbrev am_i (z : Int) : am_V := Sum.inl z
abbrev am_l (z : Int) : am_V := Sum.inr (Sum.inl z)
abbrev am_r (a : Nat) : am_V := Sum.inr (Sum.inr a)
def am_w (z : Int) : Int := Int.bmod z 4294967296
def am_wl (z : Int) : Int := Int.bmod z 18446744073709551616
abbrev am_ok (z : Int) : Prop := -2147483648 ≤ z ∧ z ≤ 2147483647
abbrev am_okl (z : Int) : Prop := -9223372036854775808 ≤ z ∧ z ≤ 9223372036854775807
def am_and (x y : Int) : Int := (Int32.ofInt x &&& Int32.ofInt y).toInt
def am_or (x y : Int) : Int := (Int32.ofInt x ||| Int32.ofInt y).toInt
def am_xor (x y : Int) : Int := (Int32.ofInt x ^^^ Int32.ofInt y).toInt
def am_shl (x y : Int) : Int := (Int32.ofInt x <<< (Int32.ofInt y &&& 31)).toInt
def am_shr (x y : Int) : Int := (Int32.ofInt x >>> (Int32.ofInt y &&& 31)).toInt
def am_ushr (x y : Int) : Int := ((Int32.ofInt x).toUInt32 >>> ((Int32.ofInt y).toUInt32 &&& Int32.toUInt32 31)).toInt32.toInt
def am_b8 (x : Int) : Int := (Int32.ofInt x).toInt8.toInt32.toInt
def am_b16 (x : Int) : Int := (Int32.ofInt x).toInt16.toInt32.toInt
def am_cat (v : am_V) : Nat := match v with
  | .inr (.inl _) => 2
  | _ => 1
/-- memory with one place changed -/
def am_up (σ : am_Mem) (a : Nat) (j : Int) (z : Int) : am_Mem := fun b k => if b = a ∧ k = j then z else σ b k
def am_clr (σ : am_Mem) (a n : Nat) : am_Mem := fun b k => if a ≤ b ∧ b < a + n then 0 else σ b k
def am_cpy (σ : am_Mem) (a : Nat) (i : Int) (b : Nat) (j n : Int) : am_Mem := fun q k => if q = b ∧ j ≤ k ∧ k < j + n then σ a (i + (k - j)) else σ q k
def am_get (ls : am_L) (i : Nat) : Option am_V := match ls[i]? with
  | some (some v) => some v
  | _ => none
/-- a long ahead of place i is gone when i is written -/
def am_cut (ls : am_L) (i : Nat) : am_L := match i with
  | 0 => ls
  | j + 1 => match am_get ls j with
    | some (.inr (.inl _)) => ls.set j none
    | _ => ls
def am_sto (ls : am_L) (i : Nat) (v : am_V) : am_L := (am_cut ls i).set i (some v)
def am_stol (ls : am_L) (i : Nat) (v : am_V) : am_L := ((am_cut ls i).set i (some v)).set (i + 1) none
def am_sl : List am_V → am_L
  | [] => []
  | .inr (.inl z) :: vs => some (.inr (.inl z)) :: none :: am_sl vs
  | v :: vs => some v :: am_sl vs
def am_ent (n : Nat) (vs : List am_V) : am_L := am_sl vs ++ List.replicate (n - (am_sl vs).length) none
def am_cmp (c : Jvm.ClassFile.Cond) (x y : Int) : Bool := match c with
  | .eq => decide (x = y)
  | .ne => !decide (x = y)
  | .lt => decide (x < y)
  | .ge => !decide (x < y)
  | .gt => !decide (x ≤ y)
  | .le => decide (x ≤ y)
section
variable (T_fld : Nat → Nat → Option (Nat × Nat)) (T_mth : Nat → Nat → Option (Nat × am_M × Nat)) (T_cst T_csl : Nat → Nat → Option Int) (T_new T_gst : Nat → Nat → Option Nat) (T_ref : Nat → Nat → Bool) (T_num : Nat → Nat) (T_fin : Nat → Nat → Bool)
def am_go (pc : Nat) (ls : am_L) (st : List am_V) (h : am_H) : Option am_Res := some (Sum.inl (pc, ls, st, h))
def am_pI (st : List am_V) (f : Int → List am_V → Option am_Res) : Option am_Res := match st with
  | .inl x :: r => f x r
  | _ => none
def am_pII (st : List am_V) (f : Int → Int → List am_V → Option am_Res) : Option am_Res := match st with
  | .inl y :: .inl x :: r => f x y r
  | _ => none
def am_pL (st : List am_V) (f : Int → List am_V → Option am_Res) : Option am_Res := match st with
  | .inr (.inl x) :: r => f x r
  | _ => none
def am_pLL (st : List am_V) (f : Int → Int → List am_V → Option am_Res) : Option am_Res := match st with
  | .inr (.inl y) :: .inr (.inl x) :: r => f x y r
  | _ => none
def am_pR (st : List am_V) (f : Nat → List am_V → Option am_Res) : Option am_Res := match st with
  | .inr (.inr a) :: r => f a r
  | _ => none
def am_pRI (st : List am_V) (f : Nat → Int → List am_V → Option am_Res) : Option am_Res := match st with
  | .inl j :: .inr (.inr a) :: r => f a j r
  | _ => none
def am_pRII (st : List am_V) (f : Nat → Int → Int → List am_V → Option am_Res) : Option am_Res := match st with
  | .inl z :: .inl j :: .inr (.inr a) :: r => f a j z r
  | _ => none
def am_pRIR (st : List am_V) (f : Nat → Int → Nat → List am_V → Option am_Res) : Option am_Res := match st with
  | .inr (.inr v) :: .inl j :: .inr (.inr a) :: r => f a j v r
  | _ => none
def am_pRV (st : List am_V) (f : Nat → am_V → List am_V → Option am_Res) : Option am_Res := match st with
  | v :: .inr (.inr a) :: r => f a v r
  | _ => none
def am_pCp (st : List am_V) (f : Nat → Int → Nat → Int → Int → List am_V → Option am_Res) : Option am_Res := match st with
  | .inl n :: .inl j :: .inr (.inr b) :: .inl i :: .inr (.inr a) :: r => f a i b j n r
  | _ => none
def am_lI (ls : am_L) (i : Nat) (f : Int → Option am_Res) : Option am_Res := match am_get ls i with
  | some (.inl z) => f z
  | _ => none
def am_lL (ls : am_L) (i : Nat) (f : Int → Option am_Res) : Option am_Res := match am_get ls i with
  | some (.inr (.inl z)) => f z
  | _ => none
def am_lR (ls : am_L) (i : Nat) (f : Nat → Option am_Res) : Option am_Res := match am_get ls i with
  | some (.inr (.inr z)) => f z
  | _ => none
def am_jmp (pc : Nat) (off : Int) (f : Nat → Option am_Res) : Option am_Res := if 0 ≤ (pc : Int) + off then f ((pc : Int) + off).toNat else none
def am_if (b : Prop) [Decidable b] (f : Option am_Res) : Option am_Res := if b then f else none
def am_sh (h : am_H) (a : Nat) (f : Nat → Nat → List Nat → Option am_Res) : Option am_Res := match h.1[a]? with
  | some e => f e.1 e.2.1 e.2.2
  | none => none
def am_rfs (rs : List Nat) (k : Nat) (f : Nat → Option am_Res) : Option am_Res := match rs[k]? with
  | some (t + 1) => f t
  | _ => none
def am_opt {α : Type} (o : Option α) (f : α → Option am_Res) : Option am_Res := match o with
  | some x => f x
  | none => none
def am_words (st : List am_V) : Nat := (st.map am_cat).sum
def am_getf (M : am_M) (ix pc : Nat) (ls : am_L) (st : List am_V) (h : am_H) : Option am_Res :=
  am_pR st fun a r => am_opt (T_fld M.1 ix) fun q => am_sh h a fun ki _ rs => am_if (3 ≤ a ∧ ki = q.1 ∧ q.2 < T_num q.1) <|
    if T_ref q.1 q.2 = true then am_rfs rs q.2 fun t => am_go (pc + 3) ls (am_r t :: r) h
    else am_go (pc + 3) ls (am_i (h.2.2.2 a q.2) :: r) h
def am_putf (M : am_M) (ix pc : Nat) (ls : am_L) (st : List am_V) (h : am_H) : Option am_Res :=
  am_pRV st fun a v r => am_opt (T_fld M.1 ix) fun q => am_sh h a fun ki n rs => am_if (3 ≤ a ∧ ki = q.1 ∧ q.2 < T_num q.1 ∧ (T_fin q.1 q.2 = true → M.2.1.name = "<init>" ∧ q.1 = M.1)) <|
    match v with
    | .inl z => am_if (T_ref q.1 q.2 = false) <| am_go (pc + 3) ls r (h.1, h.2.1, h.2.2.1, am_up h.2.2.2 a q.2 z)
    | .inr (.inr t) => am_if (T_ref q.1 q.2 = true ∧ q.2 < rs.length) <| am_go (pc + 3) ls r (h.1.set a (ki, n, rs.set q.2 (t + 1)), h.2)
    | _ => none
def am_call (M M' : am_M) (na pc : Nat) (ls : am_L) (st : List am_V) (h : am_H) : Option am_Res :=
  am_if (na ≤ st.length ∧ am_words (st.drop na) ≤ 8 ∧ h.2.1 + M'.2.2.2.2.2.1 ≤ M.2.2.2.2.2.1 ∧ h.2.2.1 + M'.2.2.2.2.2.2 ≤ M.2.2.2.2.2.2 ∧ (am_sl (st.take na).reverse).length ≤ M'.2.2.2.1) <|
    some (Sum.inr (Sum.inr (M', (st.take na).reverse, pc + 3, ls, st.drop na, h)))
def am_acp (pc : Nat) (ls : am_L) (st : List am_V) (h : am_H) : Option am_Res :=
  am_pCp st fun a i b j n r => am_sh h a fun ka na _ => am_sh h b fun kb nb _ =>
    am_if (3 ≤ a ∧ 3 ≤ b ∧ ka = 100 ∧ kb = 100 ∧ 0 ≤ i ∧ 0 ≤ j ∧ 0 ≤ n ∧ i + n ≤ na ∧ j + n ≤ nb ∧ am_words r ≤ 8) <|
      am_go (pc + 3) ls r (h.1, h.2.1, h.2.2.1, am_cpy h.2.2.2 a i b j n)
def am_mth (M : am_M) (h : am_H) (r : List am_V) (f : Option am_Res) : Option am_Res := am_if (h.2.1 ≤ M.2.2.2.2.2.1 ∧ h.2.2.1 ≤ M.2.2.2.2.2.2 ∧ am_words r ≤ 8) f
def am_new (M : am_M) (k len : Nat) (e : am_SE) (pc : Nat) (ls : am_L) (r : List am_V) (h : am_H) : Option am_Res :=
  am_if (h.2.1 + 1 ≤ M.2.2.2.2.2.1 ∧ h.2.2.1 + k ≤ M.2.2.2.2.2.2) <|
    am_go (pc + len) ls (am_r h.1.length :: r) (h.1 ++ [e], h.2.1 + 1, h.2.2.1 + k, am_clr h.2.2.2 h.1.length 1)
def am_new2 (M : am_M) (n k : Nat) (pc : Nat) (ls : am_L) (r : List am_V) (h : am_H) : Option am_Res :=
  am_if (h.2.1 + (1 + n) ≤ M.2.2.2.2.2.1 ∧ h.2.2.1 + (n + n * k) ≤ M.2.2.2.2.2.2) <|
    am_go (pc + 4) ls (am_r h.1.length :: r) (h.1 ++ ((103, n, (List.range n).map (fun i => h.1.length + 2 + i)) :: List.replicate n (100, k, [])), h.2.1 + (1 + n), h.2.2.1 + (n + n * k), am_clr h.2.2.2 h.1.length (1 + n))
def am_do (M : am_M) (i : Instr) (pc : Nat) (ls : am_L) (st : List am_V) (h : am_H) : Option am_Res := match i with
  | .iconst v => am_if (am_ok v) <| am_go (pc + 1) ls (am_i v :: st) h
  | .bipush v => am_if (-128 ≤ v ∧ v ≤ 127) <| am_go (pc + 2) ls (am_i v :: st) h
  | .sipush v => am_if (-32768 ≤ v ∧ v ≤ 32767) <| am_go (pc + 3) ls (am_i v :: st) h
  | .ldc ix => am_opt (T_cst M.1 ix) fun v => am_go (pc + 2) ls (am_i v :: st) h
  | .ldc_w ix => am_opt (T_cst M.1 ix) fun v => am_go (pc + 3) ls (am_i v :: st) h
  | .ldc2_w ix => am_opt (T_csl M.1 ix) fun v => am_go (pc + 3) ls (am_l v :: st) h
  | .iload ix => am_lI ls ix fun z => am_go (pc + 2) ls (am_i z :: st) h
  | .iload_n k => am_lI ls k.val fun z => am_go (pc + 1) ls (am_i z :: st) h
  | .lload ix => am_lL ls ix fun z => am_go (pc + 2) ls (am_l z :: st) h
  | .lload_n k => am_lL ls k.val fun z => am_go (pc + 1) ls (am_l z :: st) h
  | .aload ix => am_lR ls ix fun z => am_go (pc + 2) ls (am_r z :: st) h
  | .aload_n k => am_lR ls k.val fun z => am_go (pc + 1) ls (am_r z :: st) h
  | .istore ix => am_pI st fun z r => am_if (ix < ls.length) <| am_go (pc + 2) (am_sto ls ix (am_i z)) r h
  | .istore_n k => am_pI st fun z r => am_if (k.val < ls.length) <| am_go (pc + 1) (am_sto ls k.val (am_i z)) r h
  | .lstore ix => am_pL st fun z r => am_if (ix + 1 < ls.length) <| am_go (pc + 2) (am_stol ls ix (am_l z)) r h
  | .lstore_n k => am_pL st fun z r => am_if (k.val + 1 < ls.length) <| am_go (pc + 1) (am_stol ls k.val (am_l z)) r h
  | .astore ix => am_pR st fun z r => am_if (ix < ls.length) <| am_go (pc + 2) (am_sto ls ix (am_r z)) r h
  | .astore_n k => am_pR st fun z r => am_if (k.val < ls.length) <| am_go (pc + 1) (am_sto ls k.val (am_r z)) r h
  | .iinc ix c => am_lI ls ix fun z => am_if (ix < ls.length) <| am_go (pc + 3) (am_sto ls ix (am_i (am_w (z + c)))) st h
  | .iadd => am_pII st fun x y r => am_go (pc + 1) ls (am_i (am_w (x + y)) :: r) h
  | .isub => am_pII st fun x y r => am_go (pc + 1) ls (am_i (am_w (x - y)) :: r) h
  | .imul => am_pII st fun x y r => am_go (pc + 1) ls (am_i (am_w (x * y)) :: r) h
  | .idiv => am_pII st fun x y r => am_if (y ≠ 0) <| am_go (pc + 1) ls (am_i (am_w (Int.tdiv x y)) :: r) h
  | .irem => am_pII st fun x y r => am_if (y ≠ 0) <| am_go (pc + 1) ls (am_i (Int.tmod x y) :: r) h
  | .ineg => am_pI st fun x r => am_go (pc + 1) ls (am_i (am_w (-x)) :: r) h
  | .iand => am_pII st fun x y r => am_go (pc + 1) ls (am_i (am_and x y) :: r) h
  | .ior => am_pII st fun x y r => am_go (pc + 1) ls (am_i (am_or x y) :: r) h
  | .ixor => am_pII st fun x y r => am_go (pc + 1) ls (am_i (am_xor x y) :: r) h
  | .ishl => am_pII st fun x y r => am_go (pc + 1) ls (am_i (am_shl x y) :: r) h
  | .ishr => am_pII st fun x y r => am_go (pc + 1) ls (am_i (am_shr x y) :: r) h
  | .iushr => am_pII st fun x y r => am_go (pc + 1) ls (am_i (am_ushr x y) :: r) h
  | .i2b => am_pI st fun x r => am_go (pc + 1) ls (am_i (am_b8 x) :: r) h
  | .i2s => am_pI st fun x r => am_go (pc + 1) ls (am_i (am_b16 x) :: r) h
  | .i2l => am_pI st fun x r => am_go (pc + 1) ls (am_l x :: r) h
  | .l2i => am_pL st fun x r => am_go (pc + 1) ls (am_i (am_w x) :: r) h
  | .lmul => am_pLL st fun x y r => am_go (pc + 1) ls (am_l (am_wl (x * y)) :: r) h
  | .lrem => am_pLL st fun x y r => am_if (y ≠ 0) <| am_go (pc + 1) ls (am_l (Int.tmod x y) :: r) h
  | .dup => match st with
    | v :: r => am_if (am_cat v = 1) <| am_go (pc + 1) ls (v :: v :: r) h
    | _ => none
  | .pop => match st with
    | v :: r => am_if (am_cat v = 1) <| am_go (pc + 1) ls r h
    | _ => none
  | .dup2 => match st with
    | v :: w :: r => am_if (am_cat v = 1 ∧ am_cat w = 1) <| am_go (pc + 1) ls (v :: w :: v :: w :: r) h
    | _ => none
  | .goto off => am_jmp pc off fun t => am_go t ls st h
  | .if_icmp c off => am_pII st fun x y r => am_jmp pc off fun t => am_go (if am_cmp c x y = true then t else pc + 3) ls r h
  | .ifCond c off => am_pI st fun x r => am_jmp pc off fun t => am_go (if am_cmp c x 0 = true then t else pc + 3) ls r h
  | .tableswitch d lo hi offs => am_pI st fun x r =>
      if x < lo ∨ hi < x then am_jmp pc d fun t => am_go t ls r h
      else am_opt (offs[(x - lo).toNat]?) fun off => am_jmp pc off fun t => am_go t ls r h
  | .getfield ix => am_getf T_fld T_ref T_num M ix pc ls st h
  | .putfield ix => am_putf T_fld T_ref T_num T_fin M ix pc ls st h
  | .getstatic ix => am_opt (T_gst M.1 ix) fun a => am_if (a < 3) <| am_go (pc + 3) ls (am_r a :: st) h
  | .iaload => am_pRI st fun a j r => am_sh h a fun ki n _ => am_if (ki = 100 ∧ 0 ≤ j ∧ j < n) <| am_go (pc + 1) ls (am_i (h.2.2.2 a j) :: r) h
  | .baload => am_pRI st fun a j r => am_sh h a fun ki n _ => am_if (3 ≤ a ∧ ki = 101 ∧ 0 ≤ j ∧ j < n) <| am_go (pc + 1) ls (am_i (h.2.2.2 a j) :: r) h
  | .aaload => am_pRI st fun a j r => am_sh h a fun ki n rs => am_if (3 ≤ a ∧ (ki = 102 ∨ ki = 103) ∧ 0 ≤ j ∧ j < n) <| am_rfs rs j.toNat fun t => am_go (pc + 1) ls (am_r t :: r) h
  | .iastore => am_pRII st fun a j z r => am_sh h a fun ki n _ => am_if (3 ≤ a ∧ ki = 100 ∧ 0 ≤ j ∧ j < n) <| am_go (pc + 1) ls r (h.1, h.2.1, h.2.2.1, am_up h.2.2.2 a j z)
  | .bastore => am_pRII st fun a j z r => am_sh h a fun ki n _ => am_if (3 ≤ a ∧ ki = 101 ∧ 0 ≤ j ∧ j < n ∧ (z = 0 ∨ z = 1)) <| am_go (pc + 1) ls r (h.1, h.2.1, h.2.2.1, am_up h.2.2.2 a j z)
  | .aastore => am_pRIR st fun a j v r => am_sh h a fun ki n rs => am_sh h v fun kv _ _ => am_if (3 ≤ a ∧ 3 ≤ v ∧ ki = 102 ∧ kv = 5 ∧ 0 ≤ j ∧ j < n ∧ n = rs.length) <| am_go (pc + 1) ls r (h.1.set a (ki, n, rs.set j.toNat (v + 1)), h.2)
  | .arraylength => am_pR st fun a r => am_sh h a fun ki n _ => am_if (ki = 100 ∧ n ≤ 2147483647) <| am_go (pc + 1) ls (am_i n :: r) h
  | .new ix => am_opt (T_new M.1 ix) fun ci => am_if (ci < 100) <| am_new M (T_num ci) 3 (ci, T_num ci, List.replicate (T_num ci) 0) pc ls st h
  | .newarray ty => am_pI st fun z r => am_if (0 ≤ z ∧ z ≤ 100000) <| match ty with
    | .int => am_new M z.toNat 2 (100, z.toNat, []) pc ls r h
    | .boolean => am_new M z.toNat 2 (101, z.toNat, []) pc ls r h
    | _ => none
  | .anewarray ix => am_pI st fun z r => am_if (0 ≤ z ∧ z ≤ 100000 ∧ T_new M.1 ix = some 5) <| am_new M z.toNat 3 (102, z.toNat, List.replicate z.toNat 0) pc ls r h
  | .multianewarray ix 2 => am_pII st fun x y r => am_if (0 ≤ x ∧ 0 ≤ y ∧ x ≤ 100000 ∧ y ≤ 100000 ∧ T_new M.1 ix = some 103) <| am_new2 M x.toNat y.toNat pc ls r h
  | .invokevirtual ix => am_opt (T_mth M.1 ix) fun q => am_if (q.1 = 0 ∧ 0 < q.2.2) <| match (st.drop (q.2.2 - 1)) with
    | .inr (.inr a) :: _ => am_sh h a fun ki _ _ => am_if (3 ≤ a ∧ ki = q.2.1.1 ∧ ki < 100) <| am_call M q.2.1 q.2.2 pc ls st h
    | _ => none
  | .invokestatic ix => am_opt (T_mth M.1 ix) fun q => if q.1 = 5 then am_acp pc ls st h
      else if q.1 = 6 then am_pII st fun x y r => am_mth M h r <| am_go (pc + 3) ls (am_i (if x < y then y else x) :: r) h
      else if q.1 = 7 then am_pII st fun x y r => am_mth M h r <| am_go (pc + 3) ls (am_i (if y < x then y else x) :: r) h
      else if q.1 = 8 then am_pI st fun x r => am_mth M h r <| am_go (pc + 3) ls (am_i (if 0 ≤ x then x else am_w (0 - x)) :: r) h
      else am_if (q.1 = 1 ∨ q.1 = 3) <| am_call M q.2.1 q.2.2 pc ls st h
  | .invokespecial ix => am_opt (T_mth M.1 ix) fun q => if q.1 = 4 then (am_pR st fun _ r => am_if (am_words r ≤ 8) <| am_go (pc + 3) ls r h) else am_if (q.1 = 2 ∧ 0 < q.2.2) <| match (st.drop (q.2.2 - 1)) with
    | .inr (.inr _) :: _ => am_call M q.2.1 q.2.2 pc ls st h
    | _ => none
  | .ireturn => match st with
    | [.inl z] => am_if (h.2.1 ≤ M.2.2.2.2.2.1 ∧ h.2.2.1 ≤ M.2.2.2.2.2.2 ∧ (M.2.2.2.2.1 = some .int ∨ (M.2.2.2.2.1 = some .boolean ∧ (z = 0 ∨ z = 1)))) <| some (Sum.inr (Sum.inl (some (am_i z), h)))
    | _ => none
  | .return_ => match st with
    | [] => am_if (h.2.1 ≤ M.2.2.2.2.2.1 ∧ h.2.2.1 ≤ M.2.2.2.2.2.2 ∧ M.2.2.2.2.1 = none) <| some (Sum.inr (Sum.inl (none, h)))
    | _ => none
  | _ => none
def am_len (i : Instr) (n : Nat) : Nat := match i with
  | .bipush _ | .ldc _ | .iload _ | .lload _ | .aload _ | .istore _ | .lstore _ | .astore _ | .newarray _ => 2
  | .sipush _ | .ldc_w _ | .ldc2_w _ | .iinc _ _ | .goto _ | .if_icmp _ _ | .ifCond _ _ | .getfield _ | .putfield _ | .getstatic _ | .new _ | .anewarray _ | .invokevirtual _ | .invokestatic _ | .invokespecial _ => 3
  | .multianewarray _ _ => 4
  | .tableswitch _ _ _ _ => n
  | _ => 1
def am_step (M : am_M) (pc : Nat) (ls : am_L) (st : List am_V) (h : am_H) : Option am_Res := match decode M.2.2.1 pc with
  | .ok q => am_if (q.2 = am_len q.1 q.2) <| am_do T_fld T_mth T_cst T_csl T_new T_gst T_ref T_num T_fin M q.1 pc ls st h
  | _ => none
abbrev am_Post : Type := Option am_V → am_H → Prop
abbrev am_Cf : Type := Nat → am_L → List am_V → am_H → Prop
abbrev am_Cal : Type := am_M → List am_V → am_H → am_Post → Prop
def am_stp (C : am_Cal) (X : am_Cf) (Q : am_Post) (r : Option am_Res) : Prop := match r with
  | none => False
  | some (.inl c) => X c.1 c.2.1 c.2.2.1 c.2.2.2
  | some (.inr (.inl x)) => Q x.1 x.2
  | some (.inr (.inr y)) => C y.1 y.2.1 (y.2.2.2.2.2.1, 0, 0, y.2.2.2.2.2.2.2.2) (fun v h' => X y.2.2.1 y.2.2.2.1 (v.toList ++ y.2.2.2.2.1) (h'.1, y.2.2.2.2.2.2.1 + y.1.2.2.2.2.2.1, y.2.2.2.2.2.2.2.1 + y.1.2.2.2.2.2.2, h'.2.2.2))
/-- from here the method comes to its end with Q: the least such -/
def am_AW (C : am_Cal) (M : am_M) (Q : am_Post) (pc : Nat) (ls : am_L) (st : List am_V) (h : am_H) : Prop :=
  ∀ X : am_Cf, (∀ pc ls st h, am_stp C X Q (am_step T_fld T_mth T_cst T_csl T_new T_gst T_ref T_num T_fin M pc ls st h) → X pc ls st h) → X pc ls st h
def am_aw : Nat → am_Cal
  | 0 => fun _ _ _ _ => False
  | d + 1 => fun M as h Q => am_AW T_fld T_mth T_cst T_csl T_new T_gst T_ref T_num T_fin (am_aw d) M Q 0 (am_ent M.2.2.2.1 as) [] h
end
theorem am_stp_mono {C C' : am_Cal} (hC : ∀ M as h (Q Q' : am_Post), (∀ v h, Q v h → Q' v h) → C M as h Q → C' M as h Q') {X X' : am_Cf} (hX : ∀ pc ls st h, X pc ls st h → X' pc ls st h) {Q Q' : am_Post} (hQ : ∀ v h, Q v h → Q' v h) {r : Option am_Res} (h : am_stp C X Q r) : am_stp C' X' Q' r := by
  rcases r with _ | c | x | y
  · exact h
  · exact hX _ _ _ _ h
  · exact hQ _ _ h
  · exact hC _ _ _ _ _ (fun v h' q => hX _ _ _ _ q) h
end
section
/-! ===== the program, as tables of the small machine ===== -/
def xr_R (c : Nat) : String := match c with
  | 0 => RX0
  | 1 => RX1
  | 2 => RX2
  | 3 => RX3
  | 4 => RX4
  | 5 => RX5
  | 6 => RX6
  | 7 => RX7
  | 8 => RL
  | 9 => RJ9
  | _ => RJ6
def xr_cl : List vw_C := [(RX0, TX0, 3), (RX1, TX1, 2), (RX2, TX2, 3), (RX3, TX3, 11), (RX4, TX4, 5), (RX5, TX5, 13), (RX6, TX6, 10), (RX7, TX7, 32)]
def xr_ty (c : Nat) : Nat → FieldType := match c with
  | 0 => tyX0
  | 1 => tyX1
  | 2 => tyX2
  | 3 => tyX3
  | 4 => tyX4
  | 5 => tyX5
  | 6 => tyX6
  | _ => tyX7
def xr_T (c : Nat) : u_T := match c with
  | 0 => TX0
  | 1 => TX1
  | 2 => TX2
  | 3 => TX3
  | 4 => TX4
  | 5 => TX5
  | 6 => TX6
  | _ => TX7
def xr_num (c : Nat) : Nat := match c with
  | 0 => 3
  | 1 => 2
  | 2 => 3
  | 3 => 11
  | 4 => 5
  | 5 => 13
  | 6 => 10
  | 7 => 32
  | _ => 0
def xr_ref (c k : Nat) : Bool := match xr_ty c k with
  | .int => false
  | _ => true
def xr_fin (c k : Nat) : Bool := (xr_T c k).2.2.2
abbrev me_X0_init : am_M := (0, yX0_init, cX0_init, 1, none, 25, 120)
abbrev me_X0_forget : am_M := (0, yX0_forget, cX0_forget, 1, none, 0, 0)
abbrev me_X0_keep : am_M := (0, yX0_keep, cX0_keep, 6, none, 0, 0)
abbrev me_X0_takeBack : am_M := (0, yX0_takeBack, cX0_takeBack, 3, none, 0, 0)
abbrev me_X1_init : am_M := (1, yX1_init, cX1_init, 1, none, 1, 16)
abbrev me_X1_answerOf : am_M := (1, yX1_answerOf, cX1_answerOf, 6, (some .int), 0, 0)
abbrev me_X1_gives : am_M := (1, yX1_gives, cX1_gives, 7, (some .int), 0, 0)
abbrev me_X1_leave : am_M := (1, yX1_leave, cX1_leave, 2, none, 0, 0)
abbrev me_X2_init : am_M := (2, yX2_init, cX2_init, 2, none, 11, 344)
abbrev me_X2_findingOf : am_M := (2, yX2_findingOf, cX2_findingOf, 4, (some .int), 0, 0)
abbrev me_X2_findingOfMove : am_M := (2, yX2_findingOfMove, cX2_findingOfMove, 6, (some .int), 0, 0)
abbrev me_X2_howMany : am_M := (2, yX2_howMany, cX2_howMany, 3, (some .int), 0, 0)
abbrev me_X2_isMissing : am_M := (2, yX2_isMissing, cX2_isMissing, 2, (some .boolean), 0, 0)
abbrev me_X2_isRow : am_M := (2, yX2_isRow, cX2_isRow, 1, (some .boolean), 0, 0)
abbrev me_X2_lay : am_M := (2, yX2_lay, cX2_lay, 5, none, 0, 0)
abbrev me_X2_lose : am_M := (2, yX2_lose, cX2_lose, 3, (some .int), 0, 0)
abbrev me_X2_move : am_M := (2, yX2_move, cX2_move, 6, none, 0, 0)
abbrev me_X2_put : am_M := (2, yX2_put, cX2_put, 5, (some .int), 0, 0)
abbrev me_X2_spans : am_M := (2, yX2_spans, cX2_spans, 4, (some .boolean), 0, 0)
abbrev me_X3_init : am_M := (3, yX3_init, cX3_init, 1, none, 3, 272)
abbrev me_X3_keepPath : am_M := (3, yX3_keepPath, cX3_keepPath, 4, none, 0, 0)
abbrev me_X3_seek : am_M := (3, yX3_seek, cX3_seek, 5, none, 0, 0)
abbrev me_X3_seekWithin : am_M := (3, yX3_seekWithin, cX3_seekWithin, 6, none, 0, 0)
abbrev me_X3_streetOf : am_M := (3, yX3_streetOf, cX3_streetOf, 2, (some .int), 0, 0)
abbrev me_X3_walk : am_M := (3, yX3_walk, cX3_walk, 11, none, 0, 0)
abbrev me_X3_weigh : am_M := (3, yX3_weigh, cX3_weigh, 8, none, 0, 0)
abbrev me_X3_weightOfEnough : am_M := (3, yX3_weightOfEnough, cX3_weightOfEnough, 7, (some .int), 0, 0)
abbrev me_X4_init : am_M := (4, yX4_init, cX4_init, 1, none, 1, 120)
abbrev me_X4_failsAt : am_M := (4, yX4_failsAt, cX4_failsAt, 3, (some .boolean), 0, 0)
abbrev me_X4_isTold : am_M := (4, yX4_isTold, cX4_isTold, 4, (some .boolean), 0, 0)
abbrev me_X4_kindOf : am_M := (4, yX4_kindOf, cX4_kindOf, 1, (some .int), 0, 0)
abbrev me_X4_letterHere : am_M := (4, yX4_letterHere, cX4_letterHere, 1, (some .int), 0, 0)
abbrev me_X4_numberWithin : am_M := (4, yX4_numberWithin, cX4_numberWithin, 6, (some .int), 0, 0)
abbrev me_X4_put : am_M := (4, yX4_put, cX4_put, 2, (some .int), 0, 0)
abbrev me_X4_readCorners : am_M := (4, yX4_readCorners, cX4_readCorners, 4, (some .boolean), 0, 0)
abbrev me_X4_readEnds : am_M := (4, yX4_readEnds, cX4_readEnds, 6, (some .boolean), 0, 0)
abbrev me_X4_readInto : am_M := (4, yX4_readInto, cX4_readInto, 2, (some .boolean), 0, 0)
abbrev me_X4_readLaw : am_M := (4, yX4_readLaw, cX4_readLaw, 2, (some .boolean), 0, 0)
abbrev me_X4_readStreets : am_M := (4, yX4_readStreets, cX4_readStreets, 3, (some .boolean), 0, 0)
abbrev me_X4_takes : am_M := (4, yX4_takes, cX4_takes, 2, (some .boolean), 0, 0)
abbrev me_X5_init : am_M := (5, yX5_init, cX5_init, 1, none, 5, 34)
abbrev me_X5_become : am_M := (5, yX5_become, cX5_become, 2, none, 0, 0)
abbrev me_X5_clear : am_M := (5, yX5_clear, cX5_clear, 1, none, 0, 0)
abbrev me_X5_costBetween : am_M := (5, yX5_costBetween, cX5_costBetween, 4, (some .int), 0, 0)
abbrev me_X5_costBy : am_M := (5, yX5_costBy, cX5_costBy, 2, (some .int), 0, 0)
abbrev me_X5_goBy : am_M := (5, yX5_goBy, cX5_goBy, 2, none, 0, 0)
abbrev me_X5_goByDraw : am_M := (5, yX5_goByDraw, cX5_goByDraw, 6, none, 0, 0)
abbrev me_X5_hasCorner : am_M := (5, yX5_hasCorner, cX5_hasCorner, 2, (some .boolean), 0, 0)
abbrev me_X5_hasStreet : am_M := (5, yX5_hasStreet, cX5_hasStreet, 2, (some .boolean), 0, 0)
abbrev me_X5_isOpen : am_M := (5, yX5_isOpen, cX5_isOpen, 2, (some .boolean), 0, 0)
abbrev me_X5_leads : am_M := (5, yX5_leads, cX5_leads, 2, (some .boolean), 0, 0)
abbrev me_X5_leadsFrom : am_M := (5, yX5_leadsFrom, cX5_leadsFrom, 3, (some .boolean), 0, 0)
abbrev me_X5_moodBehind : am_M := (5, yX5_moodBehind, cX5_moodBehind, 5, (some .int), 0, 0)
abbrev me_X5_moodBy : am_M := (5, yX5_moodBy, cX5_moodBy, 2, (some .int), 0, 0)
abbrev me_X5_openWays : am_M := (5, yX5_openWays, cX5_openWays, 4, (some .int), 0, 0)
abbrev me_X5_stands : am_M := (5, yX5_stands, cX5_stands, 1, (some .boolean), 0, 0)
abbrev me_X5_turn : am_M := (5, yX5_turn, cX5_turn, 2, none, 0, 0)
abbrev me_X6_init : am_M := (6, yX6_init, cX6_init, 2, none, 71, 1086)
abbrev me_X6_areFitting : am_M := (6, yX6_areFitting, cX6_areFitting, 4, (some .boolean), 0, 0)
abbrev me_X6_as : am_M := (6, yX6_as, cX6_as, 3, (some .int), 0, 0)
abbrev me_X6_ask : am_M := (6, yX6_ask, cX6_ask, 3, (some .int), 0, 0)
abbrev me_X6_cheapest : am_M := (6, yX6_cheapest, cX6_cheapest, 3, (some .int), 0, 0)
abbrev me_X6_commonDivisor : am_M := (6, yX6_commonDivisor, cX6_commonDivisor, 6, (some .int), 0, 0)
abbrev me_X6_copy : am_M := (6, yX6_copy, cX6_copy, 7, (some .int), 0, 0)
abbrev me_X6_corner : am_M := (6, yX6_corner, cX6_corner, 3, (some .int), 0, 0)
abbrev me_X6_count : am_M := (6, yX6_count, cX6_count, 2, (some .int), 0, 0)
abbrev me_X6_dearest : am_M := (6, yX6_dearest, cX6_dearest, 3, (some .int), 0, 0)
abbrev me_X6_drawn : am_M := (6, yX6_drawn, cX6_drawn, 7, (some .int), 0, 0)
abbrev me_X6_drop : am_M := (6, yX6_drop, cX6_drop, 2, (some .int), 0, 0)
abbrev me_X6_fault : am_M := (6, yX6_fault, cX6_fault, 1, (some .int), 0, 0)
abbrev me_X6_feed : am_M := (6, yX6_feed, cX6_feed, 2, (some .int), 0, 0)
abbrev me_X6_findingOfTwo : am_M := (6, yX6_findingOfTwo, cX6_findingOfTwo, 7, (some .int), 0, 0)
abbrev me_X6_fits : am_M := (6, yX6_fits, cX6_fits, 12, (some .int), 0, 0)
abbrev me_X6_fitsOf : am_M := (6, yX6_fitsOf, cX6_fitsOf, 13, (some .int), 0, 0)
abbrev me_X6_found : am_M := (6, yX6_found, cX6_found, 2, (some .int), 0, 0)
abbrev me_X6_gets : am_M := (6, yX6_gets, cX6_gets, 3, (some .int), 0, 0)
abbrev me_X6_image : am_M := (6, yX6_image, cX6_image, 2, (some .int), 0, 0)
abbrev me_X6_isOfKind : am_M := (6, yX6_isOfKind, cX6_isOfKind, 2, (some .boolean), 0, 0)
abbrev me_X6_isSo : am_M := (6, yX6_isSo, cX6_isSo, 8, (some .boolean), 0, 0)
abbrev me_X6_kind : am_M := (6, yX6_kind, cX6_kind, 2, (some .int), 0, 0)
abbrev me_X6_lesson : am_M := (6, yX6_lesson, cX6_lesson, 4, (some .int), 0, 0)
abbrev me_X6_moods : am_M := (6, yX6_moods, cX6_moods, 3, (some .int), 0, 0)
abbrev me_X6_owedFrom : am_M := (6, yX6_owedFrom, cX6_owedFrom, 8, (some .int), 0, 0)
abbrev me_X6_power : am_M := (6, yX6_power, cX6_power, 4, (some .int), 0, 0)
abbrev me_X6_reach : am_M := (6, yX6_reach, cX6_reach, 1, (some .int), 0, 0)
abbrev me_X6_reset : am_M := (6, yX6_reset, cX6_reset, 2, (some .int), 0, 0)
abbrev me_X6_restore : am_M := (6, yX6_restore, cX6_restore, 2, (some .int), 0, 0)
abbrev me_X6_ride : am_M := (6, yX6_ride, cX6_ride, 2, (some .int), 0, 0)
abbrev me_X6_row : am_M := (6, yX6_row, cX6_row, 4, (some .int), 0, 0)
abbrev me_X6_set : am_M := (6, yX6_set, cX6_set, 5, (some .int), 0, 0)
abbrev me_X6_share : am_M := (6, yX6_share, cX6_share, 6, (some .int), 0, 0)
abbrev me_X6_shut : am_M := (6, yX6_shut, cX6_shut, 8, (some .int), 0, 0)
abbrev me_X6_status : am_M := (6, yX6_status, cX6_status, 1, (some .int), 0, 0)
abbrev me_X6_street : am_M := (6, yX6_street, cX6_street, 3, (some .int), 0, 0)
abbrev me_X6_streetsAt : am_M := (6, yX6_streetsAt, cX6_streetsAt, 5, (some .int), 0, 0)
abbrev me_X6_town : am_M := (6, yX6_town, cX6_town, 2, (some .int), 0, 0)
abbrev me_X6_trace : am_M := (6, yX6_trace, cX6_trace, 2, (some .int), 0, 0)
abbrev me_X6_undo : am_M := (6, yX6_undo, cX6_undo, 1, (some .int), 0, 0)
abbrev me_X6_unfound : am_M := (6, yX6_unfound, cX6_unfound, 2, (some .int), 0, 0)
abbrev me_X6_way : am_M := (6, yX6_way, cX6_way, 3, (some .int), 0, 0)
abbrev me_X6_would : am_M := (6, yX6_would, cX6_would, 3, (some .int), 0, 0)
abbrev me_X7_init : am_M := (7, yX7_init, cX7_init, 2, none, 18, 1784)
abbrev me_X7_adds : am_M := (7, yX7_adds, cX7_adds, 4, none, 0, 0)
abbrev me_X7_advances : am_M := (7, yX7_advances, cX7_advances, 2, none, 0, 0)
abbrev me_X7_all : am_M := (7, yX7_all, cX7_all, 9, (some .int), 0, 0)
abbrev me_X7_as : am_M := (7, yX7_as, cX7_as, 5, (some .int), 0, 0)
abbrev me_X7_ask : am_M := (7, yX7_ask, cX7_ask, 4, (some .int), 0, 0)
abbrev me_X7_bar : am_M := (7, yX7_bar, cX7_bar, 6, (some .int), 0, 0)
abbrev me_X7_begins : am_M := (7, yX7_begins, cX7_begins, 1, none, 0, 0)
abbrev me_X7_byteAt : am_M := (7, yX7_byteAt, cX7_byteAt, 2, (some .int), 0, 0)
abbrev me_X7_cheapest : am_M := (7, yX7_cheapest, cX7_cheapest, 3, (some .int), 0, 0)
abbrev me_X7_copies : am_M := (7, yX7_copies, cX7_copies, 5, none, 0, 0)
abbrev me_X7_copy : am_M := (7, yX7_copy, cX7_copy, 7, (some .int), 0, 0)
abbrev me_X7_corner : am_M := (7, yX7_corner, cX7_corner, 3, (some .int), 0, 0)
abbrev me_X7_cost : am_M := (7, yX7_cost, cX7_cost, 5, (some .int), 0, 0)
abbrev me_X7_count : am_M := (7, yX7_count, cX7_count, 4, (some .int), 0, 0)
abbrev me_X7_cut : am_M := (7, yX7_cut, cX7_cut, 2, (some .int), 0, 0)
abbrev me_X7_dearest : am_M := (7, yX7_dearest, cX7_dearest, 4, (some .int), 0, 0)
abbrev me_X7_drawn : am_M := (7, yX7_drawn, cX7_drawn, 8, (some .int), 0, 0)
abbrev me_X7_drop : am_M := (7, yX7_drop, cX7_drop, 2, (some .int), 0, 0)
abbrev me_X7_ends : am_M := (7, yX7_ends, cX7_ends, 5, (some .int), 0, 0)
abbrev me_X7_fault : am_M := (7, yX7_fault, cX7_fault, 1, (some .int), 0, 0)
abbrev me_X7_feed : am_M := (7, yX7_feed, cX7_feed, 2, (some .int), 0, 0)
abbrev me_X7_figure : am_M := (7, yX7_figure, cX7_figure, 3, (some .int), 0, 0)
abbrev me_X7_finds : am_M := (7, yX7_finds, cX7_finds, 5, none, 0, 0)
abbrev me_X7_fits : am_M := (7, yX7_fits, cX7_fits, 8, (some .int), 0, 0)
abbrev me_X7_fitsOf : am_M := (7, yX7_fitsOf, cX7_fitsOf, 10, (some .int), 0, 0)
abbrev me_X7_follows : am_M := (7, yX7_follows, cX7_follows, 3, (some .int), 0, 0)
abbrev me_X7_found : am_M := (7, yX7_found, cX7_found, 2, (some .int), 0, 0)
abbrev me_X7_gets : am_M := (7, yX7_gets, cX7_gets, 4, (some .int), 0, 0)
abbrev me_X7_goes : am_M := (7, yX7_goes, cX7_goes, 3, (some .boolean), 0, 0)
abbrev me_X7_goesOn : am_M := (7, yX7_goesOn, cX7_goesOn, 3, (some .boolean), 0, 0)
abbrev me_X7_goesSo : am_M := (7, yX7_goesSo, cX7_goesSo, 7, (some .boolean), 0, 0)
abbrev me_X7_griefMark : am_M := (7, yX7_griefMark, cX7_griefMark, 2, (some .int), 0, 0)
abbrev me_X7_griefSize : am_M := (7, yX7_griefSize, cX7_griefSize, 4, (some .int), 0, 0)
abbrev me_X7_has : am_M := (7, yX7_has, cX7_has, 2, (some .boolean), 0, 0)
abbrev me_X7_image : am_M := (7, yX7_image, cX7_image, 2, (some .int), 0, 0)
abbrev me_X7_in : am_M := (7, yX7_in, cX7_in, 3, (some .boolean), 0, 0)
abbrev me_X7_isCorner : am_M := (7, yX7_isCorner, cX7_isCorner, 2, (some .boolean), 0, 0)
abbrev me_X7_isMissing : am_M := (7, yX7_isMissing, cX7_isMissing, 2, (some .boolean), 0, 0)
abbrev me_X7_isPart : am_M := (7, yX7_isPart, cX7_isPart, 4, (some .boolean), 0, 0)
abbrev me_X7_isRow : am_M := (7, yX7_isRow, cX7_isRow, 1, (some .boolean), 0, 0)
abbrev me_X7_isStreet : am_M := (7, yX7_isStreet, cX7_isStreet, 2, (some .boolean), 0, 0)
abbrev me_X7_isStreetTold : am_M := (7, yX7_isStreetTold, cX7_isStreetTold, 5, (some .boolean), 0, 0)
abbrev me_X7_isTown : am_M := (7, yX7_isTown, cX7_isTown, 1, (some .boolean), 0, 0)
abbrev me_X7_isWell : am_M := (7, yX7_isWell, cX7_isWell, 1, (some .boolean), 0, 0)
abbrev me_X7_joyMark : am_M := (7, yX7_joyMark, cX7_joyMark, 4, (some .int), 0, 0)
abbrev me_X7_joySize : am_M := (7, yX7_joySize, cX7_joySize, 4, (some .int), 0, 0)
abbrev me_X7_keeps : am_M := (7, yX7_keeps, cX7_keeps, 3, none, 0, 0)
abbrev me_X7_kind : am_M := (7, yX7_kind, cX7_kind, 2, (some .int), 0, 0)
abbrev me_X7_kindIn : am_M := (7, yX7_kindIn, cX7_kindIn, 2, (some .int), 0, 0)
abbrev me_X7_kindOf : am_M := (7, yX7_kindOf, cX7_kindOf, 1, (some .int), 0, 0)
abbrev me_X7_leaves : am_M := (7, yX7_leaves, cX7_leaves, 2, none, 0, 0)
abbrev me_X7_lesson : am_M := (7, yX7_lesson, cX7_lesson, 4, (some .int), 0, 0)
abbrev me_X7_moods : am_M := (7, yX7_moods, cX7_moods, 5, (some .int), 0, 0)
abbrev me_X7_notes : am_M := (7, yX7_notes, cX7_notes, 2, none, 0, 0)
abbrev me_X7_passed : am_M := (7, yX7_passed, cX7_passed, 7, (some .int), 0, 0)
abbrev me_X7_reach : am_M := (7, yX7_reach, cX7_reach, 4, (some .int), 0, 0)
abbrev me_X7_readsCorner : am_M := (7, yX7_readsCorner, cX7_readsCorner, 5, none, 0, 0)
abbrev me_X7_readsStreet : am_M := (7, yX7_readsStreet, cX7_readsStreet, 4, none, 0, 0)
abbrev me_X7_reset : am_M := (7, yX7_reset, cX7_reset, 2, (some .int), 0, 0)
abbrev me_X7_restore : am_M := (7, yX7_restore, cX7_restore, 2, (some .int), 0, 0)
abbrev me_X7_ride : am_M := (7, yX7_ride, cX7_ride, 2, (some .int), 0, 0)
abbrev me_X7_rides : am_M := (7, yX7_rides, cX7_rides, 4, none, 0, 0)
abbrev me_X7_row : am_M := (7, yX7_row, cX7_row, 5, (some .int), 0, 0)
abbrev me_X7_set : am_M := (7, yX7_set, cX7_set, 4, (some .int), 0, 0)
abbrev me_X7_share : am_M := (7, yX7_share, cX7_share, 8, (some .int), 0, 0)
abbrev me_X7_shut : am_M := (7, yX7_shut, cX7_shut, 10, (some .int), 0, 0)
abbrev me_X7_status : am_M := (7, yX7_status, cX7_status, 1, (some .int), 0, 0)
abbrev me_X7_street : am_M := (7, yX7_street, cX7_street, 3, (some .int), 0, 0)
abbrev me_X7_streetAfter : am_M := (7, yX7_streetAfter, cX7_streetAfter, 4, (some .int), 0, 0)
abbrev me_X7_takes : am_M := (7, yX7_takes, cX7_takes, 4, (some .int), 0, 0)
abbrev me_X7_toFigure : am_M := (7, yX7_toFigure, cX7_toFigure, 2, (some .int), 0, 0)
abbrev me_X7_told : am_M := (7, yX7_told, cX7_told, 3, (some .int), 0, 0)
abbrev me_X7_town : am_M := (7, yX7_town, cX7_town, 2, (some .int), 0, 0)
abbrev me_X7_trace : am_M := (7, yX7_trace, cX7_trace, 2, (some .int), 0, 0)
abbrev me_X7_undo : am_M := (7, yX7_undo, cX7_undo, 1, (some .int), 0, 0)
abbrev me_X7_way : am_M := (7, yX7_way, cX7_way, 3, (some .int), 0, 0)
abbrev me_X7_well : am_M := (7, yX7_well, cX7_well, 2, (some .int), 0, 0)
abbrev me_X7_would : am_M := (7, yX7_would, cX7_would, 4, (some .int), 0, 0)
abbrev me_L_law : am_M := (8, yL_law, cL_law, 4, (some .boolean), 600000, 7302250)
abbrev me_J9_abs_0f7a4 : am_M := (9, yJ9_abs_0f7a4, cJ9_abs_0f7a4, 1, (some .int), 0, 0)
abbrev me_J9_max_7cf53 : am_M := (9, yJ9_max_7cf53, cJ9_max_7cf53, 2, (some .int), 0, 0)
abbrev me_J9_min_7cf53 : am_M := (9, yJ9_min_7cf53, cJ9_min_7cf53, 2, (some .int), 0, 0)
abbrev me_J6_bitCount_0f7a4 : am_M := (10, yJ6_bitCount_0f7a4, cJ6_bitCount_0f7a4, 1, (some .int), 0, 0)
/-- owner, entry, class, field; where its word stands -/
def xr_fldT : List (Nat × Nat × Nat × Nat × Nat) := [(0, 11, 0, 0, 210), (0, 16, 0, 1, 211), (0, 20, 0, 2, 212), (0, 23, 5, 9, 161), (0, 28, 5, 10, 166), (0, 31, 5, 11, 169), (0, 34, 5, 12, 172), (0, 37, 5, 1, 132), (1, 9, 1, 0, 272), (1, 15, 1, 1, 274), (1, 19, 5, 0, 127), (1, 38, 5, 2, 136), (1, 41, 5, 1, 131), (2, 9, 2, 0, 83), (2, 15, 2, 1, 84), (2, 20, 2, 2, 85), (3, 9, 3, 0, 227), (3, 15, 3, 1, 228), (3, 18, 3, 2, 229), (3, 22, 3, 3, 230), (3, 26, 3, 4, 231), (3, 35, 3, 5, 232), (3, 38, 3, 7, 234), (3, 41, 3, 8, 236), (3, 44, 3, 9, 238), (3, 47, 3, 10, 240), (3, 50, 5, 9, 159), (3, 55, 5, 10, 163), (3, 62, 3, 6, 233), (3, 83, 5, 6, 151), (3, 90, 5, 4, 143), (3, 93, 5, 12, 173), (4, 9, 4, 0, 101), (4, 15, 4, 1, 102), (4, 24, 4, 4, 108), (4, 37, 5, 6, 150), (4, 40, 5, 8, 157), (4, 51, 5, 7, 154), (4, 54, 5, 10, 165), (4, 69, 5, 0, 128), (4, 72, 5, 1, 133), (4, 75, 5, 2, 137), (4, 78, 5, 5, 147), (4, 89, 5, 3, 140), (4, 92, 5, 4, 144), (4, 95, 4, 3, 107), (4, 98, 4, 2, 105), (5, 9, 5, 0, 126), (5, 15, 5, 1, 130), (5, 18, 5, 2, 135), (5, 21, 5, 3, 139), (5, 24, 5, 4, 142), (5, 33, 5, 5, 146), (5, 37, 5, 6, 149), (5, 40, 5, 7, 153), (5, 43, 5, 8, 156), (5, 46, 5, 9, 160), (5, 49, 5, 10, 164), (5, 52, 5, 11, 168), (5, 55, 5, 12, 171), (6, 10, 6, 0, 281), (6, 19, 6, 1, 282), (6, 26, 6, 2, 283), (6, 30, 6, 3, 284), (6, 33, 6, 4, 285), (6, 40, 6, 5, 286), (6, 47, 6, 6, 287), (6, 54, 6, 7, 288), (6, 58, 6, 8, 289), (6, 62, 6, 9, 290), (6, 102, 4, 1, 103), (6, 112, 4, 2, 104), (6, 116, 4, 3, 106), (6, 126, 5, 6, 152), (6, 136, 5, 12, 174), (6, 139, 5, 9, 162), (6, 142, 5, 10, 167), (6, 145, 5, 11, 170), (6, 159, 5, 1, 134), (6, 173, 5, 8, 158), (6, 176, 0, 2, 213), (6, 182, 5, 2, 138), (6, 185, 5, 3, 141), (6, 192, 5, 4, 145), (6, 213, 3, 7, 235), (6, 214, 3, 8, 237), (6, 220, 3, 9, 239), (6, 223, 3, 10, 241), (6, 233, 5, 7, 155), (6, 240, 5, 0, 129), (6, 288, 1, 1, 275), (6, 291, 1, 0, 273), (6, 297, 5, 5, 148), (6, 301, 2, 2, 86), (7, 7, 7, 0, 739), (7, 13, 7, 1, 740), (7, 16, 7, 2, 741), (7, 19, 7, 3, 742), (7, 22, 7, 5, 744), (7, 25, 7, 13, 752), (7, 28, 7, 14, 753), (7, 31, 7, 15, 754), (7, 34, 7, 16, 755), (7, 37, 7, 18, 757), (7, 40, 7, 19, 758), (7, 44, 7, 21, 760), (7, 47, 7, 22, 761), (7, 50, 7, 23, 762), (7, 53, 7, 24, 763), (7, 56, 7, 25, 764), (7, 59, 7, 26, 765), (7, 62, 7, 30, 769), (7, 66, 7, 4, 743), (7, 97, 7, 6, 745), (7, 101, 7, 9, 748), (7, 104, 7, 10, 749), (7, 110, 7, 12, 751), (7, 113, 7, 11, 750), (7, 116, 7, 8, 747), (7, 123, 7, 7, 746), (7, 160, 7, 17, 756), (7, 197, 7, 20, 759), (7, 204, 7, 27, 766), (7, 207, 7, 28, 767), (7, 210, 7, 29, 768), (7, 251, 7, 31, 770)]
def xr_fld (c k : Nat) : Option (Nat × Nat) := (xr_fldT.find? fun e => e.1 == c && e.2.1 == k).map fun e => (e.2.2.1, e.2.2.2.1)
def xr_cstT : List (Nat × Nat × Int × Nat) := [(3, 78, -1000000, 596), (6, 69, -1000001, 319), (6, 105, -1000003, 381), (6, 115, -1000100, 436), (6, 135, -1000002, 471), (6, 198, -1000000, 556), (6, 271, 999999, 668), (6, 300, -1000010, 324), (7, 65, -1000000, 738), (7, 70, -1000010, 851), (7, 79, -1000001, 846), (7, 100, -1000003, 883), (7, 155, -1000100, 931), (7, 180, -1000002, 953), (7, 240, 999999, 1083), (10, 265, 1431655765, 652), (10, 266, 858993459, 653), (10, 267, 252645135, 654)]
def xr_cst (c k : Nat) : Option Int := (xr_cstT.find? fun e => e.1 == c && e.2.1 == k).map fun e => e.2.2.1
def xr_cslT : List (Nat × Nat × Int × Nat) := [(6, 272, 16807, 669), (6, 274, 2147483647, 670), (7, 241, 16807, 1084), (7, 243, 2147483647, 1085)]
def xr_csl (c k : Nat) : Option Int := (xr_cslT.find? fun e => e.1 == c && e.2.1 == k).map fun e => e.2.2.1
def xr_newT : List (Nat × Nat × Nat × Nat) := [(0, 9, 103, 209), (2, 18, 103, 81), (6, 7, 2, 75), (6, 16, 4, 95), (6, 23, 5, 120), (6, 37, 0, 203), (6, 44, 3, 221), (6, 51, 1, 266), (8, 7, 6, 67), (8, 10, 7, 732)]
def xr_new (c k : Nat) : Option Nat := (xr_newT.find? fun e => e.1 == c && e.2.1 == k).map fun e => e.2.2.1
def xr_gstT : List (Nat × Nat × Nat × Nat) := [(1, 24, 1, 704), (1, 27, 2, 706)]
def xr_gst (c k : Nat) : Option Nat := (xr_gstT.find? fun e => e.1 == c && e.2.1 == k).map fun e => e.2.2.1
/-- owner, entry, kind, method, values taken off the stack; where its words stand -/
def xr_mthT_0 : List (Nat × Nat × Nat × am_M × Nat × List Nat) := [(0, 3, 4, me_L_law, 1, [208]), (0, 41, 0, me_X5_turn, 2, [538, 529, 59, 527, 528]), (1, 3, 4, me_L_law, 1, [271]), (1, 30, 0, me_X1_gives, 5, [708, 711, 62, 710, 18]), (1, 34, 0, me_X1_leave, 2, [712, 715, 62, 714, 19]), (2, 3, 4, me_L_law, 1, [80]), (2, 23, 0, me_X2_isMissing, 2, [341, 344, 57, 342, 343]), (2, 27, 5, me_L_law, 5, [365]), (2, 33, 0, me_X2_spans, 4, [345, 348, 57, 347, 2]), (3, 3, 4, me_L_law, 1, [226]), (3, 29, 7, me_L_law, 5, [575]), (3, 58, 0, me_X3_walk, 7, [576, 579, 61, 578, 12]), (3, 65, 0, me_X3_seek, 5, [644, 574, 61, 572, 573]), (3, 69, 1, me_J6_bitCount_0f7a4, 1, [649, 651, 66, 650, 0]), (3, 75, 3, me_X6_power, 2, [655, 657, 56, 656, 0]), (3, 79, 0, me_X3_weigh, 6, [580, 583, 61, 582, 13]), (3, 86, 0, me_X5_leadsFrom, 3, [589, 465, 59, 463, 464]), (3, 96, 0, me_X5_moodBehind, 4, [590, 491, 59, 489, 490]), (3, 100, 0, me_X5_costBetween, 4, [591, 501, 59, 499, 500]), (3, 103, 0, me_X3_keepPath, 4, [584, 587, 61, 586, 14]), (3, 107, 5, me_L_law, 5, [588]), (4, 3, 4, me_L_law, 1, [100]), (4, 19, 0, me_X5_clear, 1, [394, 397, 59, 395, 396]), (4, 27, 0, me_X4_readLaw, 2, [398, 401, 58, 400, 3]), (4, 31, 0, me_X4_readCorners, 2, [418, 421, 58, 420, 8]), (4, 34, 0, me_X4_readStreets, 2, [425, 428, 58, 427, 9]), (4, 43, 0, me_X4_takes, 2, [402, 405, 58, 404, 4]), (4, 47, 0, me_X4_numberWithin, 3, [414, 417, 58, 416, 7]), (4, 57, 0, me_X4_letterHere, 1, [406, 409, 58, 408, 5]), (4, 61, 1, me_X4_kindOf, 1, [422, 424, 58, 423, 0]), (4, 65, 0, me_X4_failsAt, 3, [410, 413, 58, 412, 6]), (4, 81, 0, me_X4_readEnds, 3, [429, 432, 58, 431, 10]), (4, 85, 1, me_X4_isTold, 3, [433, 435, 58, 434, 0]), (5, 3, 4, me_L_law, 1, [125]), (5, 27, 5, me_L_law, 5, [441]), (5, 58, 0, me_X5_leadsFrom, 3, [462, 465, 59, 463, 464]), (5, 62, 0, me_X5_hasStreet, 2, [466, 457, 59, 455, 456]), (5, 66, 0, me_X5_isOpen, 2, [467, 470, 59, 468, 469]), (5, 69, 7, me_L_law, 5, [492]), (5, 75, 6, me_L_law, 5, [495]), (5, 78, 8, me_L_law, 5, [502]), (5, 82, 0, me_X5_moodBehind, 4, [488, 491, 59, 489, 490]), (5, 86, 0, me_X5_moodBy, 2, [484, 487, 59, 485, 486]), (5, 89, 0, me_X5_costBetween, 4, [498, 501, 59, 499, 500]), (5, 92, 0, me_X5_costBy, 2, [480, 483, 59, 481, 482]), (5, 95, 0, me_X5_leads, 2, [675, 461, 59, 459, 460]), (5, 98, 0, me_X5_goBy, 2, [676, 479, 59, 477, 478]), (6, 1, 4, me_L_law, 1, [72]), (6, 9, 2, me_X2_init, 1, [77, 79, 57, 78, 0]), (6, 18, 2, me_X4_init, 1, [97, 99, 58, 98, 0]), (6, 25, 2, me_X5_init, 1, [122, 124, 59, 123, 0]), (6, 39, 2, me_X0_init, 1, [205, 207, 60, 206, 0]), (6, 46, 2, me_X3_init, 1, [223, 225, 61, 224, 0]), (6, 53, 2, me_X1_init, 1, [268, 270, 62, 269, 0]), (6, 65, 1, me_X2_isRow, 1, [316, 318, 57, 317, 0]), (6, 70, 0, me_X6_found, 2, [320, 323, 56, 322, 0]), (6, 74, 0, me_X2_lay, 4, [325, 328, 57, 326, 327]), (6, 78, 0, me_X6_unfound, 2, [329, 332, 56, 331, 1]), (6, 81, 0, me_X2_findingOf, 4, [337, 340, 57, 338, 339]), (6, 85, 0, me_X2_put, 4, [349, 352, 57, 350, 351])]
def xr_mthT_1 : List (Nat × Nat × Nat × am_M × Nat × List Nat) := [(6, 88, 0, me_X2_findingOfMove, 6, [357, 360, 57, 358, 359]), (6, 92, 0, me_X2_move, 6, [361, 364, 57, 362, 363]), (6, 96, 0, me_X2_isMissing, 2, [372, 344, 57, 342, 343]), (6, 99, 0, me_X2_lose, 2, [373, 376, 57, 374, 375]), (6, 106, 0, me_X4_put, 2, [382, 385, 58, 383, 384]), (6, 108, 0, me_X4_readInto, 2, [390, 393, 58, 391, 392]), (6, 119, 0, me_X5_become, 2, [437, 440, 59, 438, 439]), (6, 123, 0, me_X0_forget, 1, [442, 445, 60, 443, 444]), (6, 129, 0, me_X5_hasStreet, 2, [454, 457, 59, 455, 456]), (6, 132, 0, me_X5_leads, 2, [458, 461, 59, 459, 460]), (6, 148, 0, me_X0_keep, 5, [472, 475, 60, 473, 474]), (6, 152, 0, me_X5_goBy, 2, [476, 479, 59, 477, 478]), (6, 156, 0, me_X5_hasCorner, 2, [509, 512, 59, 510, 511]), (6, 163, 0, me_X5_stands, 1, [517, 520, 59, 518, 519]), (6, 167, 0, me_X5_isOpen, 2, [525, 470, 59, 468, 469]), (6, 170, 0, me_X5_turn, 2, [526, 529, 59, 527, 528]), (6, 179, 0, me_X0_takeBack, 2, [534, 537, 60, 535, 536]), (6, 188, 0, me_X6_streetsAt, 3, [543, 546, 56, 545, 11]), (6, 195, 0, me_X5_moodBehind, 4, [547, 491, 59, 489, 490]), (6, 199, 0, me_X5_moodBy, 2, [557, 487, 59, 485, 486]), (6, 202, 0, me_X5_costBy, 2, [558, 483, 59, 481, 482]), (6, 205, 0, me_X5_openWays, 1, [563, 566, 59, 564, 565]), (6, 209, 0, me_X3_seek, 5, [571, 574, 61, 572, 573]), (6, 217, 0, me_X3_streetOf, 2, [592, 595, 61, 593, 594]), (6, 226, 1, me_X6_areFitting, 4, [613, 615, 56, 614, 0]), (6, 230, 0, me_X6_findingOfTwo, 6, [616, 619, 56, 618, 15]), (6, 236, 0, me_X6_isSo, 6, [620, 623, 56, 622, 16]), (6, 243, 0, me_X6_owedFrom, 5, [632, 635, 56, 634, 17]), (6, 247, 0, me_X3_seekWithin, 4, [640, 643, 61, 641, 642]), (6, 251, 0, me_X3_weightOfEnough, 3, [645, 648, 61, 646, 647]), (6, 255, 1, me_J6_bitCount_0f7a4, 1, [658, 651, 66, 650, 0]), (6, 260, 1, me_X6_power, 2, [659, 657, 56, 656, 0]), (6, 263, 1, me_X6_commonDivisor, 2, [660, 662, 56, 661, 0]), (6, 266, 6, me_L_law, 5, [663]), (6, 276, 0, me_X5_goByDraw, 2, [671, 674, 59, 672, 673]), (6, 280, 1, me_X6_isOfKind, 2, [693, 695, 56, 694, 0]), (6, 284, 0, me_X1_answerOf, 4, [700, 703, 62, 701, 702]), (6, 294, 0, me_X2_howMany, 1, [724, 727, 57, 725, 726]), (7, 1, 4, me_L_law, 1, [737]), (7, 71, 1, me_X7_in, 3, [843, 845, 63, 844, 0]), (7, 75, 1, me_X7_isRow, 1, [840, 842, 63, 841, 0]), (7, 80, 0, me_X7_found, 2, [847, 850, 63, 849, 20]), (7, 84, 0, me_X7_well, 2, [852, 855, 63, 854, 21]), (7, 87, 0, me_X7_isMissing, 2, [860, 863, 63, 862, 22]), (7, 90, 1, me_X7_cut, 2, [864, 866, 63, 865, 0]), (7, 94, 0, me_X7_isPart, 4, [871, 874, 63, 873, 23]), (7, 107, 0, me_X7_byteAt, 2, [892, 895, 63, 894, 25]), (7, 119, 0, me_X7_isWell, 1, [900, 903, 63, 902, 27]), (7, 126, 0, me_X7_advances, 1, [888, 891, 63, 890, 24]), (7, 129, 0, me_X7_takes, 3, [896, 899, 63, 898, 26]), (7, 133, 0, me_X7_figure, 3, [904, 907, 63, 906, 28]), (7, 136, 1, me_X7_kindOf, 1, [912, 914, 63, 913, 0]), (7, 139, 0, me_X7_follows, 3, [908, 911, 63, 910, 29]), (7, 142, 0, me_X7_isStreetTold, 3, [927, 930, 63, 929, 33]), (7, 146, 0, me_X7_toFigure, 2, [923, 926, 63, 925, 32]), (7, 149, 0, me_X7_readsCorner, 1, [915, 918, 63, 917, 30]), (7, 152, 0, me_X7_readsStreet, 1, [919, 922, 63, 921, 31]), (7, 156, 1, me_X7_copies, 4, [932, 934, 63, 933, 0]), (7, 163, 1, me_X7_passed, 4, [964, 966, 63, 965, 0]), (7, 167, 1, me_X7_has, 2, [950, 952, 63, 951, 0])]
def xr_mthT_2 : List (Nat × Nat × Nat × am_M × Nat × List Nat) := [(7, 170, 1, me_X7_cost, 4, [961, 963, 63, 962, 0]), (7, 173, 0, me_X7_isStreet, 2, [943, 946, 63, 945, 34]), (7, 176, 1, me_X7_goes, 3, [947, 949, 63, 948, 0]), (7, 181, 0, me_X7_notes, 1, [954, 957, 63, 956, 35]), (7, 184, 1, me_X7_rides, 2, [958, 960, 63, 959, 0]), (7, 188, 0, me_X7_isCorner, 2, [971, 974, 63, 973, 36]), (7, 191, 0, me_X7_isTown, 1, [979, 982, 63, 981, 37]), (7, 194, 0, me_X7_ends, 3, [995, 998, 63, 997, 38]), (7, 200, 0, me_X7_adds, 2, [1031, 1034, 63, 1033, 43]), (7, 213, 0, me_X7_begins, 1, [1019, 1022, 63, 1021, 40]), (7, 216, 0, me_X7_keeps, 2, [1023, 1026, 63, 1025, 41]), (7, 219, 0, me_X7_goesOn, 2, [1027, 1030, 63, 1029, 42]), (7, 222, 0, me_X7_finds, 3, [1015, 1018, 63, 1017, 39]), (7, 226, 0, me_X7_told, 3, [1035, 1038, 63, 1037, 44]), (7, 229, 0, me_X7_goesSo, 4, [1063, 1066, 63, 1065, 47]), (7, 232, 0, me_X7_bar, 6, [1055, 1058, 63, 1057, 45]), (7, 236, 0, me_X7_all, 7, [1059, 1062, 63, 1061, 46]), (7, 245, 0, me_X7_streetAfter, 2, [1086, 1089, 63, 1088, 48]), (7, 248, 0, me_X7_kindIn, 2, [1102, 1105, 63, 1104, 49]), (7, 254, 0, me_X7_leaves, 2, [1118, 1121, 63, 1120, 51]), (7, 257, 0, me_X7_joyMark, 2, [1126, 1129, 63, 1128, 53]), (7, 260, 0, me_X7_griefSize, 2, [1114, 1117, 63, 1116, 50]), (7, 263, 0, me_X7_joySize, 2, [1122, 1125, 63, 1124, 52]), (7, 266, 0, me_X7_griefMark, 2, [1130, 1133, 63, 1132, 54]), (8, 9, 2, me_X6_init, 1, [69, 71, 56, 70, 0]), (8, 12, 2, me_X7_init, 1, [734, 736, 63, 735, 0]), (8, 13, 0, me_X6_row, 4, [312, 315, 56, 313, 314]), (8, 17, 0, me_X7_row, 4, [836, 839, 63, 837, 838]), (8, 18, 0, me_X6_set, 4, [333, 336, 56, 334, 335]), (8, 21, 0, me_X7_set, 4, [856, 859, 63, 857, 858]), (8, 22, 0, me_X6_copy, 6, [353, 356, 56, 354, 355]), (8, 26, 0, me_X7_copy, 6, [867, 870, 63, 868, 869]), (8, 27, 0, me_X6_drop, 2, [368, 371, 56, 369, 370]), (8, 31, 0, me_X7_drop, 2, [875, 878, 63, 876, 877]), (8, 32, 0, me_X6_feed, 2, [377, 380, 56, 378, 379]), (8, 35, 0, me_X7_feed, 2, [879, 882, 63, 880, 881]), (8, 36, 0, me_X6_town, 1, [386, 389, 56, 387, 388]), (8, 40, 0, me_X7_town, 1, [884, 887, 63, 885, 886]), (8, 41, 0, me_X6_fault, 1, [446, 449, 56, 447, 448]), (8, 44, 0, me_X7_fault, 1, [935, 938, 63, 936, 937]), (8, 45, 0, me_X6_ride, 2, [450, 453, 56, 451, 452]), (8, 48, 0, me_X7_ride, 2, [939, 942, 63, 940, 941]), (8, 49, 0, me_X6_lesson, 3, [505, 508, 56, 506, 507]), (8, 53, 0, me_X7_lesson, 3, [967, 970, 63, 968, 969]), (8, 54, 0, me_X6_reset, 1, [513, 516, 56, 514, 515]), (8, 57, 0, me_X7_reset, 1, [975, 978, 63, 976, 977]), (8, 58, 0, me_X6_street, 3, [521, 524, 56, 522, 523]), (8, 61, 0, me_X7_street, 3, [983, 986, 63, 984, 985]), (8, 62, 0, me_X6_undo, 1, [530, 533, 56, 531, 532]), (8, 65, 0, me_X7_undo, 1, [987, 990, 63, 988, 989]), (8, 66, 0, me_X6_corner, 3, [539, 542, 56, 540, 541]), (8, 69, 0, me_X7_corner, 3, [991, 994, 63, 992, 993]), (8, 70, 0, me_X6_way, 3, [548, 551, 56, 549, 550]), (8, 73, 0, me_X7_way, 3, [999, 1002, 63, 1000, 1001]), (8, 74, 0, me_X6_would, 3, [552, 555, 56, 553, 554]), (8, 77, 0, me_X7_would, 3, [1003, 1006, 63, 1004, 1005]), (8, 78, 0, me_X6_reach, 1, [559, 562, 56, 560, 561]), (8, 81, 0, me_X7_reach, 1, [1007, 1010, 63, 1008, 1009]), (8, 82, 0, me_X6_cheapest, 3, [567, 570, 56, 568, 569]), (8, 85, 0, me_X7_cheapest, 3, [1011, 1014, 63, 1012, 1013])]
def xr_mthT_3 : List (Nat × Nat × Nat × am_M × Nat × List Nat) := [(8, 86, 0, me_X6_dearest, 3, [597, 600, 56, 598, 599]), (8, 89, 0, me_X7_dearest, 3, [1039, 1042, 63, 1040, 1041]), (8, 90, 0, me_X6_moods, 3, [601, 604, 56, 602, 603]), (8, 93, 0, me_X7_moods, 3, [1043, 1046, 63, 1044, 1045]), (8, 94, 0, me_X6_gets, 3, [605, 608, 56, 606, 607]), (8, 97, 0, me_X7_gets, 3, [1047, 1050, 63, 1048, 1049]), (8, 98, 0, me_X6_fits, 7, [609, 612, 56, 610, 611]), (8, 102, 0, me_X7_fits, 7, [1051, 1054, 63, 1052, 1053]), (8, 103, 0, me_X6_fitsOf, 8, [624, 627, 56, 625, 626]), (8, 107, 0, me_X7_fitsOf, 8, [1067, 1070, 63, 1068, 1069]), (8, 108, 0, me_X6_share, 5, [628, 631, 56, 629, 630]), (8, 112, 0, me_X7_share, 5, [1071, 1074, 63, 1072, 1073]), (8, 113, 0, me_X6_shut, 5, [636, 639, 56, 637, 638]), (8, 116, 0, me_X7_shut, 5, [1075, 1078, 63, 1076, 1077]), (8, 117, 0, me_X6_drawn, 4, [664, 667, 56, 665, 666]), (8, 120, 0, me_X7_drawn, 4, [1079, 1082, 63, 1080, 1081]), (8, 121, 0, me_X6_image, 2, [677, 680, 56, 678, 679]), (8, 124, 0, me_X7_image, 2, [1090, 1093, 63, 1091, 1092]), (8, 125, 0, me_X6_restore, 2, [681, 684, 56, 682, 683]), (8, 128, 0, me_X7_restore, 2, [1094, 1097, 63, 1095, 1096]), (8, 129, 0, me_X6_kind, 2, [685, 688, 56, 686, 687]), (8, 132, 0, me_X7_kind, 2, [1098, 1101, 63, 1099, 1100]), (8, 133, 0, me_X6_as, 3, [689, 692, 56, 690, 691]), (8, 136, 0, me_X7_as, 3, [1106, 1109, 63, 1107, 1108]), (8, 137, 0, me_X6_ask, 3, [696, 699, 56, 697, 698]), (8, 140, 0, me_X7_ask, 3, [1110, 1113, 63, 1111, 1112]), (8, 141, 0, me_X6_trace, 2, [716, 719, 56, 717, 718]), (8, 144, 0, me_X7_trace, 2, [1134, 1137, 63, 1135, 1136]), (8, 145, 0, me_X6_count, 2, [720, 723, 56, 721, 722]), (8, 148, 0, me_X7_count, 2, [1138, 1141, 63, 1139, 1140]), (8, 149, 0, me_X6_status, 1, [728, 731, 56, 729, 730]), (8, 152, 0, me_X7_status, 1, [1142, 1145, 63, 1143, 1144])]
def xr_mthT : List (Nat × Nat × Nat × am_M × Nat × List Nat) := xr_mthT_0 ++ xr_mthT_1 ++ xr_mthT_2 ++ xr_mthT_3
def xr_mth (c k : Nat) : Option (Nat × am_M × Nat) := (xr_mthT.find? fun e => e.1 == c && e.2.1 == k).map fun e => (e.2.2.1, e.2.2.2.1, e.2.2.2.2.1)
def xr_wd (i : Nat) (w : Cond) : Bool := goodWord w && decide (lw_tbl[i]? = some w)
/-- the words that every call hands on -/
def xr_wds : List Cond := lw_tbl.filter goodWord
theorem xr_wd_in {i : Nat} {w : Cond} (h : xr_wd i w = true) : w ∈ xr_wds := by
  simp only [xr_wd, Bool.and_eq_true, decide_eq_true_eq] at h
  exact List.mem_filter.mpr ⟨List.mem_of_getElem? h.2, h.1⟩
def xr_fldC (e : Nat × Nat × Nat × Nat × Nat) : Bool := xr_wd e.2.2.2.2 (.fieldLink (xr_R e.1) e.2.1 (xr_T e.2.2.1 e.2.2.2.1).1 (xr_T e.2.2.1 e.2.2.2.1).2.1 (xr_T e.2.2.1 e.2.2.2.1).2.2.1) && decide (e.2.2.1 < 8)
def xr_cstC (e : Nat × Nat × Int × Nat) : Bool := xr_wd e.2.2.2 (.constant (xr_R e.1) e.2.1 (Int32.ofInt e.2.2.1)) && decide (am_ok e.2.2.1)
def xr_cslC (e : Nat × Nat × Int × Nat) : Bool := xr_wd e.2.2.2 (.constantLong (xr_R e.1) e.2.1 (Int64.ofInt e.2.2.1)) && decide (am_okl e.2.2.1)
def xr_newC (e : Nat × Nat × Nat × Nat) : Bool := xr_wd e.2.2.2 (.classLink (xr_R e.1) e.2.1 (if e.2.2.1 = 103 then "[[I" else xr_R e.2.2.1)) && (decide (e.2.2.1 = 103) || decide (e.2.2.1 < 8))
def xr_gstC (e : Nat × Nat × Nat × Nat) : Bool := xr_wd e.2.2.2 (.fieldLink (xr_R e.1) e.2.1 RX1 (if e.2.2.1 = 1 then "SIZE_BODIES" else "MARK_BODIES") "[I") && (decide (e.2.2.1 = 1) || decide (e.2.2.1 = 2))
def xr_mokC (M : am_M) (na _cw ini : Nat) : Bool := xr_wd ini (.initialized M.2.1.cls) && decide (M.2.1.cls = xr_R M.1) && plainName M.2.1.cls && decide (M.2.1.cls ≠ "java/lang/invoke/MethodHandle") && decide (M.2.1.cls ≠ "java/lang/invoke/VarHandle") && decide ((parseMethodDescriptor M.2.1.desc).map (fun d => d.parameters.length) = some na) && decide (M.2.2.2.1 ≤ 40)
def xr_mthC (e : Nat × Nat × Nat × am_M × Nat × List Nat) : Bool := match e with
  | (c, k, 0, M, na, [a1, a2, a3, a4, a5]) => xr_mokC M (na - 1) a2 a3 && xr_wd a1 (.methodLink (xr_R c) k M.2.1) && xr_wd a4 (.instanceMethod M.2.1) && xr_wd a5 (.selects (xr_R M.1) M.2.1 M.2.1) && decide (0 < na)
  | (c, k, 1, M, na, [a1, a2, a3, a4, _]) => xr_mokC M na a2 a3 && xr_wd a1 (.methodLink (xr_R c) k M.2.1) && xr_wd a4 (.static M.2.1)
  | (c, k, 2, M, na, [a1, a2, a3, a4, _]) => xr_mokC M (na - 1) a2 a3 && xr_wd a1 (.methodLink (xr_R c) k M.2.1) && xr_wd a4 (.instanceMethod M.2.1) && decide (M.2.1.name = "<init>") && decide (M.2.2.2.2.1 = none) && decide (0 < na)
  | (c, k, 3, M, na, [a1, a2, a3, a4, _]) => xr_mokC M na a2 a3 && decide (lw_tbl[a1]? = some (.methodLinkNest (xr_R c) k M.2.1 "MoodFare")) && xr_wd a4 (.static M.2.1) && decide (c = 3 ∧ k = 75 ∧ M.2.1 = yX6_power)
  | (c, k, 4, _, _, [a1]) => xr_wd a1 (.methodLink (xr_R c) k objectInit)
  | (c, k, 5, _, _, [a1]) => xr_wd a1 (.methodLink (xr_R c) k arraycopyName)
  | (c, k, 6, _, _, [a1]) => xr_wd a1 (.methodLink (xr_R c) k Lib.Math.max.name)
  | (c, k, 7, _, _, [a1]) => xr_wd a1 (.methodLink (xr_R c) k Lib.Math.min.name)
  | (c, k, 8, _, _, [a1]) => xr_wd a1 (.methodLink (xr_R c) k Lib.Math.abs.name)
  | _ => false
theorem xr_fld_ok : xr_fldT.all xr_fldC = true := by decide +kernel
theorem xr_cst_ok : xr_cstT.all xr_cstC = true := by decide +kernel
theorem xr_csl_ok : xr_cslT.all xr_cslC = true := by decide +kernel
theorem xr_new_ok : xr_newT.all xr_newC = true := by decide +kernel
theorem xr_gst_ok : xr_gstT.all xr_gstC = true := by decide +kernel
theorem xr_mth_ok_0 : xr_mthT_0.all xr_mthC = true := by decide +kernel
theorem xr_mth_ok_1 : xr_mthT_1.all xr_mthC = true := by decide +kernel
theorem xr_mth_ok_2 : xr_mthT_2.all xr_mthC = true := by decide +kernel
theorem xr_mth_ok_3 : xr_mthT_3.all xr_mthC = true := by decide +kernel
theorem xr_mth_ok : ∀ e ∈ xr_mthT, xr_mthC e = true := by
  intro e he
  simp only [xr_mthT, List.mem_append] at he
  rcases he with (((h | h) | h) | h)
  · exact List.all_eq_true.mp xr_mth_ok_0 e h
  · exact List.all_eq_true.mp xr_mth_ok_1 e h
  · exact List.all_eq_true.mp xr_mth_ok_2 e h
  · exact List.all_eq_true.mp xr_mth_ok_3 e h
theorem xr_find {α : Type} {l : List α} {p : α → Bool} {e : α} (h : l.find? p = some e) : e ∈ l ∧ p e = true := ⟨List.mem_of_find?_eq_some h, List.find?_some h⟩
set_option maxRecDepth 100000 in
theorem xr_c_X0_init : Cond.code me_X0_init.2.1 me_X0_init.2.2.1 me_X0_init.2.2.2.1 me_X0_init.2.2.2.2.1 ∈ tables_1_1 := List.mem_of_getElem? (i := 152) rfl
set_option maxRecDepth 100000 in
theorem xr_c_X0_forget : Cond.code me_X0_forget.2.1 me_X0_forget.2.2.1 me_X0_forget.2.2.2.1 me_X0_forget.2.2.2.2.1 ∈ tables_1_2 := List.mem_of_getElem? (i := 150) rfl
set_option maxRecDepth 100000 in
theorem xr_c_X0_keep : Cond.code me_X0_keep.2.1 me_X0_keep.2.2.1 me_X0_keep.2.2.2.1 me_X0_keep.2.2.2.2.1 ∈ tables_1_2 := List.mem_of_getElem? (i := 180) rfl
set_option maxRecDepth 100000 in
theorem xr_c_X0_takeBack : Cond.code me_X0_takeBack.2.1 me_X0_takeBack.2.2.1 me_X0_takeBack.2.2.2.1 me_X0_takeBack.2.2.2.2.1 ∈ tables_1_3 := List.mem_of_getElem? (i := 2) rfl
set_option maxRecDepth 100000 in
theorem xr_c_X1_init : Cond.code me_X1_init.2.1 me_X1_init.2.2.1 me_X1_init.2.2.2.1 me_X1_init.2.2.2.2.1 ∈ tables_1_1 := List.mem_of_getElem? (i := 215) rfl
set_option maxRecDepth 100000 in
theorem xr_c_X1_answerOf : Cond.code me_X1_answerOf.2.1 me_X1_answerOf.2.2.1 me_X1_answerOf.2.2.2.1 me_X1_answerOf.2.2.2.2.1 ∈ tables_1_3 := List.mem_of_getElem? (i := 168) rfl
set_option maxRecDepth 100000 in
theorem xr_c_X1_gives : Cond.code me_X1_gives.2.1 me_X1_gives.2.2.1 me_X1_gives.2.2.2.1 me_X1_gives.2.2.2.2.1 ∈ tables_1_3 := List.mem_of_getElem? (i := 176) rfl
set_option maxRecDepth 100000 in
theorem xr_c_X1_leave : Cond.code me_X1_leave.2.1 me_X1_leave.2.2.1 me_X1_leave.2.2.2.1 me_X1_leave.2.2.2.2.1 ∈ tables_1_3 := List.mem_of_getElem? (i := 180) rfl
set_option maxRecDepth 100000 in
theorem xr_c_X2_init : Cond.code me_X2_init.2.1 me_X2_init.2.2.1 me_X2_init.2.2.2.1 me_X2_init.2.2.2.2.1 ∈ tables_1_1 := List.mem_of_getElem? (i := 24) rfl
set_option maxRecDepth 100000 in
theorem xr_c_X2_findingOf : Cond.code me_X2_findingOf.2.1 me_X2_findingOf.2.2.1 me_X2_findingOf.2.2.2.1 me_X2_findingOf.2.2.2.2.1 ∈ tables_1_2 := List.mem_of_getElem? (i := 45) rfl
set_option maxRecDepth 100000 in
theorem xr_c_X2_findingOfMove : Cond.code me_X2_findingOfMove.2.1 me_X2_findingOfMove.2.2.1 me_X2_findingOfMove.2.2.2.1 me_X2_findingOfMove.2.2.2.2.1 ∈ tables_1_2 := List.mem_of_getElem? (i := 65) rfl
set_option maxRecDepth 100000 in
theorem xr_c_X2_howMany : Cond.code me_X2_howMany.2.1 me_X2_howMany.2.2.1 me_X2_howMany.2.2.2.1 me_X2_howMany.2.2.2.2.1 ∈ tables_1_3 := List.mem_of_getElem? (i := 192) rfl
set_option maxRecDepth 100000 in
theorem xr_c_X2_isMissing : Cond.code me_X2_isMissing.2.1 me_X2_isMissing.2.2.1 me_X2_isMissing.2.2.2.1 me_X2_isMissing.2.2.2.2.1 ∈ tables_1_2 := List.mem_of_getElem? (i := 49) rfl
set_option maxRecDepth 100000 in
theorem xr_c_X2_isRow : Cond.code me_X2_isRow.2.1 me_X2_isRow.2.2.1 me_X2_isRow.2.2.2.1 me_X2_isRow.2.2.2.2.1 ∈ tables_1_2 := List.mem_of_getElem? (i := 23) rfl
set_option maxRecDepth 100000 in
theorem xr_c_X2_lay : Cond.code me_X2_lay.2.1 me_X2_lay.2.2.1 me_X2_lay.2.2.2.1 me_X2_lay.2.2.2.2.1 ∈ tables_1_2 := List.mem_of_getElem? (i := 33) rfl
set_option maxRecDepth 100000 in
theorem xr_c_X2_lose : Cond.code me_X2_lose.2.1 me_X2_lose.2.2.1 me_X2_lose.2.2.2.1 me_X2_lose.2.2.2.2.1 ∈ tables_1_2 := List.mem_of_getElem? (i := 81) rfl
set_option maxRecDepth 100000 in
theorem xr_c_X2_move : Cond.code me_X2_move.2.1 me_X2_move.2.2.1 me_X2_move.2.2.2.1 me_X2_move.2.2.2.2.1 ∈ tables_1_2 := List.mem_of_getElem? (i := 69) rfl
set_option maxRecDepth 100000 in
theorem xr_c_X2_put : Cond.code me_X2_put.2.1 me_X2_put.2.2.1 me_X2_put.2.2.2.1 me_X2_put.2.2.2.2.1 ∈ tables_1_2 := List.mem_of_getElem? (i := 57) rfl
set_option maxRecDepth 100000 in
theorem xr_c_X2_spans : Cond.code me_X2_spans.2.1 me_X2_spans.2.2.1 me_X2_spans.2.2.2.1 me_X2_spans.2.2.2.2.1 ∈ tables_1_2 := List.mem_of_getElem? (i := 53) rfl
set_option maxRecDepth 100000 in
theorem xr_c_X3_init : Cond.code me_X3_init.2.1 me_X3_init.2.2.1 me_X3_init.2.2.2.1 me_X3_init.2.2.2.2.1 ∈ tables_1_1 := List.mem_of_getElem? (i := 170) rfl
set_option maxRecDepth 100000 in
theorem xr_c_X3_keepPath : Cond.code me_X3_keepPath.2.1 me_X3_keepPath.2.2.1 me_X3_keepPath.2.2.2.1 me_X3_keepPath.2.2.2.2.1 ∈ tables_1_3 := List.mem_of_getElem? (i := 52) rfl
set_option maxRecDepth 100000 in
theorem xr_c_X3_seek : Cond.code me_X3_seek.2.1 me_X3_seek.2.2.1 me_X3_seek.2.2.2.1 me_X3_seek.2.2.2.2.1 ∈ tables_1_3 := List.mem_of_getElem? (i := 39) rfl
set_option maxRecDepth 100000 in
theorem xr_c_X3_seekWithin : Cond.code me_X3_seekWithin.2.1 me_X3_seekWithin.2.2.1 me_X3_seekWithin.2.2.2.1 me_X3_seekWithin.2.2.2.2.1 ∈ tables_1_3 := List.mem_of_getElem? (i := 108) rfl
set_option maxRecDepth 100000 in
theorem xr_c_X3_streetOf : Cond.code me_X3_streetOf.2.1 me_X3_streetOf.2.2.1 me_X3_streetOf.2.2.2.1 me_X3_streetOf.2.2.2.2.1 ∈ tables_1_3 := List.mem_of_getElem? (i := 60) rfl
set_option maxRecDepth 100000 in
theorem xr_c_X3_walk : Cond.code me_X3_walk.2.1 me_X3_walk.2.2.1 me_X3_walk.2.2.2.1 me_X3_walk.2.2.2.2.1 ∈ tables_1_3 := List.mem_of_getElem? (i := 44) rfl
set_option maxRecDepth 100000 in
theorem xr_c_X3_weigh : Cond.code me_X3_weigh.2.1 me_X3_weigh.2.2.1 me_X3_weigh.2.2.2.1 me_X3_weigh.2.2.2.2.1 ∈ tables_1_3 := List.mem_of_getElem? (i := 48) rfl
set_option maxRecDepth 100000 in
theorem xr_c_X3_weightOfEnough : Cond.code me_X3_weightOfEnough.2.1 me_X3_weightOfEnough.2.2.1 me_X3_weightOfEnough.2.2.2.1 me_X3_weightOfEnough.2.2.2.2.1 ∈ tables_1_3 := List.mem_of_getElem? (i := 113) rfl
set_option maxRecDepth 100000 in
theorem xr_c_X4_init : Cond.code me_X4_init.2.1 me_X4_init.2.2.1 me_X4_init.2.2.2.1 me_X4_init.2.2.2.2.1 ∈ tables_1_1 := List.mem_of_getElem? (i := 44) rfl
set_option maxRecDepth 100000 in
theorem xr_c_X4_failsAt : Cond.code me_X4_failsAt.2.1 me_X4_failsAt.2.2.1 me_X4_failsAt.2.2.2.1 me_X4_failsAt.2.2.2.2.1 ∈ tables_1_2 := List.mem_of_getElem? (i := 118) rfl
set_option maxRecDepth 100000 in
theorem xr_c_X4_isTold : Cond.code me_X4_isTold.2.1 me_X4_isTold.2.2.1 me_X4_isTold.2.2.2.1 me_X4_isTold.2.2.2.2.1 ∈ tables_1_2 := List.mem_of_getElem? (i := 140) rfl
set_option maxRecDepth 100000 in
theorem xr_c_X4_kindOf : Cond.code me_X4_kindOf.2.1 me_X4_kindOf.2.2.1 me_X4_kindOf.2.2.2.1 me_X4_kindOf.2.2.2.2.1 ∈ tables_1_2 := List.mem_of_getElem? (i := 129) rfl
set_option maxRecDepth 100000 in
theorem xr_c_X4_letterHere : Cond.code me_X4_letterHere.2.1 me_X4_letterHere.2.2.1 me_X4_letterHere.2.2.2.1 me_X4_letterHere.2.2.2.2.1 ∈ tables_1_2 := List.mem_of_getElem? (i := 114) rfl
set_option maxRecDepth 100000 in
theorem xr_c_X4_numberWithin : Cond.code me_X4_numberWithin.2.1 me_X4_numberWithin.2.2.1 me_X4_numberWithin.2.2.2.1 me_X4_numberWithin.2.2.2.2.1 ∈ tables_1_2 := List.mem_of_getElem? (i := 122) rfl
set_option maxRecDepth 100000 in
theorem xr_c_X4_put : Cond.code me_X4_put.2.1 me_X4_put.2.2.1 me_X4_put.2.2.2.1 me_X4_put.2.2.2.2.1 ∈ tables_1_2 := List.mem_of_getElem? (i := 90) rfl
set_option maxRecDepth 100000 in
theorem xr_c_X4_readCorners : Cond.code me_X4_readCorners.2.1 me_X4_readCorners.2.2.1 me_X4_readCorners.2.2.2.1 me_X4_readCorners.2.2.2.2.1 ∈ tables_1_2 := List.mem_of_getElem? (i := 126) rfl
set_option maxRecDepth 100000 in
theorem xr_c_X4_readEnds : Cond.code me_X4_readEnds.2.1 me_X4_readEnds.2.2.1 me_X4_readEnds.2.2.2.1 me_X4_readEnds.2.2.2.2.1 ∈ tables_1_2 := List.mem_of_getElem? (i := 137) rfl
set_option maxRecDepth 100000 in
theorem xr_c_X4_readInto : Cond.code me_X4_readInto.2.1 me_X4_readInto.2.2.1 me_X4_readInto.2.2.2.1 me_X4_readInto.2.2.2.2.1 ∈ tables_1_2 := List.mem_of_getElem? (i := 98) rfl
set_option maxRecDepth 100000 in
theorem xr_c_X4_readLaw : Cond.code me_X4_readLaw.2.1 me_X4_readLaw.2.2.1 me_X4_readLaw.2.2.2.1 me_X4_readLaw.2.2.2.2.1 ∈ tables_1_2 := List.mem_of_getElem? (i := 106) rfl
set_option maxRecDepth 100000 in
theorem xr_c_X4_readStreets : Cond.code me_X4_readStreets.2.1 me_X4_readStreets.2.2.1 me_X4_readStreets.2.2.2.1 me_X4_readStreets.2.2.2.2.1 ∈ tables_1_2 := List.mem_of_getElem? (i := 133) rfl
set_option maxRecDepth 100000 in
theorem xr_c_X4_takes : Cond.code me_X4_takes.2.1 me_X4_takes.2.2.1 me_X4_takes.2.2.2.1 me_X4_takes.2.2.2.2.1 ∈ tables_1_2 := List.mem_of_getElem? (i := 110) rfl
set_option maxRecDepth 100000 in
theorem xr_c_X5_init : Cond.code me_X5_init.2.1 me_X5_init.2.2.1 me_X5_init.2.2.2.1 me_X5_init.2.2.2.2.1 ∈ tables_1_1 := List.mem_of_getElem? (i := 69) rfl
set_option maxRecDepth 100000 in
theorem xr_c_X5_become : Cond.code me_X5_become.2.1 me_X5_become.2.2.1 me_X5_become.2.2.2.1 me_X5_become.2.2.2.2.1 ∈ tables_1_2 := List.mem_of_getElem? (i := 145) rfl
set_option maxRecDepth 100000 in
theorem xr_c_X5_clear : Cond.code me_X5_clear.2.1 me_X5_clear.2.2.1 me_X5_clear.2.2.2.1 me_X5_clear.2.2.2.2.1 ∈ tables_1_2 := List.mem_of_getElem? (i := 102) rfl
set_option maxRecDepth 100000 in
theorem xr_c_X5_costBetween : Cond.code me_X5_costBetween.2.1 me_X5_costBetween.2.2.1 me_X5_costBetween.2.2.2.1 me_X5_costBetween.2.2.2.2.1 ∈ tables_1_2 := List.mem_of_getElem? (i := 206) rfl
set_option maxRecDepth 100000 in
theorem xr_c_X5_costBy : Cond.code me_X5_costBy.2.1 me_X5_costBy.2.2.1 me_X5_costBy.2.2.2.1 me_X5_costBy.2.2.2.2.1 ∈ tables_1_2 := List.mem_of_getElem? (i := 188) rfl
set_option maxRecDepth 100000 in
theorem xr_c_X5_goBy : Cond.code me_X5_goBy.2.1 me_X5_goBy.2.2.1 me_X5_goBy.2.2.2.1 me_X5_goBy.2.2.2.2.1 ∈ tables_1_2 := List.mem_of_getElem? (i := 184) rfl
set_option maxRecDepth 100000 in
theorem xr_c_X5_goByDraw : Cond.code me_X5_goByDraw.2.1 me_X5_goByDraw.2.2.1 me_X5_goByDraw.2.2.2.1 me_X5_goByDraw.2.2.2.2.1 ∈ tables_1_3 := List.mem_of_getElem? (i := 139) rfl
set_option maxRecDepth 100000 in
theorem xr_c_X5_hasCorner : Cond.code me_X5_hasCorner.2.1 me_X5_hasCorner.2.2.1 me_X5_hasCorner.2.2.2.1 me_X5_hasCorner.2.2.2.2.1 ∈ tables_1_2 := List.mem_of_getElem? (i := 217) rfl
set_option maxRecDepth 100000 in
theorem xr_c_X5_hasStreet : Cond.code me_X5_hasStreet.2.1 me_X5_hasStreet.2.2.1 me_X5_hasStreet.2.2.2.1 me_X5_hasStreet.2.2.2.2.1 ∈ tables_1_2 := List.mem_of_getElem? (i := 162) rfl
set_option maxRecDepth 100000 in
theorem xr_c_X5_isOpen : Cond.code me_X5_isOpen.2.1 me_X5_isOpen.2.2.1 me_X5_isOpen.2.2.2.1 me_X5_isOpen.2.2.2.2.1 ∈ tables_1_2 := List.mem_of_getElem? (i := 175) rfl
set_option maxRecDepth 100000 in
theorem xr_c_X5_leads : Cond.code me_X5_leads.2.1 me_X5_leads.2.2.1 me_X5_leads.2.2.2.1 me_X5_leads.2.2.2.2.1 ∈ tables_1_2 := List.mem_of_getElem? (i := 166) rfl
set_option maxRecDepth 100000 in
theorem xr_c_X5_leadsFrom : Cond.code me_X5_leadsFrom.2.1 me_X5_leadsFrom.2.2.1 me_X5_leadsFrom.2.2.2.1 me_X5_leadsFrom.2.2.2.2.1 ∈ tables_1_2 := List.mem_of_getElem? (i := 170) rfl
set_option maxRecDepth 100000 in
theorem xr_c_X5_moodBehind : Cond.code me_X5_moodBehind.2.1 me_X5_moodBehind.2.2.1 me_X5_moodBehind.2.2.2.1 me_X5_moodBehind.2.2.2.2.1 ∈ tables_1_2 := List.mem_of_getElem? (i := 196) rfl
set_option maxRecDepth 100000 in
theorem xr_c_X5_moodBy : Cond.code me_X5_moodBy.2.1 me_X5_moodBy.2.2.1 me_X5_moodBy.2.2.2.1 me_X5_moodBy.2.2.2.2.1 ∈ tables_1_2 := List.mem_of_getElem? (i := 192) rfl
set_option maxRecDepth 100000 in
theorem xr_c_X5_openWays : Cond.code me_X5_openWays.2.1 me_X5_openWays.2.2.1 me_X5_openWays.2.2.2.1 me_X5_openWays.2.2.2.2.1 ∈ tables_1_3 := List.mem_of_getElem? (i := 31) rfl
set_option maxRecDepth 100000 in
theorem xr_c_X5_stands : Cond.code me_X5_stands.2.1 me_X5_stands.2.2.1 me_X5_stands.2.2.2.1 me_X5_stands.2.2.2.2.1 ∈ tables_1_2 := List.mem_of_getElem? (i := 225) rfl
set_option maxRecDepth 100000 in
theorem xr_c_X5_turn : Cond.code me_X5_turn.2.1 me_X5_turn.2.2.1 me_X5_turn.2.2.2.1 me_X5_turn.2.2.2.2.1 ∈ tables_1_2 := List.mem_of_getElem? (i := 234) rfl
set_option maxRecDepth 100000 in
theorem xr_c_X6_init : Cond.code me_X6_init.2.1 me_X6_init.2.2.1 me_X6_init.2.2.2.1 me_X6_init.2.2.2.2.1 ∈ tables_1_1 := List.mem_of_getElem? (i := 16) rfl
set_option maxRecDepth 100000 in
theorem xr_c_X6_areFitting : Cond.code me_X6_areFitting.2.1 me_X6_areFitting.2.2.1 me_X6_areFitting.2.2.2.1 me_X6_areFitting.2.2.2.2.1 ∈ tables_1_3 := List.mem_of_getElem? (i := 80) rfl
set_option maxRecDepth 100000 in
theorem xr_c_X6_as : Cond.code me_X6_as.2.1 me_X6_as.2.2.1 me_X6_as.2.2.2.1 me_X6_as.2.2.2.2.1 ∈ tables_1_3 := List.mem_of_getElem? (i := 157) rfl
set_option maxRecDepth 100000 in
theorem xr_c_X6_ask : Cond.code me_X6_ask.2.1 me_X6_ask.2.2.1 me_X6_ask.2.2.2.1 me_X6_ask.2.2.2.2.1 ∈ tables_1_3 := List.mem_of_getElem? (i := 164) rfl
set_option maxRecDepth 100000 in
theorem xr_c_X6_cheapest : Cond.code me_X6_cheapest.2.1 me_X6_cheapest.2.2.1 me_X6_cheapest.2.2.2.1 me_X6_cheapest.2.2.2.2.1 ∈ tables_1_3 := List.mem_of_getElem? (i := 35) rfl
set_option maxRecDepth 100000 in
theorem xr_c_X6_commonDivisor : Cond.code me_X6_commonDivisor.2.1 me_X6_commonDivisor.2.2.1 me_X6_commonDivisor.2.2.2.1 me_X6_commonDivisor.2.2.2.2.1 ∈ tables_1_3 := List.mem_of_getElem? (i := 127) rfl
set_option maxRecDepth 100000 in
theorem xr_c_X6_copy : Cond.code me_X6_copy.2.1 me_X6_copy.2.2.1 me_X6_copy.2.2.2.1 me_X6_copy.2.2.2.2.1 ∈ tables_1_2 := List.mem_of_getElem? (i := 61) rfl
set_option maxRecDepth 100000 in
theorem xr_c_X6_corner : Cond.code me_X6_corner.2.1 me_X6_corner.2.2.1 me_X6_corner.2.2.2.1 me_X6_corner.2.2.2.2.1 ∈ tables_1_3 := List.mem_of_getElem? (i := 7) rfl
set_option maxRecDepth 100000 in
theorem xr_c_X6_count : Cond.code me_X6_count.2.1 me_X6_count.2.2.1 me_X6_count.2.2.2.1 me_X6_count.2.2.2.2.1 ∈ tables_1_3 := List.mem_of_getElem? (i := 188) rfl
set_option maxRecDepth 100000 in
theorem xr_c_X6_dearest : Cond.code me_X6_dearest.2.1 me_X6_dearest.2.2.1 me_X6_dearest.2.2.2.1 me_X6_dearest.2.2.2.2.1 ∈ tables_1_3 := List.mem_of_getElem? (i := 65) rfl
set_option maxRecDepth 100000 in
theorem xr_c_X6_drawn : Cond.code me_X6_drawn.2.1 me_X6_drawn.2.2.1 me_X6_drawn.2.2.2.1 me_X6_drawn.2.2.2.2.1 ∈ tables_1_3 := List.mem_of_getElem? (i := 132) rfl
set_option maxRecDepth 100000 in
theorem xr_c_X6_drop : Cond.code me_X6_drop.2.1 me_X6_drop.2.2.1 me_X6_drop.2.2.2.1 me_X6_drop.2.2.2.2.1 ∈ tables_1_2 := List.mem_of_getElem? (i := 76) rfl
set_option maxRecDepth 100000 in
theorem xr_c_X6_fault : Cond.code me_X6_fault.2.1 me_X6_fault.2.2.1 me_X6_fault.2.2.2.1 me_X6_fault.2.2.2.2.1 ∈ tables_1_2 := List.mem_of_getElem? (i := 154) rfl
set_option maxRecDepth 100000 in
theorem xr_c_X6_feed : Cond.code me_X6_feed.2.1 me_X6_feed.2.2.1 me_X6_feed.2.2.2.1 me_X6_feed.2.2.2.2.1 ∈ tables_1_2 := List.mem_of_getElem? (i := 85) rfl
set_option maxRecDepth 100000 in
theorem xr_c_X6_findingOfTwo : Cond.code me_X6_findingOfTwo.2.1 me_X6_findingOfTwo.2.2.1 me_X6_findingOfTwo.2.2.2.1 me_X6_findingOfTwo.2.2.2.2.1 ∈ tables_1_3 := List.mem_of_getElem? (i := 84) rfl
set_option maxRecDepth 100000 in
theorem xr_c_X6_fits : Cond.code me_X6_fits.2.1 me_X6_fits.2.2.1 me_X6_fits.2.2.2.1 me_X6_fits.2.2.2.2.1 ∈ tables_1_3 := List.mem_of_getElem? (i := 77) rfl
set_option maxRecDepth 100000 in
theorem xr_c_X6_fitsOf : Cond.code me_X6_fitsOf.2.1 me_X6_fitsOf.2.2.1 me_X6_fitsOf.2.2.2.1 me_X6_fitsOf.2.2.2.2.1 ∈ tables_1_3 := List.mem_of_getElem? (i := 92) rfl
set_option maxRecDepth 100000 in
theorem xr_c_X6_found : Cond.code me_X6_found.2.1 me_X6_found.2.2.1 me_X6_found.2.2.2.1 me_X6_found.2.2.2.2.1 ∈ tables_1_2 := List.mem_of_getElem? (i := 28) rfl
set_option maxRecDepth 100000 in
theorem xr_c_X6_gets : Cond.code me_X6_gets.2.1 me_X6_gets.2.2.1 me_X6_gets.2.2.2.1 me_X6_gets.2.2.2.2.1 ∈ tables_1_3 := List.mem_of_getElem? (i := 73) rfl
set_option maxRecDepth 100000 in
theorem xr_c_X6_image : Cond.code me_X6_image.2.1 me_X6_image.2.2.1 me_X6_image.2.2.2.1 me_X6_image.2.2.2.2.1 ∈ tables_1_3 := List.mem_of_getElem? (i := 145) rfl
set_option maxRecDepth 100000 in
theorem xr_c_X6_isOfKind : Cond.code me_X6_isOfKind.2.1 me_X6_isOfKind.2.2.1 me_X6_isOfKind.2.2.2.1 me_X6_isOfKind.2.2.2.2.1 ∈ tables_1_3 := List.mem_of_getElem? (i := 160) rfl
set_option maxRecDepth 100000 in
theorem xr_c_X6_isSo : Cond.code me_X6_isSo.2.1 me_X6_isSo.2.2.1 me_X6_isSo.2.2.2.1 me_X6_isSo.2.2.2.2.1 ∈ tables_1_3 := List.mem_of_getElem? (i := 88) rfl
set_option maxRecDepth 100000 in
theorem xr_c_X6_kind : Cond.code me_X6_kind.2.1 me_X6_kind.2.2.1 me_X6_kind.2.2.2.1 me_X6_kind.2.2.2.2.1 ∈ tables_1_3 := List.mem_of_getElem? (i := 153) rfl
set_option maxRecDepth 100000 in
theorem xr_c_X6_lesson : Cond.code me_X6_lesson.2.1 me_X6_lesson.2.2.1 me_X6_lesson.2.2.2.1 me_X6_lesson.2.2.2.2.1 ∈ tables_1_2 := List.mem_of_getElem? (i := 213) rfl
set_option maxRecDepth 100000 in
theorem xr_c_X6_moods : Cond.code me_X6_moods.2.1 me_X6_moods.2.2.1 me_X6_moods.2.2.2.1 me_X6_moods.2.2.2.2.1 ∈ tables_1_3 := List.mem_of_getElem? (i := 69) rfl
set_option maxRecDepth 100000 in
theorem xr_c_X6_owedFrom : Cond.code me_X6_owedFrom.2.1 me_X6_owedFrom.2.2.1 me_X6_owedFrom.2.2.2.1 me_X6_owedFrom.2.2.2.2.1 ∈ tables_1_3 := List.mem_of_getElem? (i := 100) rfl
set_option maxRecDepth 100000 in
theorem xr_c_X6_power : Cond.code me_X6_power.2.1 me_X6_power.2.2.1 me_X6_power.2.2.2.1 me_X6_power.2.2.2.2.1 ∈ tables_1_3 := List.mem_of_getElem? (i := 122) rfl
set_option maxRecDepth 100000 in
theorem xr_c_X6_reach : Cond.code me_X6_reach.2.1 me_X6_reach.2.2.1 me_X6_reach.2.2.2.1 me_X6_reach.2.2.2.2.1 ∈ tables_1_3 := List.mem_of_getElem? (i := 27) rfl
set_option maxRecDepth 100000 in
theorem xr_c_X6_reset : Cond.code me_X6_reset.2.1 me_X6_reset.2.2.1 me_X6_reset.2.2.2.1 me_X6_reset.2.2.2.2.1 ∈ tables_1_2 := List.mem_of_getElem? (i := 221) rfl
set_option maxRecDepth 100000 in
theorem xr_c_X6_restore : Cond.code me_X6_restore.2.1 me_X6_restore.2.2.1 me_X6_restore.2.2.2.1 me_X6_restore.2.2.2.2.1 ∈ tables_1_3 := List.mem_of_getElem? (i := 149) rfl
set_option maxRecDepth 100000 in
theorem xr_c_X6_ride : Cond.code me_X6_ride.2.1 me_X6_ride.2.2.1 me_X6_ride.2.2.2.1 me_X6_ride.2.2.2.2.1 ∈ tables_1_2 := List.mem_of_getElem? (i := 158) rfl
set_option maxRecDepth 100000 in
theorem xr_c_X6_row : Cond.code me_X6_row.2.1 me_X6_row.2.2.1 me_X6_row.2.2.2.1 me_X6_row.2.2.2.2.1 ∈ tables_1_2 := List.mem_of_getElem? (i := 20) rfl
set_option maxRecDepth 100000 in
theorem xr_c_X6_set : Cond.code me_X6_set.2.1 me_X6_set.2.2.1 me_X6_set.2.2.2.1 me_X6_set.2.2.2.2.1 ∈ tables_1_2 := List.mem_of_getElem? (i := 41) rfl
set_option maxRecDepth 100000 in
theorem xr_c_X6_share : Cond.code me_X6_share.2.1 me_X6_share.2.2.1 me_X6_share.2.2.2.1 me_X6_share.2.2.2.2.1 ∈ tables_1_3 := List.mem_of_getElem? (i := 96) rfl
set_option maxRecDepth 100000 in
theorem xr_c_X6_shut : Cond.code me_X6_shut.2.1 me_X6_shut.2.2.1 me_X6_shut.2.2.2.1 me_X6_shut.2.2.2.2.1 ∈ tables_1_3 := List.mem_of_getElem? (i := 104) rfl
set_option maxRecDepth 100000 in
theorem xr_c_X6_status : Cond.code me_X6_status.2.1 me_X6_status.2.2.1 me_X6_status.2.2.2.1 me_X6_status.2.2.2.2.1 ∈ tables_1_3 := List.mem_of_getElem? (i := 196) rfl
set_option maxRecDepth 100000 in
theorem xr_c_X6_street : Cond.code me_X6_street.2.1 me_X6_street.2.2.1 me_X6_street.2.2.2.1 me_X6_street.2.2.2.2.1 ∈ tables_1_2 := List.mem_of_getElem? (i := 229) rfl
set_option maxRecDepth 100000 in
theorem xr_c_X6_streetsAt : Cond.code me_X6_streetsAt.2.1 me_X6_streetsAt.2.2.1 me_X6_streetsAt.2.2.2.1 me_X6_streetsAt.2.2.2.2.1 ∈ tables_1_3 := List.mem_of_getElem? (i := 11) rfl
set_option maxRecDepth 100000 in
theorem xr_c_X6_town : Cond.code me_X6_town.2.1 me_X6_town.2.2.1 me_X6_town.2.2.2.1 me_X6_town.2.2.2.2.1 ∈ tables_1_2 := List.mem_of_getElem? (i := 94) rfl
set_option maxRecDepth 100000 in
theorem xr_c_X6_trace : Cond.code me_X6_trace.2.1 me_X6_trace.2.2.1 me_X6_trace.2.2.2.1 me_X6_trace.2.2.2.2.1 ∈ tables_1_3 := List.mem_of_getElem? (i := 184) rfl
set_option maxRecDepth 100000 in
theorem xr_c_X6_undo : Cond.code me_X6_undo.2.1 me_X6_undo.2.2.1 me_X6_undo.2.2.2.1 me_X6_undo.2.2.2.2.1 ∈ tables_1_2 := List.mem_of_getElem? (i := 238) rfl
set_option maxRecDepth 100000 in
theorem xr_c_X6_unfound : Cond.code me_X6_unfound.2.1 me_X6_unfound.2.2.1 me_X6_unfound.2.2.2.1 me_X6_unfound.2.2.2.2.1 ∈ tables_1_2 := List.mem_of_getElem? (i := 37) rfl
set_option maxRecDepth 100000 in
theorem xr_c_X6_way : Cond.code me_X6_way.2.1 me_X6_way.2.2.1 me_X6_way.2.2.2.1 me_X6_way.2.2.2.2.1 ∈ tables_1_3 := List.mem_of_getElem? (i := 16) rfl
set_option maxRecDepth 100000 in
theorem xr_c_X6_would : Cond.code me_X6_would.2.1 me_X6_would.2.2.1 me_X6_would.2.2.2.1 me_X6_would.2.2.2.2.1 ∈ tables_1_3 := List.mem_of_getElem? (i := 20) rfl
set_option maxRecDepth 100000 in
theorem xr_c_X7_init : Cond.code me_X7_init.2.1 me_X7_init.2.2.1 me_X7_init.2.2.2.1 me_X7_init.2.2.2.2.1 ∈ tables_1_3 := List.mem_of_getElem? (i := 201) rfl
set_option maxRecDepth 100000 in
theorem xr_c_X7_adds : Cond.code me_X7_adds.2.1 me_X7_adds.2.2.1 me_X7_adds.2.2.2.1 me_X7_adds.2.2.2.2.1 ∈ tables_1_5 := List.mem_of_getElem? (i := 19) rfl
set_option maxRecDepth 100000 in
theorem xr_c_X7_advances : Cond.code me_X7_advances.2.1 me_X7_advances.2.2.1 me_X7_advances.2.2.2.1 me_X7_advances.2.2.2.2.1 ∈ tables_1_4 := List.mem_of_getElem? (i := 116) rfl
set_option maxRecDepth 100000 in
theorem xr_c_X7_all : Cond.code me_X7_all.2.1 me_X7_all.2.2.1 me_X7_all.2.2.2.1 me_X7_all.2.2.2.2.1 ∈ tables_1_5 := List.mem_of_getElem? (i := 47) rfl
set_option maxRecDepth 100000 in
theorem xr_c_X7_as : Cond.code me_X7_as.2.1 me_X7_as.2.2.1 me_X7_as.2.2.2.1 me_X7_as.2.2.2.2.1 ∈ tables_1_5 := List.mem_of_getElem? (i := 94) rfl
set_option maxRecDepth 100000 in
theorem xr_c_X7_ask : Cond.code me_X7_ask.2.1 me_X7_ask.2.2.1 me_X7_ask.2.2.2.1 me_X7_ask.2.2.2.2.1 ∈ tables_1_5 := List.mem_of_getElem? (i := 98) rfl
set_option maxRecDepth 100000 in
theorem xr_c_X7_bar : Cond.code me_X7_bar.2.1 me_X7_bar.2.2.1 me_X7_bar.2.2.2.1 me_X7_bar.2.2.2.2.1 ∈ tables_1_5 := List.mem_of_getElem? (i := 43) rfl
set_option maxRecDepth 100000 in
theorem xr_c_X7_begins : Cond.code me_X7_begins.2.1 me_X7_begins.2.2.1 me_X7_begins.2.2.2.1 me_X7_begins.2.2.2.2.1 ∈ tables_1_5 := List.mem_of_getElem? (i := 7) rfl
set_option maxRecDepth 100000 in
theorem xr_c_X7_byteAt : Cond.code me_X7_byteAt.2.1 me_X7_byteAt.2.2.1 me_X7_byteAt.2.2.2.1 me_X7_byteAt.2.2.2.2.1 ∈ tables_1_4 := List.mem_of_getElem? (i := 120) rfl
set_option maxRecDepth 100000 in
theorem xr_c_X7_cheapest : Cond.code me_X7_cheapest.2.1 me_X7_cheapest.2.2.1 me_X7_cheapest.2.2.2.1 me_X7_cheapest.2.2.2.2.1 ∈ tables_1_4 := List.mem_of_getElem? (i := 239) rfl
set_option maxRecDepth 100000 in
theorem xr_c_X7_copies : Cond.code me_X7_copies.2.1 me_X7_copies.2.2.1 me_X7_copies.2.2.2.1 me_X7_copies.2.2.2.2.1 ∈ tables_1_4 := List.mem_of_getElem? (i := 159) rfl
set_option maxRecDepth 100000 in
theorem xr_c_X7_copy : Cond.code me_X7_copy.2.1 me_X7_copy.2.2.1 me_X7_copy.2.2.2.1 me_X7_copy.2.2.2.2.1 ∈ tables_1_4 := List.mem_of_getElem? (i := 95) rfl
set_option maxRecDepth 100000 in
theorem xr_c_X7_corner : Cond.code me_X7_corner.2.1 me_X7_corner.2.2.1 me_X7_corner.2.2.2.1 me_X7_corner.2.2.2.2.1 ∈ tables_1_4 := List.mem_of_getElem? (i := 219) rfl
set_option maxRecDepth 100000 in
theorem xr_c_X7_cost : Cond.code me_X7_cost.2.1 me_X7_cost.2.2.1 me_X7_cost.2.2.2.1 me_X7_cost.2.2.2.2.1 ∈ tables_1_4 := List.mem_of_getElem? (i := 188) rfl
set_option maxRecDepth 100000 in
theorem xr_c_X7_count : Cond.code me_X7_count.2.1 me_X7_count.2.2.1 me_X7_count.2.2.2.1 me_X7_count.2.2.2.2.1 ∈ tables_1_5 := List.mem_of_getElem? (i := 126) rfl
set_option maxRecDepth 100000 in
theorem xr_c_X7_cut : Cond.code me_X7_cut.2.1 me_X7_cut.2.2.1 me_X7_cut.2.2.2.1 me_X7_cut.2.2.2.2.1 ∈ tables_1_4 := List.mem_of_getElem? (i := 91) rfl
set_option maxRecDepth 100000 in
theorem xr_c_X7_dearest : Cond.code me_X7_dearest.2.1 me_X7_dearest.2.2.1 me_X7_dearest.2.2.2.1 me_X7_dearest.2.2.2.2.1 ∈ tables_1_5 := List.mem_of_getElem? (i := 27) rfl
set_option maxRecDepth 100000 in
theorem xr_c_X7_drawn : Cond.code me_X7_drawn.2.1 me_X7_drawn.2.2.1 me_X7_drawn.2.2.2.1 me_X7_drawn.2.2.2.2.1 ∈ tables_1_5 := List.mem_of_getElem? (i := 67) rfl
set_option maxRecDepth 100000 in
theorem xr_c_X7_drop : Cond.code me_X7_drop.2.1 me_X7_drop.2.2.1 me_X7_drop.2.2.2.1 me_X7_drop.2.2.2.2.1 ∈ tables_1_4 := List.mem_of_getElem? (i := 103) rfl
set_option maxRecDepth 100000 in
theorem xr_c_X7_ends : Cond.code me_X7_ends.2.1 me_X7_ends.2.2.1 me_X7_ends.2.2.2.1 me_X7_ends.2.2.2.2.1 ∈ tables_1_4 := List.mem_of_getElem? (i := 223) rfl
set_option maxRecDepth 100000 in
theorem xr_c_X7_fault : Cond.code me_X7_fault.2.1 me_X7_fault.2.2.1 me_X7_fault.2.2.2.1 me_X7_fault.2.2.2.2.1 ∈ tables_1_4 := List.mem_of_getElem? (i := 163) rfl
set_option maxRecDepth 100000 in
theorem xr_c_X7_feed : Cond.code me_X7_feed.2.1 me_X7_feed.2.2.1 me_X7_feed.2.2.2.1 me_X7_feed.2.2.2.2.1 ∈ tables_1_4 := List.mem_of_getElem? (i := 107) rfl
set_option maxRecDepth 100000 in
theorem xr_c_X7_figure : Cond.code me_X7_figure.2.1 me_X7_figure.2.2.1 me_X7_figure.2.2.2.1 me_X7_figure.2.2.2.2.1 ∈ tables_1_4 := List.mem_of_getElem? (i := 132) rfl
set_option maxRecDepth 100000 in
theorem xr_c_X7_finds : Cond.code me_X7_finds.2.1 me_X7_finds.2.2.1 me_X7_finds.2.2.2.1 me_X7_finds.2.2.2.2.1 ∈ tables_1_5 := List.mem_of_getElem? (i := 3) rfl
set_option maxRecDepth 100000 in
theorem xr_c_X7_fits : Cond.code me_X7_fits.2.1 me_X7_fits.2.2.1 me_X7_fits.2.2.2.1 me_X7_fits.2.2.2.2.1 ∈ tables_1_5 := List.mem_of_getElem? (i := 39) rfl
set_option maxRecDepth 100000 in
theorem xr_c_X7_fitsOf : Cond.code me_X7_fitsOf.2.1 me_X7_fitsOf.2.2.1 me_X7_fitsOf.2.2.2.1 me_X7_fitsOf.2.2.2.2.1 ∈ tables_1_5 := List.mem_of_getElem? (i := 55) rfl
set_option maxRecDepth 100000 in
theorem xr_c_X7_follows : Cond.code me_X7_follows.2.1 me_X7_follows.2.2.1 me_X7_follows.2.2.2.1 me_X7_follows.2.2.2.2.1 ∈ tables_1_4 := List.mem_of_getElem? (i := 136) rfl
set_option maxRecDepth 100000 in
theorem xr_c_X7_found : Cond.code me_X7_found.2.1 me_X7_found.2.2.1 me_X7_found.2.2.2.1 me_X7_found.2.2.2.2.1 ∈ tables_1_4 := List.mem_of_getElem? (i := 75) rfl
set_option maxRecDepth 100000 in
theorem xr_c_X7_gets : Cond.code me_X7_gets.2.1 me_X7_gets.2.2.1 me_X7_gets.2.2.2.1 me_X7_gets.2.2.2.2.1 ∈ tables_1_5 := List.mem_of_getElem? (i := 35) rfl
set_option maxRecDepth 100000 in
theorem xr_c_X7_goes : Cond.code me_X7_goes.2.1 me_X7_goes.2.2.1 me_X7_goes.2.2.2.1 me_X7_goes.2.2.2.2.1 ∈ tables_1_4 := List.mem_of_getElem? (i := 174) rfl
set_option maxRecDepth 100000 in
theorem xr_c_X7_goesOn : Cond.code me_X7_goesOn.2.1 me_X7_goesOn.2.2.1 me_X7_goesOn.2.2.2.1 me_X7_goesOn.2.2.2.2.1 ∈ tables_1_5 := List.mem_of_getElem? (i := 15) rfl
set_option maxRecDepth 100000 in
theorem xr_c_X7_goesSo : Cond.code me_X7_goesSo.2.1 me_X7_goesSo.2.2.1 me_X7_goesSo.2.2.2.1 me_X7_goesSo.2.2.2.2.1 ∈ tables_1_5 := List.mem_of_getElem? (i := 51) rfl
set_option maxRecDepth 100000 in
theorem xr_c_X7_griefMark : Cond.code me_X7_griefMark.2.1 me_X7_griefMark.2.2.1 me_X7_griefMark.2.2.2.1 me_X7_griefMark.2.2.2.2.1 ∈ tables_1_5 := List.mem_of_getElem? (i := 118) rfl
set_option maxRecDepth 100000 in
theorem xr_c_X7_griefSize : Cond.code me_X7_griefSize.2.1 me_X7_griefSize.2.2.1 me_X7_griefSize.2.2.2.1 me_X7_griefSize.2.2.2.2.1 ∈ tables_1_5 := List.mem_of_getElem? (i := 102) rfl
set_option maxRecDepth 100000 in
theorem xr_c_X7_has : Cond.code me_X7_has.2.1 me_X7_has.2.2.1 me_X7_has.2.2.2.1 me_X7_has.2.2.2.2.1 ∈ tables_1_4 := List.mem_of_getElem? (i := 177) rfl
set_option maxRecDepth 100000 in
theorem xr_c_X7_image : Cond.code me_X7_image.2.1 me_X7_image.2.2.1 me_X7_image.2.2.2.1 me_X7_image.2.2.2.2.1 ∈ tables_1_5 := List.mem_of_getElem? (i := 78) rfl
set_option maxRecDepth 100000 in
theorem xr_c_X7_in : Cond.code me_X7_in.2.1 me_X7_in.2.2.1 me_X7_in.2.2.2.1 me_X7_in.2.2.2.2.1 ∈ tables_1_4 := List.mem_of_getElem? (i := 70) rfl
set_option maxRecDepth 100000 in
theorem xr_c_X7_isCorner : Cond.code me_X7_isCorner.2.1 me_X7_isCorner.2.2.1 me_X7_isCorner.2.2.2.1 me_X7_isCorner.2.2.2.2.1 ∈ tables_1_4 := List.mem_of_getElem? (i := 199) rfl
set_option maxRecDepth 100000 in
theorem xr_c_X7_isMissing : Cond.code me_X7_isMissing.2.1 me_X7_isMissing.2.2.1 me_X7_isMissing.2.2.2.1 me_X7_isMissing.2.2.2.2.1 ∈ tables_1_4 := List.mem_of_getElem? (i := 88) rfl
set_option maxRecDepth 100000 in
theorem xr_c_X7_isPart : Cond.code me_X7_isPart.2.1 me_X7_isPart.2.2.1 me_X7_isPart.2.2.2.1 me_X7_isPart.2.2.2.2.1 ∈ tables_1_4 := List.mem_of_getElem? (i := 99) rfl
set_option maxRecDepth 100000 in
theorem xr_c_X7_isRow : Cond.code me_X7_isRow.2.1 me_X7_isRow.2.2.1 me_X7_isRow.2.2.2.1 me_X7_isRow.2.2.2.2.1 ∈ tables_1_4 := List.mem_of_getElem? (i := 67) rfl
set_option maxRecDepth 100000 in
theorem xr_c_X7_isStreet : Cond.code me_X7_isStreet.2.1 me_X7_isStreet.2.2.1 me_X7_isStreet.2.2.2.1 me_X7_isStreet.2.2.2.2.1 ∈ tables_1_4 := List.mem_of_getElem? (i := 171) rfl
set_option maxRecDepth 100000 in
theorem xr_c_X7_isStreetTold : Cond.code me_X7_isStreetTold.2.1 me_X7_isStreetTold.2.2.1 me_X7_isStreetTold.2.2.2.1 me_X7_isStreetTold.2.2.2.2.1 ∈ tables_1_4 := List.mem_of_getElem? (i := 155) rfl
set_option maxRecDepth 100000 in
theorem xr_c_X7_isTown : Cond.code me_X7_isTown.2.1 me_X7_isTown.2.2.1 me_X7_isTown.2.2.2.1 me_X7_isTown.2.2.2.2.1 ∈ tables_1_4 := List.mem_of_getElem? (i := 207) rfl
set_option maxRecDepth 100000 in
theorem xr_c_X7_isWell : Cond.code me_X7_isWell.2.1 me_X7_isWell.2.2.1 me_X7_isWell.2.2.2.1 me_X7_isWell.2.2.2.2.1 ∈ tables_1_4 := List.mem_of_getElem? (i := 128) rfl
set_option maxRecDepth 100000 in
theorem xr_c_X7_joyMark : Cond.code me_X7_joyMark.2.1 me_X7_joyMark.2.2.1 me_X7_joyMark.2.2.2.1 me_X7_joyMark.2.2.2.2.1 ∈ tables_1_5 := List.mem_of_getElem? (i := 114) rfl
set_option maxRecDepth 100000 in
theorem xr_c_X7_joySize : Cond.code me_X7_joySize.2.1 me_X7_joySize.2.2.1 me_X7_joySize.2.2.2.1 me_X7_joySize.2.2.2.2.1 ∈ tables_1_5 := List.mem_of_getElem? (i := 110) rfl
set_option maxRecDepth 100000 in
theorem xr_c_X7_keeps : Cond.code me_X7_keeps.2.1 me_X7_keeps.2.2.1 me_X7_keeps.2.2.2.1 me_X7_keeps.2.2.2.2.1 ∈ tables_1_5 := List.mem_of_getElem? (i := 11) rfl
set_option maxRecDepth 100000 in
theorem xr_c_X7_kind : Cond.code me_X7_kind.2.1 me_X7_kind.2.2.1 me_X7_kind.2.2.2.1 me_X7_kind.2.2.2.2.1 ∈ tables_1_5 := List.mem_of_getElem? (i := 86) rfl
set_option maxRecDepth 100000 in
theorem xr_c_X7_kindIn : Cond.code me_X7_kindIn.2.1 me_X7_kindIn.2.2.1 me_X7_kindIn.2.2.2.1 me_X7_kindIn.2.2.2.2.1 ∈ tables_1_5 := List.mem_of_getElem? (i := 90) rfl
set_option maxRecDepth 100000 in
theorem xr_c_X7_kindOf : Cond.code me_X7_kindOf.2.1 me_X7_kindOf.2.2.1 me_X7_kindOf.2.2.2.1 me_X7_kindOf.2.2.2.2.1 ∈ tables_1_4 := List.mem_of_getElem? (i := 139) rfl
set_option maxRecDepth 100000 in
theorem xr_c_X7_leaves : Cond.code me_X7_leaves.2.1 me_X7_leaves.2.2.1 me_X7_leaves.2.2.2.1 me_X7_leaves.2.2.2.2.1 ∈ tables_1_5 := List.mem_of_getElem? (i := 106) rfl
set_option maxRecDepth 100000 in
theorem xr_c_X7_lesson : Cond.code me_X7_lesson.2.1 me_X7_lesson.2.2.1 me_X7_lesson.2.2.2.1 me_X7_lesson.2.2.2.2.1 ∈ tables_1_4 := List.mem_of_getElem? (i := 195) rfl
set_option maxRecDepth 100000 in
theorem xr_c_X7_moods : Cond.code me_X7_moods.2.1 me_X7_moods.2.2.1 me_X7_moods.2.2.2.1 me_X7_moods.2.2.2.2.1 ∈ tables_1_5 := List.mem_of_getElem? (i := 31) rfl
set_option maxRecDepth 100000 in
theorem xr_c_X7_notes : Cond.code me_X7_notes.2.1 me_X7_notes.2.2.1 me_X7_notes.2.2.2.1 me_X7_notes.2.2.2.2.1 ∈ tables_1_4 := List.mem_of_getElem? (i := 182) rfl
set_option maxRecDepth 100000 in
theorem xr_c_X7_passed : Cond.code me_X7_passed.2.1 me_X7_passed.2.2.1 me_X7_passed.2.2.2.1 me_X7_passed.2.2.2.2.1 ∈ tables_1_4 := List.mem_of_getElem? (i := 191) rfl
set_option maxRecDepth 100000 in
theorem xr_c_X7_reach : Cond.code me_X7_reach.2.1 me_X7_reach.2.2.1 me_X7_reach.2.2.2.1 me_X7_reach.2.2.2.2.1 ∈ tables_1_4 := List.mem_of_getElem? (i := 235) rfl
set_option maxRecDepth 100000 in
theorem xr_c_X7_readsCorner : Cond.code me_X7_readsCorner.2.1 me_X7_readsCorner.2.2.1 me_X7_readsCorner.2.2.2.1 me_X7_readsCorner.2.2.2.2.1 ∈ tables_1_4 := List.mem_of_getElem? (i := 143) rfl
set_option maxRecDepth 100000 in
theorem xr_c_X7_readsStreet : Cond.code me_X7_readsStreet.2.1 me_X7_readsStreet.2.2.1 me_X7_readsStreet.2.2.2.1 me_X7_readsStreet.2.2.2.2.1 ∈ tables_1_4 := List.mem_of_getElem? (i := 147) rfl
set_option maxRecDepth 100000 in
theorem xr_c_X7_reset : Cond.code me_X7_reset.2.1 me_X7_reset.2.2.1 me_X7_reset.2.2.2.1 me_X7_reset.2.2.2.2.1 ∈ tables_1_4 := List.mem_of_getElem? (i := 203) rfl
set_option maxRecDepth 100000 in
theorem xr_c_X7_restore : Cond.code me_X7_restore.2.1 me_X7_restore.2.2.1 me_X7_restore.2.2.2.1 me_X7_restore.2.2.2.2.1 ∈ tables_1_5 := List.mem_of_getElem? (i := 82) rfl
set_option maxRecDepth 100000 in
theorem xr_c_X7_ride : Cond.code me_X7_ride.2.1 me_X7_ride.2.2.1 me_X7_ride.2.2.2.1 me_X7_ride.2.2.2.2.1 ∈ tables_1_4 := List.mem_of_getElem? (i := 167) rfl
set_option maxRecDepth 100000 in
theorem xr_c_X7_rides : Cond.code me_X7_rides.2.1 me_X7_rides.2.2.1 me_X7_rides.2.2.2.1 me_X7_rides.2.2.2.2.1 ∈ tables_1_4 := List.mem_of_getElem? (i := 185) rfl
set_option maxRecDepth 100000 in
theorem xr_c_X7_row : Cond.code me_X7_row.2.1 me_X7_row.2.2.1 me_X7_row.2.2.2.1 me_X7_row.2.2.2.2.1 ∈ tables_1_4 := List.mem_of_getElem? (i := 64) rfl
set_option maxRecDepth 100000 in
theorem xr_c_X7_set : Cond.code me_X7_set.2.1 me_X7_set.2.2.1 me_X7_set.2.2.2.1 me_X7_set.2.2.2.2.1 ∈ tables_1_4 := List.mem_of_getElem? (i := 84) rfl
set_option maxRecDepth 100000 in
theorem xr_c_X7_share : Cond.code me_X7_share.2.1 me_X7_share.2.2.1 me_X7_share.2.2.2.1 me_X7_share.2.2.2.2.1 ∈ tables_1_5 := List.mem_of_getElem? (i := 59) rfl
set_option maxRecDepth 100000 in
theorem xr_c_X7_shut : Cond.code me_X7_shut.2.1 me_X7_shut.2.2.1 me_X7_shut.2.2.2.1 me_X7_shut.2.2.2.2.1 ∈ tables_1_5 := List.mem_of_getElem? (i := 63) rfl
set_option maxRecDepth 100000 in
theorem xr_c_X7_status : Cond.code me_X7_status.2.1 me_X7_status.2.2.1 me_X7_status.2.2.2.1 me_X7_status.2.2.2.2.1 ∈ tables_1_5 := List.mem_of_getElem? (i := 130) rfl
set_option maxRecDepth 100000 in
theorem xr_c_X7_street : Cond.code me_X7_street.2.1 me_X7_street.2.2.1 me_X7_street.2.2.2.1 me_X7_street.2.2.2.2.1 ∈ tables_1_4 := List.mem_of_getElem? (i := 211) rfl
set_option maxRecDepth 100000 in
theorem xr_c_X7_streetAfter : Cond.code me_X7_streetAfter.2.1 me_X7_streetAfter.2.2.1 me_X7_streetAfter.2.2.2.1 me_X7_streetAfter.2.2.2.2.1 ∈ tables_1_5 := List.mem_of_getElem? (i := 74) rfl
set_option maxRecDepth 100000 in
theorem xr_c_X7_takes : Cond.code me_X7_takes.2.1 me_X7_takes.2.2.1 me_X7_takes.2.2.2.1 me_X7_takes.2.2.2.2.1 ∈ tables_1_4 := List.mem_of_getElem? (i := 124) rfl
set_option maxRecDepth 100000 in
theorem xr_c_X7_toFigure : Cond.code me_X7_toFigure.2.1 me_X7_toFigure.2.2.1 me_X7_toFigure.2.2.2.1 me_X7_toFigure.2.2.2.2.1 ∈ tables_1_4 := List.mem_of_getElem? (i := 151) rfl
set_option maxRecDepth 100000 in
theorem xr_c_X7_told : Cond.code me_X7_told.2.1 me_X7_told.2.2.1 me_X7_told.2.2.2.1 me_X7_told.2.2.2.2.1 ∈ tables_1_5 := List.mem_of_getElem? (i := 23) rfl
set_option maxRecDepth 100000 in
theorem xr_c_X7_town : Cond.code me_X7_town.2.1 me_X7_town.2.2.1 me_X7_town.2.2.2.1 me_X7_town.2.2.2.2.1 ∈ tables_1_4 := List.mem_of_getElem? (i := 112) rfl
set_option maxRecDepth 100000 in
theorem xr_c_X7_trace : Cond.code me_X7_trace.2.1 me_X7_trace.2.2.1 me_X7_trace.2.2.2.1 me_X7_trace.2.2.2.2.1 ∈ tables_1_5 := List.mem_of_getElem? (i := 122) rfl
set_option maxRecDepth 100000 in
theorem xr_c_X7_undo : Cond.code me_X7_undo.2.1 me_X7_undo.2.2.1 me_X7_undo.2.2.2.1 me_X7_undo.2.2.2.2.1 ∈ tables_1_4 := List.mem_of_getElem? (i := 215) rfl
set_option maxRecDepth 100000 in
theorem xr_c_X7_way : Cond.code me_X7_way.2.1 me_X7_way.2.2.1 me_X7_way.2.2.2.1 me_X7_way.2.2.2.2.1 ∈ tables_1_4 := List.mem_of_getElem? (i := 227) rfl
set_option maxRecDepth 100000 in
theorem xr_c_X7_well : Cond.code me_X7_well.2.1 me_X7_well.2.2.1 me_X7_well.2.2.2.1 me_X7_well.2.2.2.2.1 ∈ tables_1_4 := List.mem_of_getElem? (i := 80) rfl
set_option maxRecDepth 100000 in
theorem xr_c_X7_would : Cond.code me_X7_would.2.1 me_X7_would.2.2.1 me_X7_would.2.2.2.1 me_X7_would.2.2.2.2.1 ∈ tables_1_4 := List.mem_of_getElem? (i := 231) rfl
set_option maxRecDepth 100000 in
theorem xr_c_J6_bitCount_0f7a4 : Cond.code me_J6_bitCount_0f7a4.2.1 me_J6_bitCount_0f7a4.2.2.1 me_J6_bitCount_0f7a4.2.2.2.1 me_J6_bitCount_0f7a4.2.2.2.2.1 ∈ tables_1_3 := List.mem_of_getElem? (i := 116) rfl
theorem xr_sub_1 {w : Cond} (h : w ∈ tables_1_1) : w ∈ tables_1 := List.mem_append_left _ h
theorem xr_sub_2 {w : Cond} (h : w ∈ tables_1_2) : w ∈ tables_1 := (List.mem_append_right _ (List.mem_append_left _ h))
theorem xr_sub_3 {w : Cond} (h : w ∈ tables_1_3) : w ∈ tables_1 := (List.mem_append_right _ (List.mem_append_right _ (List.mem_append_left _ h)))
theorem xr_sub_4 {w : Cond} (h : w ∈ tables_1_4) : w ∈ tables_1 := (List.mem_append_right _ (List.mem_append_right _ (List.mem_append_right _ (List.mem_append_left _ h))))
theorem xr_sub_5 {w : Cond} (h : w ∈ tables_1_5) : w ∈ tables_1 := (List.mem_append_right _ (List.mem_append_right _ (List.mem_append_right _ (List.mem_append_right _ h))))
theorem xr_in {w : Cond} (h : w ∈ tables_1) (g : goodWord w = true) : w ∈ xr_wds := List.mem_filter.mpr ⟨List.mem_append_right _ h, g⟩
set_option maxRecDepth 100000 in
theorem xr_code_0 : ∀ e ∈ xr_mthT_0, e.2.2.1 ≤ 3 → Cond.code e.2.2.2.1.2.1 e.2.2.2.1.2.2.1 e.2.2.2.1.2.2.2.1 e.2.2.2.1.2.2.2.2.1 ∈ xr_wds := List.forall_mem_cons.mpr ⟨fun h => absurd h (by decide), List.forall_mem_cons.mpr ⟨fun _ => xr_in (xr_sub_2 xr_c_X5_turn) rfl, List.forall_mem_cons.mpr ⟨fun h => absurd h (by decide), List.forall_mem_cons.mpr ⟨fun _ => xr_in (xr_sub_3 xr_c_X1_gives) rfl, List.forall_mem_cons.mpr ⟨fun _ => xr_in (xr_sub_3 xr_c_X1_leave) rfl, List.forall_mem_cons.mpr ⟨fun h => absurd h (by decide), List.forall_mem_cons.mpr ⟨fun _ => xr_in (xr_sub_2 xr_c_X2_isMissing) rfl, List.forall_mem_cons.mpr ⟨fun h => absurd h (by decide), List.forall_mem_cons.mpr ⟨fun _ => xr_in (xr_sub_2 xr_c_X2_spans) rfl, List.forall_mem_cons.mpr ⟨fun h => absurd h (by decide), List.forall_mem_cons.mpr ⟨fun h => absurd h (by decide), List.forall_mem_cons.mpr ⟨fun _ => xr_in (xr_sub_3 xr_c_X3_walk) rfl, List.forall_mem_cons.mpr ⟨fun _ => xr_in (xr_sub_3 xr_c_X3_seek) rfl, List.forall_mem_cons.mpr ⟨fun _ => xr_in (xr_sub_3 xr_c_J6_bitCount_0f7a4) rfl, List.forall_mem_cons.mpr ⟨fun _ => xr_in (xr_sub_3 xr_c_X6_power) rfl, List.forall_mem_cons.mpr ⟨fun _ => xr_in (xr_sub_3 xr_c_X3_weigh) rfl, List.forall_mem_cons.mpr ⟨fun _ => xr_in (xr_sub_2 xr_c_X5_leadsFrom) rfl, List.forall_mem_cons.mpr ⟨fun _ => xr_in (xr_sub_2 xr_c_X5_moodBehind) rfl, List.forall_mem_cons.mpr ⟨fun _ => xr_in (xr_sub_2 xr_c_X5_costBetween) rfl, List.forall_mem_cons.mpr ⟨fun _ => xr_in (xr_sub_3 xr_c_X3_keepPath) rfl, List.forall_mem_cons.mpr ⟨fun h => absurd h (by decide), List.forall_mem_cons.mpr ⟨fun h => absurd h (by decide), List.forall_mem_cons.mpr ⟨fun _ => xr_in (xr_sub_2 xr_c_X5_clear) rfl, List.forall_mem_cons.mpr ⟨fun _ => xr_in (xr_sub_2 xr_c_X4_readLaw) rfl, List.forall_mem_cons.mpr ⟨fun _ => xr_in (xr_sub_2 xr_c_X4_readCorners) rfl, List.forall_mem_cons.mpr ⟨fun _ => xr_in (xr_sub_2 xr_c_X4_readStreets) rfl, List.forall_mem_cons.mpr ⟨fun _ => xr_in (xr_sub_2 xr_c_X4_takes) rfl, List.forall_mem_cons.mpr ⟨fun _ => xr_in (xr_sub_2 xr_c_X4_numberWithin) rfl, List.forall_mem_cons.mpr ⟨fun _ => xr_in (xr_sub_2 xr_c_X4_letterHere) rfl, List.forall_mem_cons.mpr ⟨fun _ => xr_in (xr_sub_2 xr_c_X4_kindOf) rfl, List.forall_mem_cons.mpr ⟨fun _ => xr_in (xr_sub_2 xr_c_X4_failsAt) rfl, List.forall_mem_cons.mpr ⟨fun _ => xr_in (xr_sub_2 xr_c_X4_readEnds) rfl, List.forall_mem_cons.mpr ⟨fun _ => xr_in (xr_sub_2 xr_c_X4_isTold) rfl, List.forall_mem_cons.mpr ⟨fun h => absurd h (by decide), List.forall_mem_cons.mpr ⟨fun h => absurd h (by decide), List.forall_mem_cons.mpr ⟨fun _ => xr_in (xr_sub_2 xr_c_X5_leadsFrom) rfl, List.forall_mem_cons.mpr ⟨fun _ => xr_in (xr_sub_2 xr_c_X5_hasStreet) rfl, List.forall_mem_cons.mpr ⟨fun _ => xr_in (xr_sub_2 xr_c_X5_isOpen) rfl, List.forall_mem_cons.mpr ⟨fun h => absurd h (by decide), List.forall_mem_cons.mpr ⟨fun h => absurd h (by decide), List.forall_mem_cons.mpr ⟨fun h => absurd h (by decide), List.forall_mem_cons.mpr ⟨fun _ => xr_in (xr_sub_2 xr_c_X5_moodBehind) rfl, List.forall_mem_cons.mpr ⟨fun _ => xr_in (xr_sub_2 xr_c_X5_moodBy) rfl, List.forall_mem_cons.mpr ⟨fun _ => xr_in (xr_sub_2 xr_c_X5_costBetween) rfl, List.forall_mem_cons.mpr ⟨fun _ => xr_in (xr_sub_2 xr_c_X5_costBy) rfl, List.forall_mem_cons.mpr ⟨fun _ => xr_in (xr_sub_2 xr_c_X5_leads) rfl, List.forall_mem_cons.mpr ⟨fun _ => xr_in (xr_sub_2 xr_c_X5_goBy) rfl, List.forall_mem_cons.mpr ⟨fun h => absurd h (by decide), List.forall_mem_cons.mpr ⟨fun _ => xr_in (xr_sub_1 xr_c_X2_init) rfl, List.forall_mem_cons.mpr ⟨fun _ => xr_in (xr_sub_1 xr_c_X4_init) rfl, List.forall_mem_cons.mpr ⟨fun _ => xr_in (xr_sub_1 xr_c_X5_init) rfl, List.forall_mem_cons.mpr ⟨fun _ => xr_in (xr_sub_1 xr_c_X0_init) rfl, List.forall_mem_cons.mpr ⟨fun _ => xr_in (xr_sub_1 xr_c_X3_init) rfl, List.forall_mem_cons.mpr ⟨fun _ => xr_in (xr_sub_1 xr_c_X1_init) rfl, List.forall_mem_cons.mpr ⟨fun _ => xr_in (xr_sub_2 xr_c_X2_isRow) rfl, List.forall_mem_cons.mpr ⟨fun _ => xr_in (xr_sub_2 xr_c_X6_found) rfl, List.forall_mem_cons.mpr ⟨fun _ => xr_in (xr_sub_2 xr_c_X2_lay) rfl, List.forall_mem_cons.mpr ⟨fun _ => xr_in (xr_sub_2 xr_c_X6_unfound) rfl, List.forall_mem_cons.mpr ⟨fun _ => xr_in (xr_sub_2 xr_c_X2_findingOf) rfl, List.forall_mem_cons.mpr ⟨fun _ => xr_in (xr_sub_2 xr_c_X2_put) rfl, fun _ h => absurd h List.not_mem_nil⟩⟩⟩⟩⟩⟩⟩⟩⟩⟩⟩⟩⟩⟩⟩⟩⟩⟩⟩⟩⟩⟩⟩⟩⟩⟩⟩⟩⟩⟩⟩⟩⟩⟩⟩⟩⟩⟩⟩⟩⟩⟩⟩⟩⟩⟩⟩⟩⟩⟩⟩⟩⟩⟩⟩⟩⟩⟩⟩⟩
set_option maxRecDepth 100000 in
theorem xr_code_1 : ∀ e ∈ xr_mthT_1, e.2.2.1 ≤ 3 → Cond.code e.2.2.2.1.2.1 e.2.2.2.1.2.2.1 e.2.2.2.1.2.2.2.1 e.2.2.2.1.2.2.2.2.1 ∈ xr_wds := List.forall_mem_cons.mpr ⟨fun _ => xr_in (xr_sub_2 xr_c_X2_findingOfMove) rfl, List.forall_mem_cons.mpr ⟨fun _ => xr_in (xr_sub_2 xr_c_X2_move) rfl, List.forall_mem_cons.mpr ⟨fun _ => xr_in (xr_sub_2 xr_c_X2_isMissing) rfl, List.forall_mem_cons.mpr ⟨fun _ => xr_in (xr_sub_2 xr_c_X2_lose) rfl, List.forall_mem_cons.mpr ⟨fun _ => xr_in (xr_sub_2 xr_c_X4_put) rfl, List.forall_mem_cons.mpr ⟨fun _ => xr_in (xr_sub_2 xr_c_X4_readInto) rfl, List.forall_mem_cons.mpr ⟨fun _ => xr_in (xr_sub_2 xr_c_X5_become) rfl, List.forall_mem_cons.mpr ⟨fun _ => xr_in (xr_sub_2 xr_c_X0_forget) rfl, List.forall_mem_cons.mpr ⟨fun _ => xr_in (xr_sub_2 xr_c_X5_hasStreet) rfl, List.forall_mem_cons.mpr ⟨fun _ => xr_in (xr_sub_2 xr_c_X5_leads) rfl, List.forall_mem_cons.mpr ⟨fun _ => xr_in (xr_sub_2 xr_c_X0_keep) rfl, List.forall_mem_cons.mpr ⟨fun _ => xr_in (xr_sub_2 xr_c_X5_goBy) rfl, List.forall_mem_cons.mpr ⟨fun _ => xr_in (xr_sub_2 xr_c_X5_hasCorner) rfl, List.forall_mem_cons.mpr ⟨fun _ => xr_in (xr_sub_2 xr_c_X5_stands) rfl, List.forall_mem_cons.mpr ⟨fun _ => xr_in (xr_sub_2 xr_c_X5_isOpen) rfl, List.forall_mem_cons.mpr ⟨fun _ => xr_in (xr_sub_2 xr_c_X5_turn) rfl, List.forall_mem_cons.mpr ⟨fun _ => xr_in (xr_sub_3 xr_c_X0_takeBack) rfl, List.forall_mem_cons.mpr ⟨fun _ => xr_in (xr_sub_3 xr_c_X6_streetsAt) rfl, List.forall_mem_cons.mpr ⟨fun _ => xr_in (xr_sub_2 xr_c_X5_moodBehind) rfl, List.forall_mem_cons.mpr ⟨fun _ => xr_in (xr_sub_2 xr_c_X5_moodBy) rfl, List.forall_mem_cons.mpr ⟨fun _ => xr_in (xr_sub_2 xr_c_X5_costBy) rfl, List.forall_mem_cons.mpr ⟨fun _ => xr_in (xr_sub_3 xr_c_X5_openWays) rfl, List.forall_mem_cons.mpr ⟨fun _ => xr_in (xr_sub_3 xr_c_X3_seek) rfl, List.forall_mem_cons.mpr ⟨fun _ => xr_in (xr_sub_3 xr_c_X3_streetOf) rfl, List.forall_mem_cons.mpr ⟨fun _ => xr_in (xr_sub_3 xr_c_X6_areFitting) rfl, List.forall_mem_cons.mpr ⟨fun _ => xr_in (xr_sub_3 xr_c_X6_findingOfTwo) rfl, List.forall_mem_cons.mpr ⟨fun _ => xr_in (xr_sub_3 xr_c_X6_isSo) rfl, List.forall_mem_cons.mpr ⟨fun _ => xr_in (xr_sub_3 xr_c_X6_owedFrom) rfl, List.forall_mem_cons.mpr ⟨fun _ => xr_in (xr_sub_3 xr_c_X3_seekWithin) rfl, List.forall_mem_cons.mpr ⟨fun _ => xr_in (xr_sub_3 xr_c_X3_weightOfEnough) rfl, List.forall_mem_cons.mpr ⟨fun _ => xr_in (xr_sub_3 xr_c_J6_bitCount_0f7a4) rfl, List.forall_mem_cons.mpr ⟨fun _ => xr_in (xr_sub_3 xr_c_X6_power) rfl, List.forall_mem_cons.mpr ⟨fun _ => xr_in (xr_sub_3 xr_c_X6_commonDivisor) rfl, List.forall_mem_cons.mpr ⟨fun h => absurd h (by decide), List.forall_mem_cons.mpr ⟨fun _ => xr_in (xr_sub_3 xr_c_X5_goByDraw) rfl, List.forall_mem_cons.mpr ⟨fun _ => xr_in (xr_sub_3 xr_c_X6_isOfKind) rfl, List.forall_mem_cons.mpr ⟨fun _ => xr_in (xr_sub_3 xr_c_X1_answerOf) rfl, List.forall_mem_cons.mpr ⟨fun _ => xr_in (xr_sub_3 xr_c_X2_howMany) rfl, List.forall_mem_cons.mpr ⟨fun h => absurd h (by decide), List.forall_mem_cons.mpr ⟨fun _ => xr_in (xr_sub_4 xr_c_X7_in) rfl, List.forall_mem_cons.mpr ⟨fun _ => xr_in (xr_sub_4 xr_c_X7_isRow) rfl, List.forall_mem_cons.mpr ⟨fun _ => xr_in (xr_sub_4 xr_c_X7_found) rfl, List.forall_mem_cons.mpr ⟨fun _ => xr_in (xr_sub_4 xr_c_X7_well) rfl, List.forall_mem_cons.mpr ⟨fun _ => xr_in (xr_sub_4 xr_c_X7_isMissing) rfl, List.forall_mem_cons.mpr ⟨fun _ => xr_in (xr_sub_4 xr_c_X7_cut) rfl, List.forall_mem_cons.mpr ⟨fun _ => xr_in (xr_sub_4 xr_c_X7_isPart) rfl, List.forall_mem_cons.mpr ⟨fun _ => xr_in (xr_sub_4 xr_c_X7_byteAt) rfl, List.forall_mem_cons.mpr ⟨fun _ => xr_in (xr_sub_4 xr_c_X7_isWell) rfl, List.forall_mem_cons.mpr ⟨fun _ => xr_in (xr_sub_4 xr_c_X7_advances) rfl, List.forall_mem_cons.mpr ⟨fun _ => xr_in (xr_sub_4 xr_c_X7_takes) rfl, List.forall_mem_cons.mpr ⟨fun _ => xr_in (xr_sub_4 xr_c_X7_figure) rfl, List.forall_mem_cons.mpr ⟨fun _ => xr_in (xr_sub_4 xr_c_X7_kindOf) rfl, List.forall_mem_cons.mpr ⟨fun _ => xr_in (xr_sub_4 xr_c_X7_follows) rfl, List.forall_mem_cons.mpr ⟨fun _ => xr_in (xr_sub_4 xr_c_X7_isStreetTold) rfl, List.forall_mem_cons.mpr ⟨fun _ => xr_in (xr_sub_4 xr_c_X7_toFigure) rfl, List.forall_mem_cons.mpr ⟨fun _ => xr_in (xr_sub_4 xr_c_X7_readsCorner) rfl, List.forall_mem_cons.mpr ⟨fun _ => xr_in (xr_sub_4 xr_c_X7_readsStreet) rfl, List.forall_mem_cons.mpr ⟨fun _ => xr_in (xr_sub_4 xr_c_X7_copies) rfl, List.forall_mem_cons.mpr ⟨fun _ => xr_in (xr_sub_4 xr_c_X7_passed) rfl, List.forall_mem_cons.mpr ⟨fun _ => xr_in (xr_sub_4 xr_c_X7_has) rfl, fun _ h => absurd h List.not_mem_nil⟩⟩⟩⟩⟩⟩⟩⟩⟩⟩⟩⟩⟩⟩⟩⟩⟩⟩⟩⟩⟩⟩⟩⟩⟩⟩⟩⟩⟩⟩⟩⟩⟩⟩⟩⟩⟩⟩⟩⟩⟩⟩⟩⟩⟩⟩⟩⟩⟩⟩⟩⟩⟩⟩⟩⟩⟩⟩⟩⟩
set_option maxRecDepth 100000 in
theorem xr_code_2 : ∀ e ∈ xr_mthT_2, e.2.2.1 ≤ 3 → Cond.code e.2.2.2.1.2.1 e.2.2.2.1.2.2.1 e.2.2.2.1.2.2.2.1 e.2.2.2.1.2.2.2.2.1 ∈ xr_wds := List.forall_mem_cons.mpr ⟨fun _ => xr_in (xr_sub_4 xr_c_X7_cost) rfl, List.forall_mem_cons.mpr ⟨fun _ => xr_in (xr_sub_4 xr_c_X7_isStreet) rfl, List.forall_mem_cons.mpr ⟨fun _ => xr_in (xr_sub_4 xr_c_X7_goes) rfl, List.forall_mem_cons.mpr ⟨fun _ => xr_in (xr_sub_4 xr_c_X7_notes) rfl, List.forall_mem_cons.mpr ⟨fun _ => xr_in (xr_sub_4 xr_c_X7_rides) rfl, List.forall_mem_cons.mpr ⟨fun _ => xr_in (xr_sub_4 xr_c_X7_isCorner) rfl, List.forall_mem_cons.mpr ⟨fun _ => xr_in (xr_sub_4 xr_c_X7_isTown) rfl, List.forall_mem_cons.mpr ⟨fun _ => xr_in (xr_sub_4 xr_c_X7_ends) rfl, List.forall_mem_cons.mpr ⟨fun _ => xr_in (xr_sub_5 xr_c_X7_adds) rfl, List.forall_mem_cons.mpr ⟨fun _ => xr_in (xr_sub_5 xr_c_X7_begins) rfl, List.forall_mem_cons.mpr ⟨fun _ => xr_in (xr_sub_5 xr_c_X7_keeps) rfl, List.forall_mem_cons.mpr ⟨fun _ => xr_in (xr_sub_5 xr_c_X7_goesOn) rfl, List.forall_mem_cons.mpr ⟨fun _ => xr_in (xr_sub_5 xr_c_X7_finds) rfl, List.forall_mem_cons.mpr ⟨fun _ => xr_in (xr_sub_5 xr_c_X7_told) rfl, List.forall_mem_cons.mpr ⟨fun _ => xr_in (xr_sub_5 xr_c_X7_goesSo) rfl, List.forall_mem_cons.mpr ⟨fun _ => xr_in (xr_sub_5 xr_c_X7_bar) rfl, List.forall_mem_cons.mpr ⟨fun _ => xr_in (xr_sub_5 xr_c_X7_all) rfl, List.forall_mem_cons.mpr ⟨fun _ => xr_in (xr_sub_5 xr_c_X7_streetAfter) rfl, List.forall_mem_cons.mpr ⟨fun _ => xr_in (xr_sub_5 xr_c_X7_kindIn) rfl, List.forall_mem_cons.mpr ⟨fun _ => xr_in (xr_sub_5 xr_c_X7_leaves) rfl, List.forall_mem_cons.mpr ⟨fun _ => xr_in (xr_sub_5 xr_c_X7_joyMark) rfl, List.forall_mem_cons.mpr ⟨fun _ => xr_in (xr_sub_5 xr_c_X7_griefSize) rfl, List.forall_mem_cons.mpr ⟨fun _ => xr_in (xr_sub_5 xr_c_X7_joySize) rfl, List.forall_mem_cons.mpr ⟨fun _ => xr_in (xr_sub_5 xr_c_X7_griefMark) rfl, List.forall_mem_cons.mpr ⟨fun _ => xr_in (xr_sub_1 xr_c_X6_init) rfl, List.forall_mem_cons.mpr ⟨fun _ => xr_in (xr_sub_3 xr_c_X7_init) rfl, List.forall_mem_cons.mpr ⟨fun _ => xr_in (xr_sub_2 xr_c_X6_row) rfl, List.forall_mem_cons.mpr ⟨fun _ => xr_in (xr_sub_4 xr_c_X7_row) rfl, List.forall_mem_cons.mpr ⟨fun _ => xr_in (xr_sub_2 xr_c_X6_set) rfl, List.forall_mem_cons.mpr ⟨fun _ => xr_in (xr_sub_4 xr_c_X7_set) rfl, List.forall_mem_cons.mpr ⟨fun _ => xr_in (xr_sub_2 xr_c_X6_copy) rfl, List.forall_mem_cons.mpr ⟨fun _ => xr_in (xr_sub_4 xr_c_X7_copy) rfl, List.forall_mem_cons.mpr ⟨fun _ => xr_in (xr_sub_2 xr_c_X6_drop) rfl, List.forall_mem_cons.mpr ⟨fun _ => xr_in (xr_sub_4 xr_c_X7_drop) rfl, List.forall_mem_cons.mpr ⟨fun _ => xr_in (xr_sub_2 xr_c_X6_feed) rfl, List.forall_mem_cons.mpr ⟨fun _ => xr_in (xr_sub_4 xr_c_X7_feed) rfl, List.forall_mem_cons.mpr ⟨fun _ => xr_in (xr_sub_2 xr_c_X6_town) rfl, List.forall_mem_cons.mpr ⟨fun _ => xr_in (xr_sub_4 xr_c_X7_town) rfl, List.forall_mem_cons.mpr ⟨fun _ => xr_in (xr_sub_2 xr_c_X6_fault) rfl, List.forall_mem_cons.mpr ⟨fun _ => xr_in (xr_sub_4 xr_c_X7_fault) rfl, List.forall_mem_cons.mpr ⟨fun _ => xr_in (xr_sub_2 xr_c_X6_ride) rfl, List.forall_mem_cons.mpr ⟨fun _ => xr_in (xr_sub_4 xr_c_X7_ride) rfl, List.forall_mem_cons.mpr ⟨fun _ => xr_in (xr_sub_2 xr_c_X6_lesson) rfl, List.forall_mem_cons.mpr ⟨fun _ => xr_in (xr_sub_4 xr_c_X7_lesson) rfl, List.forall_mem_cons.mpr ⟨fun _ => xr_in (xr_sub_2 xr_c_X6_reset) rfl, List.forall_mem_cons.mpr ⟨fun _ => xr_in (xr_sub_4 xr_c_X7_reset) rfl, List.forall_mem_cons.mpr ⟨fun _ => xr_in (xr_sub_2 xr_c_X6_street) rfl, List.forall_mem_cons.mpr ⟨fun _ => xr_in (xr_sub_4 xr_c_X7_street) rfl, List.forall_mem_cons.mpr ⟨fun _ => xr_in (xr_sub_2 xr_c_X6_undo) rfl, List.forall_mem_cons.mpr ⟨fun _ => xr_in (xr_sub_4 xr_c_X7_undo) rfl, List.forall_mem_cons.mpr ⟨fun _ => xr_in (xr_sub_3 xr_c_X6_corner) rfl, List.forall_mem_cons.mpr ⟨fun _ => xr_in (xr_sub_4 xr_c_X7_corner) rfl, List.forall_mem_cons.mpr ⟨fun _ => xr_in (xr_sub_3 xr_c_X6_way) rfl, List.forall_mem_cons.mpr ⟨fun _ => xr_in (xr_sub_4 xr_c_X7_way) rfl, List.forall_mem_cons.mpr ⟨fun _ => xr_in (xr_sub_3 xr_c_X6_would) rfl, List.forall_mem_cons.mpr ⟨fun _ => xr_in (xr_sub_4 xr_c_X7_would) rfl, List.forall_mem_cons.mpr ⟨fun _ => xr_in (xr_sub_3 xr_c_X6_reach) rfl, List.forall_mem_cons.mpr ⟨fun _ => xr_in (xr_sub_4 xr_c_X7_reach) rfl, List.forall_mem_cons.mpr ⟨fun _ => xr_in (xr_sub_3 xr_c_X6_cheapest) rfl, List.forall_mem_cons.mpr ⟨fun _ => xr_in (xr_sub_4 xr_c_X7_cheapest) rfl, fun _ h => absurd h List.not_mem_nil⟩⟩⟩⟩⟩⟩⟩⟩⟩⟩⟩⟩⟩⟩⟩⟩⟩⟩⟩⟩⟩⟩⟩⟩⟩⟩⟩⟩⟩⟩⟩⟩⟩⟩⟩⟩⟩⟩⟩⟩⟩⟩⟩⟩⟩⟩⟩⟩⟩⟩⟩⟩⟩⟩⟩⟩⟩⟩⟩⟩
set_option maxRecDepth 100000 in
theorem xr_code_3 : ∀ e ∈ xr_mthT_3, e.2.2.1 ≤ 3 → Cond.code e.2.2.2.1.2.1 e.2.2.2.1.2.2.1 e.2.2.2.1.2.2.2.1 e.2.2.2.1.2.2.2.2.1 ∈ xr_wds := List.forall_mem_cons.mpr ⟨fun _ => xr_in (xr_sub_3 xr_c_X6_dearest) rfl, List.forall_mem_cons.mpr ⟨fun _ => xr_in (xr_sub_5 xr_c_X7_dearest) rfl, List.forall_mem_cons.mpr ⟨fun _ => xr_in (xr_sub_3 xr_c_X6_moods) rfl, List.forall_mem_cons.mpr ⟨fun _ => xr_in (xr_sub_5 xr_c_X7_moods) rfl, List.forall_mem_cons.mpr ⟨fun _ => xr_in (xr_sub_3 xr_c_X6_gets) rfl, List.forall_mem_cons.mpr ⟨fun _ => xr_in (xr_sub_5 xr_c_X7_gets) rfl, List.forall_mem_cons.mpr ⟨fun _ => xr_in (xr_sub_3 xr_c_X6_fits) rfl, List.forall_mem_cons.mpr ⟨fun _ => xr_in (xr_sub_5 xr_c_X7_fits) rfl, List.forall_mem_cons.mpr ⟨fun _ => xr_in (xr_sub_3 xr_c_X6_fitsOf) rfl, List.forall_mem_cons.mpr ⟨fun _ => xr_in (xr_sub_5 xr_c_X7_fitsOf) rfl, List.forall_mem_cons.mpr ⟨fun _ => xr_in (xr_sub_3 xr_c_X6_share) rfl, List.forall_mem_cons.mpr ⟨fun _ => xr_in (xr_sub_5 xr_c_X7_share) rfl, List.forall_mem_cons.mpr ⟨fun _ => xr_in (xr_sub_3 xr_c_X6_shut) rfl, List.forall_mem_cons.mpr ⟨fun _ => xr_in (xr_sub_5 xr_c_X7_shut) rfl, List.forall_mem_cons.mpr ⟨fun _ => xr_in (xr_sub_3 xr_c_X6_drawn) rfl, List.forall_mem_cons.mpr ⟨fun _ => xr_in (xr_sub_5 xr_c_X7_drawn) rfl, List.forall_mem_cons.mpr ⟨fun _ => xr_in (xr_sub_3 xr_c_X6_image) rfl, List.forall_mem_cons.mpr ⟨fun _ => xr_in (xr_sub_5 xr_c_X7_image) rfl, List.forall_mem_cons.mpr ⟨fun _ => xr_in (xr_sub_3 xr_c_X6_restore) rfl, List.forall_mem_cons.mpr ⟨fun _ => xr_in (xr_sub_5 xr_c_X7_restore) rfl, List.forall_mem_cons.mpr ⟨fun _ => xr_in (xr_sub_3 xr_c_X6_kind) rfl, List.forall_mem_cons.mpr ⟨fun _ => xr_in (xr_sub_5 xr_c_X7_kind) rfl, List.forall_mem_cons.mpr ⟨fun _ => xr_in (xr_sub_3 xr_c_X6_as) rfl, List.forall_mem_cons.mpr ⟨fun _ => xr_in (xr_sub_5 xr_c_X7_as) rfl, List.forall_mem_cons.mpr ⟨fun _ => xr_in (xr_sub_3 xr_c_X6_ask) rfl, List.forall_mem_cons.mpr ⟨fun _ => xr_in (xr_sub_5 xr_c_X7_ask) rfl, List.forall_mem_cons.mpr ⟨fun _ => xr_in (xr_sub_3 xr_c_X6_trace) rfl, List.forall_mem_cons.mpr ⟨fun _ => xr_in (xr_sub_5 xr_c_X7_trace) rfl, List.forall_mem_cons.mpr ⟨fun _ => xr_in (xr_sub_3 xr_c_X6_count) rfl, List.forall_mem_cons.mpr ⟨fun _ => xr_in (xr_sub_5 xr_c_X7_count) rfl, List.forall_mem_cons.mpr ⟨fun _ => xr_in (xr_sub_3 xr_c_X6_status) rfl, List.forall_mem_cons.mpr ⟨fun _ => xr_in (xr_sub_5 xr_c_X7_status) rfl, fun _ h => absurd h List.not_mem_nil⟩⟩⟩⟩⟩⟩⟩⟩⟩⟩⟩⟩⟩⟩⟩⟩⟩⟩⟩⟩⟩⟩⟩⟩⟩⟩⟩⟩⟩⟩⟩⟩
theorem xr_code_ok : ∀ e ∈ xr_mthT, e.2.2.1 ≤ 3 → Cond.code e.2.2.2.1.2.1 e.2.2.2.1.2.2.1 e.2.2.2.1.2.2.2.1 e.2.2.2.1.2.2.2.2.1 ∈ xr_wds := by
  intro e he
  simp only [xr_mthT, List.mem_append] at he
  rcases he with (((h | h) | h) | h)
  · exact xr_code_0 e h
  · exact xr_code_1 e h
  · exact xr_code_2 e h
  · exact xr_code_3 e h
theorem xr_lays : ∀ c, c < 8 → ((u_ws (xr_R c) (xr_T c) (xr_num c)).all fun w => goodWord w && lw_tbl.contains w) = true := by decide +kernel
theorem xr_nm : ∀ c, c < 8 → ∀ a, a < xr_num c → ∀ b, b < xr_num c → a ≠ b → (xr_T c a).2.1 ≠ (xr_T c b).2.1 := by decide +kernel
theorem xr_tyok : ∀ c, c < 8 → ∀ k, k < xr_num c → parseFieldDescriptor (xr_T c k).2.2.1 = some (xr_ty c k) := by decide +kernel
theorem xr_own : ∀ c, c < 8 → ∀ k, k < xr_num c → (xr_T c k).1 = xr_R c := by decide +kernel
theorem xr_clat : ∀ c, c < 8 → xr_cl[c]? = some (xr_R c, xr_T c, xr_num c) := fun c h => by
  match c, h with
  | 0, _ => rfl
  | 1, _ => rfl
  | 2, _ => rfl
  | 3, _ => rfl
  | 4, _ => rfl
  | 5, _ => rfl
  | 6, _ => rfl
  | 7, _ => rfl
theorem xr_inst : ∀ c, c < 8 → goodWord (.instantiable (xr_R c) (xr_num c)) = true ∧ goodWord (.initialized (xr_R c)) = true ∧ Cond.instantiable (xr_R c) (xr_num c) ∈ lw_tbl ∧ Cond.initialized (xr_R c) ∈ lw_tbl := by decide +kernel
theorem xr_misc : ([.arrayClass .int, .arrayClass .boolean, .instanceMethod objectInit, .native arraycopyName, .static arraycopyName, .initialized "java/lang/System", .initialized "java/lang/Math", .static Lib.Math.max.name, .static Lib.Math.min.name, .static Lib.Math.abs.name] : List Cond).all (fun w => goodWord w && lw_tbl.contains w) = true := by decide +kernel
theorem xr_misc2 : ([.arrayOver (.array .int), .arrayOver (.object RX5), .laysStatic RX1 "SIZE_BODIES" "[I", .laysStatic RX1 "MARK_BODIES" "[I"] : List Cond).all (fun w => lw_tbl.contains w) = true := by decide +kernel
set_option maxRecDepth 100000 in
theorem xr_objcode : Cond.code objectInit ⟨#[0xb1]⟩ 1 none ∈ xr_wds := xr_in (xr_sub_1 (List.mem_of_getElem? (i := 19) rfl)) rfl
set_option maxRecDepth 100000 in
theorem xr_mmax : Cond.code Lib.Math.max.name Lib.Math.max.code 2 (some .int) ∈ xr_wds := xr_in (xr_sub_2 (List.mem_of_getElem? (i := 202) rfl)) rfl
set_option maxRecDepth 100000 in
theorem xr_mmin : Cond.code Lib.Math.min.name Lib.Math.min.code 2 (some .int) ∈ xr_wds := xr_in (xr_sub_2 (List.mem_of_getElem? (i := 199) rfl)) rfl
set_option maxRecDepth 100000 in
theorem xr_mabs : Cond.code Lib.Math.abs.name Lib.Math.abs.code 1 (some .int) ∈ xr_wds := xr_in (xr_sub_2 (List.mem_of_getElem? (i := 209) rfl)) rfl
end
section
/-! ===== whole numbers and the machine's ints ===== -/
theorem an_toInt (z : Int) : (Int32.ofInt z).toInt = am_w z := Int32.toInt_ofInt
theorem an_toIntl (z : Int) : (Int64.ofInt z).toInt = am_wl z := Int64.toInt_ofInt
theorem an_of (x : Int32) : Int32.ofInt x.toInt = x := Int32.ofInt_toInt x
theorem an_w (z : Int) : Int32.ofInt (am_w z) = Int32.ofInt z := by rw [← an_toInt, an_of]
theorem an_wl (z : Int) : Int64.ofInt (am_wl z) = Int64.ofInt z := by rw [← an_toIntl]; exact Int64.ofInt_toInt _
theorem an_ok32 (x : Int32) : am_ok x.toInt := by
  have h1 := Int32.le_toInt x
  have h2 := Int32.toInt_lt x
  have h3 : x.toInt < 2147483648 := by simpa using h2
  exact ⟨by simpa using h1, by omega⟩
theorem an_ok64 (x : Int64) : am_okl x.toInt := by
  have h1 := Int64.le_toInt x
  have h2 := Int64.toInt_lt x
  have h3 : x.toInt < 9223372036854775808 := by simpa using h2
  exact ⟨by simpa using h1, by omega⟩
theorem an_okw (z : Int) : am_ok (am_w z) := by rw [← an_toInt]; exact an_ok32 _
theorem an_okwl (z : Int) : am_okl (am_wl z) := by rw [← an_toIntl]; exact an_ok64 _
theorem am_w_id {z : Int} (h : -2147483648 ≤ z ∧ z ≤ 2147483647) : am_w z = z := by
  unfold am_w
  rw [Int.bmod_def]
  split <;> omega
theorem am_wl_id {z : Int} (h : am_okl z) : am_wl z = z := by
  unfold am_wl
  rw [Int.bmod_def]
  have h1 := h.1
  have h2 := h.2
  split <;> omega
theorem an_id {z : Int} (h : am_ok z) : (Int32.ofInt z).toInt = z := by rw [an_toInt, am_w_id h]
theorem an_idl {z : Int} (h : am_okl z) : (Int64.ofInt z).toInt = z := by rw [an_toIntl, am_wl_id h]
theorem an_lt {x y : Int} (hx : am_ok x) (hy : am_ok y) : Int32.ofInt x < Int32.ofInt y ↔ x < y := by rw [Int32.lt_iff_toInt_lt, an_id hx, an_id hy]
theorem an_le {x y : Int} (hx : am_ok x) (hy : am_ok y) : Int32.ofInt x ≤ Int32.ofInt y ↔ x ≤ y := by rw [Int32.le_iff_toInt_le, an_id hx, an_id hy]
theorem an_eq {x y : Int} (hx : am_ok x) (hy : am_ok y) : Int32.ofInt x = Int32.ofInt y ↔ x = y := ⟨fun h => by have := congrArg Int32.toInt h; rwa [an_id hx, an_id hy] at this, fun h => by rw [h]⟩
theorem an_0 : Int32.ofInt 0 = 0 := rfl
theorem an_ok0 : am_ok 0 := by decide
theorem an_lt0 {x : Int} (hx : am_ok x) : Int32.ofInt x < 0 ↔ x < 0 := an_lt hx an_ok0
theorem an_eq0 {x : Int} (hx : am_ok x) : Int32.ofInt x = 0 ↔ x = 0 := an_eq hx an_ok0
theorem an_add (x y : Int) : Int32.ofInt (am_w (x + y)) = Int32.ofInt x + Int32.ofInt y := by rw [an_w, Int32.ofInt_add]
theorem an_sub (x y : Int) : Int32.ofInt (am_w (x - y)) = Int32.ofInt x - Int32.ofInt y := by rw [an_w, Int32.ofInt_sub]
theorem an_mul (x y : Int) : Int32.ofInt (am_w (x * y)) = Int32.ofInt x * Int32.ofInt y := by rw [an_w, Int32.ofInt_mul]
theorem an_neg (x : Int) : Int32.ofInt (am_w (-x)) = -Int32.ofInt x := by rw [an_w, Int32.ofInt_neg]
theorem an_div {x y : Int} (hx : am_ok x) (hy : am_ok y) : Int32.ofInt (am_w (Int.tdiv x y)) = Int32.ofInt x / Int32.ofInt y := by
  rw [an_w, Int32.ofInt_tdiv (show Int32.minValue.toInt ≤ x from hx.1) (show x ≤ Int32.maxValue.toInt from hx.2) (show Int32.minValue.toInt ≤ y from hy.1) (show y ≤ Int32.maxValue.toInt from hy.2)]
theorem an_mod {x y : Int} (hx : am_ok x) (hy : am_ok y) : Int32.ofInt (Int.tmod x y) = Int32.ofInt x - Int32.ofInt x / Int32.ofInt y * Int32.ofInt y := by
  rw [← an_div hx hy, an_w, ← Int32.ofInt_mul, ← Int32.ofInt_sub]
  congr 1
  have := Int.mul_tdiv_add_tmod x y
  rw [Int.mul_comm (Int.tdiv x y) y]
  omega
theorem an_modok {x y : Int} (hx : am_ok x) : am_ok (Int.tmod x y) := by
  have h1 := Int.natAbs_tmod x y
  have h2 : x.natAbs % y.natAbs ≤ x.natAbs := Nat.mod_le _ _
  have h3 : (Int.tmod x y) < 0 → x < 0 := fun h => by
    rcases Int.lt_or_le x 0 with g | g
    · exact g
    · exact absurd (Int.tmod_nonneg y g) (by omega)
  have h4 : x < 0 → Int.tmod x y ≤ 0 := fun h => by
    have h5 := Int.tmod_nonneg (a := -x) y (by omega)
    rw [Int.neg_tmod] at h5
    omega
  obtain ⟨a, b⟩ := hx
  constructor <;> omega
theorem an_mull (x y : Int) : Int64.ofInt (am_wl (x * y)) = Int64.ofInt x * Int64.ofInt y := by rw [an_wl, Int64.ofInt_mul]
theorem an_modl {x y : Int} (hx : am_okl x) (hy : am_okl y) : Int64.ofInt (Int.tmod x y) = Int64.ofInt x - Int64.ofInt x / Int64.ofInt y * Int64.ofInt y := by
  rw [← Int64.ofInt_tdiv (show Int64.minValue.toInt ≤ x from hx.1) (show x ≤ Int64.maxValue.toInt from hx.2) (show Int64.minValue.toInt ≤ y from hy.1) (show y ≤ Int64.maxValue.toInt from hy.2), ← Int64.ofInt_mul, ← Int64.ofInt_sub]
  congr 1
  have := Int.mul_tdiv_add_tmod x y
  rw [Int.mul_comm (Int.tdiv x y) y]
  omega
theorem an_modokl {x y : Int} (hx : am_okl x) : am_okl (Int.tmod x y) := by
  have h1 := Int.natAbs_tmod x y
  have h2 : x.natAbs % y.natAbs ≤ x.natAbs := Nat.mod_le _ _
  have h3 : (Int.tmod x y) < 0 → x < 0 := fun h => by
    rcases Int.lt_or_le x 0 with g | g
    · exact g
    · exact absurd (Int.tmod_nonneg y g) (by omega)
  have h4 : x < 0 → Int.tmod x y ≤ 0 := fun h => by
    have h5 := Int.tmod_nonneg (a := -x) y (by omega)
    rw [Int.neg_tmod] at h5
    omega
  obtain ⟨a, b⟩ := hx
  constructor <;> omega
theorem an_eql {x y : Int} (hx : am_okl x) (hy : am_okl y) : Int64.ofInt x = Int64.ofInt y ↔ x = y := ⟨fun h => by have := congrArg Int64.toInt h; rwa [an_idl hx, an_idl hy] at this, fun h => by rw [h]⟩
theorem an_i2l {x : Int} (hx : am_ok x) : (Int32.ofInt x).toInt64 = Int64.ofInt x := by
  apply Int64.toInt_inj.mp
  rw [Int32.toInt_toInt64, an_id hx, an_idl ⟨by have := hx.1; omega, by have := hx.2; omega⟩]
theorem an_l2i (x : Int) : (Int64.ofInt x).toInt32 = Int32.ofInt (am_w x) := by
  rw [an_w]
  apply Int32.toInt_inj.mp
  rw [Int64.toInt_toInt32, an_toIntl, an_toInt]
  unfold am_wl am_w
  rw [Int.bmod_bmod_of_dvd (by decide)]
theorem an_okl_of {x : Int} (h : am_ok x) : am_okl x := ⟨by have := h.1; omega, by have := h.2; omega⟩
theorem an_bi {n : Int} (h : -128 ≤ n ∧ n ≤ 127) : (Int8.ofInt n).toInt32 = Int32.ofInt n := by
  apply Int32.toInt_inj.mp
  rw [Int8.toInt_toInt32, Int8.toInt_ofInt, an_id ⟨by omega, by omega⟩]
  show Int.bmod n 256 = n
  rw [Int.bmod_def]
  split <;> omega
theorem an_si {n : Int} (h : -32768 ≤ n ∧ n ≤ 32767) : (Int16.ofInt n).toInt32 = Int32.ofInt n := by
  apply Int32.toInt_inj.mp
  rw [Int16.toInt_toInt32, Int16.toInt_ofInt, an_id ⟨by omega, by omega⟩]
  show Int.bmod n 65536 = n
  rw [Int.bmod_def]
  split <;> omega
theorem an_cl {z : Int} (h : am_ok z) : (Int32.ofInt z).toNatClampNeg = z.toNat := by
  show (Int32.ofInt z).toInt.toNat = z.toNat
  rw [an_id h]
theorem an_in {z : Int} {n : Nat} (h : am_ok z) (h0 : 0 ≤ z) (h1 : z < n) : vp_in (Int32.ofInt z) n := by
  intro q
  rw [an_lt0 h, an_cl h] at q
  omega
theorem an_nat {z : Int} (h0 : 0 ≤ z) : ((z.toNat : Nat) : Int) = z := Int.toNat_of_nonneg h0
end
section
/-! ===== what a state of the small machine is in the real one ===== -/
/-- base, class numbers, slots, array classes by kind, addresses, lengths and contents of the three old arrays, the heap at the base -/
abbrev am_W : Type := Nat × (Nat → ClassId) × (Nat → Nat → Nat) × (Nat → ClassId) × (Nat → Nat) × (Nat → Nat) × (Nat → Int → Int) × Heap
abbrev aw_bs (w : am_W) : Nat := w.1
abbrev aw_D (w : am_W) : va_G := (w.2.1, w.2.2.1)
abbrev aw_cy (w : am_W) : Nat → ClassId := w.2.2.2.1
abbrev aw_zz (w : am_W) : Nat → Nat := w.2.2.2.2.1
abbrev aw_on (w : am_W) : Nat → Nat := w.2.2.2.2.2.1
abbrev aw_oc (w : am_W) : Nat → Int → Int := w.2.2.2.2.2.2.1
abbrev aw_H0 (w : am_W) : Heap := w.2.2.2.2.2.2.2
def am_ad (w : am_W) (a : Nat) : Nat := if a < 3 then aw_zz w a else aw_bs w + (a - 3)
def am_cv (w : am_W) (v : am_V) : Value := match v with
  | .inl z => .int (Int32.ofInt z)
  | .inr (.inl z) => .long (Int64.ofInt z)
  | .inr (.inr a) => .ref (am_ad w a)
def am_okv (v : am_V) : Prop := match v with
  | .inl z => am_ok z
  | .inr (.inl z) => am_okl z
  | .inr (.inr _) => True
def am_rf (w : am_W) (r : Nat) : Option Nat := match r with
  | 0 => none
  | t + 1 => some (am_ad w t)
def am_fv (w : am_W) (e : am_SE) (f : Int → Int) (k : Nat) : Value := if xr_ref e.1 k = true then va_rf (am_rf w (e.2.2.getD k 0)) else .int (Int32.ofInt (f k))
def am_fs (w : am_W) (e : am_SE) (f : Int → Int) : List Value := (List.range (xr_num e.1)).map (am_fv w e f)
def am_en (w : am_W) (e : am_SE) (f : Int → Int) : va_E :=
  if e.1 < 100 then .inr (e.1, am_fs w e f)
  else if e.1 < 102 then .inl (aw_cy w e.1, e.2.1, .inl (fun j => Int32.ofInt (f j)))
  else .inl (aw_cy w e.1, e.2.1, .inr (.inr (.inr (.inr (fun j => am_rf w (e.2.2.getD j 0))))))
def am_HR (w : am_W) (h : am_H) (H : Heap) : Prop :=
  (∀ a e, 3 ≤ a → h.1[a]? = some e → va_at (aw_D w) xr_cl (am_ad w a, am_en w e (h.2.2.2 a)) H ∧ (e.1 < 100 → e.1 < 8)) ∧
  (∀ a, a < 3 → h.1[a]? = some (100, aw_on w a, []) ∧ ∀ j, h.2.2.2 a j = aw_oc w a j) ∧
  (3 ≤ h.1.length ∧ H.size = aw_bs w + (h.1.length - 3)) ∧
  (∀ q, q < aw_bs w → H[q]? = (aw_H0 w)[q]?) ∧ ∀ a j, am_ok (h.2.2.2 a j)
def am_tys (w : am_W) : List (ClassId × FieldType) := [(aw_cy w 100, .int), (aw_cy w 101, .boolean), (aw_cy w 102, .object RX5), (aw_cy w 103, .array .int)]
def am_st (a : Nat) : String := if a = 1 then "SIZE_BODIES" else "MARK_BODIES"
def am_KW (w : am_W) (s : State) : Prop :=
  va_K (aw_D w) xr_cl (am_tys w) s ∧
  (∀ a, a < 3 → ∃ cell : Cell, (aw_H0 w)[aw_zz w a]? = some cell ∧ s.isArrayOf cell .int ∧ cell.vm ≠ .unknown ∧ cell.slots.size = aw_on w a ∧ aw_zz w a < aw_bs w ∧ ∀ j : Nat, j < aw_on w a → cell.slots[j]? = some (.int (Int32.ofInt (aw_oc w a j)))) ∧
  (∀ a, a = 1 ∨ a = 2 → va_Z RX1 (am_st a) "[I" (.ref (aw_zz w a)) (fun q => aw_bs w ≤ q) s (aw_H0 w)) ∧
  va_AO RX5 s ∧ (Cond.arrayOver (.array .int)).before #[] s = true ∧ va_Nw (.methodLinkNest RX3 75 yX6_power "MoodFare") s ∧ aw_bs w = (aw_H0 w).size
theorem al_cat (w : am_W) (v : am_V) : (am_cv w v).category = am_cat v := by
  rcases v with z | z | a <;> rfl
/-! locals -/
def al_R (w : am_W) (lsC : Array Slot) (ls : am_L) : Prop := lv_has lsC ls.length [] ∧ ∀ i v, am_get ls i = some v → lsC[i]? = some (.val (am_cv w v)) ∧ am_okv v
def al_ls (w : am_W) (ls : am_L) : List (Nat × Value) := (List.range ls.length).filterMap fun i => (am_get ls i).map fun v => (i, am_cv w v)
theorem al_get_lt {ls : am_L} {i : Nat} {v : am_V} (h : am_get ls i = some v) : i < ls.length := by
  unfold am_get at h
  cases hi : ls[i]? with
  | none => rw [hi] at h; cases h
  | some x => exact (List.getElem?_eq_some_iff.mp hi).1
theorem al_mem {w : am_W} {ls : am_L} {q : Nat × Value} : q ∈ al_ls w ls ↔ ∃ v, am_get ls q.1 = some v ∧ q.2 = am_cv w v := by
  unfold al_ls
  rw [List.mem_filterMap]
  constructor
  · rintro ⟨i, -, hi⟩
    cases hv : am_get ls i with
    | none => rw [hv] at hi; cases hi
    | some v => rw [hv] at hi; cases hi; exact ⟨v, hv, rfl⟩
  · rintro ⟨v, h1, h2⟩
    exact ⟨q.1, List.mem_range.mpr (al_get_lt h1), by rw [h1]; show some (q.1, am_cv w v) = some q; rw [← h2]⟩
theorem al_has {w : am_W} {lsC : Array Slot} {ls : am_L} (h : al_R w lsC ls) : lv_has lsC ls.length (al_ls w ls) := by
  refine ⟨h.1.1, h.1.2.1, fun q hq => ?_⟩
  obtain ⟨v, h1, h2⟩ := al_mem.mp hq
  rw [h2]
  exact (h.2 q.1 v h1).1
theorem al_get_set {ls : am_L} {i j : Nat} {x : Option am_V} {u : am_V} (h : am_get (ls.set i x) j = some u) : (j = i ∧ x = some u) ∨ (j ≠ i ∧ am_get ls j = some u) := by
  unfold am_get at h ⊢
  by_cases hj : j = i
  · subst hj
    refine Or.inl ⟨rfl, ?_⟩
    rw [List.getElem?_set] at h
    by_cases hl : j < ls.length
    · rw [if_pos rfl, if_pos hl] at h
      cases x with
      | none => cases h
      | some y => exact h
    · rw [if_pos rfl, if_neg hl] at h
      cases h
  · rw [List.getElem?_set_ne (Ne.symm hj)] at h
    exact Or.inr ⟨hj, h⟩
theorem al_get_cut {ls : am_L} {i j : Nat} {u : am_V} (h : am_get (am_cut ls i) j = some u) : am_get ls j = some u ∧ ¬ (j + 1 = i ∧ am_cat u = 2) := by
  cases i with
  | zero => exact ⟨h, fun q => by omega⟩
  | succ k =>
    unfold am_cut at h
    dsimp only at h
    split at h
    · rename_i z hz
      rcases al_get_set h with ⟨-, q⟩ | ⟨q, h⟩
      · cases q
      · exact ⟨h, fun r => q (by omega)⟩
    · rename_i hz
      refine ⟨h, fun r => ?_⟩
      have e : j = k := by omega
      subst e
      rcases u with z | z | a
      · cases r.2
      · exact hz z h
      · cases r.2
theorem al_cut_len (ls : am_L) (i : Nat) : (am_cut ls i).length = ls.length := by
  cases i with
  | zero => rfl
  | succ k =>
    unfold am_cut
    dsimp only
    split
    · rw [List.length_set]
    · rfl
theorem al_sto_len (ls : am_L) (i : Nat) (v : am_V) : (am_sto ls i v).length = ls.length := by unfold am_sto; rw [List.length_set, al_cut_len]
theorem al_stol_len (ls : am_L) (i : Nat) (v : am_V) : (am_stol ls i v).length = ls.length := by unfold am_stol; rw [List.length_set, List.length_set, al_cut_len]
theorem al_sto {w : am_W} {lsC lsC' : Array Slot} {ls : am_L} {i : Nat} {v : am_V} (h : al_R w lsC ls) (hv : am_okv v) (h' : lv_has lsC' ls.length ((i, am_cv w v) :: (al_ls w ls).filter (fun q => !(q.1 == i) && !(q.1 + 1 == i && q.2.category == 2)))) : al_R w lsC' (am_sto ls i v) := by
  refine ⟨⟨by rw [al_sto_len]; exact h'.1, h'.2.1, fun q hq => by cases hq⟩, fun j u hu => ?_⟩
  rcases al_get_set hu with ⟨e, q⟩ | ⟨ne, hu⟩
  · cases q
    subst e
    exact ⟨h'.2.2 _ List.mem_cons_self, hv⟩
  · obtain ⟨hu, hc⟩ := al_get_cut hu
    refine ⟨h'.2.2 (j, am_cv w u) (List.mem_cons_of_mem _ (List.mem_filter.mpr ⟨al_mem.mpr ⟨u, hu, rfl⟩, ?_⟩)), (h.2 j u hu).2⟩
    simp only [Bool.and_eq_true, Bool.not_eq_true', beq_eq_false_iff_ne, Bool.and_eq_false_iff, al_cat]
    refine ⟨ne, ?_⟩
    by_cases e : j + 1 = i
    · exact Or.inr fun q => hc ⟨e, q⟩
    · exact Or.inl e
theorem al_stol {w : am_W} {lsC lsC' : Array Slot} {ls : am_L} {i : Nat} {v : am_V} (h : al_R w lsC ls) (hv : am_okv v) (h' : lv_has lsC' ls.length ((i, am_cv w v) :: (al_ls w ls).filter (fun q => !(q.1 == i) && (!(q.1 == i + 1) && !(q.1 + 1 == i && q.2.category == 2))))) : al_R w lsC' (am_stol ls i v) := by
  refine ⟨⟨by rw [al_stol_len]; exact h'.1, h'.2.1, fun q hq => by cases hq⟩, fun j u hu => ?_⟩
  rcases al_get_set hu with ⟨-, q⟩ | ⟨ne1, hu⟩
  · cases q
  rcases al_get_set hu with ⟨e, q⟩ | ⟨ne, hu⟩
  · cases q
    subst e
    exact ⟨h'.2.2 _ List.mem_cons_self, hv⟩
  · obtain ⟨hu, hc⟩ := al_get_cut hu
    refine ⟨h'.2.2 (j, am_cv w u) (List.mem_cons_of_mem _ (List.mem_filter.mpr ⟨al_mem.mpr ⟨u, hu, rfl⟩, ?_⟩)), (h.2 j u hu).2⟩
    simp only [Bool.and_eq_true, Bool.not_eq_true', beq_eq_false_iff_ne, Bool.and_eq_false_iff, al_cat]
    refine ⟨ne, ne1, ?_⟩
    by_cases e : j + 1 = i
    · exact Or.inr fun q => hc ⟨e, q⟩
    · exact Or.inl e
theorem al_slc (w : am_W) : ∀ vs : List am_V, lg_sl (vs.map (am_cv w)) = (am_sl vs).map (fun o => match o with
    | some v => Slot.val (am_cv w v)
    | none => Slot.second)
  | [] => rfl
  | .inl z :: vs => congrArg (fun l => Slot.val (am_cv w (.inl z)) :: l) (al_slc w vs)
  | .inr (.inl z) :: vs => congrArg (fun l => Slot.val (am_cv w (.inr (.inl z))) :: Slot.second :: l) (al_slc w vs)
  | .inr (.inr a) :: vs => congrArg (fun l => Slot.val (am_cv w (.inr (.inr a))) :: l) (al_slc w vs)
theorem al_sl_ok : ∀ (vs : List am_V), (∀ v ∈ vs, am_okv v) → ∀ (i : Nat) (v : am_V), (am_sl vs)[i]? = some (some v) → am_okv v
  | [], _, i, v, h => by simp [am_sl] at h
  | .inl z :: vs, hv, i, v, h => by
    cases i with
    | zero => cases h; exact hv _ List.mem_cons_self
    | succ i => exact al_sl_ok vs (fun u hu => hv u (List.mem_cons_of_mem _ hu)) i v h
  | .inr (.inl z) :: vs, hv, i, v, h => by
    cases i with
    | zero => cases h; exact hv _ List.mem_cons_self
    | succ i =>
      cases i with
      | zero => cases h
      | succ i => exact al_sl_ok vs (fun u hu => hv u (List.mem_cons_of_mem _ hu)) i v h
  | .inr (.inr a) :: vs, hv, i, v, h => by
    cases i with
    | zero => cases h; exact hv _ List.mem_cons_self
    | succ i => exact al_sl_ok vs (fun u hu => hv u (List.mem_cons_of_mem _ hu)) i v h
theorem al_ent_len {n : Nat} {vs : List am_V} (h : (am_sl vs).length ≤ n) : (am_ent n vs).length = n := by
  unfold am_ent
  rw [List.length_append, List.length_replicate]
  omega
theorem al_entry {w : am_W} {n : Nat} {vs : List am_V} (h : (am_sl vs).length ≤ n) (hv : ∀ v ∈ vs, am_okv v) : al_R w ((lg_sl (vs.map (am_cv w)) ++ List.replicate (n - (lg_sl (vs.map (am_cv w))).length) Slot.unset).toArray) (am_ent n vs) := by
  have hl : (lg_sl (vs.map (am_cv w))).length = (am_sl vs).length := by rw [al_slc, List.length_map]
  have h0 := lv_entry (vs.map (am_cv w)) (n := n) (by rw [hl]; exact h)
  refine ⟨⟨by rw [al_ent_len h]; exact h0.1, h0.2.1, fun q hq => by cases hq⟩, fun i v hg => ?_⟩
  have hi : (am_sl vs)[i]? = some (some v) := by
    unfold am_get am_ent at hg
    by_cases hlt : i < (am_sl vs).length
    · rw [List.getElem?_append_left hlt] at hg
      cases hx : (am_sl vs)[i]? with
      | none => rw [hx] at hg; cases hg
      | some x =>
        rw [hx] at hg
        cases x with
        | none => cases hg
        | some y => cases hg; rfl
    · rw [List.getElem?_append_right (by omega), List.getElem?_replicate] at hg
      split at hg
      · rename_i h9
        split at h9
        · cases h9
        · cases h9
      · cases hg
  refine ⟨?_, al_sl_ok vs hv i v hi⟩
  have hlt : i < (am_sl vs).length := (List.getElem?_eq_some_iff.mp hi).1
  rw [List.getElem?_toArray, List.getElem?_append_left (by rw [hl]; exact hlt), al_slc, List.getElem?_map, hi]
  rfl
end
section
/-! ===== the heap's picture under writes and makings ===== -/
theorem ah_ad {w : am_W} {a : Nat} (h : 3 ≤ a) : am_ad w a = aw_bs w + (a - 3) := if_neg (by omega)
theorem ah_inj {w : am_W} {a b : Nat} (ha : 3 ≤ a) (hb : 3 ≤ b) (h : am_ad w a = am_ad w b) : a = b := by
  rw [ah_ad ha, ah_ad hb] at h
  omega
theorem ah_setself {α : Type} {l : List α} {a : Nat} {e : α} (h : l[a]? = some e) : l.set a e = l := by
  apply List.ext_getElem?
  intro i
  by_cases hi : i = a
  · subst hi
    rw [List.getElem?_set_self (List.getElem?_eq_some_iff.mp h).1, h]
  · rw [List.getElem?_set_ne (Ne.symm hi)]
theorem ah_set {w : am_W} {h : am_H} {H H' : Heap} {a : Nat} {e e' : am_SE} {σ' : am_Mem} {c' s' : Nat} (hH : am_HR w h H) (h3 : 3 ≤ a) (he : h.1[a]? = some e) (hsz : H'.size = H.size) (hoth : ∀ q, q ≠ am_ad w a → H'[q]? = H[q]?)
    (hat : va_at (aw_D w) xr_cl (am_ad w a, am_en w e' (σ' a)) H') (h8 : e'.1 < 100 → e'.1 < 8) (hσ : ∀ b, b ≠ a → σ' b = h.2.2.2 b) (hok : ∀ j, am_ok (σ' a j)) : am_HR w (h.1.set a e', c', s', σ') H' := by
  obtain ⟨h1, h2, h4, h5, h6⟩ := hH
  have hlt : a < h.1.length := (List.getElem?_eq_some_iff.mp he).1
  refine ⟨fun b x hb hx => ?_, fun b hb => ?_, ⟨?_, ?_⟩, fun q hq => ?_, fun b j => ?_⟩
  · dsimp only at hx
    by_cases hba : b = a
    · subst hba
      rw [List.getElem?_set_self hlt] at hx
      cases hx
      exact ⟨hat, h8⟩
    · rw [List.getElem?_set_ne (Ne.symm hba)] at hx
      refine ⟨?_, (h1 b x hb hx).2⟩
      show va_at _ _ (_, am_en w x (σ' b)) _
      rw [hσ b hba]
      exact (h1 b x hb hx).1.kept (hoth _ (fun q => hba (ah_inj hb h3 q)))
  · have hba : b ≠ a := by omega
    dsimp only
    rw [List.getElem?_set_ne (Ne.symm hba), hσ b hba]
    exact h2 b hb
  · rw [List.length_set]; exact h4.1
  · rw [List.length_set, hsz]; exact h4.2
  · rw [hoth q (by rw [ah_ad h3]; omega)]
    exact h5 q hq
  · dsimp only
    by_cases hba : b = a
    · subst hba; exact hok j
    · rw [hσ b hba]; exact h6 b j
theorem ah_set' {w : am_W} {h : am_H} {H H' : Heap} {a : Nat} {e : am_SE} {σ' : am_Mem} {c' s' : Nat} (hH : am_HR w h H) (h3 : 3 ≤ a) (he : h.1[a]? = some e) (hsz : H'.size = H.size) (hoth : ∀ q, q ≠ am_ad w a → H'[q]? = H[q]?)
    (hat : va_at (aw_D w) xr_cl (am_ad w a, am_en w e (σ' a)) H') (hσ : ∀ b, b ≠ a → σ' b = h.2.2.2 b) (hok : ∀ j, am_ok (σ' a j)) : am_HR w (h.1, c', s', σ') H' := by
  have h := ah_set (c' := c') (s' := s') hH h3 he hsz hoth hat (hH.1 a e h3 he).2 hσ hok
  rw [ah_setself he] at h
  exact h
theorem ah_clr_lt {σ : am_Mem} {n k b : Nat} (h : b < n) : am_clr σ n k b = σ b := by
  funext j
  unfold am_clr
  rw [if_neg (by omega)]
theorem ah_clr_in {σ : am_Mem} {n k b : Nat} (h : n ≤ b) (h2 : b < n + k) : am_clr σ n k b = fun _ => 0 := by
  funext j
  unfold am_clr
  rw [if_pos ⟨h, h2⟩]
theorem ah_clr_ok {σ : am_Mem} {n k : Nat} (h : ∀ a j, am_ok (σ a j)) (a : Nat) (j : Int) : am_ok (am_clr σ n k a j) := by
  unfold am_clr
  split
  · exact an_ok0
  · exact h a j
theorem ah_app {w : am_W} {h : am_H} {H H' : Heap} {es : List am_SE} {c' s' : Nat} (hH : am_HR w h H) (hsz : H'.size = H.size + es.length) (hold : ∀ q, q < H.size → H'[q]? = H[q]?)
    (hnew : ∀ i e, es[i]? = some e → va_at (aw_D w) xr_cl (H.size + i, am_en w e (fun _ => 0)) H' ∧ (e.1 < 100 → e.1 < 8)) : am_HR w (h.1 ++ es, c', s', am_clr h.2.2.2 h.1.length es.length) H' := by
  obtain ⟨h1, h2, h4, h5, h6⟩ := hH
  refine ⟨fun b x hb hx => ?_, fun b hb => ?_, ⟨?_, ?_⟩, fun q hq => ?_, fun b j => ah_clr_ok h6 b j⟩
  · dsimp only at hx
    by_cases hlt : b < h.1.length
    · rw [List.getElem?_append_left hlt] at hx
      refine ⟨?_, (h1 b x hb hx).2⟩
      show va_at _ _ (_, am_en w x (am_clr h.2.2.2 h.1.length es.length b)) _
      rw [ah_clr_lt hlt]
      exact (h1 b x hb hx).1.kept (hold _ (h1 b x hb hx).1.lt)
    · rw [List.getElem?_append_right (by omega)] at hx
      have hl := (List.getElem?_eq_some_iff.mp hx).1
      refine ⟨?_, (hnew _ x hx).2⟩
      show va_at _ _ (_, am_en w x (am_clr h.2.2.2 h.1.length es.length b)) _
      rw [ah_clr_in (by omega) (by omega)]
      have hh := (hnew _ x hx).1
      have e : H.size + (b - h.1.length) = am_ad w b := by rw [ah_ad hb, h4.2]; have := h4.1; omega
      rw [e] at hh
      exact hh
  · dsimp only
    have hlt : b < h.1.length := by have := h4.1; omega
    rw [List.getElem?_append_left hlt, ah_clr_lt hlt]
    exact h2 b hb
  · rw [List.length_append]; have := h4.1; omega
  · rw [List.length_append, hsz, h4.2]; have := h4.1; omega
  · rw [hold q (by rw [h4.2]; omega)]
    exact h5 q hq
theorem ah_en_obj {w : am_W} {e : am_SE} {f : Int → Int} (h : e.1 < 100) : am_en w e f = .inr (e.1, am_fs w e f) := if_pos h
theorem ah_en_arr {w : am_W} {e : am_SE} {f : Int → Int} (h : ¬ e.1 < 100) (h2 : e.1 < 102) : am_en w e f = .inl (aw_cy w e.1, e.2.1, .inl (fun j => Int32.ofInt (f j))) := by unfold am_en; rw [if_neg h, if_pos h2]
theorem ah_en_rfs {w : am_W} {e : am_SE} {f : Int → Int} (h : ¬ e.1 < 100) (h2 : ¬ e.1 < 102) : am_en w e f = .inl (aw_cy w e.1, e.2.1, .inr (.inr (.inr (.inr (fun j => am_rf w (e.2.2.getD j 0)))))) := by unfold am_en; rw [if_neg h, if_neg h2]
theorem ah_one {D : va_G} {cl : List vw_C} {q : Nat × va_E} {H : Heap} (h : va_at D cl q H) : va_P D cl [q] H := by
  intro k x hx
  cases k with
  | zero => cases hx; exact h
  | succ k => cases hx
theorem ah_fs_get {w : am_W} {e : am_SE} {f : Int → Int} {k : Nat} (hk : k < xr_num e.1) : (am_fs w e f)[k]? = some (am_fv w e f k) := by
  unfold am_fs
  rw [List.getElem?_map, List.getElem?_range hk]
  rfl
theorem ah_fs_len (w : am_W) (e : am_SE) (f : Int → Int) : (am_fs w e f).length = xr_num e.1 := by unfold am_fs; rw [List.length_map, List.length_range]
theorem ah_up_self (σ : am_Mem) (a : Nat) (j z : Int) : am_up σ a j z a = fun k => if k = j then z else σ a k := by
  funext k
  unfold am_up
  by_cases h : k = j
  · rw [if_pos ⟨rfl, h⟩, if_pos h]
  · rw [if_neg (fun q => h q.2), if_neg h]
theorem ah_up_ne (σ : am_Mem) {a b : Nat} (j z : Int) (h : b ≠ a) : am_up σ a j z b = σ b := by
  funext k
  unfold am_up
  rw [if_neg (fun q => h q.1)]
theorem ah_up_ok {σ : am_Mem} {a : Nat} {j z : Int} (h : ∀ b k, am_ok (σ b k)) (hz : am_ok z) (b : Nat) (k : Int) : am_ok (am_up σ a j z b k) := by
  unfold am_up
  split
  · exact hz
  · exact h b k
theorem ah_fs_seti {w : am_W} {e : am_SE} {f : Int → Int} {k : Nat} {z : Int} (hr : xr_ref e.1 k = false) : am_fs w e (fun j => if j = (k : Int) then z else f j) = (am_fs w e f).set k (.int (Int32.ofInt z)) := by
  apply List.ext_getElem?
  intro i
  by_cases hi : i < xr_num e.1
  · rw [ah_fs_get hi]
    by_cases e9 : i = k
    · subst e9
      rw [List.getElem?_set_self (by rw [ah_fs_len]; exact hi)]
      unfold am_fv
      rw [hr]
      simp
    · rw [List.getElem?_set_ne (Ne.symm e9), ah_fs_get hi]
      unfold am_fv
      dsimp only
      rw [if_neg (show ¬ ((i : Nat) : Int) = (k : Int) from fun q => e9 (by omega))]
  · rw [List.getElem?_eq_none (by rw [ah_fs_len]; omega), List.getElem?_eq_none (by rw [List.length_set, ah_fs_len]; omega)]
theorem ah_fs_setr {w : am_W} {ki n : Nat} {rs : List Nat} {f : Int → Int} {k t : Nat} (hr : xr_ref ki k = true) (hl : k < rs.length) : am_fs w (ki, n, rs.set k (t + 1)) f = (am_fs w (ki, n, rs) f).set k (.ref (am_ad w t)) := by
  apply List.ext_getElem?
  intro i
  by_cases hi : i < xr_num ki
  · rw [ah_fs_get (show i < xr_num (ki, n, rs.set k (t + 1)).1 from hi)]
    by_cases e9 : i = k
    · subst e9
      rw [List.getElem?_set_self (by rw [ah_fs_len]; exact hi)]
      unfold am_fv
      rw [if_pos hr]
      simp [hl, am_rf, va_rf]
    · rw [List.getElem?_set_ne (Ne.symm e9), ah_fs_get (show i < xr_num (ki, n, rs).1 from hi)]
      unfold am_fv
      simp [Ne.symm e9]
  · rw [List.getElem?_eq_none (by rw [ah_fs_len]; exact Nat.not_lt.mp hi), List.getElem?_eq_none (by rw [List.length_set, ah_fs_len]; exact Nat.not_lt.mp hi)]
theorem ah_upd {f : Int → Int} {j z : Int} (h0 : 0 ≤ j) : (fun i : Nat => Int32.ofInt (if (i : Int) = j then z else f i)) = upd (fun i : Nat => Int32.ofInt (f i)) j.toNat (Int32.ofInt z) := by
  funext i
  unfold upd
  by_cases h : i = j.toNat
  · rw [if_pos h, if_pos (by omega)]
  · rw [if_neg h, if_neg (by omega)]
theorem ah_lays {c : Nat} (h : c < 8) : ∀ w ∈ u_ws (xr_R c) (xr_T c) (xr_num c), w ∈ xr_wds := by
  intro w hw
  have := List.all_eq_true.mp (xr_lays c h) w hw
  simp only [Bool.and_eq_true] at this
  exact List.mem_filter.mpr ⟨List.contains_iff_mem.mp this.2, this.1⟩
end
section
/-! ===== each step of the small machine is the real machine's ===== -/
abbrev xs_do := am_do xr_fld xr_mth xr_cst xr_csl xr_new xr_gst xr_ref xr_num xr_fin
abbrev xs_step := am_step xr_fld xr_mth xr_cst xr_csl xr_new xr_gst xr_ref xr_num xr_fin
abbrev xs_AW := am_AW xr_fld xr_mth xr_cst xr_csl xr_new xr_gst xr_ref xr_num xr_fin
abbrev xs_aw := am_aw xr_fld xr_mth xr_cst xr_csl xr_new xr_gst xr_ref xr_num xr_fin
section
variable {C : am_Cal} {X : am_Cf} {Q : am_Post} {st : List am_V}
theorem ai_pI {f : Int → List am_V → Option am_Res} (h : am_stp C X Q (am_pI st f)) : ∃ x r, st = am_i x :: r ∧ am_stp C X Q (f x r) := by
  unfold am_pI at h
  split at h
  · exact ⟨_, _, rfl, h⟩
  · exact h.elim
theorem ai_pII {f : Int → Int → List am_V → Option am_Res} (h : am_stp C X Q (am_pII st f)) : ∃ x y r, st = am_i y :: am_i x :: r ∧ am_stp C X Q (f x y r) := by
  unfold am_pII at h
  split at h
  · exact ⟨_, _, _, rfl, h⟩
  · exact h.elim
theorem ai_pL {f : Int → List am_V → Option am_Res} (h : am_stp C X Q (am_pL st f)) : ∃ x r, st = am_l x :: r ∧ am_stp C X Q (f x r) := by
  unfold am_pL at h
  split at h
  · exact ⟨_, _, rfl, h⟩
  · exact h.elim
theorem ai_pLL {f : Int → Int → List am_V → Option am_Res} (h : am_stp C X Q (am_pLL st f)) : ∃ x y r, st = am_l y :: am_l x :: r ∧ am_stp C X Q (f x y r) := by
  unfold am_pLL at h
  split at h
  · exact ⟨_, _, _, rfl, h⟩
  · exact h.elim
theorem ai_pR {f : Nat → List am_V → Option am_Res} (h : am_stp C X Q (am_pR st f)) : ∃ x r, st = am_r x :: r ∧ am_stp C X Q (f x r) := by
  unfold am_pR at h
  split at h
  · exact ⟨_, _, rfl, h⟩
  · exact h.elim
theorem ai_pRI {f : Nat → Int → List am_V → Option am_Res} (h : am_stp C X Q (am_pRI st f)) : ∃ a j r, st = am_i j :: am_r a :: r ∧ am_stp C X Q (f a j r) := by
  unfold am_pRI at h
  split at h
  · exact ⟨_, _, _, rfl, h⟩
  · exact h.elim
theorem ai_pRII {f : Nat → Int → Int → List am_V → Option am_Res} (h : am_stp C X Q (am_pRII st f)) : ∃ a j z r, st = am_i z :: am_i j :: am_r a :: r ∧ am_stp C X Q (f a j z r) := by
  unfold am_pRII at h
  split at h
  · exact ⟨_, _, _, _, rfl, h⟩
  · exact h.elim
theorem ai_pRIR {f : Nat → Int → Nat → List am_V → Option am_Res} (h : am_stp C X Q (am_pRIR st f)) : ∃ a j z r, st = am_r z :: am_i j :: am_r a :: r ∧ am_stp C X Q (f a j z r) := by
  unfold am_pRIR at h
  split at h
  · exact ⟨_, _, _, _, rfl, h⟩
  · exact h.elim
theorem ai_pRV {f : Nat → am_V → List am_V → Option am_Res} (h : am_stp C X Q (am_pRV st f)) : ∃ a v r, st = v :: am_r a :: r ∧ am_stp C X Q (f a v r) := by
  unfold am_pRV at h
  split at h
  · exact ⟨_, _, _, rfl, h⟩
  · exact h.elim
theorem ai_pCp {f : Nat → Int → Nat → Int → Int → List am_V → Option am_Res} (h : am_stp C X Q (am_pCp st f)) : ∃ a i b j n r, st = am_i n :: am_i j :: am_r b :: am_i i :: am_r a :: r ∧ am_stp C X Q (f a i b j n r) := by
  unfold am_pCp at h
  split at h
  · exact ⟨_, _, _, _, _, _, rfl, h⟩
  · exact h.elim
theorem ai_lI {ls : am_L} {i : Nat} {f : Int → Option am_Res} (h : am_stp C X Q (am_lI ls i f)) : ∃ z, am_get ls i = some (am_i z) ∧ am_stp C X Q (f z) := by
  unfold am_lI at h
  split at h
  · rename_i z hz; exact ⟨z, hz, h⟩
  · exact h.elim
theorem ai_lL {ls : am_L} {i : Nat} {f : Int → Option am_Res} (h : am_stp C X Q (am_lL ls i f)) : ∃ z, am_get ls i = some (am_l z) ∧ am_stp C X Q (f z) := by
  unfold am_lL at h
  split at h
  · rename_i z hz; exact ⟨z, hz, h⟩
  · exact h.elim
theorem ai_lR {ls : am_L} {i : Nat} {f : Nat → Option am_Res} (h : am_stp C X Q (am_lR ls i f)) : ∃ z, am_get ls i = some (am_r z) ∧ am_stp C X Q (f z) := by
  unfold am_lR at h
  split at h
  · rename_i z hz; exact ⟨z, hz, h⟩
  · exact h.elim
theorem ai_jmp {pc : Nat} {off : Int} {f : Nat → Option am_Res} (h : am_stp C X Q (am_jmp pc off f)) : ∃ t : Nat, (pc : Int) + off = (t : Int) ∧ am_stp C X Q (f t) := by
  unfold am_jmp at h
  split at h
  · rename_i h0; exact ⟨_, (Int.toNat_of_nonneg h0).symm, h⟩
  · exact h.elim
theorem ai_if {b : Prop} [Decidable b] {f : Option am_Res} (h : am_stp C X Q (am_if b f)) : b ∧ am_stp C X Q f := by
  unfold am_if at h
  split at h
  · rename_i hb; exact ⟨hb, h⟩
  · exact h.elim
theorem ai_sh {hh : am_H} {a : Nat} {f : Nat → Nat → List Nat → Option am_Res} (h : am_stp C X Q (am_sh hh a f)) : ∃ ki n rs, hh.1[a]? = some (ki, n, rs) ∧ am_stp C X Q (f ki n rs) := by
  unfold am_sh at h
  split at h
  · rename_i e he; exact ⟨e.1, e.2.1, e.2.2, he, h⟩
  · exact h.elim
theorem ai_rfs {rs : List Nat} {k : Nat} {f : Nat → Option am_Res} (h : am_stp C X Q (am_rfs rs k f)) : ∃ t, rs[k]? = some (t + 1) ∧ am_stp C X Q (f t) := by
  unfold am_rfs at h
  split at h
  · rename_i t ht; exact ⟨t, ht, h⟩
  · exact h.elim
theorem ai_opt {α : Type} {q : Option α} {f : α → Option am_Res} (h : am_stp C X Q (am_opt q f)) : ∃ x, q = some x ∧ am_stp C X Q (f x) := by
  unfold am_opt at h
  split at h
  · exact ⟨_, rfl, h⟩
  · exact h.elim
end
theorem xs_wds {i : Nat} {w : Cond} (h : xr_wd i w = true) {args : Array Value} {s : State} (hts : ∀ x ∈ xr_wds, x.before args s = true) : w.before args s = true := hts _ (xr_wd_in h)
theorem xs_fld {c k : Nat} {q : Nat × Nat} (h : xr_fld c k = some q) : q.1 < 8 ∧ Cond.fieldLink (xr_R c) k (xr_T q.1 q.2).1 (xr_T q.1 q.2).2.1 (xr_T q.1 q.2).2.2.1 ∈ xr_wds := by
  unfold xr_fld at h
  obtain ⟨e, he, rfl⟩ := Option.map_eq_some_iff.mp h
  obtain ⟨h1, h2⟩ := xr_find he
  have h3 := List.all_eq_true.mp xr_fld_ok e h1
  simp only [xr_fldC, Bool.and_eq_true, decide_eq_true_eq, beq_iff_eq] at h2 h3
  obtain ⟨rfl, rfl⟩ := h2
  exact ⟨h3.2, xr_wd_in h3.1⟩
theorem xs_cst {c k : Nat} {v : Int} (h : xr_cst c k = some v) : am_ok v ∧ Cond.constant (xr_R c) k (Int32.ofInt v) ∈ xr_wds := by
  unfold xr_cst at h
  obtain ⟨e, he, rfl⟩ := Option.map_eq_some_iff.mp h
  obtain ⟨h1, h2⟩ := xr_find he
  have h3 := List.all_eq_true.mp xr_cst_ok e h1
  simp only [xr_cstC, Bool.and_eq_true, decide_eq_true_eq, beq_iff_eq] at h2 h3
  obtain ⟨rfl, rfl⟩ := h2
  exact ⟨h3.2, xr_wd_in h3.1⟩
theorem xs_csl {c k : Nat} {v : Int} (h : xr_csl c k = some v) : am_okl v ∧ Cond.constantLong (xr_R c) k (Int64.ofInt v) ∈ xr_wds := by
  unfold xr_csl at h
  obtain ⟨e, he, rfl⟩ := Option.map_eq_some_iff.mp h
  obtain ⟨h1, h2⟩ := xr_find he
  have h3 := List.all_eq_true.mp xr_csl_ok e h1
  simp only [xr_cslC, Bool.and_eq_true, decide_eq_true_eq, beq_iff_eq] at h2 h3
  obtain ⟨rfl, rfl⟩ := h2
  exact ⟨h3.2, xr_wd_in h3.1⟩
theorem xs_new {c k ci : Nat} (h : xr_new c k = some ci) : (ci = 103 ∨ ci < 8) ∧ Cond.classLink (xr_R c) k (if ci = 103 then "[[I" else xr_R ci) ∈ xr_wds := by
  unfold xr_new at h
  obtain ⟨e, he, rfl⟩ := Option.map_eq_some_iff.mp h
  obtain ⟨h1, h2⟩ := xr_find he
  have h3 := List.all_eq_true.mp xr_new_ok e h1
  simp only [xr_newC, Bool.and_eq_true, Bool.or_eq_true, decide_eq_true_eq, beq_iff_eq] at h2 h3
  obtain ⟨rfl, rfl⟩ := h2
  exact ⟨h3.2, xr_wd_in h3.1⟩
theorem xs_gst {c k a : Nat} (h : xr_gst c k = some a) : (a = 1 ∨ a = 2) ∧ Cond.fieldLink (xr_R c) k RX1 (am_st a) "[I" ∈ xr_wds := by
  unfold xr_gst at h
  obtain ⟨e, he, rfl⟩ := Option.map_eq_some_iff.mp h
  obtain ⟨h1, h2⟩ := xr_find he
  have h3 := List.all_eq_true.mp xr_gst_ok e h1
  simp only [xr_gstC, Bool.and_eq_true, Bool.or_eq_true, decide_eq_true_eq, beq_iff_eq] at h2 h3
  obtain ⟨rfl, rfl⟩ := h2
  exact ⟨h3.2, xr_wd_in h3.1⟩
def as_Cx (p : Program) (R : Room) (s : State) (m : MethodId) (args : Array Value) (meth : Method) (c : Code) (w : am_W) (M : am_M) (d : Nat) : Prop :=
  p.tables.exec = Jvm.exec ∧ c.code = M.2.2.1 ∧ c.maxLocals = M.2.2.2.1 ∧ s.vm.findClass (xr_R M.1) = some m.cls ∧ (∀ x ∈ xr_wds, x.before args s = true) ∧ am_KW w s ∧ (d + 1 ≤ R.frames ∧ 64 * (d + 1) ≤ R.locals ∧ R.cells = M.2.2.2.2.2.1 ∧ R.slots = M.2.2.2.2.2.2) ∧ meth.name = M.2.1.name
def as_X (p : Program) (l : Launch) (e : Env) (R : Room) (s : State) (m : MethodId) (args : Array Value) (below : List Frame) (meth : Method) (c : Code) (w : am_W) (M : am_M) (Qf : State → Prop) : am_Cf := fun pc ls st h =>
  ∀ (lsC : Array Slot) (H : Heap) (locs : List Loc), ls.length = M.2.2.2.1 → al_R w lsC ls → am_HR w h H → (∀ q ∈ locs, aw_bs w ≤ q.base) → (∀ v ∈ st, am_okv v) → W p l e R s m args below meth c H locs h.2.1 h.2.2.1 Qf (F0 m pc lsC (st.map (am_cv w)))
section
variable {p : Program} {l : Launch} {e : Env} {R : Room} {s : State} {m : MethodId} {args : Array Value} {below : List Frame} {meth : Method} {c : Code} {w : am_W} {M : am_M} {d : Nat} {Qf : State → Prop} {C : am_Cal} {Q : am_Post} {pc : Nat} {ls : am_L} {st : List am_V} {h : am_H}
theorem as_iconst {n : Int} (hc : as_Cx p R s m args meth c w M d) (hd : decode M.2.2.1 pc = .ok (.iconst n, 1)) (hs : am_stp C (as_X p l e R s m args below meth c w M Qf) Q (xs_do M (.iconst n) pc ls st h)) : as_X p l e R s m args below meth c w M Qf pc ls st h := by
  obtain ⟨hx, hb, hml, hown, hts, hK, hR, hnm⟩ := hc
  obtain ⟨h0, hs⟩ := ai_if hs
  intro lsC H locs hn hl hH hL hv
  exact lv_iconst hx hb hd rfl (hs lsC H locs hn hl hH hL (List.forall_mem_cons.mpr ⟨h0, hv⟩))
theorem as_bipush {n : Int} (hc : as_Cx p R s m args meth c w M d) (hd : decode M.2.2.1 pc = .ok (.bipush n, 2)) (hs : am_stp C (as_X p l e R s m args below meth c w M Qf) Q (xs_do M (.bipush n) pc ls st h)) : as_X p l e R s m args below meth c w M Qf pc ls st h := by
  obtain ⟨hx, hb, hml, hown, hts, hK, hR, hnm⟩ := hc
  obtain ⟨h0, hs⟩ := ai_if hs
  intro lsC H locs hn hl hH hL hv
  exact lv_bipush hx hb hd (an_bi h0) (hs lsC H locs hn hl hH hL (List.forall_mem_cons.mpr ⟨⟨by omega, by omega⟩, hv⟩))
theorem as_sipush {n : Int} (hc : as_Cx p R s m args meth c w M d) (hd : decode M.2.2.1 pc = .ok (.sipush n, 3)) (hs : am_stp C (as_X p l e R s m args below meth c w M Qf) Q (xs_do M (.sipush n) pc ls st h)) : as_X p l e R s m args below meth c w M Qf pc ls st h := by
  obtain ⟨hx, hb, hml, hown, hts, hK, hR, hnm⟩ := hc
  obtain ⟨h0, hs⟩ := ai_if hs
  intro lsC H locs hn hl hH hL hv
  exact lv_sipush hx hb hd (an_si h0) (hs lsC H locs hn hl hH hL (List.forall_mem_cons.mpr ⟨⟨by omega, by omega⟩, hv⟩))
theorem as_ldc {ix : Nat} (hc : as_Cx p R s m args meth c w M d) (hd : decode M.2.2.1 pc = .ok (.ldc ix, 2)) (hs : am_stp C (as_X p l e R s m args below meth c w M Qf) Q (xs_do M (.ldc ix) pc ls st h)) : as_X p l e R s m args below meth c w M Qf pc ls st h := by
  obtain ⟨hx, hb, hml, hown, hts, hK, hR, hnm⟩ := hc
  obtain ⟨v, h0, hs⟩ := ai_opt hs
  obtain ⟨h1, h2⟩ := xs_cst h0
  intro lsC H locs hn hl hH hL hv
  exact lv_ldc hx hb hown (hts _ h2) hd (hs lsC H locs hn hl hH hL (List.forall_mem_cons.mpr ⟨h1, hv⟩))
theorem as_ldc_w {ix : Nat} (hc : as_Cx p R s m args meth c w M d) (hd : decode M.2.2.1 pc = .ok (.ldc_w ix, 3)) (hs : am_stp C (as_X p l e R s m args below meth c w M Qf) Q (xs_do M (.ldc_w ix) pc ls st h)) : as_X p l e R s m args below meth c w M Qf pc ls st h := by
  obtain ⟨hx, hb, hml, hown, hts, hK, hR, hnm⟩ := hc
  obtain ⟨v, h0, hs⟩ := ai_opt hs
  obtain ⟨h1, h2⟩ := xs_cst h0
  intro lsC H locs hn hl hH hL hv
  exact lv_ldcw hx hb hown (hts _ h2) hd (hs lsC H locs hn hl hH hL (List.forall_mem_cons.mpr ⟨h1, hv⟩))
theorem as_ldc2_w {ix : Nat} (hc : as_Cx p R s m args meth c w M d) (hd : decode M.2.2.1 pc = .ok (.ldc2_w ix, 3)) (hs : am_stp C (as_X p l e R s m args below meth c w M Qf) Q (xs_do M (.ldc2_w ix) pc ls st h)) : as_X p l e R s m args below meth c w M Qf pc ls st h := by
  obtain ⟨hx, hb, hml, hown, hts, hK, hR, hnm⟩ := hc
  obtain ⟨v, h0, hs⟩ := ai_opt hs
  obtain ⟨h1, h2⟩ := xs_csl h0
  intro lsC H locs hn hl hH hL hv
  exact lv_ldc2 hx hb hown (hts _ h2) hd (hs lsC H locs hn hl hH hL (List.forall_mem_cons.mpr ⟨h1, hv⟩))
theorem as_iload {ix : Nat} (hc : as_Cx p R s m args meth c w M d) (hd : decode M.2.2.1 pc = .ok (.iload ix, 2)) (hs : am_stp C (as_X p l e R s m args below meth c w M Qf) Q (xs_do M (.iload ix) pc ls st h)) : as_X p l e R s m args below meth c w M Qf pc ls st h := by
  obtain ⟨hx, hb, hml, hown, hts, hK, hR, hnm⟩ := hc
  obtain ⟨z, h0, hs⟩ := ai_lI hs
  intro lsC H locs hn hl hH hL hv
  exact lv_iload hx hb hd (hl.2 _ _ h0).1 (hs lsC H locs hn hl hH hL (List.forall_mem_cons.mpr ⟨(hl.2 _ _ h0).2, hv⟩))
theorem as_iload_n {ix : Fin 4} (hc : as_Cx p R s m args meth c w M d) (hd : decode M.2.2.1 pc = .ok (.iload_n ix, 1)) (hs : am_stp C (as_X p l e R s m args below meth c w M Qf) Q (xs_do M (.iload_n ix) pc ls st h)) : as_X p l e R s m args below meth c w M Qf pc ls st h := by
  obtain ⟨hx, hb, hml, hown, hts, hK, hR, hnm⟩ := hc
  obtain ⟨z, h0, hs⟩ := ai_lI hs
  intro lsC H locs hn hl hH hL hv
  exact lv_iload_n hx hb hd rfl (hl.2 _ _ h0).1 (hs lsC H locs hn hl hH hL (List.forall_mem_cons.mpr ⟨(hl.2 _ _ h0).2, hv⟩))
theorem as_lload {ix : Nat} (hc : as_Cx p R s m args meth c w M d) (hd : decode M.2.2.1 pc = .ok (.lload ix, 2)) (hs : am_stp C (as_X p l e R s m args below meth c w M Qf) Q (xs_do M (.lload ix) pc ls st h)) : as_X p l e R s m args below meth c w M Qf pc ls st h := by
  obtain ⟨hx, hb, hml, hown, hts, hK, hR, hnm⟩ := hc
  obtain ⟨z, h0, hs⟩ := ai_lL hs
  intro lsC H locs hn hl hH hL hv
  exact lv_lload hx hb hd (hl.2 _ _ h0).1 (hs lsC H locs hn hl hH hL (List.forall_mem_cons.mpr ⟨(hl.2 _ _ h0).2, hv⟩))
theorem as_lload_n {ix : Fin 4} (hc : as_Cx p R s m args meth c w M d) (hd : decode M.2.2.1 pc = .ok (.lload_n ix, 1)) (hs : am_stp C (as_X p l e R s m args below meth c w M Qf) Q (xs_do M (.lload_n ix) pc ls st h)) : as_X p l e R s m args below meth c w M Qf pc ls st h := by
  obtain ⟨hx, hb, hml, hown, hts, hK, hR, hnm⟩ := hc
  obtain ⟨z, h0, hs⟩ := ai_lL hs
  intro lsC H locs hn hl hH hL hv
  exact lv_lload_n hx hb hd rfl (hl.2 _ _ h0).1 (hs lsC H locs hn hl hH hL (List.forall_mem_cons.mpr ⟨(hl.2 _ _ h0).2, hv⟩))
theorem as_aload {ix : Nat} (hc : as_Cx p R s m args meth c w M d) (hd : decode M.2.2.1 pc = .ok (.aload ix, 2)) (hs : am_stp C (as_X p l e R s m args below meth c w M Qf) Q (xs_do M (.aload ix) pc ls st h)) : as_X p l e R s m args below meth c w M Qf pc ls st h := by
  obtain ⟨hx, hb, hml, hown, hts, hK, hR, hnm⟩ := hc
  obtain ⟨z, h0, hs⟩ := ai_lR hs
  intro lsC H locs hn hl hH hL hv
  exact lv_aload hx hb hd (hl.2 _ _ h0).1 (hs lsC H locs hn hl hH hL (List.forall_mem_cons.mpr ⟨(hl.2 _ _ h0).2, hv⟩))
theorem as_aload_n {ix : Fin 4} (hc : as_Cx p R s m args meth c w M d) (hd : decode M.2.2.1 pc = .ok (.aload_n ix, 1)) (hs : am_stp C (as_X p l e R s m args below meth c w M Qf) Q (xs_do M (.aload_n ix) pc ls st h)) : as_X p l e R s m args below meth c w M Qf pc ls st h := by
  obtain ⟨hx, hb, hml, hown, hts, hK, hR, hnm⟩ := hc
  obtain ⟨z, h0, hs⟩ := ai_lR hs
  intro lsC H locs hn hl hH hL hv
  exact lv_aload_n hx hb hd rfl (hl.2 _ _ h0).1 (hs lsC H locs hn hl hH hL (List.forall_mem_cons.mpr ⟨(hl.2 _ _ h0).2, hv⟩))
theorem as_istore {ix : Nat} (hc : as_Cx p R s m args meth c w M d) (hd : decode M.2.2.1 pc = .ok (.istore ix, 2)) (hs : am_stp C (as_X p l e R s m args below meth c w M Qf) Q (xs_do M (.istore ix) pc ls st h)) : as_X p l e R s m args below meth c w M Qf pc ls st h := by
  obtain ⟨hx, hb, hml, hown, hts, hK, hR, hnm⟩ := hc
  obtain ⟨z, r, rfl, hs⟩ := ai_pI hs
  obtain ⟨h0, hs⟩ := ai_if hs
  intro lsC H locs hn hl hH hL hv
  obtain ⟨hv1, hv⟩ := List.forall_mem_cons.mp hv
  exact lv_istore hx hb hd (al_has hl) h0 rfl (fun ls' hl' => hs ls' H locs (by rw [al_sto_len]; exact hn) (al_sto hl hv1 hl') hH hL hv)
theorem as_istore_n {ix : Fin 4} (hc : as_Cx p R s m args meth c w M d) (hd : decode M.2.2.1 pc = .ok (.istore_n ix, 1)) (hs : am_stp C (as_X p l e R s m args below meth c w M Qf) Q (xs_do M (.istore_n ix) pc ls st h)) : as_X p l e R s m args below meth c w M Qf pc ls st h := by
  obtain ⟨hx, hb, hml, hown, hts, hK, hR, hnm⟩ := hc
  obtain ⟨z, r, rfl, hs⟩ := ai_pI hs
  obtain ⟨h0, hs⟩ := ai_if hs
  intro lsC H locs hn hl hH hL hv
  obtain ⟨hv1, hv⟩ := List.forall_mem_cons.mp hv
  exact lv_istore_n hx hb hd rfl (al_has hl) h0 rfl (fun ls' hl' => hs ls' H locs (by rw [al_sto_len]; exact hn) (al_sto hl hv1 hl') hH hL hv)
theorem as_astore {ix : Nat} (hc : as_Cx p R s m args meth c w M d) (hd : decode M.2.2.1 pc = .ok (.astore ix, 2)) (hs : am_stp C (as_X p l e R s m args below meth c w M Qf) Q (xs_do M (.astore ix) pc ls st h)) : as_X p l e R s m args below meth c w M Qf pc ls st h := by
  obtain ⟨hx, hb, hml, hown, hts, hK, hR, hnm⟩ := hc
  obtain ⟨z, r, rfl, hs⟩ := ai_pR hs
  obtain ⟨h0, hs⟩ := ai_if hs
  intro lsC H locs hn hl hH hL hv
  obtain ⟨hv1, hv⟩ := List.forall_mem_cons.mp hv
  exact lv_astore hx hb hd (al_has hl) h0 rfl (fun ls' hl' => hs ls' H locs (by rw [al_sto_len]; exact hn) (al_sto hl hv1 hl') hH hL hv)
theorem as_astore_n {ix : Fin 4} (hc : as_Cx p R s m args meth c w M d) (hd : decode M.2.2.1 pc = .ok (.astore_n ix, 1)) (hs : am_stp C (as_X p l e R s m args below meth c w M Qf) Q (xs_do M (.astore_n ix) pc ls st h)) : as_X p l e R s m args below meth c w M Qf pc ls st h := by
  obtain ⟨hx, hb, hml, hown, hts, hK, hR, hnm⟩ := hc
  obtain ⟨z, r, rfl, hs⟩ := ai_pR hs
  obtain ⟨h0, hs⟩ := ai_if hs
  intro lsC H locs hn hl hH hL hv
  obtain ⟨hv1, hv⟩ := List.forall_mem_cons.mp hv
  exact lv_astore_n hx hb hd rfl (al_has hl) h0 rfl (fun ls' hl' => hs ls' H locs (by rw [al_sto_len]; exact hn) (al_sto hl hv1 hl') hH hL hv)
theorem as_lstore {ix : Nat} (hc : as_Cx p R s m args meth c w M d) (hd : decode M.2.2.1 pc = .ok (.lstore ix, 2)) (hs : am_stp C (as_X p l e R s m args below meth c w M Qf) Q (xs_do M (.lstore ix) pc ls st h)) : as_X p l e R s m args below meth c w M Qf pc ls st h := by
  obtain ⟨hx, hb, hml, hown, hts, hK, hR, hnm⟩ := hc
  obtain ⟨z, r, rfl, hs⟩ := ai_pL hs
  obtain ⟨h0, hs⟩ := ai_if hs
  intro lsC H locs hn hl hH hL hv
  obtain ⟨hv1, hv⟩ := List.forall_mem_cons.mp hv
  exact lv_lstore hx hb hd (al_has hl) h0 rfl (fun ls' hl' => hs ls' H locs (by rw [al_stol_len]; exact hn) (al_stol hl hv1 hl') hH hL hv)
theorem as_lstore_n {ix : Fin 4} (hc : as_Cx p R s m args meth c w M d) (hd : decode M.2.2.1 pc = .ok (.lstore_n ix, 1)) (hs : am_stp C (as_X p l e R s m args below meth c w M Qf) Q (xs_do M (.lstore_n ix) pc ls st h)) : as_X p l e R s m args below meth c w M Qf pc ls st h := by
  obtain ⟨hx, hb, hml, hown, hts, hK, hR, hnm⟩ := hc
  obtain ⟨z, r, rfl, hs⟩ := ai_pL hs
  obtain ⟨h0, hs⟩ := ai_if hs
  intro lsC H locs hn hl hH hL hv
  obtain ⟨hv1, hv⟩ := List.forall_mem_cons.mp hv
  exact lv_lstore_n hx hb hd rfl (al_has hl) h0 rfl (fun ls' hl' => hs ls' H locs (by rw [al_stol_len]; exact hn) (al_stol hl hv1 hl') hH hL hv)
theorem as_iinc {ix : Nat} {n : Int} (hc : as_Cx p R s m args meth c w M d) (hd : decode M.2.2.1 pc = .ok (.iinc ix n, 3)) (hs : am_stp C (as_X p l e R s m args below meth c w M Qf) Q (xs_do M (.iinc ix n) pc ls st h)) : as_X p l e R s m args below meth c w M Qf pc ls st h := by
  obtain ⟨hx, hb, hml, hown, hts, hK, hR, hnm⟩ := hc
  obtain ⟨z, h0, hs⟩ := ai_lI hs
  obtain ⟨h1, hs⟩ := ai_if hs
  intro lsC H locs hn hl hH hL hv
  obtain ⟨k, hk⟩ := List.getElem?_of_mem (al_mem (w := w) (q := (ix, am_cv w (am_i z))).mpr ⟨am_i z, h0, rfl⟩)
  exact lv_iinc (v := Int32.ofInt (am_w (z + n))) hx hb hd (al_has hl) hk (by rw [an_add]) h1 rfl (fun ls' hl' => hs ls' H locs (by rw [al_sto_len]; exact hn) (al_sto (v := am_i (am_w (z + n))) hl (an_okw _) hl') hH hL hv)
theorem as_iadd (hc : as_Cx p R s m args meth c w M d) (hd : decode M.2.2.1 pc = .ok (.iadd, 1)) (hs : am_stp C (as_X p l e R s m args below meth c w M Qf) Q (xs_do M (.iadd) pc ls st h)) : as_X p l e R s m args below meth c w M Qf pc ls st h := by
  obtain ⟨hx, hb, hml, hown, hts, hK, hR, hnm⟩ := hc
  obtain ⟨x, y, r, rfl, hs⟩ := ai_pII hs
  intro lsC H locs hn hl hH hL hv
  obtain ⟨hv1, hv⟩ := List.forall_mem_cons.mp hv
  obtain ⟨hv2, hv⟩ := List.forall_mem_cons.mp hv
  refine lv_iadd hx hb hd ?_
  rw [← an_add x y]
  exact hs lsC H locs hn hl hH hL (List.forall_mem_cons.mpr ⟨an_okw _, hv⟩)
theorem as_isub (hc : as_Cx p R s m args meth c w M d) (hd : decode M.2.2.1 pc = .ok (.isub, 1)) (hs : am_stp C (as_X p l e R s m args below meth c w M Qf) Q (xs_do M (.isub) pc ls st h)) : as_X p l e R s m args below meth c w M Qf pc ls st h := by
  obtain ⟨hx, hb, hml, hown, hts, hK, hR, hnm⟩ := hc
  obtain ⟨x, y, r, rfl, hs⟩ := ai_pII hs
  intro lsC H locs hn hl hH hL hv
  obtain ⟨hv1, hv⟩ := List.forall_mem_cons.mp hv
  obtain ⟨hv2, hv⟩ := List.forall_mem_cons.mp hv
  refine lv_isub hx hb hd ?_
  rw [← an_sub x y]
  exact hs lsC H locs hn hl hH hL (List.forall_mem_cons.mpr ⟨an_okw _, hv⟩)
theorem as_imul (hc : as_Cx p R s m args meth c w M d) (hd : decode M.2.2.1 pc = .ok (.imul, 1)) (hs : am_stp C (as_X p l e R s m args below meth c w M Qf) Q (xs_do M (.imul) pc ls st h)) : as_X p l e R s m args below meth c w M Qf pc ls st h := by
  obtain ⟨hx, hb, hml, hown, hts, hK, hR, hnm⟩ := hc
  obtain ⟨x, y, r, rfl, hs⟩ := ai_pII hs
  intro lsC H locs hn hl hH hL hv
  obtain ⟨hv1, hv⟩ := List.forall_mem_cons.mp hv
  obtain ⟨hv2, hv⟩ := List.forall_mem_cons.mp hv
  refine lv_imul hx hb hd ?_
  rw [← an_mul x y]
  exact hs lsC H locs hn hl hH hL (List.forall_mem_cons.mpr ⟨an_okw _, hv⟩)
theorem as_iand (hc : as_Cx p R s m args meth c w M d) (hd : decode M.2.2.1 pc = .ok (.iand, 1)) (hs : am_stp C (as_X p l e R s m args below meth c w M Qf) Q (xs_do M (.iand) pc ls st h)) : as_X p l e R s m args below meth c w M Qf pc ls st h := by
  obtain ⟨hx, hb, hml, hown, hts, hK, hR, hnm⟩ := hc
  obtain ⟨x, y, r, rfl, hs⟩ := ai_pII hs
  intro lsC H locs hn hl hH hL hv
  obtain ⟨hv1, hv⟩ := List.forall_mem_cons.mp hv
  obtain ⟨hv2, hv⟩ := List.forall_mem_cons.mp hv
  have k := hs lsC H locs hn hl hH hL (List.forall_mem_cons.mpr ⟨(an_ok32 _ : am_ok (am_and x y)), hv⟩)
  rw [List.map_cons, show am_cv w (am_i (am_and x y)) = Value.int _ from congrArg Value.int (an_of _)] at k
  exact lv_iand hx hb hd k
theorem as_ior (hc : as_Cx p R s m args meth c w M d) (hd : decode M.2.2.1 pc = .ok (.ior, 1)) (hs : am_stp C (as_X p l e R s m args below meth c w M Qf) Q (xs_do M (.ior) pc ls st h)) : as_X p l e R s m args below meth c w M Qf pc ls st h := by
  obtain ⟨hx, hb, hml, hown, hts, hK, hR, hnm⟩ := hc
  obtain ⟨x, y, r, rfl, hs⟩ := ai_pII hs
  intro lsC H locs hn hl hH hL hv
  obtain ⟨hv1, hv⟩ := List.forall_mem_cons.mp hv
  obtain ⟨hv2, hv⟩ := List.forall_mem_cons.mp hv
  have k := hs lsC H locs hn hl hH hL (List.forall_mem_cons.mpr ⟨(an_ok32 _ : am_ok (am_or x y)), hv⟩)
  rw [List.map_cons, show am_cv w (am_i (am_or x y)) = Value.int _ from congrArg Value.int (an_of _)] at k
  exact lv_ior hx hb hd k
theorem as_ixor (hc : as_Cx p R s m args meth c w M d) (hd : decode M.2.2.1 pc = .ok (.ixor, 1)) (hs : am_stp C (as_X p l e R s m args below meth c w M Qf) Q (xs_do M (.ixor) pc ls st h)) : as_X p l e R s m args below meth c w M Qf pc ls st h := by
  obtain ⟨hx, hb, hml, hown, hts, hK, hR, hnm⟩ := hc
  obtain ⟨x, y, r, rfl, hs⟩ := ai_pII hs
  intro lsC H locs hn hl hH hL hv
  obtain ⟨hv1, hv⟩ := List.forall_mem_cons.mp hv
  obtain ⟨hv2, hv⟩ := List.forall_mem_cons.mp hv
  have k := hs lsC H locs hn hl hH hL (List.forall_mem_cons.mpr ⟨(an_ok32 _ : am_ok (am_xor x y)), hv⟩)
  rw [List.map_cons, show am_cv w (am_i (am_xor x y)) = Value.int _ from congrArg Value.int (an_of _)] at k
  exact lv_ixor hx hb hd k
theorem as_ishl (hc : as_Cx p R s m args meth c w M d) (hd : decode M.2.2.1 pc = .ok (.ishl, 1)) (hs : am_stp C (as_X p l e R s m args below meth c w M Qf) Q (xs_do M (.ishl) pc ls st h)) : as_X p l e R s m args below meth c w M Qf pc ls st h := by
  obtain ⟨hx, hb, hml, hown, hts, hK, hR, hnm⟩ := hc
  obtain ⟨x, y, r, rfl, hs⟩ := ai_pII hs
  intro lsC H locs hn hl hH hL hv
  obtain ⟨hv1, hv⟩ := List.forall_mem_cons.mp hv
  obtain ⟨hv2, hv⟩ := List.forall_mem_cons.mp hv
  have k := hs lsC H locs hn hl hH hL (List.forall_mem_cons.mpr ⟨(an_ok32 _ : am_ok (am_shl x y)), hv⟩)
  rw [List.map_cons, show am_cv w (am_i (am_shl x y)) = Value.int _ from congrArg Value.int (an_of _)] at k
  exact lv_ishl hx hb hd k
theorem as_ishr (hc : as_Cx p R s m args meth c w M d) (hd : decode M.2.2.1 pc = .ok (.ishr, 1)) (hs : am_stp C (as_X p l e R s m args below meth c w M Qf) Q (xs_do M (.ishr) pc ls st h)) : as_X p l e R s m args below meth c w M Qf pc ls st h := by
  obtain ⟨hx, hb, hml, hown, hts, hK, hR, hnm⟩ := hc
  obtain ⟨x, y, r, rfl, hs⟩ := ai_pII hs
  intro lsC H locs hn hl hH hL hv
  obtain ⟨hv1, hv⟩ := List.forall_mem_cons.mp hv
  obtain ⟨hv2, hv⟩ := List.forall_mem_cons.mp hv
  have k := hs lsC H locs hn hl hH hL (List.forall_mem_cons.mpr ⟨(an_ok32 _ : am_ok (am_shr x y)), hv⟩)
  rw [List.map_cons, show am_cv w (am_i (am_shr x y)) = Value.int _ from congrArg Value.int (an_of _)] at k
  exact lv_ishr hx hb hd k
theorem as_iushr (hc : as_Cx p R s m args meth c w M d) (hd : decode M.2.2.1 pc = .ok (.iushr, 1)) (hs : am_stp C (as_X p l e R s m args below meth c w M Qf) Q (xs_do M (.iushr) pc ls st h)) : as_X p l e R s m args below meth c w M Qf pc ls st h := by
  obtain ⟨hx, hb, hml, hown, hts, hK, hR, hnm⟩ := hc
  obtain ⟨x, y, r, rfl, hs⟩ := ai_pII hs
  intro lsC H locs hn hl hH hL hv
  obtain ⟨hv1, hv⟩ := List.forall_mem_cons.mp hv
  obtain ⟨hv2, hv⟩ := List.forall_mem_cons.mp hv
  exact lv_iushr hx hb hd (an_of _).symm (hs lsC H locs hn hl hH hL (List.forall_mem_cons.mpr ⟨(an_ok32 _ : am_ok (am_ushr x y)), hv⟩))
theorem as_idiv (hc : as_Cx p R s m args meth c w M d) (hd : decode M.2.2.1 pc = .ok (.idiv, 1)) (hs : am_stp C (as_X p l e R s m args below meth c w M Qf) Q (xs_do M (.idiv) pc ls st h)) : as_X p l e R s m args below meth c w M Qf pc ls st h := by
  obtain ⟨hx, hb, hml, hown, hts, hK, hR, hnm⟩ := hc
  obtain ⟨x, y, r, rfl, hs⟩ := ai_pII hs
  obtain ⟨h0, hs⟩ := ai_if hs
  intro lsC H locs hn hl hH hL hv
  obtain ⟨hv1, hv⟩ := List.forall_mem_cons.mp hv
  obtain ⟨hv2, hv⟩ := List.forall_mem_cons.mp hv
  refine lv_idiv hx hb hd (fun q => h0 ((an_eq0 hv1).mp q)) ?_
  rw [← an_div hv2 hv1]
  exact hs lsC H locs hn hl hH hL (List.forall_mem_cons.mpr ⟨an_okw _, hv⟩)
theorem as_irem (hc : as_Cx p R s m args meth c w M d) (hd : decode M.2.2.1 pc = .ok (.irem, 1)) (hs : am_stp C (as_X p l e R s m args below meth c w M Qf) Q (xs_do M (.irem) pc ls st h)) : as_X p l e R s m args below meth c w M Qf pc ls st h := by
  obtain ⟨hx, hb, hml, hown, hts, hK, hR, hnm⟩ := hc
  obtain ⟨x, y, r, rfl, hs⟩ := ai_pII hs
  obtain ⟨h0, hs⟩ := ai_if hs
  intro lsC H locs hn hl hH hL hv
  obtain ⟨hv1, hv⟩ := List.forall_mem_cons.mp hv
  obtain ⟨hv2, hv⟩ := List.forall_mem_cons.mp hv
  refine lv_irem hx hb hd (fun q => h0 ((an_eq0 hv1).mp q)) ?_
  rw [← an_mod hv2 hv1]
  exact hs lsC H locs hn hl hH hL (List.forall_mem_cons.mpr ⟨an_modok hv2, hv⟩)
theorem as_ineg (hc : as_Cx p R s m args meth c w M d) (hd : decode M.2.2.1 pc = .ok (.ineg, 1)) (hs : am_stp C (as_X p l e R s m args below meth c w M Qf) Q (xs_do M (.ineg) pc ls st h)) : as_X p l e R s m args below meth c w M Qf pc ls st h := by
  obtain ⟨hx, hb, hml, hown, hts, hK, hR, hnm⟩ := hc
  obtain ⟨x, r, rfl, hs⟩ := ai_pI hs
  intro lsC H locs hn hl hH hL hv
  obtain ⟨hv1, hv⟩ := List.forall_mem_cons.mp hv
  refine lv_ineg hx hb hd ?_
  rw [← an_neg x]
  exact hs lsC H locs hn hl hH hL (List.forall_mem_cons.mpr ⟨an_okw _, hv⟩)
theorem as_i2b (hc : as_Cx p R s m args meth c w M d) (hd : decode M.2.2.1 pc = .ok (.i2b, 1)) (hs : am_stp C (as_X p l e R s m args below meth c w M Qf) Q (xs_do M (.i2b) pc ls st h)) : as_X p l e R s m args below meth c w M Qf pc ls st h := by
  obtain ⟨hx, hb, hml, hown, hts, hK, hR, hnm⟩ := hc
  obtain ⟨x, r, rfl, hs⟩ := ai_pI hs
  intro lsC H locs hn hl hH hL hv
  obtain ⟨hv1, hv⟩ := List.forall_mem_cons.mp hv
  exact lv_i2b hx hb hd (an_of _).symm (hs lsC H locs hn hl hH hL (List.forall_mem_cons.mpr ⟨(an_ok32 _ : am_ok (am_b8 x)), hv⟩))
theorem as_i2s (hc : as_Cx p R s m args meth c w M d) (hd : decode M.2.2.1 pc = .ok (.i2s, 1)) (hs : am_stp C (as_X p l e R s m args below meth c w M Qf) Q (xs_do M (.i2s) pc ls st h)) : as_X p l e R s m args below meth c w M Qf pc ls st h := by
  obtain ⟨hx, hb, hml, hown, hts, hK, hR, hnm⟩ := hc
  obtain ⟨x, r, rfl, hs⟩ := ai_pI hs
  intro lsC H locs hn hl hH hL hv
  obtain ⟨hv1, hv⟩ := List.forall_mem_cons.mp hv
  exact lv_i2s hx hb hd (an_of _).symm (hs lsC H locs hn hl hH hL (List.forall_mem_cons.mpr ⟨(an_ok32 _ : am_ok (am_b16 x)), hv⟩))
theorem as_i2l (hc : as_Cx p R s m args meth c w M d) (hd : decode M.2.2.1 pc = .ok (.i2l, 1)) (hs : am_stp C (as_X p l e R s m args below meth c w M Qf) Q (xs_do M (.i2l) pc ls st h)) : as_X p l e R s m args below meth c w M Qf pc ls st h := by
  obtain ⟨hx, hb, hml, hown, hts, hK, hR, hnm⟩ := hc
  obtain ⟨x, r, rfl, hs⟩ := ai_pI hs
  intro lsC H locs hn hl hH hL hv
  obtain ⟨hv1, hv⟩ := List.forall_mem_cons.mp hv
  exact lv_i2l hx hb hd (an_i2l hv1) (hs lsC H locs hn hl hH hL (List.forall_mem_cons.mpr ⟨an_okl_of hv1, hv⟩))
theorem as_l2i (hc : as_Cx p R s m args meth c w M d) (hd : decode M.2.2.1 pc = .ok (.l2i, 1)) (hs : am_stp C (as_X p l e R s m args below meth c w M Qf) Q (xs_do M (.l2i) pc ls st h)) : as_X p l e R s m args below meth c w M Qf pc ls st h := by
  obtain ⟨hx, hb, hml, hown, hts, hK, hR, hnm⟩ := hc
  obtain ⟨x, r, rfl, hs⟩ := ai_pL hs
  intro lsC H locs hn hl hH hL hv
  obtain ⟨hv1, hv⟩ := List.forall_mem_cons.mp hv
  exact lv_l2i hx hb hd (an_l2i x) (hs lsC H locs hn hl hH hL (List.forall_mem_cons.mpr ⟨an_okw _, hv⟩))
theorem as_lmul (hc : as_Cx p R s m args meth c w M d) (hd : decode M.2.2.1 pc = .ok (.lmul, 1)) (hs : am_stp C (as_X p l e R s m args below meth c w M Qf) Q (xs_do M (.lmul) pc ls st h)) : as_X p l e R s m args below meth c w M Qf pc ls st h := by
  obtain ⟨hx, hb, hml, hown, hts, hK, hR, hnm⟩ := hc
  obtain ⟨x, y, r, rfl, hs⟩ := ai_pLL hs
  intro lsC H locs hn hl hH hL hv
  obtain ⟨hv1, hv⟩ := List.forall_mem_cons.mp hv
  obtain ⟨hv2, hv⟩ := List.forall_mem_cons.mp hv
  refine lv_lmul hx hb hd ?_
  rw [← an_mull x y]
  exact hs lsC H locs hn hl hH hL (List.forall_mem_cons.mpr ⟨an_okwl _, hv⟩)
theorem as_lrem (hc : as_Cx p R s m args meth c w M d) (hd : decode M.2.2.1 pc = .ok (.lrem, 1)) (hs : am_stp C (as_X p l e R s m args below meth c w M Qf) Q (xs_do M (.lrem) pc ls st h)) : as_X p l e R s m args below meth c w M Qf pc ls st h := by
  obtain ⟨hx, hb, hml, hown, hts, hK, hR, hnm⟩ := hc
  obtain ⟨x, y, r, rfl, hs⟩ := ai_pLL hs
  obtain ⟨h0, hs⟩ := ai_if hs
  intro lsC H locs hn hl hH hL hv
  obtain ⟨hv1, hv⟩ := List.forall_mem_cons.mp hv
  obtain ⟨hv2, hv⟩ := List.forall_mem_cons.mp hv
  refine lv_lrem hx hb hd (fun q => h0 ((an_eql hv1 (by decide : am_okl 0)).mp q)) ?_
  rw [← an_modl hv2 hv1]
  exact hs lsC H locs hn hl hH hL (List.forall_mem_cons.mpr ⟨an_modokl hv2, hv⟩)
theorem as_dup (hc : as_Cx p R s m args meth c w M d) (hd : decode M.2.2.1 pc = .ok (.dup, 1)) (hs : am_stp C (as_X p l e R s m args below meth c w M Qf) Q (xs_do M (.dup) pc ls st h)) : as_X p l e R s m args below meth c w M Qf pc ls st h := by
  obtain ⟨hx, hb, hml, hown, hts, hK, hR, hnm⟩ := hc
  rcases st with _ | ⟨v, r⟩
  · exact hs.elim
  obtain ⟨h0, hs⟩ := ai_if hs
  intro lsC H locs hn hl hH hL hv
  exact lv_dup hx hb hd ((al_cat w v).trans h0) (hs lsC H locs hn hl hH hL (List.forall_mem_cons.mpr ⟨hv v List.mem_cons_self, hv⟩))
theorem as_pop (hc : as_Cx p R s m args meth c w M d) (hd : decode M.2.2.1 pc = .ok (.pop, 1)) (hs : am_stp C (as_X p l e R s m args below meth c w M Qf) Q (xs_do M (.pop) pc ls st h)) : as_X p l e R s m args below meth c w M Qf pc ls st h := by
  obtain ⟨hx, hb, hml, hown, hts, hK, hR, hnm⟩ := hc
  rcases st with _ | ⟨v, r⟩
  · exact hs.elim
  obtain ⟨h0, hs⟩ := ai_if hs
  intro lsC H locs hn hl hH hL hv
  exact lv_pop hx hb hd ((al_cat w v).trans h0) (hs lsC H locs hn hl hH hL (List.forall_mem_cons.mp hv).2)
theorem as_dup2 (hc : as_Cx p R s m args meth c w M d) (hd : decode M.2.2.1 pc = .ok (.dup2, 1)) (hs : am_stp C (as_X p l e R s m args below meth c w M Qf) Q (xs_do M (.dup2) pc ls st h)) : as_X p l e R s m args below meth c w M Qf pc ls st h := by
  obtain ⟨hx, hb, hml, hown, hts, hK, hR, hnm⟩ := hc
  rcases st with _ | ⟨v, _ | ⟨u, r⟩⟩
  · exact hs.elim
  · exact hs.elim
  obtain ⟨h0, hs⟩ := ai_if hs
  intro lsC H locs hn hl hH hL hv
  exact lv_dup2_11 hx hb hd ((al_cat w v).trans h0.1) ((al_cat w u).trans h0.2) (hs lsC H locs hn hl hH hL (List.forall_mem_cons.mpr ⟨hv v List.mem_cons_self, List.forall_mem_cons.mpr ⟨hv u (List.mem_cons_of_mem _ List.mem_cons_self), hv⟩⟩))
theorem as_goto {off : Int} (hc : as_Cx p R s m args meth c w M d) (hd : decode M.2.2.1 pc = .ok (.goto off, 3)) (hs : am_stp C (as_X p l e R s m args below meth c w M Qf) Q (xs_do M (.goto off) pc ls st h)) : as_X p l e R s m args below meth c w M Qf pc ls st h := by
  obtain ⟨hx, hb, hml, hown, hts, hK, hR, hnm⟩ := hc
  have hs : am_stp C _ Q (am_jmp pc off fun t => am_go t ls st h) := hs
  obtain ⟨t, h0, hs⟩ := ai_jmp hs
  intro lsC H locs hn hl hH hL hv
  exact lv_goto hx hb hd h0 (hs lsC H locs hn hl hH hL hv)
theorem as_icmp_eq {off : Int} (hc : as_Cx p R s m args meth c w M d) (hd : decode M.2.2.1 pc = .ok (.if_icmp .eq off, 3)) (hs : am_stp C (as_X p l e R s m args below meth c w M Qf) Q (xs_do M (.if_icmp .eq off) pc ls st h)) : as_X p l e R s m args below meth c w M Qf pc ls st h := by
  obtain ⟨hx, hb, hml, hown, hts, hK, hR, hnm⟩ := hc
  have hs : am_stp C _ Q (am_pII st fun x y r => am_jmp pc off fun t => am_go (if am_cmp .eq x y = true then t else pc + 3) ls r h) := hs
  obtain ⟨x, y, r, rfl, hs2⟩ := ai_pII hs
  obtain ⟨t, h0, hs3⟩ := ai_jmp hs2
  intro lsC H locs hn hl hH hL hv
  obtain ⟨hv1, hv⟩ := List.forall_mem_cons.mp hv
  obtain ⟨hv2, hv⟩ := List.forall_mem_cons.mp hv
  have he := an_eq hv2 hv1
  have k := hs3 lsC H locs hn hl hH hL hv
  by_cases hp : x = y
  · rw [if_pos (show am_cmp .eq x y = true from decide_eq_true hp)] at k
    exact lv_icmp_eq hx hb hd h0 (fun _ => k) (fun q => absurd (he.mpr hp) q)
  · rw [if_neg (show ¬ am_cmp .eq x y = true from fun q => hp (of_decide_eq_true q))] at k
    exact lv_icmp_eq hx hb hd h0 (fun q => absurd (he.mp q) hp) (fun _ => k)
theorem as_if_eq {off : Int} (hc : as_Cx p R s m args meth c w M d) (hd : decode M.2.2.1 pc = .ok (.ifCond .eq off, 3)) (hs : am_stp C (as_X p l e R s m args below meth c w M Qf) Q (xs_do M (.ifCond .eq off) pc ls st h)) : as_X p l e R s m args below meth c w M Qf pc ls st h := by
  obtain ⟨hx, hb, hml, hown, hts, hK, hR, hnm⟩ := hc
  have hs : am_stp C _ Q (am_pI st fun x r => am_jmp pc off fun t => am_go (if am_cmp .eq x 0 = true then t else pc + 3) ls r h) := hs
  obtain ⟨x, r, rfl, hs2⟩ := ai_pI hs
  obtain ⟨t, h0, hs3⟩ := ai_jmp hs2
  intro lsC H locs hn hl hH hL hv
  obtain ⟨hv2, hv⟩ := List.forall_mem_cons.mp hv
  have he := an_eq hv2 an_ok0
  have k := hs3 lsC H locs hn hl hH hL hv
  by_cases hp : x = 0
  · rw [if_pos (show am_cmp .eq x 0 = true from decide_eq_true hp)] at k
    exact lv_if_eq hx hb hd h0 (fun _ => k) (fun q => absurd (he.mpr hp) q)
  · rw [if_neg (show ¬ am_cmp .eq x 0 = true from fun q => hp (of_decide_eq_true q))] at k
    exact lv_if_eq hx hb hd h0 (fun q => absurd (he.mp q) hp) (fun _ => k)
theorem as_icmp_ne {off : Int} (hc : as_Cx p R s m args meth c w M d) (hd : decode M.2.2.1 pc = .ok (.if_icmp .ne off, 3)) (hs : am_stp C (as_X p l e R s m args below meth c w M Qf) Q (xs_do M (.if_icmp .ne off) pc ls st h)) : as_X p l e R s m args below meth c w M Qf pc ls st h := by
  obtain ⟨hx, hb, hml, hown, hts, hK, hR, hnm⟩ := hc
  have hs : am_stp C _ Q (am_pII st fun x y r => am_jmp pc off fun t => am_go (if am_cmp .ne x y = true then t else pc + 3) ls r h) := hs
  obtain ⟨x, y, r, rfl, hs2⟩ := ai_pII hs
  obtain ⟨t, h0, hs3⟩ := ai_jmp hs2
  intro lsC H locs hn hl hH hL hv
  obtain ⟨hv1, hv⟩ := List.forall_mem_cons.mp hv
  obtain ⟨hv2, hv⟩ := List.forall_mem_cons.mp hv
  have he := an_eq hv2 hv1
  have k := hs3 lsC H locs hn hl hH hL hv
  by_cases hp : x = y
  · rw [if_neg (show ¬ am_cmp .ne x y = true by simp [am_cmp, hp])] at k
    exact lv_icmp_ne hx hb hd h0 (fun q => ((q (he.mpr hp))).elim) (fun _ => k)
  · rw [if_pos (show am_cmp .ne x y = true by simp [am_cmp, hp])] at k
    exact lv_icmp_ne hx hb hd h0 (fun _ => k) (fun q => ((fun z => hp (he.mp z)) q).elim)
theorem as_if_ne {off : Int} (hc : as_Cx p R s m args meth c w M d) (hd : decode M.2.2.1 pc = .ok (.ifCond .ne off, 3)) (hs : am_stp C (as_X p l e R s m args below meth c w M Qf) Q (xs_do M (.ifCond .ne off) pc ls st h)) : as_X p l e R s m args below meth c w M Qf pc ls st h := by
  obtain ⟨hx, hb, hml, hown, hts, hK, hR, hnm⟩ := hc
  have hs : am_stp C _ Q (am_pI st fun x r => am_jmp pc off fun t => am_go (if am_cmp .ne x 0 = true then t else pc + 3) ls r h) := hs
  obtain ⟨x, r, rfl, hs2⟩ := ai_pI hs
  obtain ⟨t, h0, hs3⟩ := ai_jmp hs2
  intro lsC H locs hn hl hH hL hv
  obtain ⟨hv2, hv⟩ := List.forall_mem_cons.mp hv
  have he := an_eq hv2 an_ok0
  have k := hs3 lsC H locs hn hl hH hL hv
  by_cases hp : x = 0
  · rw [if_neg (show ¬ am_cmp .ne x 0 = true by simp [am_cmp, hp])] at k
    exact lv_if_ne hx hb hd h0 (fun q => ((q (he.mpr hp))).elim) (fun _ => k)
  · rw [if_pos (show am_cmp .ne x 0 = true by simp [am_cmp, hp])] at k
    exact lv_if_ne hx hb hd h0 (fun _ => k) (fun q => ((fun z => hp (he.mp z)) q).elim)
theorem as_icmp_lt {off : Int} (hc : as_Cx p R s m args meth c w M d) (hd : decode M.2.2.1 pc = .ok (.if_icmp .lt off, 3)) (hs : am_stp C (as_X p l e R s m args below meth c w M Qf) Q (xs_do M (.if_icmp .lt off) pc ls st h)) : as_X p l e R s m args below meth c w M Qf pc ls st h := by
  obtain ⟨hx, hb, hml, hown, hts, hK, hR, hnm⟩ := hc
  have hs : am_stp C _ Q (am_pII st fun x y r => am_jmp pc off fun t => am_go (if am_cmp .lt x y = true then t else pc + 3) ls r h) := hs
  obtain ⟨x, y, r, rfl, hs2⟩ := ai_pII hs
  obtain ⟨t, h0, hs3⟩ := ai_jmp hs2
  intro lsC H locs hn hl hH hL hv
  obtain ⟨hv1, hv⟩ := List.forall_mem_cons.mp hv
  obtain ⟨hv2, hv⟩ := List.forall_mem_cons.mp hv
  have he := an_lt hv2 hv1
  have k := hs3 lsC H locs hn hl hH hL hv
  by_cases hp : x < y
  · rw [if_pos (show am_cmp .lt x y = true from decide_eq_true hp)] at k
    exact lv_icmp_lt hx hb hd h0 (fun _ => k) (fun q => absurd (he.mpr hp) q)
  · rw [if_neg (show ¬ am_cmp .lt x y = true from fun q => hp (of_decide_eq_true q))] at k
    exact lv_icmp_lt hx hb hd h0 (fun q => absurd (he.mp q) hp) (fun _ => k)
theorem as_if_lt {off : Int} (hc : as_Cx p R s m args meth c w M d) (hd : decode M.2.2.1 pc = .ok (.ifCond .lt off, 3)) (hs : am_stp C (as_X p l e R s m args below meth c w M Qf) Q (xs_do M (.ifCond .lt off) pc ls st h)) : as_X p l e R s m args below meth c w M Qf pc ls st h := by
  obtain ⟨hx, hb, hml, hown, hts, hK, hR, hnm⟩ := hc
  have hs : am_stp C _ Q (am_pI st fun x r => am_jmp pc off fun t => am_go (if am_cmp .lt x 0 = true then t else pc + 3) ls r h) := hs
  obtain ⟨x, r, rfl, hs2⟩ := ai_pI hs
  obtain ⟨t, h0, hs3⟩ := ai_jmp hs2
  intro lsC H locs hn hl hH hL hv
  obtain ⟨hv2, hv⟩ := List.forall_mem_cons.mp hv
  have he := an_lt hv2 an_ok0
  have k := hs3 lsC H locs hn hl hH hL hv
  by_cases hp : x < 0
  · rw [if_pos (show am_cmp .lt x 0 = true from decide_eq_true hp)] at k
    exact lv_if_lt hx hb hd h0 (fun _ => k) (fun q => absurd (he.mpr hp) q)
  · rw [if_neg (show ¬ am_cmp .lt x 0 = true from fun q => hp (of_decide_eq_true q))] at k
    exact lv_if_lt hx hb hd h0 (fun q => absurd (he.mp q) hp) (fun _ => k)
theorem as_icmp_ge {off : Int} (hc : as_Cx p R s m args meth c w M d) (hd : decode M.2.2.1 pc = .ok (.if_icmp .ge off, 3)) (hs : am_stp C (as_X p l e R s m args below meth c w M Qf) Q (xs_do M (.if_icmp .ge off) pc ls st h)) : as_X p l e R s m args below meth c w M Qf pc ls st h := by
  obtain ⟨hx, hb, hml, hown, hts, hK, hR, hnm⟩ := hc
  have hs : am_stp C _ Q (am_pII st fun x y r => am_jmp pc off fun t => am_go (if am_cmp .ge x y = true then t else pc + 3) ls r h) := hs
  obtain ⟨x, y, r, rfl, hs2⟩ := ai_pII hs
  obtain ⟨t, h0, hs3⟩ := ai_jmp hs2
  intro lsC H locs hn hl hH hL hv
  obtain ⟨hv1, hv⟩ := List.forall_mem_cons.mp hv
  obtain ⟨hv2, hv⟩ := List.forall_mem_cons.mp hv
  have he := an_lt hv2 hv1
  have k := hs3 lsC H locs hn hl hH hL hv
  by_cases hp : x < y
  · rw [if_neg (show ¬ am_cmp .ge x y = true by simp [am_cmp, hp])] at k
    exact lv_icmp_ge hx hb hd h0 (fun q => ((Int32.not_lt.mpr q) (he.mpr hp)).elim) (fun _ => k)
  · rw [if_pos (show am_cmp .ge x y = true by simp [am_cmp, hp])] at k
    exact lv_icmp_ge hx hb hd h0 (fun _ => k) (fun q => (q (Int32.not_lt.mp (fun z => hp (he.mp z)))).elim)
theorem as_if_ge {off : Int} (hc : as_Cx p R s m args meth c w M d) (hd : decode M.2.2.1 pc = .ok (.ifCond .ge off, 3)) (hs : am_stp C (as_X p l e R s m args below meth c w M Qf) Q (xs_do M (.ifCond .ge off) pc ls st h)) : as_X p l e R s m args below meth c w M Qf pc ls st h := by
  obtain ⟨hx, hb, hml, hown, hts, hK, hR, hnm⟩ := hc
  have hs : am_stp C _ Q (am_pI st fun x r => am_jmp pc off fun t => am_go (if am_cmp .ge x 0 = true then t else pc + 3) ls r h) := hs
  obtain ⟨x, r, rfl, hs2⟩ := ai_pI hs
  obtain ⟨t, h0, hs3⟩ := ai_jmp hs2
  intro lsC H locs hn hl hH hL hv
  obtain ⟨hv2, hv⟩ := List.forall_mem_cons.mp hv
  have he := an_lt hv2 an_ok0
  have k := hs3 lsC H locs hn hl hH hL hv
  by_cases hp : x < 0
  · rw [if_neg (show ¬ am_cmp .ge x 0 = true by simp [am_cmp, hp])] at k
    exact lv_if_ge hx hb hd h0 (fun q => ((Int32.not_lt.mpr q) (he.mpr hp)).elim) (fun _ => k)
  · rw [if_pos (show am_cmp .ge x 0 = true by simp [am_cmp, hp])] at k
    exact lv_if_ge hx hb hd h0 (fun _ => k) (fun q => (q (Int32.not_lt.mp (fun z => hp (he.mp z)))).elim)
theorem as_icmp_gt {off : Int} (hc : as_Cx p R s m args meth c w M d) (hd : decode M.2.2.1 pc = .ok (.if_icmp .gt off, 3)) (hs : am_stp C (as_X p l e R s m args below meth c w M Qf) Q (xs_do M (.if_icmp .gt off) pc ls st h)) : as_X p l e R s m args below meth c w M Qf pc ls st h := by
  obtain ⟨hx, hb, hml, hown, hts, hK, hR, hnm⟩ := hc
  have hs : am_stp C _ Q (am_pII st fun x y r => am_jmp pc off fun t => am_go (if am_cmp .gt x y = true then t else pc + 3) ls r h) := hs
  obtain ⟨x, y, r, rfl, hs2⟩ := ai_pII hs
  obtain ⟨t, h0, hs3⟩ := ai_jmp hs2
  intro lsC H locs hn hl hH hL hv
  obtain ⟨hv1, hv⟩ := List.forall_mem_cons.mp hv
  obtain ⟨hv2, hv⟩ := List.forall_mem_cons.mp hv
  have he := an_le hv2 hv1
  have k := hs3 lsC H locs hn hl hH hL hv
  by_cases hp : x ≤ y
  · rw [if_neg (show ¬ am_cmp .gt x y = true by simp [am_cmp, hp])] at k
    exact lv_icmp_gt hx hb hd h0 (fun q => ((Int32.not_le.mpr q) (he.mpr hp)).elim) (fun _ => k)
  · rw [if_pos (show am_cmp .gt x y = true by simp [am_cmp, hp])] at k
    exact lv_icmp_gt hx hb hd h0 (fun _ => k) (fun q => (q (Int32.not_le.mp (fun z => hp (he.mp z)))).elim)
theorem as_if_gt {off : Int} (hc : as_Cx p R s m args meth c w M d) (hd : decode M.2.2.1 pc = .ok (.ifCond .gt off, 3)) (hs : am_stp C (as_X p l e R s m args below meth c w M Qf) Q (xs_do M (.ifCond .gt off) pc ls st h)) : as_X p l e R s m args below meth c w M Qf pc ls st h := by
  obtain ⟨hx, hb, hml, hown, hts, hK, hR, hnm⟩ := hc
  have hs : am_stp C _ Q (am_pI st fun x r => am_jmp pc off fun t => am_go (if am_cmp .gt x 0 = true then t else pc + 3) ls r h) := hs
  obtain ⟨x, r, rfl, hs2⟩ := ai_pI hs
  obtain ⟨t, h0, hs3⟩ := ai_jmp hs2
  intro lsC H locs hn hl hH hL hv
  obtain ⟨hv2, hv⟩ := List.forall_mem_cons.mp hv
  have he := an_le hv2 an_ok0
  have k := hs3 lsC H locs hn hl hH hL hv
  by_cases hp : x ≤ 0
  · rw [if_neg (show ¬ am_cmp .gt x 0 = true by simp [am_cmp, hp])] at k
    exact lv_if_gt hx hb hd h0 (fun q => ((Int32.not_le.mpr q) (he.mpr hp)).elim) (fun _ => k)
  · rw [if_pos (show am_cmp .gt x 0 = true by simp [am_cmp, hp])] at k
    exact lv_if_gt hx hb hd h0 (fun _ => k) (fun q => (q (Int32.not_le.mp (fun z => hp (he.mp z)))).elim)
theorem as_icmp_le {off : Int} (hc : as_Cx p R s m args meth c w M d) (hd : decode M.2.2.1 pc = .ok (.if_icmp .le off, 3)) (hs : am_stp C (as_X p l e R s m args below meth c w M Qf) Q (xs_do M (.if_icmp .le off) pc ls st h)) : as_X p l e R s m args below meth c w M Qf pc ls st h := by
  obtain ⟨hx, hb, hml, hown, hts, hK, hR, hnm⟩ := hc
  have hs : am_stp C _ Q (am_pII st fun x y r => am_jmp pc off fun t => am_go (if am_cmp .le x y = true then t else pc + 3) ls r h) := hs
  obtain ⟨x, y, r, rfl, hs2⟩ := ai_pII hs
  obtain ⟨t, h0, hs3⟩ := ai_jmp hs2
  intro lsC H locs hn hl hH hL hv
  obtain ⟨hv1, hv⟩ := List.forall_mem_cons.mp hv
  obtain ⟨hv2, hv⟩ := List.forall_mem_cons.mp hv
  have he := an_le hv2 hv1
  have k := hs3 lsC H locs hn hl hH hL hv
  by_cases hp : x ≤ y
  · rw [if_pos (show am_cmp .le x y = true from decide_eq_true hp)] at k
    exact lv_icmp_le hx hb hd h0 (fun _ => k) (fun q => absurd (he.mpr hp) q)
  · rw [if_neg (show ¬ am_cmp .le x y = true from fun q => hp (of_decide_eq_true q))] at k
    exact lv_icmp_le hx hb hd h0 (fun q => absurd (he.mp q) hp) (fun _ => k)
theorem as_if_le {off : Int} (hc : as_Cx p R s m args meth c w M d) (hd : decode M.2.2.1 pc = .ok (.ifCond .le off, 3)) (hs : am_stp C (as_X p l e R s m args below meth c w M Qf) Q (xs_do M (.ifCond .le off) pc ls st h)) : as_X p l e R s m args below meth c w M Qf pc ls st h := by
  obtain ⟨hx, hb, hml, hown, hts, hK, hR, hnm⟩ := hc
  have hs : am_stp C _ Q (am_pI st fun x r => am_jmp pc off fun t => am_go (if am_cmp .le x 0 = true then t else pc + 3) ls r h) := hs
  obtain ⟨x, r, rfl, hs2⟩ := ai_pI hs
  obtain ⟨t, h0, hs3⟩ := ai_jmp hs2
  intro lsC H locs hn hl hH hL hv
  obtain ⟨hv2, hv⟩ := List.forall_mem_cons.mp hv
  have he := an_le hv2 an_ok0
  have k := hs3 lsC H locs hn hl hH hL hv
  by_cases hp : x ≤ 0
  · rw [if_pos (show am_cmp .le x 0 = true from decide_eq_true hp)] at k
    exact lv_if_le hx hb hd h0 (fun _ => k) (fun q => absurd (he.mpr hp) q)
  · rw [if_neg (show ¬ am_cmp .le x 0 = true from fun q => hp (of_decide_eq_true q))] at k
    exact lv_if_le hx hb hd h0 (fun q => absurd (he.mp q) hp) (fun _ => k)
theorem as_tsw {df lo hi : Int} {offs : Array Int} {n : Nat} (hc : as_Cx p R s m args meth c w M d) (hd : decode M.2.2.1 pc = .ok (.tableswitch df lo hi offs, n)) (hs : am_stp C (as_X p l e R s m args below meth c w M Qf) Q (xs_do M (.tableswitch df lo hi offs) pc ls st h)) : as_X p l e R s m args below meth c w M Qf pc ls st h := by
  obtain ⟨hx, hb, hml, hown, hts, hK, hR, hnm⟩ := hc
  have hs : am_stp C _ Q (am_pI st fun x r => if x < lo ∨ hi < x then am_jmp pc df fun t => am_go t ls r h else am_opt (offs[(x - lo).toNat]?) fun off => am_jmp pc off fun t => am_go t ls r h) := hs
  obtain ⟨x, r, rfl, hs2⟩ := ai_pI hs
  intro lsC H locs hn hl hH hL hv
  obtain ⟨hv1, hv⟩ := List.forall_mem_cons.mp hv
  have e9 : (Int32.ofInt x).toInt = x := an_id hv1
  split at hs2
  · rename_i h0
    obtain ⟨t, h1, hs⟩ := ai_jmp hs2
    exact lv_tableOut hx hb hd (by rw [e9]; exact h0) h1 (hs lsC H locs hn hl hH hL hv)
  · rename_i h0
    obtain ⟨off, h2, hs⟩ := ai_opt hs2
    obtain ⟨t, h1, hs⟩ := ai_jmp hs
    exact lv_tableIn hx hb hd (by rw [e9]; exact fun q => h0 (Or.inl q)) (by rw [e9]; exact fun q => h0 (Or.inr q)) (by rw [e9]; exact h2) h1 (hs lsC H locs hn hl hH hL hv)
end
end
section
/-! ===== fields, arrays, makings ===== -/
theorem as_misc {w : Cond} (h : w ∈ ([.arrayClass .int, .arrayClass .boolean, .instanceMethod objectInit, .native arraycopyName, .static arraycopyName, .initialized "java/lang/System", .initialized "java/lang/Math", .static Lib.Math.max.name, .static Lib.Math.min.name, .static Lib.Math.abs.name] : List Cond)) : w ∈ xr_wds := by
  have := List.all_eq_true.mp xr_misc w h
  simp only [Bool.and_eq_true] at this
  exact List.mem_filter.mpr ⟨List.contains_iff_mem.mp this.2, this.1⟩
section
variable {p : Program} {l : Launch} {e : Env} {R : Room} {s : State} {m : MethodId} {args : Array Value} {below : List Frame} {meth : Method} {c : Code} {w : am_W} {M : am_M} {d : Nat} {Qf : State → Prop} {C : am_Cal} {Q : am_Post} {pc : Nat} {ls : am_L} {st : List am_V} {h : am_H}
theorem as_getfield {ix : Nat} (hc : as_Cx p R s m args meth c w M d) (hd : decode M.2.2.1 pc = .ok (.getfield ix, 3)) (hs : am_stp C (as_X p l e R s m args below meth c w M Qf) Q (xs_do M (.getfield ix) pc ls st h)) : as_X p l e R s m args below meth c w M Qf pc ls st h := by
  obtain ⟨hx, hb, hml, hown, hts, hK, hR, hnm⟩ := hc
  have hs : am_stp C _ Q (am_getf xr_fld xr_ref xr_num M ix pc ls st h) := hs
  unfold am_getf at hs
  obtain ⟨a, r, rfl, hs2⟩ := ai_pR hs
  obtain ⟨q, hq, hs3⟩ := ai_opt hs2
  obtain ⟨ki, n, rs, hsh, hs4⟩ := ai_sh hs3
  obtain ⟨⟨h3, hki, hk⟩, hs5⟩ := ai_if hs4
  obtain ⟨h8, hlink⟩ := xs_fld hq
  subst hki
  intro lsC H locs hn hl hH hL hv
  obtain ⟨-, hv⟩ := List.forall_mem_cons.mp hv
  have hat := (hH.1 a _ h3 hsh).1
  rw [ah_en_obj (show q.1 < 100 by omega)] at hat
  have key : ∀ v, (am_fs w (q.1, n, rs) (h.2.2.2 a))[q.2]? = some v → W p l e R s m args below meth c H locs h.2.1 h.2.2.1 Qf (F0 m (pc + 3) lsC (v :: r.map (am_cv w))) → W p l e R s m args below meth c H locs h.2.1 h.2.2.1 Qf (F0 m pc lsC (.ref (am_ad w a) :: r.map (am_cv w))) := fun v hv k =>
    va_get (ws := [(am_ad w a, .inr (q.1, am_fs w (q.1, n, rs) (h.2.2.2 a)))]) hx hb hts (ah_lays h8) hown hK.1 (ah_one hat) 0 rfl (xr_clat q.1 h8) q.2 hk (hts _ hlink) (fun _ h9 => h9) hv hd k
  split at hs5
  · rename_i hr
    obtain ⟨t, ht, hs6⟩ := ai_rfs hs5
    refine key (.ref (am_ad w t)) ?_ (hs6 lsC H locs hn hl hH hL (List.forall_mem_cons.mpr ⟨trivial, hv⟩))
    rw [ah_fs_get (show q.2 < xr_num (q.1, n, rs).1 from hk)]
    unfold am_fv
    rw [if_pos hr, List.getD_eq_getElem?_getD, ht]
    rfl
  · rename_i hr
    refine key (.int (Int32.ofInt (h.2.2.2 a q.2))) ?_ (hs5 lsC H locs hn hl hH hL (List.forall_mem_cons.mpr ⟨hH.2.2.2.2 a q.2, hv⟩))
    rw [ah_fs_get (show q.2 < xr_num (q.1, n, rs).1 from hk)]
    unfold am_fv
    rw [if_neg hr]
theorem as_put {ix ci k a : Nat} {fs : List Value} {v : Value} {rest : List Value} {lsC : Array Slot} {H : Heap} {locs : List Loc} {cells slots : Nat} (hc : as_Cx p R s m args meth c w M d) (hd : decode M.2.2.1 pc = .ok (.putfield ix, 3)) (hq : xr_fld M.1 ix = some (ci, k)) (hk : k < xr_num ci) (hlen : fs.length = xr_num ci)
    (hfin : xr_fin ci k = true → M.2.1.name = "<init>" ∧ ci = M.1) (hn : narrow (xr_ty ci k) v = v) (hf : fits (xr_ty ci k) v = true) (hat : va_at (aw_D w) xr_cl (a, .inr (ci, fs)) H)
    (kk : ∀ H' : Heap, va_at (aw_D w) xr_cl (a, .inr (ci, fs.set k v)) H' → H'.size = H.size → (∀ q, q ≠ a → H'[q]? = H[q]?) → W p l e R s m args below meth c H' (locs ++ [⟨a, (aw_D w).2 ci k⟩]) cells slots Qf (F0 m (pc + 3) lsC rest)) : W p l e R s m args below meth c H locs cells slots Qf (F0 m pc lsC (v :: .ref a :: rest)) := by
  obtain ⟨hx, hb, hml, hown, hts, hK, hR, hnm⟩ := hc
  obtain ⟨h8, hlink⟩ := xs_fld hq
  dsimp only at h8 hlink
  have hcl := xr_clat ci h8
  have hin := ah_lays h8
  have hap := va_apart (own := xr_R M.1) hts hin (xr_ty ci) (xr_tyok ci h8) (xr_nm ci h8) hK.1 hcl
  obtain ⟨r, h1, cell, q1, q2, q3, q4⟩ := hat
  have hr : r = (xr_R ci, xr_T ci, xr_num ci) := Option.some.inj (h1.symm.trans hcl)
  subst hr
  obtain ⟨hS, hfc, kC, hkC, hkind⟩ := hK.1.1 ci _ hcl
  obtain ⟨cf, kf, fi, f, hi, hsl⟩ := hS k hk
  have hlay := hts _ (hin _ (u_in_lay hk))
  unfold u_lay at hlay
  have hst := (u_facts hfc hkC (u_lays hts hin hk) hi).1
  have fin : ∀ H' : Heap, H'[a]? = some (cell.setSlot ((aw_D w).2 ci k) v) → H'.size = H.size → (∀ q, q ≠ a → H'[q]? = H[q]?) → W p l e R s m args below meth c H' (locs ++ [⟨a, (aw_D w).2 ci k⟩]) cells slots Qf (F0 m (pc + 3) lsC rest) := fun H' e1 e2 e3 =>
    kk H' ⟨_, hcl, t_OB.to (V := updV (vp_V fs) k v) ⟨_, e1, q2, q3, t_set q4 hap hk v⟩ (fun j _ => vp_updV_set (by rw [hlen]; exact hk) v j)⟩ e2 e3
  by_cases hfi : (xr_T ci k).2.2.2 = true
  · rw [if_pos hfi] at hlay
    obtain ⟨hi1, hi2⟩ := hfin hfi
    have hdecl : (xr_T ci k).1 = xr_R M.1 := by rw [xr_own ci h8 k hk, hi2]
    have hcf : m.cls = cf := by
      obtain ⟨_, _, c', _, _, _, -, -, hf', -, -, -, hown2, -⟩ := Cond.laysFinal_spec hlay
      have e1 : c' = cf := by have := hi.symm.trans hf'; simp at this; exact this.1.symm
      rw [hdecl] at hown2
      rw [← e1]; exact Option.some.inj (hown.symm.trans hown2)
    have h6 := u_fits hfc hkC hkind (Or.inr hlay) hi (xr_tyok ci h8 k hk) hn hf
    refine W.putFinK hx hb hown (hts _ hlink) hi hst hcf (hnm.trans hi1) (by rw [q2]; exact h6) q1 q3 (by rw [hsl]; exact k2_hasslot (q4 k hk)) rfl rfl hd fun H' e1 e2 e3 => ?_
    rw [hsl] at e1 ⊢
    exact fin H' e1 e2 e3
  · rw [if_neg hfi] at hlay
    have h6 := u_store hfc hkC hkind hlay hi (xr_tyok ci h8 k hk) hn hf
    refine W.putK hx hb (f := f) ⟨hown, hts _ hlink, ⟨_, _, _, hi⟩, hst⟩ (by rw [q2]; exact h6) q1 q3 (by rw [hsl]; exact k2_hasslot (q4 k hk)) rfl rfl hd fun H' e1 e2 e3 => ?_
    rw [hsl] at e1 ⊢
    exact fin H' e1 e2 e3
theorem as_locs {locs : List Loc} {bs a i : Nat} (hL : ∀ q ∈ locs, bs ≤ q.base) (ha : bs ≤ a) : ∀ q ∈ locs ++ [⟨a, i⟩], bs ≤ q.base := by
  intro q hq
  rcases List.mem_append.mp hq with h1 | h1
  · exact hL q h1
  · rw [List.mem_singleton] at h1
    subst h1
    exact ha
theorem as_ge {a : Nat} (h3 : 3 ≤ a) : aw_bs w ≤ am_ad w a := by rw [ah_ad h3]; omega
theorem as_tyi {ci k : Nat} (h : xr_ref ci k = false) : xr_ty ci k = .int := by
  unfold xr_ref at h
  split at h
  · assumption
  · cases h
theorem as_tyr : ∀ ci, ci < 8 → ∀ k, k < xr_num ci → xr_ref ci k = true → ∀ a : Nat, narrow (xr_ty ci k) (.ref a) = .ref a ∧ fits (xr_ty ci k) (.ref a) = true := by
  intro ci h8 k hk hr a
  have h2 : ∀ ci, ci < 8 → ∀ k, k < xr_num ci → xr_ref ci k = true → (match xr_ty ci k with | .object _ => true | .array _ => true | _ => false) = true := by decide +kernel
  have h3 := h2 ci h8 k hk hr
  cases ht : xr_ty ci k with
  | object C => exact ⟨rfl, rfl⟩
  | array t => exact ⟨rfl, rfl⟩
  | _ => rw [ht] at h3; cases h3
theorem as_putfield {ix : Nat} (hc : as_Cx p R s m args meth c w M d) (hd : decode M.2.2.1 pc = .ok (.putfield ix, 3)) (hs : am_stp C (as_X p l e R s m args below meth c w M Qf) Q (xs_do M (.putfield ix) pc ls st h)) : as_X p l e R s m args below meth c w M Qf pc ls st h := by
  have hs : am_stp C _ Q (am_putf xr_fld xr_ref xr_num xr_fin M ix pc ls st h) := hs
  unfold am_putf at hs
  obtain ⟨a, v, r, rfl, hs2⟩ := ai_pRV hs
  obtain ⟨q, hq, hs3⟩ := ai_opt hs2
  obtain ⟨ki, n, rs, hsh, hs4⟩ := ai_sh hs3
  obtain ⟨⟨h3, hki, hk, hfin⟩, hs5⟩ := ai_if hs4
  obtain ⟨h8, hlink⟩ := xs_fld hq
  subst hki
  intro lsC H locs hn hl hH hL hv
  obtain ⟨hv1, hvA⟩ := List.forall_mem_cons.mp hv
  obtain ⟨-, hvB⟩ := List.forall_mem_cons.mp hvA
  have hat := (hH.1 a _ h3 hsh).1
  rw [ah_en_obj (show q.1 < 100 by omega)] at hat
  rcases v with z | z | t
  · obtain ⟨hr, hs6⟩ := ai_if hs5
    refine as_put (v := .int (Int32.ofInt z)) hc hd hq hk (ah_fs_len _ _ _) hfin (by rw [as_tyi hr]; rfl) (by rw [as_tyi hr]; rfl) hat (fun H' e1 e2 e3 => ?_)
    refine hs6 lsC H' _ hn hl (ah_set' hH h3 hsh e2 e3 ?_ (fun b hb => ah_up_ne _ _ _ hb) (fun j => ah_up_ok hH.2.2.2.2 hv1 a j)) (as_locs hL (as_ge h3)) hvB
    rw [ah_en_obj (show q.1 < 100 by omega), ah_up_self, ah_fs_seti hr]
    exact e1
  · exact hs5.elim
  · obtain ⟨⟨hr, hrl⟩, hs6⟩ := ai_if hs5
    have ht := as_tyr q.1 h8 q.2 hk hr (am_ad w t)
    refine as_put (v := .ref (am_ad w t)) hc hd hq hk (ah_fs_len _ _ _) hfin ht.1 ht.2 hat (fun H' e1 e2 e3 => ?_)
    refine hs6 lsC H' _ hn hl (ah_set (e' := (q.1, n, rs.set q.2 (t + 1))) (σ' := h.2.2.2) hH h3 hsh e2 e3 ?_ (fun _ => h8) (fun b hb => rfl) (fun j => hH.2.2.2.2 a j)) (as_locs hL (as_ge h3)) hvB
    rw [ah_en_obj (show q.1 < 100 by omega), ah_fs_setr hr hrl]
    exact e1
theorem as_getstatic {ix : Nat} (hc : as_Cx p R s m args meth c w M d) (hd : decode M.2.2.1 pc = .ok (.getstatic ix, 3)) (hs : am_stp C (as_X p l e R s m args below meth c w M Qf) Q (xs_do M (.getstatic ix) pc ls st h)) : as_X p l e R s m args below meth c w M Qf pc ls st h := by
  obtain ⟨hx, hb, hml, hown, hts, hK, hR, hnm⟩ := hc
  obtain ⟨a, hq, hs2⟩ := ai_opt hs
  obtain ⟨h3, hs3⟩ := ai_if hs2
  obtain ⟨h12, hlink⟩ := xs_gst hq
  intro lsC H locs hn hl hH hL hv
  have k := hs3 lsC H locs hn hl hH hL (List.forall_mem_cons.mpr ⟨trivial, hv⟩)
  obtain ⟨cf, kf, fi, f, z, cell, g1, g2, g3, g4, g5, g6, g7, g8⟩ := hK.2.2.1 a h12
  refine W.gets hx hb hown (hts _ hlink) g1 g2 g3 g4 (cell₁ := cell) (v := .ref (aw_zz w a)) ?_ (fun e => by rw [e] at g6; cases g6) g7 rfl hd ?_
  · rw [hH.2.2.2.1 z (Nat.not_le.mp g8)]; exact g5
  · rw [List.map_cons, show am_cv w (am_r a) = .ref (aw_zz w a) from congrArg Value.ref (if_pos h3)] at k
    exact k
theorem as_iaload (hc : as_Cx p R s m args meth c w M d) (hd : decode M.2.2.1 pc = .ok (.iaload, 1)) (hs : am_stp C (as_X p l e R s m args below meth c w M Qf) Q (xs_do M (.iaload) pc ls st h)) : as_X p l e R s m args below meth c w M Qf pc ls st h := by
  obtain ⟨hx, hb, hml, hown, hts, hK, hR, hnm⟩ := hc
  obtain ⟨a, j, r, rfl, hs2⟩ := ai_pRI hs
  obtain ⟨ki, n, rs, hsh, hs3⟩ := ai_sh hs2
  obtain ⟨⟨rfl, hj0, hj1⟩, hs4⟩ := ai_if hs3
  intro lsC H locs hn hl hH hL hv
  obtain ⟨hv1, hv⟩ := List.forall_mem_cons.mp hv
  obtain ⟨-, hv⟩ := List.forall_mem_cons.mp hv
  have k := hs4 lsC H locs hn hl hH hL (List.forall_mem_cons.mpr ⟨hH.2.2.2.2 a j, hv⟩)
  by_cases h3 : a < 3
  · obtain ⟨hsh2, hcon⟩ := hH.2.1 a h3
    have e9 : n = aw_on w a := by have := hsh.symm.trans hsh2; cases this; rfl
    obtain ⟨cell, g1, g2, g3, g4, g5, g6⟩ := hK.2.1 a h3
    have hin := an_in hv1 hj0 hj1
    show W p l e R s m args below meth c H locs h.2.1 h.2.2.1 Qf (F0 m pc lsC (.int (Int32.ofInt j) :: .ref (am_ad w a) :: r.map (am_cv w)))
    rw [show am_ad w a = aw_zz w a from if_pos h3]
    refine W.iald (v := .int (Int32.ofInt (h.2.2.2 a j))) hx hb (cell := cell) (by rw [hH.2.2.2.1 _ g5]; exact g1) g2 g3 (by rw [g4, ← e9]; exact hin) ?_ rfl rfl hd k
    rw [an_cl hv1, g6 j.toNat (by omega), hcon j, an_nat hj0]
  · have hat := (hH.1 a _ (by omega) hsh).1
    rw [ah_en_arr (show ¬ 100 < 100 by decide) (show 100 < 102 by decide)] at hat
    have hin := an_in hv1 hj0 hj1
    refine va_iald (ws := [(am_ad w a, .inl (aw_cy w 100, n, .inl (fun j => Int32.ofInt (h.2.2.2 a j))))]) hx hb hK.1 (ah_one hat) 0 0 rfl rfl hin hd ?_
    rw [an_cl hv1, an_nat hj0]
    exact k
theorem as_baload (hc : as_Cx p R s m args meth c w M d) (hd : decode M.2.2.1 pc = .ok (.baload, 1)) (hs : am_stp C (as_X p l e R s m args below meth c w M Qf) Q (xs_do M (.baload) pc ls st h)) : as_X p l e R s m args below meth c w M Qf pc ls st h := by
  obtain ⟨hx, hb, hml, hown, hts, hK, hR, hnm⟩ := hc
  obtain ⟨a, j, r, rfl, hs2⟩ := ai_pRI hs
  obtain ⟨ki, n, rs, hsh, hs3⟩ := ai_sh hs2
  obtain ⟨⟨h3, rfl, hj0, hj1⟩, hs4⟩ := ai_if hs3
  intro lsC H locs hn hl hH hL hv
  obtain ⟨hv1, hv⟩ := List.forall_mem_cons.mp hv
  obtain ⟨-, hv⟩ := List.forall_mem_cons.mp hv
  have k := hs4 lsC H locs hn hl hH hL (List.forall_mem_cons.mpr ⟨hH.2.2.2.2 a j, hv⟩)
  have hat := (hH.1 a _ h3 hsh).1
  rw [ah_en_arr (show ¬ 101 < 100 by decide) (show 101 < 102 by decide)] at hat
  have hin := an_in hv1 hj0 hj1
  refine va_zald (ws := [(am_ad w a, .inl (aw_cy w 101, n, .inl (fun j => Int32.ofInt (h.2.2.2 a j))))]) hx hb hK.1 (ah_one hat) 0 1 rfl rfl hin hd ?_
  rw [an_cl hv1, an_nat hj0]
  exact k
theorem as_aaload (hc : as_Cx p R s m args meth c w M d) (hd : decode M.2.2.1 pc = .ok (.aaload, 1)) (hs : am_stp C (as_X p l e R s m args below meth c w M Qf) Q (xs_do M (.aaload) pc ls st h)) : as_X p l e R s m args below meth c w M Qf pc ls st h := by
  obtain ⟨hx, hb, hml, hown, hts, hK, hR, hnm⟩ := hc
  obtain ⟨a, j, r, rfl, hs2⟩ := ai_pRI hs
  obtain ⟨ki, n, rs, hsh, hs3⟩ := ai_sh hs2
  obtain ⟨⟨h3, hki, hj0, hj1⟩, hs4⟩ := ai_if hs3
  obtain ⟨t, ht, hs5⟩ := ai_rfs hs4
  intro lsC H locs hn hl hH hL hv
  obtain ⟨hv1, hv⟩ := List.forall_mem_cons.mp hv
  obtain ⟨-, hv⟩ := List.forall_mem_cons.mp hv
  have k := hs5 lsC H locs hn hl hH hL (List.forall_mem_cons.mpr ⟨trivial, hv⟩)
  have hat := (hH.1 a _ h3 hsh).1
  have hin := an_in hv1 hj0 hj1
  have hlt : (Int32.ofInt j).toNatClampNeg < n := Nat.not_le.mp fun q => hin (Or.inr q)
  have hval : am_rf w (rs.getD (Int32.ofInt j).toNatClampNeg 0) = some (am_ad w t) := by
    rw [an_cl hv1, List.getD_eq_getElem?_getD, ht]
    rfl
  have harr : ∃ ty : FieldType, ty.isReference = true ∧ (ki = 102 ∨ ki = 103) ∧ ArrOfT s (aw_cy w ki) ty := by
    rcases hki with rfl | rfl
    · exact ⟨.object RX5, rfl, Or.inl rfl, (hK.1.2 2 _ rfl).1⟩
    · exact ⟨.array .int, rfl, Or.inr rfl, (hK.1.2 3 _ rfl).1⟩
  obtain ⟨ty, hty, -, hA⟩ := harr
  rw [ah_en_rfs (show ¬ ki < 100 by omega) (show ¬ ki < 102 by omega)] at hat
  refine W.aald (v := .ref (am_ad w t)) (ty := ty) hx hb hat (hA n (fun j => va_rf (am_rf w (rs.getD j 0)))) hty (fun q => by cases q) (by show ¬ (_ ∨ (arrV _ _ _).slots.size ≤ _); rw [arrV_size]; exact hin) ?_ rfl rfl hd k
  show (arrV _ _ _).slots[_]? = _
  rw [arrV_read _ _ hlt]
  show some (va_rf (am_rf w (rs.getD (Int32.ofInt j).toNatClampNeg 0))) = _
  rw [hval]
  rfl
theorem as_iastore (hc : as_Cx p R s m args meth c w M d) (hd : decode M.2.2.1 pc = .ok (.iastore, 1)) (hs : am_stp C (as_X p l e R s m args below meth c w M Qf) Q (xs_do M (.iastore) pc ls st h)) : as_X p l e R s m args below meth c w M Qf pc ls st h := by
  obtain ⟨hx, hb, hml, hown, hts, hK, hR, hnm⟩ := hc
  obtain ⟨a, j, z, r, rfl, hs2⟩ := ai_pRII hs
  obtain ⟨ki, n, rs, hsh, hs3⟩ := ai_sh hs2
  obtain ⟨⟨h3, rfl, hj0, hj1⟩, hs4⟩ := ai_if hs3
  intro lsC H locs hn hl hH hL hv
  obtain ⟨hv0, hv⟩ := List.forall_mem_cons.mp hv
  obtain ⟨hv1, hv⟩ := List.forall_mem_cons.mp hv
  obtain ⟨-, hv⟩ := List.forall_mem_cons.mp hv
  have hat := (hH.1 a _ h3 hsh).1
  rw [ah_en_arr (show ¬ 100 < 100 by decide) (show 100 < 102 by decide)] at hat
  have hin := an_in hv1 hj0 hj1
  refine W.iast hx hb hat ((hK.1.2 0 _ rfl).1 n (fun j => .int (Int32.ofInt (h.2.2.2 a j)))) (fun q => by cases q) (by show ¬ (_ ∨ (arrV _ _ _).slots.size ≤ _); rw [arrV_size]; exact hin) rfl rfl hd fun H1 e1 z1 oq => ?_
  refine hs4 lsC H1 _ hn hl (ah_set' hH h3 hsh z1 oq ?_ (fun b hb => ah_up_ne _ _ _ hb) (fun j => ah_up_ok hH.2.2.2.2 hv0 a j)) (as_locs hL (as_ge h3)) hv
  rw [ah_en_arr (show ¬ 100 < 100 by decide) (show 100 < 102 by decide), ah_up_self, ah_upd hj0]
  show H1[am_ad w a]? = some (vp_cell _ _)
  rw [e1, vp_cell_i, vp_cell_i, arrV_store, an_cl hv1]
  congr 2
  funext q
  by_cases hq : q = j.toNat
  · subst hq
    simp [updV, upd]
  · simp [updV, upd, hq]
theorem as_bastore (hc : as_Cx p R s m args meth c w M d) (hd : decode M.2.2.1 pc = .ok (.bastore, 1)) (hs : am_stp C (as_X p l e R s m args below meth c w M Qf) Q (xs_do M (.bastore) pc ls st h)) : as_X p l e R s m args below meth c w M Qf pc ls st h := by
  obtain ⟨hx, hb, hml, hown, hts, hK, hR, hnm⟩ := hc
  obtain ⟨a, j, z, r, rfl, hs2⟩ := ai_pRII hs
  obtain ⟨ki, n, rs, hsh, hs3⟩ := ai_sh hs2
  obtain ⟨⟨h3, rfl, hj0, hj1, hz⟩, hs4⟩ := ai_if hs3
  intro lsC H locs hn hl hH hL hv
  obtain ⟨hv0, hv⟩ := List.forall_mem_cons.mp hv
  obtain ⟨hv1, hv⟩ := List.forall_mem_cons.mp hv
  obtain ⟨-, hv⟩ := List.forall_mem_cons.mp hv
  have hat := (hH.1 a _ h3 hsh).1
  rw [ah_en_arr (show ¬ 101 < 100 by decide) (show 101 < 102 by decide)] at hat
  have hin := an_in hv1 hj0 hj1
  have hnar : vp_nar .boolean (Int32.ofInt z) = Int32.ofInt z := by rcases hz with rfl | rfl <;> decide +kernel
  refine W.zast hx hb hat ((hK.1.2 1 _ rfl).1 n (fun j => .int (Int32.ofInt (h.2.2.2 a j)))) (fun q => by cases q) (by show ¬ (_ ∨ (arrV _ _ _).slots.size ≤ _); rw [arrV_size]; exact hin) rfl rfl hd fun H1 e1 z1 oq => ?_
  refine hs4 lsC H1 _ hn hl (ah_set' hH h3 hsh z1 oq ?_ (fun b hb => ah_up_ne _ _ _ hb) (fun j => ah_up_ok hH.2.2.2.2 hv0 a j)) (as_locs hL (as_ge h3)) hv
  rw [ah_en_arr (show ¬ 101 < 100 by decide) (show 101 < 102 by decide), ah_up_self, ah_upd hj0]
  show H1[am_ad w a]? = some (vp_cell _ _)
  rw [e1, vp_cell_i, vp_cell_i, arrV_store, an_cl hv1]
  congr 2
  funext q
  have hnar2 : narrow .boolean (.int (Int32.ofInt z)) = .int (Int32.ofInt z) := by rcases hz with rfl | rfl <;> decide +kernel
  by_cases hq : q = j.toNat
  · subst hq
    simp [updV, upd, hnar2]
  · simp [updV, upd, hq]
theorem as_arraylength (hc : as_Cx p R s m args meth c w M d) (hd : decode M.2.2.1 pc = .ok (.arraylength, 1)) (hs : am_stp C (as_X p l e R s m args below meth c w M Qf) Q (xs_do M (.arraylength) pc ls st h)) : as_X p l e R s m args below meth c w M Qf pc ls st h := by
  obtain ⟨hx, hb, hml, hown, hts, hK, hR, hnm⟩ := hc
  obtain ⟨a, r, rfl, hs2⟩ := ai_pR hs
  obtain ⟨ki, n, rs, hsh, hs3⟩ := ai_sh hs2
  obtain ⟨⟨rfl, hn1⟩, hs4⟩ := ai_if hs3
  intro lsC H locs hn hl hH hL hv
  obtain ⟨-, hv⟩ := List.forall_mem_cons.mp hv
  have k := hs4 lsC H locs hn hl hH hL (List.forall_mem_cons.mpr ⟨(⟨by omega, by omega⟩ : am_ok n), hv⟩)
  have e8 : Int32.ofInt (n : Int) = Int32.ofNat n := rfl
  by_cases h3 : a < 3
  · obtain ⟨hsh2, hcon⟩ := hH.2.1 a h3
    have e9 : n = aw_on w a := by have := hsh.symm.trans hsh2; cases this; rfl
    obtain ⟨cell, g1, g2, g3, g4, g5, g6⟩ := hK.2.1 a h3
    show W p l e R s m args below meth c H locs h.2.1 h.2.2.1 Qf (F0 m pc lsC (.ref (am_ad w a) :: r.map (am_cv w)))
    rw [show am_ad w a = aw_zz w a from if_pos h3]
    exact W.alen (n := Int32.ofNat n) hx hb (cell := cell) (by rw [hH.2.2.2.1 _ g5]; exact g1) g2 (by rw [g4, e9] <;> rfl) rfl rfl hd k
  · have hat := (hH.1 a _ (by omega) hsh).1
    rw [ah_en_arr (show ¬ 100 < 100 by decide) (show 100 < 102 by decide)] at hat
    exact va_alen (ws := [(am_ad w a, .inl (aw_cy w 100, n, .inl (fun j => Int32.ofInt (h.2.2.2 a j))))]) hx hb hK.1 (ah_one hat) 0 0 rfl rfl e8.symm hd k
end
end
section
/-! ===== makings, the JDK's own, calls, ends ===== -/
section
variable {p : Program} {l : Launch} {e : Env} {R : Room} {s : State} {m : MethodId} {args : Array Value} {below : List Frame} {meth : Method} {c : Code} {w : am_W} {M : am_M} {d : Nat} {Qf : State → Prop} {C : am_Cal} {Q : am_Post} {pc : Nat} {ls : am_L} {st : List am_V} {h : am_H}
theorem as_ad_len {H : Heap} (hH : am_HR w h H) : am_ad w h.1.length = H.size := by rw [ah_ad hH.2.2.1.1, hH.2.2.1.2]
theorem as_defi : ∀ ci, ci < 8 → ∀ k, k < xr_num ci → defaultValue (xr_ty ci k) = if xr_ref ci k = true then .null else .int 0 := by decide +kernel
theorem as_new {ix : Nat} (hc : as_Cx p R s m args meth c w M d) (hd : decode M.2.2.1 pc = .ok (.new ix, 3)) (hs : am_stp C (as_X p l e R s m args below meth c w M Qf) Q (xs_do M (.new ix) pc ls st h)) : as_X p l e R s m args below meth c w M Qf pc ls st h := by
  obtain ⟨hx, hb, hml, hown, hts, hK, hR, hnm⟩ := hc
  obtain ⟨ci, hq, hs2⟩ := ai_opt hs
  obtain ⟨h100, hs3⟩ := ai_if hs2
  have hs3 : am_stp C (as_X p l e R s m args below meth c w M Qf) Q (am_new M (xr_num ci) 3 (ci, xr_num ci, List.replicate (xr_num ci) 0) pc ls st h) := hs3
  unfold am_new at hs3
  obtain ⟨⟨hc1, hc2⟩, hs4⟩ := ai_if hs3
  obtain ⟨h8', hlink⟩ := xs_new hq
  have h8 : ci < 8 := by rcases h8' with h9 | h9 <;> omega
  rw [if_neg (show ¬ ci = 103 by omega)] at hlink
  obtain ⟨g1, g2, g3, g4⟩ := xr_inst ci h8
  intro lsC H locs hn hl hH hL hv
  have hKn := hK.1.1 ci _ (xr_clat ci h8)
  refine W.newcK hx hb hown (hts _ hlink) (hts _ (List.mem_filter.mpr ⟨g3, g1⟩)) (hts _ (List.mem_filter.mpr ⟨g4, g2⟩)) rfl hd (by rw [hR.2.2.1]; exact hc1) (by rw [hR.2.2.2]; exact hc2) hKn.2.1 rfl fun H1 kC hkC e1 z1 o1 => ?_
  have k := hs4 lsC H1 locs hn hl (ah_app (es := [(ci, xr_num ci, List.replicate (xr_num ci) 0)]) hH z1 o1 (fun i x hx => ?_)) hL (List.forall_mem_cons.mpr ⟨trivial, hv⟩)
  · rw [List.map_cons, show am_cv w (am_r h.1.length) = .ref H.size from congrArg Value.ref (as_ad_len hH)] at k
    exact k
  · cases i with
    | zero =>
      cases hx
      refine ⟨?_, fun _ => h8⟩
      rw [ah_en_obj (show ci < 100 by omega)]
      refine ⟨_, xr_clat ci h8, (u_born (xr_ty ci) hts (ah_lays h8) hKn hkC e1 (xr_tyok ci h8)).to (fun j hj => ?_)⟩
      rw [as_defi ci h8 j hj]
      show _ = (am_fs w (ci, xr_num ci, List.replicate (xr_num ci) 0) (fun _ => 0)).getD j .null
      rw [List.getD_eq_getElem?_getD, ah_fs_get (show j < xr_num (ci, xr_num ci, List.replicate (xr_num ci) 0).1 from hj)]
      unfold am_fv
      by_cases hr : xr_ref ci j = true
      · rw [if_pos hr, if_pos hr]
        simp [hj, am_rf, va_rf]
      · rw [if_neg hr, if_neg hr]
        rfl
    | succ i => cases hx
theorem as_newarr {ty : ArrayType} {z : Int} {r : List am_V} {kd : Nat} (hc : as_Cx p R s m args meth c w M d) (hd : decode M.2.2.1 pc = .ok (.newarray ty, 2)) (hz : 0 ≤ z ∧ z ≤ 100000) (hk : (kd = 100 ∧ ty = .int) ∨ (kd = 101 ∧ ty = .boolean))
    (hs : am_stp C (as_X p l e R s m args below meth c w M Qf) Q (am_new M z.toNat 2 (kd, z.toNat, []) pc ls r h)) : as_X p l e R s m args below meth c w M Qf pc ls (am_i z :: r) h := by
  obtain ⟨hx, hb, hml, hown, hts, hK, hR, hnm⟩ := hc
  unfold am_new at hs
  obtain ⟨⟨hc1, hc2⟩, hs4⟩ := ai_if hs
  intro lsC H locs hn hl hH hL hv
  obtain ⟨hv1, hvB⟩ := List.forall_mem_cons.mp hv
  have hv1 : am_ok z := hv1
  have hty : (Cond.arrayClass (newarray.typeOf ty)).before args s = true ∧ componentBytes (newarray.typeOf ty) ≤ 4 ∧ s.vm.findClass ("[" ++ (newarray.typeOf ty).toString) = some (aw_cy w kd) ∧ (kd = 100 ∨ kd = 101) ∧ defaultValue (newarray.typeOf ty) = .int 0 := by
    rcases hk with ⟨rfl, rfl⟩ | ⟨rfl, rfl⟩
    · exact ⟨hts _ (as_misc (List.mem_cons_self)), by decide, (hK.1.2 0 _ rfl).2, Or.inl rfl, rfl⟩
    · exact ⟨hts _ (as_misc (List.mem_cons_of_mem _ List.mem_cons_self)), by decide, (hK.1.2 1 _ rfl).2, Or.inr rfl, rfl⟩
  obtain ⟨t1, t2, t3, t4, t5⟩ := hty
  have hm : z.toNat * componentBytes (newarray.typeOf ty) ≤ z.toNat * 4 := Nat.mul_le_mul_left _ t2
  refine va_newaK hx hb t1 rfl hd (n := Int32.ofInt z) (N := z.toNat) rfl (fun q => by rw [an_lt0 hv1] at q; omega) (an_cl hv1) (by omega) (by rw [hR.2.2.1]; exact hc1) (by rw [hR.2.2.2]; exact hc2) rfl fun H1 cA e1 z1 o1 hAr hNm => ?_
  have ec : cA = aw_cy w kd := Option.some.inj (hNm.symm.trans t3)
  subst ec
  have k := hs4 lsC H1 locs hn hl (ah_app (es := [(kd, z.toNat, [])]) hH z1 o1 (fun i x hx => ?_)) hL (List.forall_mem_cons.mpr ⟨trivial, hvB⟩)
  · rw [List.map_cons, show am_cv w (am_r h.1.length) = .ref H.size from congrArg Value.ref (as_ad_len hH)] at k
    exact k
  · cases i with
    | zero =>
      cases hx
      refine ⟨?_, fun q => by have q : kd < 100 := q; omega⟩
      rw [ah_en_arr (show ¬ kd < 100 by omega) (show kd < 102 by omega)]
      show H1[H.size]? = some (vp_cell _ _)
      rw [e1, t5]
      rfl
    | succ i => cases hx
theorem as_newarray {ty : ArrayType} (hc : as_Cx p R s m args meth c w M d) (hd : decode M.2.2.1 pc = .ok (.newarray ty, 2)) (hs : am_stp C (as_X p l e R s m args below meth c w M Qf) Q (xs_do M (.newarray ty) pc ls st h)) : as_X p l e R s m args below meth c w M Qf pc ls st h := by
  obtain ⟨z, r, rfl, hs2⟩ := ai_pI hs
  obtain ⟨hz, hs3⟩ := ai_if hs2
  cases ty with
  | int => exact as_newarr hc hd hz (Or.inl ⟨rfl, rfl⟩) hs3
  | boolean => exact as_newarr hc hd hz (Or.inr ⟨rfl, rfl⟩) hs3
  | _ => exact hs3.elim
theorem as_anewarray {ix : Nat} (hc : as_Cx p R s m args meth c w M d) (hd : decode M.2.2.1 pc = .ok (.anewarray ix, 3)) (hs : am_stp C (as_X p l e R s m args below meth c w M Qf) Q (xs_do M (.anewarray ix) pc ls st h)) : as_X p l e R s m args below meth c w M Qf pc ls st h := by
  obtain ⟨hx, hb, hml, hown, hts, hK, hR, hnm⟩ := hc
  obtain ⟨z, r, rfl, hs2⟩ := ai_pI hs
  obtain ⟨⟨hz0, hz1, hq⟩, hs3⟩ := ai_if hs2
  have hs3 : am_stp C (as_X p l e R s m args below meth c w M Qf) Q (am_new M z.toNat 3 (102, z.toNat, List.replicate z.toNat 0) pc ls r h) := hs3
  unfold am_new at hs3
  obtain ⟨⟨hc1, hc2⟩, hs4⟩ := ai_if hs3
  obtain ⟨-, hlink⟩ := xs_new hq
  intro lsC H locs hn hl hH hL hv
  obtain ⟨hv1, hvB⟩ := List.forall_mem_cons.mp hv
  have hv1 : am_ok z := hv1
  have ecl := an_cl hv1
  refine W.anew hx hb hown (C := RX5) (hts _ hlink) (va_AO.use hK.2.2.2.1) rfl hd (n := Int32.ofInt z) rfl (fun q => by rw [an_lt0 hv1] at q; omega) (by rw [ecl]; omega) (by rw [hR.2.2.1]; exact hc1) (by rw [hR.2.2.2, ecl]; exact hc2) fun cA kA comp f1 f2 f3 f4 => ?_
  obtain ⟨kA', comp', r1, r2, r3, r4⟩ := (hK.1.2 2 _ rfl).2
  have ec : cA = aw_cy w 102 := Option.some.inj (f1.symm.trans r4)
  subst ec
  rw [ecl]
  have k := hs4 lsC (H.push { cls := aw_cy w 102, slots := Array.replicate z.toNat .null, vm := .none }) locs hn hl (ah_app (es := [(102, z.toNat, List.replicate z.toNat 0)]) hH (by simp) (fun q hq => by rw [Array.getElem?_push, if_neg (Nat.ne_of_lt hq)]) (fun i x hx => ?_)) hL (List.forall_mem_cons.mpr ⟨trivial, hvB⟩)
  · rw [List.map_cons, show am_cv w (am_r h.1.length) = .ref H.size from congrArg Value.ref (as_ad_len hH)] at k
    exact k
  · cases i with
    | zero =>
      cases hx
      refine ⟨?_, fun q => absurd q (show ¬ 102 < 100 by decide)⟩
      rw [ah_en_rfs (show ¬ 102 < 100 by decide) (show ¬ 102 < 102 by decide)]
      show (H.push _)[H.size]? = some (vp_cell _ _)
      rw [Array.getElem?_push, if_pos rfl, vp_cell_q, arrV_new]
      congr 2
      funext j
      show Value.null = va_rf (am_rf w ((List.replicate z.toNat 0).getD j 0))
      have : (List.replicate z.toNat 0).getD j 0 = 0 := by
        rw [List.getD_eq_getElem?_getD, List.getElem?_replicate]
        split <;> rfl
      rw [this]
      rfl
    | succ i => cases hx
theorem as_aastore (hc : as_Cx p R s m args meth c w M d) (hd : decode M.2.2.1 pc = .ok (.aastore, 1)) (hs : am_stp C (as_X p l e R s m args below meth c w M Qf) Q (xs_do M (.aastore) pc ls st h)) : as_X p l e R s m args below meth c w M Qf pc ls st h := by
  obtain ⟨hx, hb, hml, hown, hts, hK, hR, hnm⟩ := hc
  obtain ⟨a, j, v, r, rfl, hs2⟩ := ai_pRIR hs
  obtain ⟨ki, n, rs, hsh, hs3⟩ := ai_sh hs2
  obtain ⟨kv, nv, rv, hsv, hs4⟩ := ai_sh hs3
  obtain ⟨⟨h3, h3v, rfl, rfl, hj0, hj1, hnr⟩, hs5⟩ := ai_if hs4
  intro lsC H locs hn hl hH hL hv
  obtain ⟨-, hvA⟩ := List.forall_mem_cons.mp hv
  obtain ⟨hv1, hvB⟩ := List.forall_mem_cons.mp hvA
  obtain ⟨-, hvD⟩ := List.forall_mem_cons.mp hvB
  have hv1 : am_ok j := hv1
  have hin := an_in hv1 hj0 hj1
  have hlt : (Int32.ofInt j).toNatClampNeg < n := Nat.not_le.mp fun q => hin (Or.inr q)
  have hat := (hH.1 a _ h3 hsh).1
  rw [ah_en_rfs (show ¬ 102 < 100 by decide) (show ¬ 102 < 102 by decide)] at hat
  have hav := (hH.1 v _ h3v hsv).1
  rw [ah_en_obj (show 5 < 100 by decide)] at hav
  obtain ⟨r', hr', cellV, g1, g2, g3, -⟩ := hav
  have hcls := (hK.1.1 5 _ (xr_clat 5 (by decide))).2
  obtain ⟨kA, comp, k1, k2, k3, -⟩ := (hK.1.2 2 _ rfl).2
  have hcomp : comp = (aw_D w).1 5 := Option.some.inj (k3.symm.trans hcls.1)
  subst hcomp
  obtain ⟨kC, hkC, -⟩ := hcls.2
  refine W.aast hx hb hat (fun q h => by cases h) (fun h => by cases h) k1 k2 rfl hkC ⟨fun q => hin (Or.inl q), by show _ < (arrV _ _ _).slots.size; rw [arrV_size]; exact hlt⟩ g1 (fun q h => by rw [g3] at h; cases h) (by rw [g2]; exact hkC) (by rw [g2]; exact va_assign hcls) rfl rfl hd fun H1 e1 z1 oq => ?_
  refine hs5 lsC H1 _ hn hl (ah_set (e' := (102, n, rs.set j.toNat (v + 1))) (σ' := h.2.2.2) hH h3 hsh z1 oq ?_ (fun q => absurd q (show ¬ 102 < 100 by decide)) (fun b hb => rfl) (fun i => hH.2.2.2.2 a i)) (as_locs hL (as_ge h3)) hvD
  rw [ah_en_rfs (show ¬ 102 < 100 by decide) (show ¬ 102 < 102 by decide)]
  show H1[am_ad w a]? = some (vp_cell _ _)
  rw [e1, vp_cell_q, vp_cell_q, arrV_store, an_cl hv1]
  congr 2
  funext q
  have hjn : j.toNat < rs.length := by omega
  by_cases hq : q = j.toNat
  · subst hq
    simp [updV, hjn, am_rf, va_rf]
  · simp [updV, hq, Ne.symm hq]
end
end
section
/-! ===== the JDK's own, calls, ends; the whole ===== -/
def am_ws (M : am_M) : List Cond := Cond.code M.2.1 M.2.2.1 M.2.2.2.1 M.2.2.2.2.1 :: xr_wds
def am_rm (d : Nat) (M : am_M) : Room := { frames := d, cells := M.2.2.2.2.2.1, slots := M.2.2.2.2.2.2, locals := 64 * d }
def am_Pc (w : am_W) (as : List am_V) (h : am_H) : Array Value → State → Prop := fun args U => args = (as.map (am_cv w)).toArray ∧ am_HR w h U.heap ∧ am_KW w U ∧ ∀ v ∈ as, am_okv v
def am_Qc (w : am_W) (Q : am_Post) : Array Value → State → Outcome → State → Prop := fun _ _ o t => ∃ (v : Option am_V) (h : am_H), o = .returned (v.map (am_cv w)) ∧ am_HR w h t.heap ∧ Q v h ∧ ∀ x, v = some x → am_okv x
def am_fr (w : am_W) : Addr → Prop := fun q => aw_bs w ≤ q
theorem am_KW.warm {w : am_W} {s U : State} (hW : s.WarmedH U.vm) (h : am_KW w s) : am_KW w U := by
  obtain ⟨h1, h2, h3, h4, h5, h6, h7⟩ := h
  refine ⟨h1.moved hW.alike, fun a ha => ?_, fun a ha => (h3 a ha).moved hW.alike, h4.moved hW.alike, ?_, va_Nw.warmM hW h6, h7⟩
  · obtain ⟨cell, g1, g2, g3⟩ := h2 a ha
    exact ⟨cell, g1, State.isArrayOf_alike hW.alike g2, g3⟩
  · have hvm := hW.alike
    obtain ⟨comp, c, k, h1, h2, h3, h4, h5⟩ := arrayOverA_spec h5
    obtain ⟨k', hk', he⟩ := hvm.2.2 _ _ h3
    have hi : (U.vm.classes.findIdx? fun (x : Class) => match x.kind with | .array component _ => component == comp | _ => false) = some c := by
      rw [hvm.findIdx?_eq _ (fun _ => rfl)]
      exact h2
    have hkind : k'.kind = .array comp (.array .int) := by rw [he]; exact h4
    have f1 : U.vm.findClass (FieldType.array .int).toString = some comp := by rw [hvm.findClass]; exact h1
    have f2 : U.vm.findClass ("[" ++ (FieldType.array .int).toString) = some c := by rw [hvm.findClass]; exact h5
    unfold Cond.before Cond.holds
    simp only [Cond.value]
    rw [f1, Option.bind_some]
    refine (congrArg (fun o : Option Nat => (o.bind (fun c => (U.vm.classes[c]?).map fun (k : Class) => match k.kind with | .array _ ty => decide (ty = FieldType.array .int) && decide (U.vm.findClass ("[" ++ (FieldType.array .int).toString) = some c) | _ => false) == some true)) hi).trans ?_
    simp [hk', hkind, f2]
theorem am_blind (w : am_W) (as : List am_V) (h : am_H) : FrameBlind (am_Pc w as h) := fun a U g mk q => ⟨q.1, q.2.1, am_KW.warm (s := U) (U := U.calling g mk a) (State.WarmedH.refl U) q.2.2.1, q.2.2.2⟩
section
variable {p : Program} {l : Launch} {e : Env} {R : Room} {s : State} {m : MethodId} {args : Array Value} {below : List Frame} {meth : Method} {c : Code} {w : am_W} {M : am_M} {d : Nat} {Qf : State → Prop} {C : am_Cal} {Q : am_Post} {pc : Nat} {ls : am_L} {st : List am_V} {h : am_H}
theorem as_words (st : List am_V) : ((st.map (am_cv w)).map fun v => v.category).sum = am_words st := by
  unfold am_words
  rw [List.map_map]
  congr 1
  apply List.map_congr_left
  intro v _
  exact al_cat w v
theorem xs_mth {c k : Nat} {q : Nat × am_M × Nat} (h : xr_mth c k = some q) : ∃ js, xr_mthC (c, k, q.1, q.2.1, q.2.2, js) = true ∧ (q.1 ≤ 3 → Cond.code q.2.1.2.1 q.2.1.2.2.1 q.2.1.2.2.2.1 q.2.1.2.2.2.2.1 ∈ xr_wds) := by
  unfold xr_mth at h
  obtain ⟨e, he, rfl⟩ := Option.map_eq_some_iff.mp h
  obtain ⟨h1, h2⟩ := xr_find he
  have h3 := xr_mth_ok e h1
  have h4 := xr_code_ok e h1
  simp only [Bool.and_eq_true, beq_iff_eq] at h2
  obtain ⟨rfl, rfl⟩ := h2
  exact ⟨e.2.2.2.2.2, h3, h4⟩
/-- what the tables say of a method that is called -/
def xs_okM (M : am_M) (na : Nat) : Prop := Cond.initialized M.2.1.cls ∈ xr_wds ∧ M.2.1.cls = xr_R M.1 ∧ plainName M.2.1.cls = true ∧ M.2.1.cls ≠ "java/lang/invoke/MethodHandle" ∧ M.2.1.cls ≠ "java/lang/invoke/VarHandle" ∧ (parseMethodDescriptor M.2.1.desc).map (fun d => d.parameters.length) = some na ∧ M.2.2.2.1 ≤ 40
theorem xs_mok {M : am_M} {na a b : Nat} (h : xr_mokC M na a b = true) : xs_okM M na := by
  simp only [xr_mokC, Bool.and_eq_true, decide_eq_true_eq] at h
  obtain ⟨⟨⟨⟨⟨⟨h1, h2⟩, h3⟩, h4⟩, h5⟩, h6⟩, h7⟩ := h
  exact ⟨xr_wd_in h1, h2, h3, h4, h5, h6, h7⟩
theorem xs_m0 {c k na : Nat} {M : am_M} {js : List Nat} (h : xr_mthC (c, k, 0, M, na, js) = true) : xs_okM M (na - 1) ∧ Cond.methodLink (xr_R c) k M.2.1 ∈ xr_wds ∧ Cond.instanceMethod M.2.1 ∈ xr_wds ∧ Cond.selects (xr_R M.1) M.2.1 M.2.1 ∈ xr_wds := by
  rcases js with _ | ⟨a1, _ | ⟨a2, _ | ⟨a3, _ | ⟨a4, _ | ⟨a5, _ | ⟨a6, js⟩⟩⟩⟩⟩⟩ <;> first | (cases h; done) | skip
  simp only [xr_mthC, Bool.and_eq_true] at h
  obtain ⟨⟨⟨⟨h1, h2⟩, h3⟩, h4⟩, -⟩ := h
  exact ⟨xs_mok h1, xr_wd_in h2, xr_wd_in h3, xr_wd_in h4⟩
theorem xs_m1 {c k na : Nat} {M : am_M} {js : List Nat} (h : xr_mthC (c, k, 1, M, na, js) = true) : xs_okM M na ∧ Cond.methodLink (xr_R c) k M.2.1 ∈ xr_wds ∧ Cond.static M.2.1 ∈ xr_wds := by
  rcases js with _ | ⟨a1, _ | ⟨a2, _ | ⟨a3, _ | ⟨a4, _ | ⟨a5, _ | ⟨a6, js⟩⟩⟩⟩⟩⟩ <;> first | (cases h; done) | skip
  simp only [xr_mthC, Bool.and_eq_true] at h
  obtain ⟨⟨h1, h2⟩, h3⟩ := h
  exact ⟨xs_mok h1, xr_wd_in h2, xr_wd_in h3⟩
theorem xs_m2 {c k na : Nat} {M : am_M} {js : List Nat} (h : xr_mthC (c, k, 2, M, na, js) = true) : xs_okM M (na - 1) ∧ Cond.methodLink (xr_R c) k M.2.1 ∈ xr_wds ∧ Cond.instanceMethod M.2.1 ∈ xr_wds ∧ M.2.1.name = "<init>" ∧ M.2.2.2.2.1 = none := by
  rcases js with _ | ⟨a1, _ | ⟨a2, _ | ⟨a3, _ | ⟨a4, _ | ⟨a5, _ | ⟨a6, js⟩⟩⟩⟩⟩⟩ <;> first | (cases h; done) | skip
  simp only [xr_mthC, Bool.and_eq_true, decide_eq_true_eq] at h
  obtain ⟨⟨⟨⟨⟨h1, h2⟩, h3⟩, h4⟩, h5⟩, -⟩ := h
  exact ⟨xs_mok h1, xr_wd_in h2, xr_wd_in h3, h4, h5⟩
theorem xs_m3 {c k na : Nat} {M : am_M} {js : List Nat} (h : xr_mthC (c, k, 3, M, na, js) = true) : xs_okM M na ∧ (c = 3 ∧ k = 75 ∧ M.2.1 = yX6_power) ∧ Cond.static M.2.1 ∈ xr_wds := by
  rcases js with _ | ⟨a1, _ | ⟨a2, _ | ⟨a3, _ | ⟨a4, _ | ⟨a5, _ | ⟨a6, js⟩⟩⟩⟩⟩⟩ <;> first | (cases h; done) | skip
  simp only [xr_mthC, Bool.and_eq_true, decide_eq_true_eq] at h
  obtain ⟨⟨⟨h1, h2⟩, h3⟩, h4⟩ := h
  exact ⟨xs_mok h1, h4, xr_wd_in h3⟩
theorem xs_m4 {c k na : Nat} {M : am_M} {js : List Nat} (h : xr_mthC (c, k, 4, M, na, js) = true) : Cond.methodLink (xr_R c) k objectInit ∈ xr_wds := by
  rcases js with _ | ⟨a1, _ | ⟨a2, js⟩⟩ <;> first | (cases h; done) | skip
  exact xr_wd_in h
theorem xs_m5 {c k na : Nat} {M : am_M} {js : List Nat} (h : xr_mthC (c, k, 5, M, na, js) = true) : Cond.methodLink (xr_R c) k arraycopyName ∈ xr_wds := by
  rcases js with _ | ⟨a1, _ | ⟨a2, js⟩⟩ <;> first | (cases h; done) | skip
  exact xr_wd_in h
theorem xs_m6 {c k na : Nat} {M : am_M} {js : List Nat} (h : xr_mthC (c, k, 6, M, na, js) = true) : Cond.methodLink (xr_R c) k Lib.Math.max.name ∈ xr_wds := by
  rcases js with _ | ⟨a1, _ | ⟨a2, js⟩⟩ <;> first | (cases h; done) | skip
  exact xr_wd_in h
theorem xs_m7 {c k na : Nat} {M : am_M} {js : List Nat} (h : xr_mthC (c, k, 7, M, na, js) = true) : Cond.methodLink (xr_R c) k Lib.Math.min.name ∈ xr_wds := by
  rcases js with _ | ⟨a1, _ | ⟨a2, js⟩⟩ <;> first | (cases h; done) | skip
  exact xr_wd_in h
theorem xs_m8 {c k na : Nat} {M : am_M} {js : List Nat} (h : xr_mthC (c, k, 8, M, na, js) = true) : Cond.methodLink (xr_R c) k Lib.Math.abs.name ∈ xr_wds := by
  rcases js with _ | ⟨a1, _ | ⟨a2, js⟩⟩ <;> first | (cases h; done) | skip
  exact xr_wd_in h
end
end
section
/-! ===== calls and ends ===== -/
section
variable {p : Program} {l : Launch} {e : Env} {R : Room} {s : State} {m : MethodId} {args : Array Value} {below : List Frame} {meth : Method} {c : Code} {w : am_W} {M : am_M} {d : Nat} {Qf : State → Prop} {C : am_Cal} {Q : am_Post} {pc : Nat} {ls : am_L} {st : List am_V} {h : am_H}
theorem as_cpyf {σ : am_Mem} {a b : Nat} {i j n : Int} (hi : 0 ≤ i) (hj : 0 ≤ j) (hn : 0 ≤ n) : (fun q : Nat => Int32.ofInt (am_cpy σ a i b j n b q)) = va_cpy (fun q : Nat => Int32.ofInt (σ a q)) (fun q : Nat => Int32.ofInt (σ b q)) i.toNat j.toNat n.toNat := by
  funext q
  unfold am_cpy va_cpy
  by_cases hq : j ≤ (q : Int) ∧ (q : Int) < j + n
  · rw [if_pos ⟨rfl, hq⟩, if_pos (by omega)]
    congr 2
    omega
  · rw [if_neg (fun z => hq z.2), if_neg (by omega)]
theorem as_acp {ix na : Nat} {M' : am_M} {js : List Nat} (hc : as_Cx p R s m args meth c w M d) (hd : decode M.2.2.1 pc = .ok (.invokestatic ix, 3)) (hj : xr_mthC (M.1, ix, 5, M', na, js) = true) (hs : am_stp C (as_X p l e R s m args below meth c w M Qf) Q (am_acp pc ls st h)) : as_X p l e R s m args below meth c w M Qf pc ls st h := by
  obtain ⟨hx, hb, hml, hown, hts, hK, hR, hnm⟩ := hc
  unfold am_acp at hs
  obtain ⟨a, i, b, j, n, r, rfl, hs2⟩ := ai_pCp hs
  obtain ⟨ka, na, ra, hsa, hs3⟩ := ai_sh hs2
  obtain ⟨kb, nb, rb, hsb, hs4⟩ := ai_sh hs3
  obtain ⟨⟨h3a, h3b, rfl, rfl, hi, hj0, hn0, hia, hjb, hwd⟩, hs5⟩ := ai_if hs4
  intro lsC H locs hn hl hH hL hv
  obtain ⟨hvn, hvA⟩ := List.forall_mem_cons.mp hv
  obtain ⟨hvj, hvB⟩ := List.forall_mem_cons.mp hvA
  obtain ⟨-, hvD⟩ := List.forall_mem_cons.mp hvB
  obtain ⟨hvi, hvE⟩ := List.forall_mem_cons.mp hvD
  obtain ⟨-, hvF⟩ := List.forall_mem_cons.mp hvE
  have hvn : am_ok n := hvn
  have hvj : am_ok j := hvj
  have hvi : am_ok i := hvi
  have hc0 := (hH.1 a _ h3a hsa).1
  rw [ah_en_arr (show ¬ 100 < 100 by decide) (show 100 < 102 by decide)] at hc0
  have hc1 := (hH.1 b _ h3b hsb).1
  rw [ah_en_arr (show ¬ 100 < 100 by decide) (show 100 < 102 by decide)] at hc1
  have hc0 : H[am_ad w a]? = some (vp_cell (aw_cy w 100) (na, .inl (fun k => Int32.ofInt (h.2.2.2 a k)))) := hc0
  have hc1 : H[am_ad w b]? = some (vp_cell (aw_cy w 100) (nb, .inl (fun k => Int32.ofInt (h.2.2.2 b k)))) := hc1
  intro T hT X
  obtain ⟨-, k0, hk0, cm0, hkk0⟩ := (hK.1.2 0 _ rfl).1 na (fun k => .int (Int32.ofInt (h.2.2.2 a k)))
  obtain ⟨-, k1, hk1, cm1, hkk1⟩ := (hK.1.2 0 _ rfl).1 nb (fun k => .int (Int32.ofInt (h.2.2.2 b k)))
  have ei := an_id hvi
  have ej := an_id hvj
  have en := an_id hvn
  have hpc := xs_m5 hj
  obtain ⟨vm', X', step⟩ := X.arraycopy hx hown (hts _ hpc) (hts _ (as_misc (by decide +kernel))) (hts _ (as_misc (by decide +kernel))) (hts _ (as_misc (by decide +kernel))) (src := am_ad w a) (dst := am_ad w b) (cs := vp_cell (aw_cy w 100) (na, .inl (fun k => Int32.ofInt (h.2.2.2 a k)))) (cd := vp_cell (aw_cy w 100) (nb, .inl (fun k => Int32.ofInt (h.2.2.2 b k)))) (srcPos := Int32.ofInt i) (destPos := Int32.ofInt j) (n := Int32.ofInt n) (by rw [hT]; exact hc0) (by rw [hT]; exact hc1)
    (fun _ h => by cases h) (fun _ h => by cases h) (fun h => by cases h) (fun h => by cases h) hk0 hk1 hkk0 hkk1 (by rfl) (fun q => by rw [an_lt0 hvi] at q; omega) (fun q => by rw [an_lt0 hvj] at q; omega) (fun q => by rw [an_lt0 hvn] at q; omega)
    (by rw [ei, en]; show ¬ _ > ((arrV _ na _).slots.size : Int); rw [arrV_size]; omega)
    (by rw [ej, en]; show ¬ _ > ((arrV _ nb _).slots.size : Int); rw [arrV_size]; omega)
    (fun vm₁ _ q hq => by
      rw [an_cl hvn] at hq
      have e9 : (vp_cell (aw_cy w 100) (na, .inl (fun k => Int32.ofInt (h.2.2.2 a k)))).slots.getD ((Int32.ofInt i).toNatClampNeg + q) .null = .int (Int32.ofInt (h.2.2.2 a (((Int32.ofInt i).toNatClampNeg + q : Nat) : Int))) := by
        show (arrV _ na _).slots.getD _ _ = _
        rw [Array.getD_eq_getD_getElem?, arrV_read _ _ (by rw [an_cl hvi]; omega)]
        rfl
      refine ⟨?_, ?_⟩
      · rw [e9]; rfl
      · rw [e9]; exact trivial)
    (g := F0 m pc lsC ((am_i n :: am_i j :: am_r b :: am_i i :: am_r a :: r).map (am_cv w))) rfl (by show lsC.size = _; rw [hml, hl.1.1]; exact hn) (rest := r.map (am_cv w)) rfl (by rw [hb]; exact hd) (by have := hR.1; omega) (by
      have h1 := hR.2.1
      have h2 := as_words (w := w) r
      have h3 : nativeFrameWords "java/lang/System" "arraycopy" 5 ≤ 30 := by decide +kernel
      show 2 * 0 + _ + _ ≤ _
      rw [h2]
      omega)
  have e1 : copied (vp_cell (aw_cy w 100) (na, .inl (fun k => Int32.ofInt (h.2.2.2 a k)))) (vp_cell (aw_cy w 100) (nb, .inl (fun k => Int32.ofInt (h.2.2.2 b k)))) (Int32.ofInt i) (Int32.ofInt j) (Int32.ofInt n) = vp_cell (aw_cy w 100) (nb, .inl (fun k => Int32.ofInt (am_cpy h.2.2.2 a i b j n b k))) := by
    have h4 : (Int32.ofInt i).toNatClampNeg + (Int32.ofInt n).toNatClampNeg ≤ na := by rw [an_cl hvi, an_cl hvn]; omega
    rw [as_cpyf hi hj0 hn0, ← an_cl hvi, ← an_cl hvj, ← an_cl hvn]
    exact va_copied (fun z => .int z) (aw_cy w 100) (aw_cy w 100) (fun k : Nat => Int32.ofInt (h.2.2.2 a k)) (fun k : Nat => Int32.ofInt (h.2.2.2 b k)) h4
  rw [e1] at X' step
  have hlt : am_ad w b < H.size := (Array.getElem?_eq_some_iff.mp hc1).1
  have hheap : ((T.setVm vm').setCell (am_ad w b) (vp_cell (aw_cy w 100) (nb, .inl (fun k => Int32.ofInt (am_cpy h.2.2.2 a i b j n b k))))).heap = H.setIfInBounds (am_ad w b) (vp_cell (aw_cy w 100) (nb, .inl (fun k => Int32.ofInt (am_cpy h.2.2.2 a i b j n b k)))) := by rw [← hT]; rfl
  obtain ⟨t, a1, b1⟩ := hs5 lsC _ _ hn hl (ah_set' (σ' := am_cpy h.2.2.2 a i b j n) hH h3b hsb (H' := H.setIfInBounds (am_ad w b) (vp_cell (aw_cy w 100) (nb, .inl (fun k => Int32.ofInt (am_cpy h.2.2.2 a i b j n b k))))) (by simp) (fun q hq => by simp [Array.getElem?_setIfInBounds, Ne.symm hq]) (by
      rw [ah_en_arr (show ¬ 100 < 100 by decide) (show 100 < 102 by decide)]
      show (H.setIfInBounds _ _)[_]? = some (vp_cell _ _)
      simp [Array.getElem?_setIfInBounds, hlt]) (fun q hq => by
      funext k
      unfold am_cpy
      rw [if_neg (fun z => hq z.1)]) (fun k => by
      unfold am_cpy
      split
      · exact hH.2.2.2.2 _ _
      · exact hH.2.2.2.2 _ _)) (fun q hq => by
      rcases List.mem_append.mp hq with h9 | h9
      · exact hL q h9
      · obtain ⟨z, -, hz⟩ := List.mem_map.mp h9
        rw [← hz]
        exact as_ge h3b) hvF _ hheap X'
  exact ⟨t, step t a1, b1⟩
theorem as_math {ix : Nat} {q : Nat × am_M × Nat} (hc : as_Cx p R s m args meth c w M d) (hd : decode M.2.2.1 pc = .ok (.invokestatic ix, 3)) (hq : xr_mth M.1 ix = some q) (h678 : q.1 = 6 ∨ q.1 = 7 ∨ q.1 = 8)
    (hs : am_stp C (as_X p l e R s m args below meth c w M Qf) Q (if q.1 = 6 then am_pII st fun x y r => am_mth M h r <| am_go (pc + 3) ls (am_i (if x < y then y else x) :: r) h
      else if q.1 = 7 then am_pII st fun x y r => am_mth M h r <| am_go (pc + 3) ls (am_i (if y < x then y else x) :: r) h
      else am_pI st fun x r => am_mth M h r <| am_go (pc + 3) ls (am_i (if 0 ≤ x then x else am_w (0 - x)) :: r) h)) : as_X p l e R s m args below meth c w M Qf pc ls st h := by
  obtain ⟨hx, hb, hml, hown, hts, hK, hR, hnm⟩ := hc
  obtain ⟨js, hj, -⟩ := xs_mth hq
  have hini := hts _ (as_misc (w := .initialized "java/lang/Math") (by decide +kernel))
  obtain ⟨kd, M', na⟩ := q
  dsimp only at hs h678 hj
  rcases h678 with rfl | rfl | rfl
  · rw [if_pos rfl] at hs
    obtain ⟨x, y, r, rfl, hs2⟩ := ai_pII hs
    unfold am_mth at hs2
    obtain ⟨⟨hcc, hss, hwd⟩, hs3⟩ := ai_if hs2
    intro lsC H locs hn hl hH hL hv
    obtain ⟨hvy, hvA⟩ := List.forall_mem_cons.mp hv
    obtain ⟨hvx, hvB⟩ := List.forall_mem_cons.mp hvA
    have hvy : am_ok y := hvy
    have hvx : am_ok x := hvx
    refine va_mmax hx hb (by rw [hml, ← hn]; exact hl.1.1.symm) hown (hts _ (xs_m6 hj)) (hts _ (as_misc (by decide +kernel))) hini (hts _ xr_mmax) (by have := hR.1; omega) (by rw [as_words]; have := hR.2.1; omega) (by rw [hR.2.2.1]; exact hcc) (by rw [hR.2.2.2]; exact hss) hd ?_
    have k := hs3 lsC H locs hn hl hH hL (List.forall_mem_cons.mpr ⟨(by show am_ok _; split <;> assumption), hvB⟩)
    by_cases hlt : x < y
    · rw [if_pos ((an_lt hvx hvy).mpr hlt)]
      rw [if_pos hlt] at k
      exact k
    · rw [if_neg (fun z => hlt ((an_lt hvx hvy).mp z))]
      rw [if_neg hlt] at k
      exact k
  · rw [if_neg (by decide), if_pos rfl] at hs
    obtain ⟨x, y, r, rfl, hs2⟩ := ai_pII hs
    unfold am_mth at hs2
    obtain ⟨⟨hcc, hss, hwd⟩, hs3⟩ := ai_if hs2
    intro lsC H locs hn hl hH hL hv
    obtain ⟨hvy, hvA⟩ := List.forall_mem_cons.mp hv
    obtain ⟨hvx, hvB⟩ := List.forall_mem_cons.mp hvA
    have hvy : am_ok y := hvy
    have hvx : am_ok x := hvx
    refine va_mmin hx hb (by rw [hml, ← hn]; exact hl.1.1.symm) hown (hts _ (xs_m7 hj)) (hts _ (as_misc (by decide +kernel))) hini (hts _ xr_mmin) (by have := hR.1; omega) (by rw [as_words]; have := hR.2.1; omega) (by rw [hR.2.2.1]; exact hcc) (by rw [hR.2.2.2]; exact hss) hd ?_
    have k := hs3 lsC H locs hn hl hH hL (List.forall_mem_cons.mpr ⟨(by show am_ok _; split <;> assumption), hvB⟩)
    by_cases hlt : y < x
    · rw [if_pos ((an_lt hvy hvx).mpr hlt)]
      rw [if_pos hlt] at k
      exact k
    · rw [if_neg (fun z => hlt ((an_lt hvy hvx).mp z))]
      rw [if_neg hlt] at k
      exact k
  · rw [if_neg (by decide), if_neg (by decide)] at hs
    obtain ⟨x, r, rfl, hs2⟩ := ai_pI hs
    unfold am_mth at hs2
    obtain ⟨⟨hcc, hss, hwd⟩, hs3⟩ := ai_if hs2
    intro lsC H locs hn hl hH hL hv
    obtain ⟨hvx, hvB⟩ := List.forall_mem_cons.mp hv
    have hvx : am_ok x := hvx
    refine va_mabs hx hb (by rw [hml, ← hn]; exact hl.1.1.symm) hown (hts _ (xs_m8 hj)) (hts _ (as_misc (by decide +kernel))) hini (hts _ xr_mabs) (by have := hR.1; omega) (by rw [as_words]; have := hR.2.1; omega) (by rw [hR.2.2.1]; exact hcc) (by rw [hR.2.2.2]; exact hss) hd ?_
    have k := hs3 lsC H locs hn hl hH hL (List.forall_mem_cons.mpr ⟨(by show am_ok _; split <;> first | assumption | exact an_okw _), hvB⟩)
    have h0 : (0 : Int32) ≤ Int32.ofInt x ↔ 0 ≤ x := an_le an_ok0 hvx
    by_cases hlt : 0 ≤ x
    · rw [if_pos (h0.mpr hlt)]
      rw [if_pos hlt] at k
      exact k
    · rw [if_neg (fun z => hlt (h0.mp z))]
      rw [if_neg hlt] at k
      rw [show (0 : Int32) - Int32.ofInt x = Int32.ofInt (am_w (0 - x)) from (an_sub 0 x).symm]
      exact k
end
end
section
/-! ===== calls by contract, ends, and the whole ===== -/
/-- what a callee must be -/
def xs_fit (M : am_M) (as : List am_V) : Prop := (am_sl as).length ≤ M.2.2.2.1 ∧ M.2.1.cls = xr_R M.1 ∧ plainName M.2.1.cls = true
def am_Snd (l : Launch) (w : am_W) (d : Nat) (C : am_Cal) : Prop := ∀ (M : am_M) (as : List am_V) (h : am_H) (Q : am_Post), xs_fit M as → C M as (h.1, 0, 0, h.2.2.2) Q → Met l M.2.1 (am_ws M) (am_rm d M) (am_Pc w as h) (am_Qc w Q) M.2.2.2.2.2.1 M.2.2.2.2.2.2 (am_fr w)
section
variable {p : Program} {l : Launch} {e : Env} {R : Room} {s : State} {m : MethodId} {args : Array Value} {below : List Frame} {meth : Method} {c : Code} {w : am_W} {M : am_M} {d : Nat} {Qf : State → Prop} {C : am_Cal} {Q : am_Post} {pc : Nat} {ls : am_L} {st : List am_V} {h : am_H}
theorem as_run {rest : List am_V} {stC : List Value} {a0 : Array Value} {mc ms : Nat} {lsC : Array Slot} {H : Heap} {locs : List Loc}
    (hr : va_Run p l e R s m args below meth c H locs h.2.1 h.2.2.1 mc ms (F0 m pc lsC stC) (rest.map (am_cv w)) (am_Qc w (fun v h' => as_X p l e R s m args below meth c w M Qf (pc + 3) ls (v.toList ++ rest) (h'.1, h.2.1 + mc, h.2.2.1 + ms, h'.2.2.2)) a0) (am_fr w))
    (hn : ls.length = M.2.2.2.1) (hl : al_R w lsC ls) (hL : ∀ q ∈ locs, aw_bs w ≤ q.base) (hv : ∀ v ∈ rest, am_okv v) : W p l e R s m args below meth c H locs h.2.1 h.2.2.1 Qf (F0 m pc lsC stC) := by
  intro T hT X
  obtain ⟨v, st₀, t, T', L, h0, X', hLL, e1, e2, ⟨v', h', hq1, hq2, hq3, hq4⟩, stp⟩ := hr T hT X
  have ev : v = v'.map (am_cv w) := Outcome.returned.inj hq1
  subst ev
  obtain ⟨t2, a1, b1⟩ := hq3 lsC t.heap (locs ++ L) hn hl hq2 (fun q hq => by
    rcases List.mem_append.mp hq with h9 | h9
    · exact hL q h9
    · exact hLL q h9) (fun x hx => by
    rcases List.mem_append.mp hx with h9 | h9
    · cases v' with
      | none => cases h9
      | some y =>
        have : x = y := by simpa using h9
        subst this
        exact hq4 x rfl
    · exact hv x h9) T' e1 X'
  refine ⟨t2, stp t2 ?_, b1⟩
  rw [List.map_append] at a1
  cases v' with
  | none => exact a1
  | some y => exact a1
theorem as_goodIn {M' : am_M} (hcw : Cond.code M'.2.1 M'.2.2.1 M'.2.2.2.1 M'.2.2.2.2.1 ∈ xr_wds) : GoodIn xr_wds (am_ws M') := by
  intro x hx
  have hm : x ∈ xr_wds := by
    rcases List.mem_cons.mp hx with h9 | h9
    · rw [h9]; exact hcw
    · exact h9
  exact ⟨hm, good_of_word (List.mem_filter.mp hm).2⟩
theorem as_cb {M' : am_M} {ix na : Nat} (hR : d + 1 ≤ R.frames ∧ 64 * (d + 1) ≤ R.locals) (hts : ∀ x ∈ xr_wds, x.before args s = true) (hok : xs_okM M' na) (hcw : Cond.code M'.2.1 M'.2.2.1 M'.2.2.2.1 M'.2.2.2.2.1 ∈ xr_wds) (hlink : (Cond.methodLink (xr_R M.1) ix M'.2.1).before args s = true) :
    CallB R s args (xr_R M.1) ix M'.2.1 M'.2.2.1 M'.2.2.2.1 M'.2.2.2.2.1 (am_ws M') (am_rm d M') M'.2.2.2.2.2.1 M'.2.2.2.2.2.2 na := by
  obtain ⟨o1, o2, o3, o4, o5, o6, o7⟩ := hok
  exact callB_of na hts (as_goodIn hcw) rfl rfl rfl (hts _ o1) hlink ⟨o4, o5, o6⟩ ⟨hR.1, by show 8 + (M'.2.2.2.1 + 11) + 64 * d ≤ _; have := hR.2; omega⟩
theorem as_Pcok {as : List am_V} {H : Heap} (hK : am_KW w s) (hH : am_HR w h H) (hv : ∀ v ∈ as, am_okv v) : ∀ U : State, U.heap = H → s.WarmedH U.vm → am_Pc w as h (as.map (am_cv w)).toArray U := fun U hU hW => ⟨rfl, by rw [hU]; exact hH, hK.warm hW, hv⟩
theorem as_split {α : Type} {st r : List α} {x : α} {na : Nat} (h0 : 0 < na) (h : st.drop (na - 1) = x :: r) : st.take na = st.take (na - 1) ++ [x] ∧ st.drop na = r := by
  have e9 : st = st.take (na - 1) ++ x :: r := by rw [← h, List.take_append_drop]
  have hl : (st.take (na - 1)).length = na - 1 := by
    rw [List.length_take]
    have : (st.drop (na - 1)).length = r.length + 1 := by rw [h]; rfl
    rw [List.length_drop] at this
    omega
  obtain ⟨k, rfl⟩ : ∃ k, na = k + 1 := ⟨na - 1, by omega⟩
  rw [Nat.add_sub_cancel] at h hl e9 ⊢
  constructor
  · have h7 : (st.take k ++ x :: r).take (k + 1) = st.take k ++ [x] := by
      rw [List.take_append, hl, List.take_of_length_le (by rw [hl]; omega), show k + 1 - k = 1 by omega]
      rfl
    rw [← e9] at h7
    exact h7
  · rw [← List.drop_drop, h]
    rfl
theorem as_callV {ix na : Nat} {M' : am_M} {js : List Nat} {a ki ni : Nat} {rs : List Nat} {r : List am_V} (hI : am_Snd l w d C) (hc : as_Cx p R s m args meth c w M d) (hd : decode M.2.2.1 pc = .ok (.invokevirtual ix, 3)) (hj : xr_mthC (M.1, ix, 0, M', na, js) = true) (hcw : Cond.code M'.2.1 M'.2.2.1 M'.2.2.2.1 M'.2.2.2.2.1 ∈ xr_wds) (h0 : 0 < na) (hst : st.drop (na - 1) = am_r a :: r) (hsh : h.1[a]? = some (ki, ni, rs)) (h3 : 3 ≤ a) (hki : ki = M'.1) (h100 : ki < 100)
    (hs : am_stp C (as_X p l e R s m args below meth c w M Qf) Q (am_call M M' na pc ls st h)) : as_X p l e R s m args below meth c w M Qf pc ls st h := by
  obtain ⟨hx, hb, hml, hown, hts, hK, hR, hnm⟩ := hc
  unfold am_call at hs
  obtain ⟨⟨hle, hwd, hc1, hc2, hsl⟩, hs2⟩ := ai_if hs
  obtain ⟨e1, e2⟩ := as_split h0 hst
  obtain ⟨hok, g1, g2, g3⟩ := xs_m0 hj
  intro lsC H locs hn hl hH hL hv
  have hvr : ∀ v ∈ st.drop na, am_okv v := fun v h9 => hv v (List.mem_of_mem_drop h9)
  have hva : ∀ v ∈ (st.take na).reverse, am_okv v := fun v h9 => hv v (List.mem_of_mem_take (List.mem_reverse.mp h9))
  subst hki
  have hat := (hH.1 a _ h3 hsh).1
  have h8 := (hH.1 a _ h3 hsh).2 h100
  rw [ah_en_obj h100] at hat
  obtain ⟨r', hr', cellB, q1, q2, q3, -⟩ := hat
  have hcls := (hK.1.1 M'.1 _ (xr_clat M'.1 h8)).2
  have hM := hI M' ((st.take na).reverse) h _ ⟨hsl, hok.2.1, hok.2.2.1⟩ hs2
  have hea : (st.take na).reverse = am_r a :: (st.take (na - 1)).reverse := by rw [e1, List.reverse_append]; rfl
  rw [hea] at hM hva
  rw [e2] at hM hvr hwd
  have hlen : (st.take (na - 1)).length = na - 1 := by rw [List.length_take]; omega
  refine as_run (va_runV (b := am_ad w a) (As := ((st.take (na - 1)).reverse).map (am_cv w)) (C := xr_R M'.1) (nL := ls.length) ⟨hx, hb, by rw [hml, hn], hown, hts⟩ hM ⟨as_cb ⟨hR.1, hR.2.1⟩ hts hok hcw (hts _ g1), hts _ g2, hts _ g3⟩ ⟨am_blind _ _ _, ⟨cellB, q1, by rw [q3]; rfl, by rw [q2]; exact hcls.1⟩, as_Pcok hK hH hva⟩ rfl (by rw [List.length_map, List.length_reverse, hlen]) hl.1.1 ?_ (lv_room (by rw [as_words]; exact hwd)) hd ⟨by rw [hR.2.2.1]; exact hc1, by rw [hR.2.2.2]; exact hc2⟩) hn hl hL hvr
  show st.map (am_cv w) = _
  rw [← List.map_reverse, List.reverse_reverse]
  conv => lhs; rw [← List.take_append_drop (na - 1) st, hst, List.map_append]
  rfl
theorem as_callS {ix na : Nat} {M' : am_M} {js : List Nat} (hI : am_Snd l w d C) (hc : as_Cx p R s m args meth c w M d) (hd : decode M.2.2.1 pc = .ok (.invokestatic ix, 3)) (hj : xr_mthC (M.1, ix, 1, M', na, js) = true) (hcw : Cond.code M'.2.1 M'.2.2.1 M'.2.2.2.1 M'.2.2.2.2.1 ∈ xr_wds)
    (hs : am_stp C (as_X p l e R s m args below meth c w M Qf) Q (am_call M M' na pc ls st h)) : as_X p l e R s m args below meth c w M Qf pc ls st h := by
  obtain ⟨hx, hb, hml, hown, hts, hK, hR, hnm⟩ := hc
  unfold am_call at hs
  obtain ⟨⟨hle, hwd, hc1, hc2, hsl⟩, hs2⟩ := ai_if hs
  obtain ⟨hok, g1, g2⟩ := xs_m1 hj
  intro lsC H locs hn hl hH hL hv
  have hvr : ∀ v ∈ st.drop na, am_okv v := fun v h9 => hv v (List.mem_of_mem_drop h9)
  have hva : ∀ v ∈ (st.take na).reverse, am_okv v := fun v h9 => hv v (List.mem_of_mem_take (List.mem_reverse.mp h9))
  have hM := hI M' ((st.take na).reverse) h _ ⟨hsl, hok.2.1, hok.2.2.1⟩ hs2
  have hlen : (st.take na).length = na := by rw [List.length_take]; omega
  refine as_run (va_runS (As := ((st.take na).reverse).map (am_cv w)) (nL := ls.length) ⟨hx, hb, by rw [hml, hn], hown, hts⟩ hM ⟨as_cb ⟨hR.1, hR.2.1⟩ hts hok hcw (hts _ g1), hts _ g2⟩ ⟨am_blind _ _ _, as_Pcok hK hH hva⟩ rfl (by rw [List.length_map, List.length_reverse, hlen]) hl.1.1 ?_ (lv_room (by rw [as_words]; exact hwd)) hd ⟨by rw [hR.2.2.1]; exact hc1, by rw [hR.2.2.2]; exact hc2⟩) hn hl hL hvr
  show st.map (am_cv w) = _
  rw [← List.map_reverse, List.reverse_reverse, ← List.map_append, List.take_append_drop]
theorem as_callN {ix na : Nat} {M' : am_M} {js : List Nat} (hI : am_Snd l w d C) (hc : as_Cx p R s m args meth c w M d) (hd : decode M.2.2.1 pc = .ok (.invokestatic ix, 3)) (hj : xr_mthC (M.1, ix, 3, M', na, js) = true) (hcw : Cond.code M'.2.1 M'.2.2.1 M'.2.2.2.1 M'.2.2.2.2.1 ∈ xr_wds)
    (hs : am_stp C (as_X p l e R s m args below meth c w M Qf) Q (am_call M M' na pc ls st h)) : as_X p l e R s m args below meth c w M Qf pc ls st h := by
  obtain ⟨hx, hb, hml, hown, hts, hK, hR, hnm⟩ := hc
  unfold am_call at hs
  obtain ⟨⟨hle, hwd, hc1, hc2, hsl⟩, hs2⟩ := ai_if hs
  obtain ⟨hok, ⟨g1, g3, g4⟩, g2⟩ := xs_m3 hj
  intro lsC H locs hn hl hH hL hv
  have hvr : ∀ v ∈ st.drop na, am_okv v := fun v h9 => hv v (List.mem_of_mem_drop h9)
  have hva : ∀ v ∈ (st.take na).reverse, am_okv v := fun v h9 => hv v (List.mem_of_mem_take (List.mem_reverse.mp h9))
  have hM := hI M' ((st.take na).reverse) h _ ⟨hsl, hok.2.1, hok.2.2.1⟩ hs2
  have hlen : (st.take na).length = na := by rw [List.length_take]; omega
  have hlk : va_Nw (.methodLinkNest (xr_R M.1) ix M'.2.1 "MoodFare") s := by rw [g1, g3, g4]; exact hK.2.2.2.2.2.1
  have hok2 := hok
  obtain ⟨o1, o2, o3, o4, o5, o6, o7⟩ := hok2
  have hcb : va_CN R s args (xr_R M.1) ix M'.2.1 "MoodFare" M'.2.2.1 M'.2.2.2.1 M'.2.2.2.2.1 (am_ws M') (am_rm d M') M'.2.2.2.2.2.1 M'.2.2.2.2.2.2 na := va_cnB na hts (as_goodIn hcw) rfl rfl rfl hlk (hts _ o1) ⟨o4, o5, o6⟩ ⟨hR.1, by show 8 + (M'.2.2.2.1 + 11) + 64 * d ≤ _; have := hR.2.1; omega⟩
  refine as_run (va_runSN (As := ((st.take na).reverse).map (am_cv w)) (nL := ls.length) ⟨hx, hb, by rw [hml, hn], hown, hts⟩ hM ⟨hcb, hts _ g2, trivial⟩ ⟨am_blind _ _ _, as_Pcok hK hH hva⟩ rfl (by rw [List.length_map, List.length_reverse, hlen]) hl.1.1 ?_ (lv_room (by rw [as_words]; exact hwd)) hd ⟨by rw [hR.2.2.1]; exact hc1, by rw [hR.2.2.2]; exact hc2⟩) hn hl hL hvr
  show st.map (am_cv w) = _
  rw [← List.map_reverse, List.reverse_reverse, ← List.map_append, List.take_append_drop]
theorem as_callI {ix na : Nat} {M' : am_M} {js : List Nat} {a : Nat} {r : List am_V} (hI : am_Snd l w d C) (hc : as_Cx p R s m args meth c w M d) (hd : decode M.2.2.1 pc = .ok (.invokespecial ix, 3)) (hj : xr_mthC (M.1, ix, 2, M', na, js) = true) (hcw : Cond.code M'.2.1 M'.2.2.1 M'.2.2.2.1 M'.2.2.2.2.1 ∈ xr_wds) (h0 : 0 < na) (hst : st.drop (na - 1) = am_r a :: r)
    (hs : am_stp C (as_X p l e R s m args below meth c w M Qf) Q (am_call M M' na pc ls st h)) : as_X p l e R s m args below meth c w M Qf pc ls st h := by
  obtain ⟨hx, hb, hml, hown, hts, hK, hR, hnm⟩ := hc
  unfold am_call at hs
  obtain ⟨⟨hle, hwd, hc1, hc2, hsl⟩, hs2⟩ := ai_if hs
  obtain ⟨e1, e2⟩ := as_split h0 hst
  obtain ⟨hok, g1, g2, g3, g4⟩ := xs_m2 hj
  intro lsC H locs hn hl hH hL hv
  have hvr : ∀ v ∈ st.drop na, am_okv v := fun v h9 => hv v (List.mem_of_mem_drop h9)
  have hva : ∀ v ∈ (st.take na).reverse, am_okv v := fun v h9 => hv v (List.mem_of_mem_take (List.mem_reverse.mp h9))
  have hM := hI M' ((st.take na).reverse) h _ ⟨hsl, hok.2.1, hok.2.2.1⟩ hs2
  have hea : (st.take na).reverse = am_r a :: (st.take (na - 1)).reverse := by rw [e1, List.reverse_append]; rfl
  rw [hea] at hM hva
  rw [e2] at hM hvr hwd
  have hlen : (st.take (na - 1)).length = na - 1 := by rw [List.length_take]; omega
  have hcb := as_cb (M := M) (M' := M') (ix := ix) (d := d) (R := R) ⟨hR.1, hR.2.1⟩ hts hok hcw (hts _ g1)
  rw [g4] at hcb
  refine as_run (va_runI (b := am_ad w a) (As := ((st.take (na - 1)).reverse).map (am_cv w)) (nL := ls.length) ⟨hx, hb, by rw [hml, hn], hown, hts⟩ hM ⟨hcb, g3, hts _ g2⟩ ⟨am_blind _ _ _, as_Pcok hK hH hva⟩ rfl (by rw [List.length_map, List.length_reverse, hlen]) hl.1.1 ?_ (lv_room (by rw [as_words]; exact hwd)) hd ⟨by rw [hR.2.2.1]; exact hc1, by rw [hR.2.2.2]; exact hc2⟩) hn hl hL hvr
  show st.map (am_cv w) = _
  rw [← List.map_reverse, List.reverse_reverse]
  conv => lhs; rw [← List.take_append_drop (na - 1) st, hst, List.map_append]
  rfl
end
end
section
/-! ===== the whole: what the small machine does, the real one does ===== -/
/-- new int[n][k], as the library has it: given as a rule, proved behind -/
def am_MN (l : Launch) : Prop := ∀ {p : Program} {e : Env} {R : Room} {s : State} {m : MethodId} {args : Array Value} {below : List Frame} {meth : Method} {c : Code} {w : am_W} {M : am_M} {d : Nat} {Qf : State → Prop} {C : am_Cal} {Q : am_Post} {pc : Nat} {ls : am_L} {st : List am_V} {h : am_H} {ix : Nat},
  as_Cx p R s m args meth c w M d → decode M.2.2.1 pc = .ok (.multianewarray ix 2, 4) → am_stp C (as_X p l e R s m args below meth c w M Qf) Q (xs_do M (.multianewarray ix 2) pc ls st h) → as_X p l e R s m args below meth c w M Qf pc ls st h
section
variable {p : Program} {l : Launch} {e : Env} {R : Room} {s : State} {m : MethodId} {args : Array Value} {below : List Frame} {meth : Method} {c : Code} {w : am_W} {M : am_M} {d : Nat} {Qf : State → Prop} {C : am_Cal} {Q : am_Post} {pc : Nat} {ls : am_L} {st : List am_V} {h : am_H}
/-- an end of the method, in the real machine -/
def as_End (p : Program) (l : Launch) (e : Env) (R : Room) (s : State) (m : MethodId) (args : Array Value) (below : List Frame) (meth : Method) (c : Code) (w : am_W) (M : am_M) (Qf : State → Prop) (Q : am_Post) : Prop :=
  (∀ (z : Int) (h : am_H) (pc : Nat) (lsC : Array Slot) (H : Heap) (locs : List Loc), decode M.2.2.1 pc = .ok (.ireturn, 1) → h.2.1 ≤ M.2.2.2.2.2.1 → h.2.2.1 ≤ M.2.2.2.2.2.2 → (M.2.2.2.2.1 = some .int ∨ (M.2.2.2.2.1 = some .boolean ∧ (z = 0 ∨ z = 1))) → am_ok z → Q (some (am_i z)) h → am_HR w h H → (∀ q ∈ locs, aw_bs w ≤ q.base) → W p l e R s m args below meth c H locs h.2.1 h.2.2.1 Qf (F0 m pc lsC [.int (Int32.ofInt z)])) ∧
  (∀ (h : am_H) (pc : Nat) (lsC : Array Slot) (H : Heap) (locs : List Loc), decode M.2.2.1 pc = .ok (.return_, 1) → h.2.1 ≤ M.2.2.2.2.2.1 → h.2.2.1 ≤ M.2.2.2.2.2.2 → M.2.2.2.2.1 = none → Q none h → am_HR w h H → (∀ q ∈ locs, aw_bs w ≤ q.base) → W p l e R s m args below meth c H locs h.2.1 h.2.2.1 Qf (F0 m pc lsC []))
theorem as_invokevirtual {ix : Nat} (hI : am_Snd l w d C) (hc : as_Cx p R s m args meth c w M d) (hd : decode M.2.2.1 pc = .ok (.invokevirtual ix, 3)) (hs : am_stp C (as_X p l e R s m args below meth c w M Qf) Q (xs_do M (.invokevirtual ix) pc ls st h)) : as_X p l e R s m args below meth c w M Qf pc ls st h := by
  obtain ⟨q, hq, hs2⟩ := ai_opt hs
  obtain ⟨⟨hq0, hq1⟩, hs3⟩ := ai_if hs2
  obtain ⟨js, hj, hcw⟩ := xs_mth hq
  split at hs3
  · rename_i a r hst
    obtain ⟨ki, ni, rs, hsh, hs4⟩ := ai_sh hs3
    obtain ⟨⟨h3, hki, h100⟩, hs5⟩ := ai_if hs4
    rw [hq0] at hj
    exact as_callV hI hc hd hj (hcw (by omega)) hq1 hst hsh h3 hki h100 hs5
  · exact hs3.elim
theorem as_invokestatic {ix : Nat} (hI : am_Snd l w d C) (hc : as_Cx p R s m args meth c w M d) (hd : decode M.2.2.1 pc = .ok (.invokestatic ix, 3)) (hs : am_stp C (as_X p l e R s m args below meth c w M Qf) Q (xs_do M (.invokestatic ix) pc ls st h)) : as_X p l e R s m args below meth c w M Qf pc ls st h := by
  obtain ⟨q, hq, hs2⟩ := ai_opt hs
  obtain ⟨js, hj, hcw⟩ := xs_mth hq
  by_cases h5 : q.1 = 5
  · rw [if_pos h5] at hs2
    rw [h5] at hj
    exact as_acp hc hd hj hs2
  rw [if_neg h5] at hs2
  by_cases h6 : q.1 = 6
  · refine as_math (C := C) (Q := Q) hc hd hq (Or.inl h6) ?_
    rw [if_pos h6] at hs2 ⊢
    exact hs2
  by_cases h7 : q.1 = 7
  · refine as_math (C := C) (Q := Q) hc hd hq (Or.inr (Or.inl h7)) ?_
    rw [if_neg h6, if_pos h7] at hs2 ⊢
    exact hs2
  by_cases h8 : q.1 = 8
  · refine as_math (C := C) (Q := Q) hc hd hq (Or.inr (Or.inr h8)) ?_
    rw [if_neg h6, if_neg h7, if_pos h8] at hs2
    rw [if_neg h6, if_neg h7]
    exact hs2
  rw [if_neg h6, if_neg h7, if_neg h8] at hs2
  obtain ⟨h13, hs3⟩ := ai_if hs2
  rcases h13 with h1 | h3
  · rw [h1] at hj
    exact as_callS hI hc hd hj (hcw (by omega)) hs3
  · rw [h3] at hj
    exact as_callN hI hc hd hj (hcw (by omega)) hs3
theorem as_invokespecial {ix : Nat} (hI : am_Snd l w d C) (hc : as_Cx p R s m args meth c w M d) (hd : decode M.2.2.1 pc = .ok (.invokespecial ix, 3)) (hs : am_stp C (as_X p l e R s m args below meth c w M Qf) Q (xs_do M (.invokespecial ix) pc ls st h)) : as_X p l e R s m args below meth c w M Qf pc ls st h := by
  obtain ⟨q, hq, hs2⟩ := ai_opt hs
  obtain ⟨js, hj, hcw⟩ := xs_mth hq
  by_cases h4 : q.1 = 4
  · rw [if_pos h4] at hs2
    rw [h4] at hj
    obtain ⟨a, r, rfl, hs3⟩ := ai_pR hs2
    obtain ⟨hwd, hs4⟩ := ai_if hs3
    obtain ⟨hx, hb, hml, hown, hts, hK, hR, hnm⟩ := hc
    intro lsC H locs hn hl hH hL hv
    obtain ⟨-, hvB⟩ := List.forall_mem_cons.mp hv
    exact W.objInit hx hb hown (hts _ (xs_m4 hj)) (hts _ (as_misc (by decide +kernel))) (hts _ xr_objcode) rfl (by rw [hml, ← hn]; exact hl.1.1) rfl hd (by have := hR.1; omega) (by
      have h2 := as_words (w := w) r
      have := hR.2.1
      show 2 * 0 + _ + 12 ≤ _
      rw [h2]
      omega) (hs4 lsC H locs hn hl hH hL hvB)
  rw [if_neg h4] at hs2
  obtain ⟨⟨hq0, hq1⟩, hs3⟩ := ai_if hs2
  split at hs3
  · rename_i a r hst
    rw [hq0] at hj
    exact as_callI hI hc hd hj (hcw (by omega)) hq1 hst hs3
  · exact hs3.elim
/-- one step -/
theorem as_closed (hMN : am_MN l) (hI : am_Snd l w d C) (hc : as_Cx p R s m args meth c w M d) (hE : as_End p l e R s m args below meth c w M Qf Q) (hs : am_stp C (as_X p l e R s m args below meth c w M Qf) Q (xs_step M pc ls st h)) : as_X p l e R s m args below meth c w M Qf pc ls st h := by
  have hs : am_stp C (as_X p l e R s m args below meth c w M Qf) Q (am_step xr_fld xr_mth xr_cst xr_csl xr_new xr_gst xr_ref xr_num xr_fin M pc ls st h) := hs
  unfold am_step at hs
  cases hd : decode M.2.2.1 pc with
  | error x => rw [hd] at hs; exact hs.elim
  | ok q =>
    rw [hd] at hs
    obtain ⟨hlen, hs⟩ := ai_if hs
    obtain ⟨i, n⟩ := q
    dsimp only at hlen hs
    have hs : am_stp C (as_X p l e R s m args below meth c w M Qf) Q (xs_do M i pc ls st h) := hs
    cases i with
    | iconst v => have hlen : n = 1 := hlen; subst hlen; exact as_iconst hc hd hs
    | bipush v => have hlen : n = 2 := hlen; subst hlen; exact as_bipush hc hd hs
    | sipush v => have hlen : n = 3 := hlen; subst hlen; exact as_sipush hc hd hs
    | ldc ix => have hlen : n = 2 := hlen; subst hlen; exact as_ldc hc hd hs
    | ldc_w ix => have hlen : n = 3 := hlen; subst hlen; exact as_ldc_w hc hd hs
    | ldc2_w ix => have hlen : n = 3 := hlen; subst hlen; exact as_ldc2_w hc hd hs
    | iload ix => have hlen : n = 2 := hlen; subst hlen; exact as_iload hc hd hs
    | iload_n ix => have hlen : n = 1 := hlen; subst hlen; exact as_iload_n hc hd hs
    | lload ix => have hlen : n = 2 := hlen; subst hlen; exact as_lload hc hd hs
    | lload_n ix => have hlen : n = 1 := hlen; subst hlen; exact as_lload_n hc hd hs
    | aload ix => have hlen : n = 2 := hlen; subst hlen; exact as_aload hc hd hs
    | aload_n ix => have hlen : n = 1 := hlen; subst hlen; exact as_aload_n hc hd hs
    | istore ix => have hlen : n = 2 := hlen; subst hlen; exact as_istore hc hd hs
    | istore_n ix => have hlen : n = 1 := hlen; subst hlen; exact as_istore_n hc hd hs
    | lstore ix => have hlen : n = 2 := hlen; subst hlen; exact as_lstore hc hd hs
    | lstore_n ix => have hlen : n = 1 := hlen; subst hlen; exact as_lstore_n hc hd hs
    | astore ix => have hlen : n = 2 := hlen; subst hlen; exact as_astore hc hd hs
    | astore_n ix => have hlen : n = 1 := hlen; subst hlen; exact as_astore_n hc hd hs
    | iinc ix k => have hlen : n = 3 := hlen; subst hlen; exact as_iinc hc hd hs
    | iadd => have hlen : n = 1 := hlen; subst hlen; exact as_iadd hc hd hs
    | isub => have hlen : n = 1 := hlen; subst hlen; exact as_isub hc hd hs
    | imul => have hlen : n = 1 := hlen; subst hlen; exact as_imul hc hd hs
    | idiv => have hlen : n = 1 := hlen; subst hlen; exact as_idiv hc hd hs
    | irem => have hlen : n = 1 := hlen; subst hlen; exact as_irem hc hd hs
    | ineg => have hlen : n = 1 := hlen; subst hlen; exact as_ineg hc hd hs
    | iand => have hlen : n = 1 := hlen; subst hlen; exact as_iand hc hd hs
    | ior => have hlen : n = 1 := hlen; subst hlen; exact as_ior hc hd hs
    | ixor => have hlen : n = 1 := hlen; subst hlen; exact as_ixor hc hd hs
    | ishl => have hlen : n = 1 := hlen; subst hlen; exact as_ishl hc hd hs
    | ishr => have hlen : n = 1 := hlen; subst hlen; exact as_ishr hc hd hs
    | iushr => have hlen : n = 1 := hlen; subst hlen; exact as_iushr hc hd hs
    | i2b => have hlen : n = 1 := hlen; subst hlen; exact as_i2b hc hd hs
    | i2s => have hlen : n = 1 := hlen; subst hlen; exact as_i2s hc hd hs
    | i2l => have hlen : n = 1 := hlen; subst hlen; exact as_i2l hc hd hs
    | l2i => have hlen : n = 1 := hlen; subst hlen; exact as_l2i hc hd hs
    | lmul => have hlen : n = 1 := hlen; subst hlen; exact as_lmul hc hd hs
    | lrem => have hlen : n = 1 := hlen; subst hlen; exact as_lrem hc hd hs
    | dup => have hlen : n = 1 := hlen; subst hlen; exact as_dup hc hd hs
    | pop => have hlen : n = 1 := hlen; subst hlen; exact as_pop hc hd hs
    | dup2 => have hlen : n = 1 := hlen; subst hlen; exact as_dup2 hc hd hs
    | goto off => have hlen : n = 3 := hlen; subst hlen; exact as_goto hc hd hs
    | if_icmp cn off =>
      have hlen : n = 3 := hlen
      subst hlen
      cases cn with
      | eq => exact as_icmp_eq hc hd hs
      | ne => exact as_icmp_ne hc hd hs
      | lt => exact as_icmp_lt hc hd hs
      | ge => exact as_icmp_ge hc hd hs
      | gt => exact as_icmp_gt hc hd hs
      | le => exact as_icmp_le hc hd hs
    | ifCond cn off =>
      have hlen : n = 3 := hlen
      subst hlen
      cases cn with
      | eq => exact as_if_eq hc hd hs
      | ne => exact as_if_ne hc hd hs
      | lt => exact as_if_lt hc hd hs
      | ge => exact as_if_ge hc hd hs
      | gt => exact as_if_gt hc hd hs
      | le => exact as_if_le hc hd hs
    | tableswitch df lo hi offs => exact as_tsw hc hd hs
    | getfield ix => have hlen : n = 3 := hlen; subst hlen; exact as_getfield hc hd hs
    | putfield ix => have hlen : n = 3 := hlen; subst hlen; exact as_putfield hc hd hs
    | getstatic ix => have hlen : n = 3 := hlen; subst hlen; exact as_getstatic hc hd hs
    | iaload => have hlen : n = 1 := hlen; subst hlen; exact as_iaload hc hd hs
    | baload => have hlen : n = 1 := hlen; subst hlen; exact as_baload hc hd hs
    | aaload => have hlen : n = 1 := hlen; subst hlen; exact as_aaload hc hd hs
    | iastore => have hlen : n = 1 := hlen; subst hlen; exact as_iastore hc hd hs
    | bastore => have hlen : n = 1 := hlen; subst hlen; exact as_bastore hc hd hs
    | aastore => have hlen : n = 1 := hlen; subst hlen; exact as_aastore hc hd hs
    | arraylength => have hlen : n = 1 := hlen; subst hlen; exact as_arraylength hc hd hs
    | new ix => have hlen : n = 3 := hlen; subst hlen; exact as_new hc hd hs
    | newarray ty => have hlen : n = 2 := hlen; subst hlen; exact as_newarray hc hd hs
    | anewarray ix => have hlen : n = 3 := hlen; subst hlen; exact as_anewarray hc hd hs
    | multianewarray ix dm =>
      have hlen : n = 4 := hlen
      subst hlen
      match dm, hd, hs with
      | 2, hd, hs => exact hMN hc hd hs
      | 0, hd, hs => exact hs.elim
      | 1, hd, hs => exact hs.elim
      | k + 3, hd, hs => exact hs.elim
    | invokevirtual ix => have hlen : n = 3 := hlen; subst hlen; exact as_invokevirtual hI hc hd hs
    | invokestatic ix => have hlen : n = 3 := hlen; subst hlen; exact as_invokestatic hI hc hd hs
    | invokespecial ix => have hlen : n = 3 := hlen; subst hlen; exact as_invokespecial hI hc hd hs
    | ireturn =>
      have hlen : n = 1 := hlen
      subst hlen
      rcases st with _ | ⟨v, _ | ⟨u, r⟩⟩
      · exact hs.elim
      · rcases v with z | z | a
        · have hs2 : am_stp C (as_X p l e R s m args below meth c w M Qf) Q (am_if (h.2.1 ≤ M.2.2.2.2.2.1 ∧ h.2.2.1 ≤ M.2.2.2.2.2.2 ∧ (M.2.2.2.2.1 = some .int ∨ (M.2.2.2.2.1 = some .boolean ∧ (z = 0 ∨ z = 1)))) <| some (Sum.inr (Sum.inl (some (am_i z), h)))) := hs
          have hs3 := ai_if hs2
          intro lsC H locs hn hl hH hL hv
          exact hE.1 z h pc lsC H locs hd hs3.1.1 hs3.1.2.1 hs3.1.2.2 (hv _ List.mem_cons_self) hs3.2 hH hL
        · exact hs.elim
        · exact hs.elim
      · rcases v with z | z | a <;> exact hs.elim
    | return_ =>
      have hlen : n = 1 := hlen
      subst hlen
      rcases st with _ | ⟨v, r⟩
      · have hs2 : am_stp C (as_X p l e R s m args below meth c w M Qf) Q (am_if (h.2.1 ≤ M.2.2.2.2.2.1 ∧ h.2.2.1 ≤ M.2.2.2.2.2.2 ∧ M.2.2.2.2.1 = none) <| some (Sum.inr (Sum.inl (none, h)))) := hs
        have hs3 := ai_if hs2
        intro lsC H locs hn hl hH hL hv
        exact hE.2 h pc lsC H locs hd hs3.1.1 hs3.1.2.1 hs3.1.2.2 hs3.2 hH hL
      · exact hs.elim
    | _ => exact hs.elim
/-- from any point -/
theorem as_walk (hMN : am_MN l) (hI : am_Snd l w d (xs_aw d)) (hc : as_Cx p R s m args meth c w M d) (hE : as_End p l e R s m args below meth c w M Qf Q) (hs : xs_AW (xs_aw d) M Q pc ls st h) : as_X p l e R s m args below meth c w M Qf pc ls st h :=
  hs (as_X p l e R s m args below meth c w M Qf) (fun _ _ _ _ k => as_closed hMN hI hc hE k)
end
/-- every method, by its depth -/
theorem as_sound (l : Launch) (w : am_W) (hMN : am_MN l) : ∀ d : Nat, am_Snd l w d (xs_aw d)
  | 0 => fun M as h Q hf hs => hs.elim
  | d + 1 => fun M as h Q hf hs => by
    obtain ⟨f1, f2, f3⟩ := hf
    refine Met.ofW (cc := M.2.2.1) (maxL := M.2.2.2.1) (ret := M.2.2.2.2.1) f3 rfl ?_
    intro p e s m args below meth c s₁ B hml hP
    obtain ⟨rfl, hH, hK, hv⟩ := hP
    have hts : ∀ x ∈ am_ws M, x.before _ s = true := atoms_spec (ws := am_ws M) B.pre
    have hown : s.vm.findClass (xr_R M.1) = some m.cls := f2 ▸ findClass_of_methodNamed B.named
    have hlocks := B.notSynchronized
    have hr := B.returns
    rw [lg_entry_eq]
    refine as_walk (pc := 0) (d := d) (M := M) (Q := Q) (ls := am_ent M.2.2.2.1 as) (st := []) (h := (h.1, 0, 0, h.2.2.2)) (Qf := _) hMN (as_sound l w hMN d) ⟨B.exec, B.bytes, hml, hown, fun x hx => hts x (List.mem_cons_of_mem _ hx), hK, ⟨Nat.le_refl _, Nat.le_refl _, rfl, rfl⟩, (name_of_methodNamed B.named B.method).1⟩ ⟨?_, ?_⟩ hs _ _ [] (al_ent_len f1) (al_entry f1 hv) hH (fun q hq => by cases hq) (fun v hv => by cases hv)
    · intro z h' pc lsC H locs hd h1 h2 h3 hz hQ hH' hL'
      refine W.widen h1 h2 ?_
      have hq : ∀ t : State, t.heap = H → s.WarmedH t.vm → am_Qc w Q (as.map (am_cv w)).toArray s (.returned (some (.int (Int32.ofInt z)))) t := fun t ht hW => ⟨some (am_i z), h', rfl, by rw [ht]; exact hH', hQ, fun x hx => by cases hx; exact hz⟩
      rcases h3 with h3 | ⟨h3, hz01⟩
      · exact W.iret B.exec B.bytes (hr.trans h3) hq hL' hd
      · exact W.zret (ty := .boolean) B.exec B.bytes (hr.trans h3) (by rcases hz01 with rfl | rfl <;> decide +kernel) hq hL' hd
    · intro h' pc lsC H locs hd h1 h2 h3 hQ hH' hL'
      refine W.widen h1 h2 ?_
      exact W.vret B.exec B.bytes (hr.trans h3) (fun t ht hW => ⟨none, h', rfl, by rw [ht]; exact hH', hQ, fun x hx => by cases hx⟩) hL' hd
end
