section
-- ===== PART A: goes FIRST, ahead of the names: the tables' words, and 'selects' of the private methods out of them =====
/-- a private method of a class that the tables say can be made, by its rows of tables_1 -/
def lw_okq (q : MethodName × Nat) : Prop := (q.1.cls ≠ "java/lang/invoke/MethodHandle" ∧ q.1.cls ≠ "java/lang/invoke/VarHandle") ∧ Cond.instantiable q.1.cls q.2 ∈ tables_1 ∧ Cond.privateMethod q.1 ∈ tables_1 ∧ Cond.instanceMethod q.1 ∈ tables_1
theorem lw_p0 : lw_okq (⟨"NeighbourWires$Tape", "endOfRun", "(III)I"⟩, 6) := ⟨⟨by decide +kernel, by decide +kernel⟩, List.mem_of_getElem? (i := 116) (by decide +kernel), List.mem_of_getElem? (i := 324) (by decide +kernel), List.mem_of_getElem? (i := 325) (by decide +kernel)⟩
theorem lw_p1 : lw_okq (⟨"NeighbourWires$Tape", "byteAt", "(I)I"⟩, 6) := ⟨⟨by decide +kernel, by decide +kernel⟩, List.mem_of_getElem? (i := 116) (by decide +kernel), List.mem_of_getElem? (i := 328) (by decide +kernel), List.mem_of_getElem? (i := 329) (by decide +kernel)⟩
theorem lw_p2 : lw_okq (⟨"NeighbourWires$Tape", "nameNumber", "()I"⟩, 6) := ⟨⟨by decide +kernel, by decide +kernel⟩, List.mem_of_getElem? (i := 116) (by decide +kernel), List.mem_of_getElem? (i := 335) (by decide +kernel), List.mem_of_getElem? (i := 336) (by decide +kernel)⟩
theorem lw_p3 : lw_okq (⟨"NeighbourWires$Tape", "spells", "(Ljava/lang/String;)Z"⟩, 6) := ⟨⟨by decide +kernel, by decide +kernel⟩, List.mem_of_getElem? (i := 116) (by decide +kernel), List.mem_of_getElem? (i := 340) (by decide +kernel), List.mem_of_getElem? (i := 341) (by decide +kernel)⟩
theorem lw_p4 : lw_okq (⟨"NeighbourWires$Tape", "nextNumber", "()V"⟩, 6) := ⟨⟨by decide +kernel, by decide +kernel⟩, List.mem_of_getElem? (i := 116) (by decide +kernel), List.mem_of_getElem? (i := 397) (by decide +kernel), List.mem_of_getElem? (i := 398) (by decide +kernel)⟩
theorem lw_p5 : lw_okq (⟨"NeighbourWires$Reader", "readLine", "()I"⟩, 6) := ⟨⟨by decide +kernel, by decide +kernel⟩, List.mem_of_getElem? (i := 110) (by decide +kernel), List.mem_of_getElem? (i := 401) (by decide +kernel), List.mem_of_getElem? (i := 402) (by decide +kernel)⟩
theorem lw_p6 : lw_okq (⟨"NeighbourWires$Reader", "outOfPlace", "()I"⟩, 6) := ⟨⟨by decide +kernel, by decide +kernel⟩, List.mem_of_getElem? (i := 110) (by decide +kernel), List.mem_of_getElem? (i := 405) (by decide +kernel), List.mem_of_getElem? (i := 406) (by decide +kernel)⟩
theorem lw_p7 : lw_okq (⟨"NeighbourWires$Reader", "isToldAgain", "(I)Z"⟩, 6) := ⟨⟨by decide +kernel, by decide +kernel⟩, List.mem_of_getElem? (i := 110) (by decide +kernel), List.mem_of_getElem? (i := 409) (by decide +kernel), List.mem_of_getElem? (i := 410) (by decide +kernel)⟩
theorem lw_p8 : lw_okq (⟨"NeighbourWires$Reader", "take", "(III)I"⟩, 6) := ⟨⟨by decide +kernel, by decide +kernel⟩, List.mem_of_getElem? (i := 110) (by decide +kernel), List.mem_of_getElem? (i := 419) (by decide +kernel), List.mem_of_getElem? (i := 420) (by decide +kernel)⟩
theorem lw_p9 : lw_okq (⟨"NeighbourWires$Reader", "takeWires", "(I)I"⟩, 6) := ⟨⟨by decide +kernel, by decide +kernel⟩, List.mem_of_getElem? (i := 110) (by decide +kernel), List.mem_of_getElem? (i := 423) (by decide +kernel), List.mem_of_getElem? (i := 424) (by decide +kernel)⟩
theorem lw_p10 : lw_okq (⟨"NeighbourWires$Reader", "takeShield", "(I)I"⟩, 6) := ⟨⟨by decide +kernel, by decide +kernel⟩, List.mem_of_getElem? (i := 110) (by decide +kernel), List.mem_of_getElem? (i := 427) (by decide +kernel), List.mem_of_getElem? (i := 428) (by decide +kernel)⟩
theorem lw_p11 : lw_okq (⟨"NeighbourWires$Reader", "takeWord", "(I)I"⟩, 6) := ⟨⟨by decide +kernel, by decide +kernel⟩, List.mem_of_getElem? (i := 110) (by decide +kernel), List.mem_of_getElem? (i := 444) (by decide +kernel), List.mem_of_getElem? (i := 445) (by decide +kernel)⟩
theorem lw_p12 : lw_okq (⟨"NeighbourWires$Reader", "takeStep", "(II)I"⟩, 6) := ⟨⟨by decide +kernel, by decide +kernel⟩, List.mem_of_getElem? (i := 110) (by decide +kernel), List.mem_of_getElem? (i := 460) (by decide +kernel), List.mem_of_getElem? (i := 461) (by decide +kernel)⟩
theorem lw_p13 : lw_okq (⟨"NeighbourWires$Reader", "takeSteps", "(I)I"⟩, 6) := ⟨⟨by decide +kernel, by decide +kernel⟩, List.mem_of_getElem? (i := 110) (by decide +kernel), List.mem_of_getElem? (i := 464) (by decide +kernel), List.mem_of_getElem? (i := 465) (by decide +kernel)⟩
theorem lw_p14 : lw_okq (⟨"NeighbourWires$Plan", "isOrder", "(I)Z"⟩, 8) := ⟨⟨by decide +kernel, by decide +kernel⟩, List.mem_of_getElem? (i := 28) (by decide +kernel), List.mem_of_getElem? (i := 488) (by decide +kernel), List.mem_of_getElem? (i := 489) (by decide +kernel)⟩
theorem lw_p15 : lw_okq (⟨"NeighbourWires", "weigh", "(II)V"⟩, 8) := ⟨⟨by decide +kernel, by decide +kernel⟩, List.mem_of_getElem? (i := 20) (by decide +kernel), List.mem_of_getElem? (i := 517) (by decide +kernel), List.mem_of_getElem? (i := 518) (by decide +kernel)⟩
def lw_privs_1 : List (MethodName × Nat) := [(⟨"NeighbourWires$Tape", "endOfRun", "(III)I"⟩, 6), (⟨"NeighbourWires$Tape", "byteAt", "(I)I"⟩, 6), (⟨"NeighbourWires$Tape", "nameNumber", "()I"⟩, 6), (⟨"NeighbourWires$Tape", "spells", "(Ljava/lang/String;)Z"⟩, 6), (⟨"NeighbourWires$Tape", "nextNumber", "()V"⟩, 6), (⟨"NeighbourWires$Reader", "readLine", "()I"⟩, 6), (⟨"NeighbourWires$Reader", "outOfPlace", "()I"⟩, 6), (⟨"NeighbourWires$Reader", "isToldAgain", "(I)Z"⟩, 6), (⟨"NeighbourWires$Reader", "take", "(III)I"⟩, 6), (⟨"NeighbourWires$Reader", "takeWires", "(I)I"⟩, 6), (⟨"NeighbourWires$Reader", "takeShield", "(I)I"⟩, 6), (⟨"NeighbourWires$Reader", "takeWord", "(I)I"⟩, 6), (⟨"NeighbourWires$Reader", "takeStep", "(II)I"⟩, 6), (⟨"NeighbourWires$Reader", "takeSteps", "(I)I"⟩, 6), (⟨"NeighbourWires$Plan", "isOrder", "(I)Z"⟩, 8), (⟨"NeighbourWires", "weigh", "(II)V"⟩, 8)]
theorem lw_r1 : ∀ q ∈ lw_privs_1, lw_okq q := List.forall_mem_cons.mpr ⟨lw_p0, List.forall_mem_cons.mpr ⟨lw_p1, List.forall_mem_cons.mpr ⟨lw_p2, List.forall_mem_cons.mpr ⟨lw_p3, List.forall_mem_cons.mpr ⟨lw_p4, List.forall_mem_cons.mpr ⟨lw_p5, List.forall_mem_cons.mpr ⟨lw_p6, List.forall_mem_cons.mpr ⟨lw_p7, List.forall_mem_cons.mpr ⟨lw_p8, List.forall_mem_cons.mpr ⟨lw_p9, List.forall_mem_cons.mpr ⟨lw_p10, List.forall_mem_cons.mpr ⟨lw_p11, List.forall_mem_cons.mpr ⟨lw_p12, List.forall_mem_cons.mpr ⟨lw_p13, List.forall_mem_cons.mpr ⟨lw_p14, List.forall_mem_cons.mpr ⟨lw_p15, fun _ h => absurd h List.not_mem_nil⟩⟩⟩⟩⟩⟩⟩⟩⟩⟩⟩⟩⟩⟩⟩⟩
theorem lw_p16 : lw_okq (⟨"NeighbourWires$Change", "againstOver", "(I)I"⟩, 7) := ⟨⟨by decide +kernel, by decide +kernel⟩, List.mem_of_getElem? (i := 82) (by decide +kernel), List.mem_of_getElem? (i := 565) (by decide +kernel), List.mem_of_getElem? (i := 566) (by decide +kernel)⟩
theorem lw_p17 : lw_okq (⟨"NeighbourWires$Orders", "addPairs", "(III)V"⟩, 5) := ⟨⟨by decide +kernel, by decide +kernel⟩, List.mem_of_getElem? (i := 170) (by decide +kernel), List.mem_of_getElem? (i := 603) (by decide +kernel), List.mem_of_getElem? (i := 604) (by decide +kernel)⟩
theorem lw_p18 : lw_okq (⟨"NeighbourWires$Orders", "costBehind", "(II)I"⟩, 5) := ⟨⟨by decide +kernel, by decide +kernel⟩, List.mem_of_getElem? (i := 170) (by decide +kernel), List.mem_of_getElem? (i := 619) (by decide +kernel), List.mem_of_getElem? (i := 620) (by decide +kernel)⟩
theorem lw_p19 : lw_okq (⟨"NeighbourWires$Orders", "costVia", "(III)I"⟩, 5) := ⟨⟨by decide +kernel, by decide +kernel⟩, List.mem_of_getElem? (i := 170) (by decide +kernel), List.mem_of_getElem? (i := 624) (by decide +kernel), List.mem_of_getElem? (i := 625) (by decide +kernel)⟩
theorem lw_p20 : lw_okq (⟨"NeighbourWires$Orders", "cheapestOf", "(III)I"⟩, 5) := ⟨⟨by decide +kernel, by decide +kernel⟩, List.mem_of_getElem? (i := 170) (by decide +kernel), List.mem_of_getElem? (i := 640) (by decide +kernel), List.mem_of_getElem? (i := 641) (by decide +kernel)⟩
theorem lw_p21 : lw_okq (⟨"NeighbourWires", "leastShields", "(I)I"⟩, 8) := ⟨⟨by decide +kernel, by decide +kernel⟩, List.mem_of_getElem? (i := 20) (by decide +kernel), List.mem_of_getElem? (i := 651) (by decide +kernel), List.mem_of_getElem? (i := 652) (by decide +kernel)⟩
theorem lw_p22 : lw_okq (⟨"NeighbourWires", "slowestBehind", "(I)I"⟩, 8) := ⟨⟨by decide +kernel, by decide +kernel⟩, List.mem_of_getElem? (i := 20) (by decide +kernel), List.mem_of_getElem? (i := 662) (by decide +kernel), List.mem_of_getElem? (i := 663) (by decide +kernel)⟩
theorem lw_p23 : lw_okq (⟨"NeighbourWires$Turns", "isTurned", "(III)Z"⟩, 6) := ⟨⟨by decide +kernel, by decide +kernel⟩, List.mem_of_getElem? (i := 192) (by decide +kernel), List.mem_of_getElem? (i := 679) (by decide +kernel), List.mem_of_getElem? (i := 680) (by decide +kernel)⟩
theorem lw_p24 : lw_okq (⟨"NeighbourWires$Turns", "movesOtherwise", "(II)I"⟩, 6) := ⟨⟨by decide +kernel, by decide +kernel⟩, List.mem_of_getElem? (i := 192) (by decide +kernel), List.mem_of_getElem? (i := 683) (by decide +kernel), List.mem_of_getElem? (i := 684) (by decide +kernel)⟩
theorem lw_p25 : lw_okq (⟨"NeighbourWires$Turns", "lying", "(II)I"⟩, 6) := ⟨⟨by decide +kernel, by decide +kernel⟩, List.mem_of_getElem? (i := 192) (by decide +kernel), List.mem_of_getElem? (i := 687) (by decide +kernel), List.mem_of_getElem? (i := 688) (by decide +kernel)⟩
theorem lw_p26 : lw_okq (⟨"NeighbourWires$Turns", "costOf", "(III)I"⟩, 6) := ⟨⟨by decide +kernel, by decide +kernel⟩, List.mem_of_getElem? (i := 192) (by decide +kernel), List.mem_of_getElem? (i := 693) (by decide +kernel), List.mem_of_getElem? (i := 694) (by decide +kernel)⟩
theorem lw_p27 : lw_okq (⟨"NeighbourWires", "lesser", "(II)I"⟩, 8) := ⟨⟨by decide +kernel, by decide +kernel⟩, List.mem_of_getElem? (i := 20) (by decide +kernel), List.mem_of_getElem? (i := 709) (by decide +kernel), List.mem_of_getElem? (i := 710) (by decide +kernel)⟩
theorem lw_p28 : lw_okq (⟨"NeighbourWires", "isInBook", "(II)Z"⟩, 8) := ⟨⟨by decide +kernel, by decide +kernel⟩, List.mem_of_getElem? (i := 20) (by decide +kernel), List.mem_of_getElem? (i := 713) (by decide +kernel), List.mem_of_getElem? (i := 714) (by decide +kernel)⟩
theorem lw_p29 : lw_okq (⟨"NeighbourWires", "slowestInto", "(II)I"⟩, 8) := ⟨⟨by decide +kernel, by decide +kernel⟩, List.mem_of_getElem? (i := 20) (by decide +kernel), List.mem_of_getElem? (i := 729) (by decide +kernel), List.mem_of_getElem? (i := 730) (by decide +kernel)⟩
theorem lw_p30 : lw_okq (⟨"NeighbourWires$Machine", "link", "(III)V"⟩, 6) := ⟨⟨by decide +kernel, by decide +kernel⟩, List.mem_of_getElem? (i := 221) (by decide +kernel), List.mem_of_getElem? (i := 743) (by decide +kernel), List.mem_of_getElem? (i := 744) (by decide +kernel)⟩
theorem lw_p31 : lw_okq (⟨"NeighbourWires$Machine", "addWay", "(III)V"⟩, 6) := ⟨⟨by decide +kernel, by decide +kernel⟩, List.mem_of_getElem? (i := 221) (by decide +kernel), List.mem_of_getElem? (i := 747) (by decide +kernel), List.mem_of_getElem? (i := 748) (by decide +kernel)⟩
def lw_privs_2 : List (MethodName × Nat) := [(⟨"NeighbourWires$Change", "againstOver", "(I)I"⟩, 7), (⟨"NeighbourWires$Orders", "addPairs", "(III)V"⟩, 5), (⟨"NeighbourWires$Orders", "costBehind", "(II)I"⟩, 5), (⟨"NeighbourWires$Orders", "costVia", "(III)I"⟩, 5), (⟨"NeighbourWires$Orders", "cheapestOf", "(III)I"⟩, 5), (⟨"NeighbourWires", "leastShields", "(I)I"⟩, 8), (⟨"NeighbourWires", "slowestBehind", "(I)I"⟩, 8), (⟨"NeighbourWires$Turns", "isTurned", "(III)Z"⟩, 6), (⟨"NeighbourWires$Turns", "movesOtherwise", "(II)I"⟩, 6), (⟨"NeighbourWires$Turns", "lying", "(II)I"⟩, 6), (⟨"NeighbourWires$Turns", "costOf", "(III)I"⟩, 6), (⟨"NeighbourWires", "lesser", "(II)I"⟩, 8), (⟨"NeighbourWires", "isInBook", "(II)Z"⟩, 8), (⟨"NeighbourWires", "slowestInto", "(II)I"⟩, 8), (⟨"NeighbourWires$Machine", "link", "(III)V"⟩, 6), (⟨"NeighbourWires$Machine", "addWay", "(III)V"⟩, 6)]
theorem lw_r2 : ∀ q ∈ lw_privs_2, lw_okq q := List.forall_mem_cons.mpr ⟨lw_p16, List.forall_mem_cons.mpr ⟨lw_p17, List.forall_mem_cons.mpr ⟨lw_p18, List.forall_mem_cons.mpr ⟨lw_p19, List.forall_mem_cons.mpr ⟨lw_p20, List.forall_mem_cons.mpr ⟨lw_p21, List.forall_mem_cons.mpr ⟨lw_p22, List.forall_mem_cons.mpr ⟨lw_p23, List.forall_mem_cons.mpr ⟨lw_p24, List.forall_mem_cons.mpr ⟨lw_p25, List.forall_mem_cons.mpr ⟨lw_p26, List.forall_mem_cons.mpr ⟨lw_p27, List.forall_mem_cons.mpr ⟨lw_p28, List.forall_mem_cons.mpr ⟨lw_p29, List.forall_mem_cons.mpr ⟨lw_p30, List.forall_mem_cons.mpr ⟨lw_p31, fun _ h => absurd h List.not_mem_nil⟩⟩⟩⟩⟩⟩⟩⟩⟩⟩⟩⟩⟩⟩⟩⟩
theorem lw_p32 : lw_okq (⟨"NeighbourWires$Machine", "nearPart", "(III)J"⟩, 6) := ⟨⟨by decide +kernel, by decide +kernel⟩, List.mem_of_getElem? (i := 221) (by decide +kernel), List.mem_of_getElem? (i := 770) (by decide +kernel), List.mem_of_getElem? (i := 771) (by decide +kernel)⟩
theorem lw_p33 : lw_okq (⟨"NeighbourWires", "keep", "(II)I"⟩, 8) := ⟨⟨by decide +kernel, by decide +kernel⟩, List.mem_of_getElem? (i := 20) (by decide +kernel), List.mem_of_getElem? (i := 787) (by decide +kernel), List.mem_of_getElem? (i := 788) (by decide +kernel)⟩
theorem lw_p34 : lw_okq (⟨"NeighbourWires$Machine", "fillKept", "()V"⟩, 6) := ⟨⟨by decide +kernel, by decide +kernel⟩, List.mem_of_getElem? (i := 221) (by decide +kernel), List.mem_of_getElem? (i := 795) (by decide +kernel), List.mem_of_getElem? (i := 796) (by decide +kernel)⟩
theorem lw_p35 : lw_okq (⟨"NeighbourWires$Machine", "keptWays", "(II)I"⟩, 6) := ⟨⟨by decide +kernel, by decide +kernel⟩, List.mem_of_getElem? (i := 221) (by decide +kernel), List.mem_of_getElem? (i := 803) (by decide +kernel), List.mem_of_getElem? (i := 804) (by decide +kernel)⟩
theorem lw_p36 : lw_okq (⟨"NeighbourWires$Machine", "drop", "(I)V"⟩, 6) := ⟨⟨by decide +kernel, by decide +kernel⟩, List.mem_of_getElem? (i := 221) (by decide +kernel), List.mem_of_getElem? (i := 807) (by decide +kernel), List.mem_of_getElem? (i := 808) (by decide +kernel)⟩
theorem lw_p37 : lw_okq (⟨"NeighbourWiresModel", "next", "()V"⟩, 37) := ⟨⟨by decide +kernel, by decide +kernel⟩, List.mem_of_getElem? (i := 888) (by decide +kernel), List.mem_of_getElem? (i := 1024) (by decide +kernel), List.mem_of_getElem? (i := 1025) (by decide +kernel)⟩
theorem lw_p38 : lw_okq (⟨"NeighbourWiresModel", "look", "(I)I"⟩, 37) := ⟨⟨by decide +kernel, by decide +kernel⟩, List.mem_of_getElem? (i := 888) (by decide +kernel), List.mem_of_getElem? (i := 1028) (by decide +kernel), List.mem_of_getElem? (i := 1029) (by decide +kernel)⟩
theorem lw_p39 : lw_okq (⟨"NeighbourWiresModel", "nameNow", "()I"⟩, 37) := ⟨⟨by decide +kernel, by decide +kernel⟩, List.mem_of_getElem? (i := 888) (by decide +kernel), List.mem_of_getElem? (i := 1034) (by decide +kernel), List.mem_of_getElem? (i := 1035) (by decide +kernel)⟩
theorem lw_p40 : lw_okq (⟨"NeighbourWiresModel", "is", "(IIIII)Z"⟩, 37) := ⟨⟨by decide +kernel, by decide +kernel⟩, List.mem_of_getElem? (i := 888) (by decide +kernel), List.mem_of_getElem? (i := 1038) (by decide +kernel), List.mem_of_getElem? (i := 1039) (by decide +kernel)⟩
theorem lw_p41 : lw_okq (⟨"NeighbourWiresModel", "wants", "(ZI)V"⟩, 37) := ⟨⟨by decide +kernel, by decide +kernel⟩, List.mem_of_getElem? (i := 888) (by decide +kernel), List.mem_of_getElem? (i := 1042) (by decide +kernel), List.mem_of_getElem? (i := 1043) (by decide +kernel)⟩
theorem lw_p42 : lw_okq (⟨"NeighbourWiresModel", "readLine", "()V"⟩, 37) := ⟨⟨by decide +kernel, by decide +kernel⟩, List.mem_of_getElem? (i := 888) (by decide +kernel), List.mem_of_getElem? (i := 1048) (by decide +kernel), List.mem_of_getElem? (i := 1049) (by decide +kernel)⟩
theorem lw_p43 : lw_okq (⟨"NeighbourWiresModel", "readNumber", "(II)I"⟩, 37) := ⟨⟨by decide +kernel, by decide +kernel⟩, List.mem_of_getElem? (i := 888) (by decide +kernel), List.mem_of_getElem? (i := 1052) (by decide +kernel), List.mem_of_getElem? (i := 1053) (by decide +kernel)⟩
theorem lw_p44 : lw_okq (⟨"NeighbourWiresModel", "isNumber", "(II)V"⟩, 37) := ⟨⟨by decide +kernel, by decide +kernel⟩, List.mem_of_getElem? (i := 888) (by decide +kernel), List.mem_of_getElem? (i := 1056) (by decide +kernel), List.mem_of_getElem? (i := 1057) (by decide +kernel)⟩
theorem lw_p45 : lw_okq (⟨"NeighbourWiresModel", "readSend", "()V"⟩, 37) := ⟨⟨by decide +kernel, by decide +kernel⟩, List.mem_of_getElem? (i := 888) (by decide +kernel), List.mem_of_getElem? (i := 1060) (by decide +kernel), List.mem_of_getElem? (i := 1061) (by decide +kernel)⟩
theorem lw_p46 : lw_okq (⟨"NeighbourWiresModel", "readStep", "()V"⟩, 37) := ⟨⟨by decide +kernel, by decide +kernel⟩, List.mem_of_getElem? (i := 888) (by decide +kernel), List.mem_of_getElem? (i := 1064) (by decide +kernel), List.mem_of_getElem? (i := 1065) (by decide +kernel)⟩
theorem lw_p47 : lw_okq (⟨"NeighbourWiresModel", "isWord", "(I)Z"⟩, 37) := ⟨⟨by decide +kernel, by decide +kernel⟩, List.mem_of_getElem? (i := 888) (by decide +kernel), List.mem_of_getElem? (i := 1088) (by decide +kernel), List.mem_of_getElem? (i := 1089) (by decide +kernel)⟩
def lw_privs_3 : List (MethodName × Nat) := [(⟨"NeighbourWires$Machine", "nearPart", "(III)J"⟩, 6), (⟨"NeighbourWires", "keep", "(II)I"⟩, 8), (⟨"NeighbourWires$Machine", "fillKept", "()V"⟩, 6), (⟨"NeighbourWires$Machine", "keptWays", "(II)I"⟩, 6), (⟨"NeighbourWires$Machine", "drop", "(I)V"⟩, 6), (⟨"NeighbourWiresModel", "next", "()V"⟩, 37), (⟨"NeighbourWiresModel", "look", "(I)I"⟩, 37), (⟨"NeighbourWiresModel", "nameNow", "()I"⟩, 37), (⟨"NeighbourWiresModel", "is", "(IIIII)Z"⟩, 37), (⟨"NeighbourWiresModel", "wants", "(ZI)V"⟩, 37), (⟨"NeighbourWiresModel", "readLine", "()V"⟩, 37), (⟨"NeighbourWiresModel", "readNumber", "(II)I"⟩, 37), (⟨"NeighbourWiresModel", "isNumber", "(II)V"⟩, 37), (⟨"NeighbourWiresModel", "readSend", "()V"⟩, 37), (⟨"NeighbourWiresModel", "readStep", "()V"⟩, 37), (⟨"NeighbourWiresModel", "isWord", "(I)Z"⟩, 37)]
theorem lw_r3 : ∀ q ∈ lw_privs_3, lw_okq q := List.forall_mem_cons.mpr ⟨lw_p32, List.forall_mem_cons.mpr ⟨lw_p33, List.forall_mem_cons.mpr ⟨lw_p34, List.forall_mem_cons.mpr ⟨lw_p35, List.forall_mem_cons.mpr ⟨lw_p36, List.forall_mem_cons.mpr ⟨lw_p37, List.forall_mem_cons.mpr ⟨lw_p38, List.forall_mem_cons.mpr ⟨lw_p39, List.forall_mem_cons.mpr ⟨lw_p40, List.forall_mem_cons.mpr ⟨lw_p41, List.forall_mem_cons.mpr ⟨lw_p42, List.forall_mem_cons.mpr ⟨lw_p43, List.forall_mem_cons.mpr ⟨lw_p44, List.forall_mem_cons.mpr ⟨lw_p45, List.forall_mem_cons.mpr ⟨lw_p46, List.forall_mem_cons.mpr ⟨lw_p47, fun _ h => absurd h List.not_mem_nil⟩⟩⟩⟩⟩⟩⟩⟩⟩⟩⟩⟩⟩⟩⟩⟩
theorem lw_p48 : lw_okq (⟨"NeighbourWiresModel", "plainMoves", "(II)V"⟩, 37) := ⟨⟨by decide +kernel, by decide +kernel⟩, List.mem_of_getElem? (i := 888) (by decide +kernel), List.mem_of_getElem? (i := 1093) (by decide +kernel), List.mem_of_getElem? (i := 1094) (by decide +kernel)⟩
theorem lw_p49 : lw_okq (⟨"NeighbourWiresModel", "moves", "(IIIZI)V"⟩, 37) := ⟨⟨by decide +kernel, by decide +kernel⟩, List.mem_of_getElem? (i := 888) (by decide +kernel), List.mem_of_getElem? (i := 1097) (by decide +kernel), List.mem_of_getElem? (i := 1098) (by decide +kernel)⟩
theorem lw_p50 : lw_okq (⟨"NeighbourWiresModel", "told", "(I)I"⟩, 37) := ⟨⟨by decide +kernel, by decide +kernel⟩, List.mem_of_getElem? (i := 888) (by decide +kernel), List.mem_of_getElem? (i := 1101) (by decide +kernel), List.mem_of_getElem? (i := 1102) (by decide +kernel)⟩
theorem lw_p51 : lw_okq (⟨"NeighbourWiresModel", "costNow", "()I"⟩, 37) := ⟨⟨by decide +kernel, by decide +kernel⟩, List.mem_of_getElem? (i := 888) (by decide +kernel), List.mem_of_getElem? (i := 1105) (by decide +kernel), List.mem_of_getElem? (i := 1106) (by decide +kernel)⟩
theorem lw_p52 : lw_okq (⟨"NeighbourWiresModel", "isGuarded", "(I)Z"⟩, 37) := ⟨⟨by decide +kernel, by decide +kernel⟩, List.mem_of_getElem? (i := 888) (by decide +kernel), List.mem_of_getElem? (i := 1109) (by decide +kernel), List.mem_of_getElem? (i := 1110) (by decide +kernel)⟩
theorem lw_p53 : lw_okq (⟨"NeighbourWiresModel", "movedNow", "()I"⟩, 37) := ⟨⟨by decide +kernel, by decide +kernel⟩, List.mem_of_getElem? (i := 888) (by decide +kernel), List.mem_of_getElem? (i := 1113) (by decide +kernel), List.mem_of_getElem? (i := 1114) (by decide +kernel)⟩
theorem lw_p54 : lw_okq (⟨"NeighbourWiresModel", "slowNow", "()I"⟩, 37) := ⟨⟨by decide +kernel, by decide +kernel⟩, List.mem_of_getElem? (i := 888) (by decide +kernel), List.mem_of_getElem? (i := 1117) (by decide +kernel), List.mem_of_getElem? (i := 1118) (by decide +kernel)⟩
theorem lw_p55 : lw_okq (⟨"NeighbourWiresModel", "slowAt", "(I)I"⟩, 37) := ⟨⟨by decide +kernel, by decide +kernel⟩, List.mem_of_getElem? (i := 888) (by decide +kernel), List.mem_of_getElem? (i := 1121) (by decide +kernel), List.mem_of_getElem? (i := 1122) (by decide +kernel)⟩
theorem lw_p56 : lw_okq (⟨"NeighbourWiresModel", "noiseNow", "()I"⟩, 37) := ⟨⟨by decide +kernel, by decide +kernel⟩, List.mem_of_getElem? (i := 888) (by decide +kernel), List.mem_of_getElem? (i := 1128) (by decide +kernel), List.mem_of_getElem? (i := 1129) (by decide +kernel)⟩
theorem lw_p57 : lw_okq (⟨"NeighbourWiresModel", "ahead", "(I)I"⟩, 37) := ⟨⟨by decide +kernel, by decide +kernel⟩, List.mem_of_getElem? (i := 888) (by decide +kernel), List.mem_of_getElem? (i := 1155) (by decide +kernel), List.mem_of_getElem? (i := 1156) (by decide +kernel)⟩
theorem lw_p58 : lw_okq (⟨"NeighbourWiresModel", "goesOn", "()Z"⟩, 37) := ⟨⟨by decide +kernel, by decide +kernel⟩, List.mem_of_getElem? (i := 888) (by decide +kernel), List.mem_of_getElem? (i := 1164) (by decide +kernel), List.mem_of_getElem? (i := 1165) (by decide +kernel)⟩
theorem lw_p59 : lw_okq (⟨"NeighbourWiresModel", "swaps", "(II)V"⟩, 37) := ⟨⟨by decide +kernel, by decide +kernel⟩, List.mem_of_getElem? (i := 888) (by decide +kernel), List.mem_of_getElem? (i := 1168) (by decide +kernel), List.mem_of_getElem? (i := 1169) (by decide +kernel)⟩
theorem lw_p60 : lw_okq (⟨"NeighbourWiresModel", "findToCome", "()V"⟩, 37) := ⟨⟨by decide +kernel, by decide +kernel⟩, List.mem_of_getElem? (i := 888) (by decide +kernel), List.mem_of_getElem? (i := 1183) (by decide +kernel), List.mem_of_getElem? (i := 1184) (by decide +kernel)⟩
theorem lw_p61 : lw_okq (⟨"NeighbourWiresModel", "lying", "(II)I"⟩, 37) := ⟨⟨by decide +kernel, by decide +kernel⟩, List.mem_of_getElem? (i := 888) (by decide +kernel), List.mem_of_getElem? (i := 1187) (by decide +kernel), List.mem_of_getElem? (i := 1188) (by decide +kernel)⟩
theorem lw_p62 : lw_okq (⟨"NeighbourWiresModel", "widerCost", "(II)I"⟩, 37) := ⟨⟨by decide +kernel, by decide +kernel⟩, List.mem_of_getElem? (i := 888) (by decide +kernel), List.mem_of_getElem? (i := 1191) (by decide +kernel), List.mem_of_getElem? (i := 1192) (by decide +kernel)⟩
theorem lw_p63 : lw_okq (⟨"NeighbourWiresModel", "widerMoves", "(II)V"⟩, 37) := ⟨⟨by decide +kernel, by decide +kernel⟩, List.mem_of_getElem? (i := 888) (by decide +kernel), List.mem_of_getElem? (i := 1195) (by decide +kernel), List.mem_of_getElem? (i := 1196) (by decide +kernel)⟩
def lw_privs_4 : List (MethodName × Nat) := [(⟨"NeighbourWiresModel", "plainMoves", "(II)V"⟩, 37), (⟨"NeighbourWiresModel", "moves", "(IIIZI)V"⟩, 37), (⟨"NeighbourWiresModel", "told", "(I)I"⟩, 37), (⟨"NeighbourWiresModel", "costNow", "()I"⟩, 37), (⟨"NeighbourWiresModel", "isGuarded", "(I)Z"⟩, 37), (⟨"NeighbourWiresModel", "movedNow", "()I"⟩, 37), (⟨"NeighbourWiresModel", "slowNow", "()I"⟩, 37), (⟨"NeighbourWiresModel", "slowAt", "(I)I"⟩, 37), (⟨"NeighbourWiresModel", "noiseNow", "()I"⟩, 37), (⟨"NeighbourWiresModel", "ahead", "(I)I"⟩, 37), (⟨"NeighbourWiresModel", "goesOn", "()Z"⟩, 37), (⟨"NeighbourWiresModel", "swaps", "(II)V"⟩, 37), (⟨"NeighbourWiresModel", "findToCome", "()V"⟩, 37), (⟨"NeighbourWiresModel", "lying", "(II)I"⟩, 37), (⟨"NeighbourWiresModel", "widerCost", "(II)I"⟩, 37), (⟨"NeighbourWiresModel", "widerMoves", "(II)V"⟩, 37)]
theorem lw_r4 : ∀ q ∈ lw_privs_4, lw_okq q := List.forall_mem_cons.mpr ⟨lw_p48, List.forall_mem_cons.mpr ⟨lw_p49, List.forall_mem_cons.mpr ⟨lw_p50, List.forall_mem_cons.mpr ⟨lw_p51, List.forall_mem_cons.mpr ⟨lw_p52, List.forall_mem_cons.mpr ⟨lw_p53, List.forall_mem_cons.mpr ⟨lw_p54, List.forall_mem_cons.mpr ⟨lw_p55, List.forall_mem_cons.mpr ⟨lw_p56, List.forall_mem_cons.mpr ⟨lw_p57, List.forall_mem_cons.mpr ⟨lw_p58, List.forall_mem_cons.mpr ⟨lw_p59, List.forall_mem_cons.mpr ⟨lw_p60, List.forall_mem_cons.mpr ⟨lw_p61, List.forall_mem_cons.mpr ⟨lw_p62, List.forall_mem_cons.mpr ⟨lw_p63, fun _ h => absurd h List.not_mem_nil⟩⟩⟩⟩⟩⟩⟩⟩⟩⟩⟩⟩⟩⟩⟩⟩
theorem lw_p64 : lw_okq (⟨"NeighbourWiresModel", "turnsNow", "(III)I"⟩, 37) := ⟨⟨by decide +kernel, by decide +kernel⟩, List.mem_of_getElem? (i := 888) (by decide +kernel), List.mem_of_getElem? (i := 1199) (by decide +kernel), List.mem_of_getElem? (i := 1200) (by decide +kernel)⟩
theorem lw_p65 : lw_okq (⟨"NeighbourWiresModel", "isIn", "(II)Z"⟩, 37) := ⟨⟨by decide +kernel, by decide +kernel⟩, List.mem_of_getElem? (i := 888) (by decide +kernel), List.mem_of_getElem? (i := 1207) (by decide +kernel), List.mem_of_getElem? (i := 1208) (by decide +kernel)⟩
theorem lw_p66 : lw_okq (⟨"NeighbourWiresModel", "slowBy", "(II)I"⟩, 37) := ⟨⟨by decide +kernel, by decide +kernel⟩, List.mem_of_getElem? (i := 888) (by decide +kernel), List.mem_of_getElem? (i := 1223) (by decide +kernel), List.mem_of_getElem? (i := 1224) (by decide +kernel)⟩
theorem lw_p67 : lw_okq (⟨"NeighbourWiresModel", "allKept", "()V"⟩, 37) := ⟨⟨by decide +kernel, by decide +kernel⟩, List.mem_of_getElem? (i := 888) (by decide +kernel), List.mem_of_getElem? (i := 1235) (by decide +kernel), List.mem_of_getElem? (i := 1236) (by decide +kernel)⟩
theorem lw_p68 : lw_okq (⟨"NeighbourWiresModel", "findSlows", "()V"⟩, 37) := ⟨⟨by decide +kernel, by decide +kernel⟩, List.mem_of_getElem? (i := 888) (by decide +kernel), List.mem_of_getElem? (i := 1239) (by decide +kernel), List.mem_of_getElem? (i := 1240) (by decide +kernel)⟩
theorem lw_p69 : lw_okq (⟨"NeighbourWiresModel", "waysFrom", "(II)I"⟩, 37) := ⟨⟨by decide +kernel, by decide +kernel⟩, List.mem_of_getElem? (i := 888) (by decide +kernel), List.mem_of_getElem? (i := 1243) (by decide +kernel), List.mem_of_getElem? (i := 1244) (by decide +kernel)⟩
theorem lw_p70 : lw_okq (⟨"NeighbourWiresModel", "findKept", "(II)I"⟩, 37) := ⟨⟨by decide +kernel, by decide +kernel⟩, List.mem_of_getElem? (i := 888) (by decide +kernel), List.mem_of_getElem? (i := 1252) (by decide +kernel), List.mem_of_getElem? (i := 1253) (by decide +kernel)⟩
theorem lw_p71 : lw_okq (⟨"NeighbourWiresModel", "leastKept", "()I"⟩, 37) := ⟨⟨by decide +kernel, by decide +kernel⟩, List.mem_of_getElem? (i := 888) (by decide +kernel), List.mem_of_getElem? (i := 1256) (by decide +kernel), List.mem_of_getElem? (i := 1257) (by decide +kernel)⟩
def lw_privs_5 : List (MethodName × Nat) := [(⟨"NeighbourWiresModel", "turnsNow", "(III)I"⟩, 37), (⟨"NeighbourWiresModel", "isIn", "(II)Z"⟩, 37), (⟨"NeighbourWiresModel", "slowBy", "(II)I"⟩, 37), (⟨"NeighbourWiresModel", "allKept", "()V"⟩, 37), (⟨"NeighbourWiresModel", "findSlows", "()V"⟩, 37), (⟨"NeighbourWiresModel", "waysFrom", "(II)I"⟩, 37), (⟨"NeighbourWiresModel", "findKept", "(II)I"⟩, 37), (⟨"NeighbourWiresModel", "leastKept", "()I"⟩, 37)]
theorem lw_r5 : ∀ q ∈ lw_privs_5, lw_okq q := List.forall_mem_cons.mpr ⟨lw_p64, List.forall_mem_cons.mpr ⟨lw_p65, List.forall_mem_cons.mpr ⟨lw_p66, List.forall_mem_cons.mpr ⟨lw_p67, List.forall_mem_cons.mpr ⟨lw_p68, List.forall_mem_cons.mpr ⟨lw_p69, List.forall_mem_cons.mpr ⟨lw_p70, List.forall_mem_cons.mpr ⟨lw_p71, fun _ h => absurd h List.not_mem_nil⟩⟩⟩⟩⟩⟩⟩⟩
def lw_privs : List (MethodName × Nat) := lw_privs_1 ++ (lw_privs_2 ++ (lw_privs_3 ++ (lw_privs_4 ++ (lw_privs_5))))
def lw_tbl : List Cond := k2_sels lw_privs ++ tables_1
theorem lw_privs_ok : ∀ q ∈ lw_privs, lw_okq q := by
  show ∀ q ∈ lw_privs_1 ++ (lw_privs_2 ++ (lw_privs_3 ++ (lw_privs_4 ++ (lw_privs_5)))), lw_okq q
  exact List.forall_mem_append.mpr ⟨lw_r1, List.forall_mem_append.mpr ⟨lw_r2, List.forall_mem_append.mpr ⟨lw_r3, List.forall_mem_append.mpr ⟨lw_r4, lw_r5⟩⟩⟩⟩
-- ===== end of PART A; then your names; then what follows =====
end
section
def T0 : u_T := fun k => match k with
  | 0 => ("NeighbourWires$Change", "places", "I", false)
  | 1 => ("NeighbourWires$Change", "rising", "I", false)
  | 2 => ("NeighbourWires$Change", "falling", "I", false)
  | 3 => ("NeighbourWires$Change", "moving", "I", false)
  | 4 => ("NeighbourWires$Change", "shielded", "I", false)
  | 5 => ("NeighbourWires$Change", "against1", "I", false)
  | _ => ("NeighbourWires$Change", "against2", "I", false)
def t0 : Nat → FieldType := fun k => match k with
  | 0 => .int
  | 1 => .int
  | 2 => .int
  | 3 => .int
  | 4 => .int
  | 5 => .int
  | _ => .int
def T1 : u_T := fun k => match k with
  | 0 => ("NeighbourWires$Machine", "change", "LNeighbourWires$Change;", true)
  | 1 => ("NeighbourWires$Machine", "near", "[J", true)
  | 2 => ("NeighbourWires$Machine", "kept", "[J", true)
  | 3 => ("NeighbourWires$Machine", "seen", "[J", true)
  | 4 => ("NeighbourWires$Machine", "wires", "I", false)
  | _ => ("NeighbourWires$Machine", "words", "I", false)
def t1 : Nat → FieldType := fun k => match k with
  | 0 => .object "NeighbourWires$Change"
  | 1 => .array .long
  | 2 => .array .long
  | 3 => .array .long
  | 4 => .int
  | _ => .int
def T2 : u_T := fun k => match k with
  | 0 => ("NeighbourWires$Orders", "asNeighbours", "[I", true)
  | 1 => ("NeighbourWires$Orders", "least", "[I", true)
  | 2 => ("NeighbourWires$Orders", "plan", "LNeighbourWires$Plan;", true)
  | 3 => ("NeighbourWires$Orders", "wires", "I", false)
  | _ => ("NeighbourWires$Orders", "ownCost", "I", false)
def t2 : Nat → FieldType := fun k => match k with
  | 0 => .array .int
  | 1 => .array .int
  | 2 => .object "NeighbourWires$Plan"
  | 3 => .int
  | _ => .int
def T3 : u_T := fun k => match k with
  | 0 => ("NeighbourWires$Plan", "wires", "I", false)
  | 1 => ("NeighbourWires$Plan", "own", "I", false)
  | 2 => ("NeighbourWires$Plan", "side", "I", false)
  | 3 => ("NeighbourWires$Plan", "shields", "I", false)
  | 4 => ("NeighbourWires$Plan", "length", "I", false)
  | 5 => ("NeighbourWires$Plan", "wireAt", "[I", true)
  | 6 => ("NeighbourWires$Plan", "row", "[I", true)
  | _ => ("NeighbourWires$Plan", "laid", "[I", true)
def t3 : Nat → FieldType := fun k => match k with
  | 0 => .int
  | 1 => .int
  | 2 => .int
  | 3 => .int
  | 4 => .int
  | 5 => .array .int
  | 6 => .array .int
  | _ => .array .int
def T4 : u_T := fun k => match k with
  | 0 => ("NeighbourWires$Reader", "tape", "LNeighbourWires$Tape;", true)
  | 1 => ("NeighbourWires$Reader", "told", "LNeighbourWires$Plan;", true)
  | 2 => ("NeighbourWires$Reader", "fault", "I", false)
  | 3 => ("NeighbourWires$Reader", "namesTold", "I", false)
  | 4 => ("NeighbourWires$Reader", "stepFrom", "I", false)
  | _ => ("NeighbourWires$Reader", "stepBy", "I", false)
def t4 : Nat → FieldType := fun k => match k with
  | 0 => .object "NeighbourWires$Tape"
  | 1 => .object "NeighbourWires$Plan"
  | 2 => .int
  | 3 => .int
  | 4 => .int
  | _ => .int
def T5 : u_T := fun k => match k with
  | 0 => ("NeighbourWires$Sheet", "lane", "I", false)
  | 1 => ("NeighbourWires$Sheet", "size", "I", false)
  | _ => ("NeighbourWires$Sheet", "cells", "[I", true)
def t5 : Nat → FieldType := fun k => match k with
  | 0 => .int
  | 1 => .int
  | _ => .array .int
def T6 : u_T := fun k => match k with
  | 0 => ("NeighbourWires$Tape", "size", "I", false)
  | 1 => ("NeighbourWires$Tape", "kind", "I", false)
  | 2 => ("NeighbourWires$Tape", "start", "I", false)
  | 3 => ("NeighbourWires$Tape", "value", "I", false)
  | 4 => ("NeighbourWires$Tape", "bytes", "[B", true)
  | _ => ("NeighbourWires$Tape", "ahead", "I", false)
def t6 : Nat → FieldType := fun k => match k with
  | 0 => .int
  | 1 => .int
  | 2 => .int
  | 3 => .int
  | 4 => .array .byte
  | _ => .int
def T7 : u_T := fun k => match k with
  | 0 => ("NeighbourWires$Turns", "cost", "I", false)
  | 1 => ("NeighbourWires$Turns", "count", "I", false)
  | 2 => ("NeighbourWires$Turns", "first", "I", false)
  | 3 => ("NeighbourWires$Turns", "slowest", "I", false)
  | 4 => ("NeighbourWires$Turns", "plan", "LNeighbourWires$Plan;", true)
  | _ => ("NeighbourWires$Turns", "change", "LNeighbourWires$Change;", true)
def t7 : Nat → FieldType := fun k => match k with
  | 0 => .int
  | 1 => .int
  | 2 => .int
  | 3 => .int
  | 4 => .object "NeighbourWires$Plan"
  | _ => .object "NeighbourWires$Change"
def T8 : u_T := fun k => match k with
  | 0 => ("NeighbourWires", "plan", "LNeighbourWires$Plan;", true)
  | 1 => ("NeighbourWires", "change", "LNeighbourWires$Change;", true)
  | 2 => ("NeighbourWires", "reader", "LNeighbourWires$Reader;", true)
  | 3 => ("NeighbourWires", "orders", "LNeighbourWires$Orders;", true)
  | 4 => ("NeighbourWires", "turns", "LNeighbourWires$Turns;", true)
  | 5 => ("NeighbourWires", "machine", "LNeighbourWires$Machine;", true)
  | 6 => ("NeighbourWires", "sheets", "[LNeighbourWires$Sheet;", true)
  | _ => ("NeighbourWires", "torn", "I", false)
def t8 : Nat → FieldType := fun k => match k with
  | 0 => .object "NeighbourWires$Plan"
  | 1 => .object "NeighbourWires$Change"
  | 2 => .object "NeighbourWires$Reader"
  | 3 => .object "NeighbourWires$Orders"
  | 4 => .object "NeighbourWires$Turns"
  | 5 => .object "NeighbourWires$Machine"
  | 6 => .array (.object "NeighbourWires$Sheet")
  | _ => .int
def T9 : u_T := fun k => match k with
  | 0 => ("NeighbourWiresModel", "wires", "I", false)
  | 1 => ("NeighbourWiresModel", "own", "I", false)
  | 2 => ("NeighbourWiresModel", "side", "I", false)
  | 3 => ("NeighbourWiresModel", "shields", "I", false)
  | 4 => ("NeighbourWiresModel", "rowLong", "I", false)
  | 5 => ("NeighbourWiresModel", "words", "[I", true)
  | 6 => ("NeighbourWiresModel", "order", "[I", true)
  | 7 => ("NeighbourWiresModel", "dWires", "I", false)
  | 8 => ("NeighbourWiresModel", "dOwn", "I", false)
  | 9 => ("NeighbourWiresModel", "dSide", "I", false)
  | 10 => ("NeighbourWiresModel", "dShields", "I", false)
  | 11 => ("NeighbourWiresModel", "dLong", "I", false)
  | 12 => ("NeighbourWiresModel", "dWords", "[I", true)
  | 13 => ("NeighbourWiresModel", "isTold", "[Z", true)
  | 14 => ("NeighbourWiresModel", "tape", "[I", true)
  | 15 => ("NeighbourWiresModel", "taped", "I", false)
  | 16 => ("NeighbourWiresModel", "pos", "I", false)
  | 17 => ("NeighbourWiresModel", "from", "I", false)
  | 18 => ("NeighbourWiresModel", "sort", "I", false)
  | 19 => ("NeighbourWiresModel", "value", "I", false)
  | 20 => ("NeighbourWiresModel", "fault", "I", false)
  | 21 => ("NeighbourWiresModel", "wrongAt", "I", false)
  | 22 => ("NeighbourWiresModel", "asked", "[I", true)
  | 23 => ("NeighbourWiresModel", "move", "[I", true)
  | 24 => ("NeighbourWiresModel", "places", "I", false)
  | 25 => ("NeighbourWiresModel", "guards", "I", false)
  | 26 => ("NeighbourWiresModel", "beside", "[I", true)
  | 27 => ("NeighbourWiresModel", "tried", "[I", true)
  | 28 => ("NeighbourWiresModel", "toCome", "[I", true)
  | 29 => ("NeighbourWiresModel", "goesWith", "[I", true)
  | 30 => ("NeighbourWiresModel", "isKept", "[Z", true)
  | 31 => ("NeighbourWiresModel", "slowFor", "I", false)
  | 32 => ("NeighbourWiresModel", "slows", "[I", true)
  | 33 => ("NeighbourWiresModel", "lanes", "[I", true)
  | 34 => ("NeighbourWiresModel", "sizes", "[I", true)
  | 35 => ("NeighbourWiresModel", "cells", "[I", true)
  | _ => ("NeighbourWiresModel", "torn", "I", false)
def t9 : Nat → FieldType := fun k => match k with
  | 0 => .int
  | 1 => .int
  | 2 => .int
  | 3 => .int
  | 4 => .int
  | 5 => .array .int
  | 6 => .array .int
  | 7 => .int
  | 8 => .int
  | 9 => .int
  | 10 => .int
  | 11 => .int
  | 12 => .array .int
  | 13 => .array .boolean
  | 14 => .array .int
  | 15 => .int
  | 16 => .int
  | 17 => .int
  | 18 => .int
  | 19 => .int
  | 20 => .int
  | 21 => .int
  | 22 => .array .int
  | 23 => .array .int
  | 24 => .int
  | 25 => .int
  | 26 => .array .int
  | 27 => .array .int
  | 28 => .array .int
  | 29 => .array .int
  | 30 => .array .boolean
  | 31 => .int
  | 32 => .array .int
  | 33 => .array .int
  | 34 => .array .int
  | 35 => .array .int
  | _ => .int
abbrev cls : List vw_C := [("NeighbourWires$Change", T0, 7), ("NeighbourWires$Machine", T1, 6), ("NeighbourWires$Orders", T2, 5), ("NeighbourWires$Plan", T3, 8), ("NeighbourWires$Reader", T4, 6), ("NeighbourWires$Sheet", T5, 3), ("NeighbourWires$Tape", T6, 6), ("NeighbourWires$Turns", T7, 6), ("NeighbourWires", T8, 8), ("NeighbourWiresModel", T9, 37)]
def tw : List Cond := lw_tbl.filter goodWord
theorem tw_of {w : Cond} (i : Nat) (h : lw_tbl[i]? = some w ∧ goodWord w = true) : w ∈ tw := List.mem_filter.mpr ⟨List.mem_of_getElem? h.1, h.2⟩
theorem tw_good {w : Cond} (h : w ∈ tw) : goodWord w = true := (List.mem_filter.mp h).2
theorem tw_tbl {w : Cond} (h : w ∈ tw) : w ∈ lw_tbl := (List.mem_filter.mp h).1
theorem tw_in {ws : List Cond} (h : ∀ w ∈ ws, w ∈ lw_tbl ∧ goodWord w = true) : ∀ w ∈ ws, w ∈ tw := fun w hw => List.mem_filter.mpr (h w hw)
theorem n0 : ∀ a, a < 7 → ∀ b, b < 7 → a ≠ b → (T0 a).2.1 ≠ (T0 b).2.1 := by decide +kernel
theorem t0_ok : ∀ k, k < 7 → parseFieldDescriptor (T0 k).2.2.1 = some (t0 k) := by decide +kernel
theorem in0 : ∀ w ∈ u_ws "NeighbourWires$Change" T0 7, w ∈ tw := tw_in (by decide +kernel)
theorem n1 : ∀ a, a < 6 → ∀ b, b < 6 → a ≠ b → (T1 a).2.1 ≠ (T1 b).2.1 := by decide +kernel
theorem t1_ok : ∀ k, k < 6 → parseFieldDescriptor (T1 k).2.2.1 = some (t1 k) := by decide +kernel
theorem in1 : ∀ w ∈ u_ws "NeighbourWires$Machine" T1 6, w ∈ tw := tw_in (by decide +kernel)
theorem n2 : ∀ a, a < 5 → ∀ b, b < 5 → a ≠ b → (T2 a).2.1 ≠ (T2 b).2.1 := by decide +kernel
theorem t2_ok : ∀ k, k < 5 → parseFieldDescriptor (T2 k).2.2.1 = some (t2 k) := by decide +kernel
theorem in2 : ∀ w ∈ u_ws "NeighbourWires$Orders" T2 5, w ∈ tw := tw_in (by decide +kernel)
theorem n3 : ∀ a, a < 8 → ∀ b, b < 8 → a ≠ b → (T3 a).2.1 ≠ (T3 b).2.1 := by decide +kernel
theorem t3_ok : ∀ k, k < 8 → parseFieldDescriptor (T3 k).2.2.1 = some (t3 k) := by decide +kernel
theorem in3 : ∀ w ∈ u_ws "NeighbourWires$Plan" T3 8, w ∈ tw := tw_in (by decide +kernel)
theorem n4 : ∀ a, a < 6 → ∀ b, b < 6 → a ≠ b → (T4 a).2.1 ≠ (T4 b).2.1 := by decide +kernel
theorem t4_ok : ∀ k, k < 6 → parseFieldDescriptor (T4 k).2.2.1 = some (t4 k) := by decide +kernel
theorem in4 : ∀ w ∈ u_ws "NeighbourWires$Reader" T4 6, w ∈ tw := tw_in (by decide +kernel)
theorem n5 : ∀ a, a < 3 → ∀ b, b < 3 → a ≠ b → (T5 a).2.1 ≠ (T5 b).2.1 := by decide +kernel
theorem t5_ok : ∀ k, k < 3 → parseFieldDescriptor (T5 k).2.2.1 = some (t5 k) := by decide +kernel
theorem in5 : ∀ w ∈ u_ws "NeighbourWires$Sheet" T5 3, w ∈ tw := tw_in (by decide +kernel)
theorem n6 : ∀ a, a < 6 → ∀ b, b < 6 → a ≠ b → (T6 a).2.1 ≠ (T6 b).2.1 := by decide +kernel
theorem t6_ok : ∀ k, k < 6 → parseFieldDescriptor (T6 k).2.2.1 = some (t6 k) := by decide +kernel
theorem in6 : ∀ w ∈ u_ws "NeighbourWires$Tape" T6 6, w ∈ tw := tw_in (by decide +kernel)
theorem n7 : ∀ a, a < 6 → ∀ b, b < 6 → a ≠ b → (T7 a).2.1 ≠ (T7 b).2.1 := by decide +kernel
theorem t7_ok : ∀ k, k < 6 → parseFieldDescriptor (T7 k).2.2.1 = some (t7 k) := by decide +kernel
theorem in7 : ∀ w ∈ u_ws "NeighbourWires$Turns" T7 6, w ∈ tw := tw_in (by decide +kernel)
theorem n8 : ∀ a, a < 8 → ∀ b, b < 8 → a ≠ b → (T8 a).2.1 ≠ (T8 b).2.1 := by decide +kernel
theorem t8_ok : ∀ k, k < 8 → parseFieldDescriptor (T8 k).2.2.1 = some (t8 k) := by decide +kernel
theorem in8 : ∀ w ∈ u_ws "NeighbourWires" T8 8, w ∈ tw := tw_in (by decide +kernel)
theorem n9 : ∀ a, a < 37 → ∀ b, b < 37 → a ≠ b → (T9 a).2.1 ≠ (T9 b).2.1 := by decide +kernel
theorem t9_ok : ∀ k, k < 37 → parseFieldDescriptor (T9 k).2.2.1 = some (t9 k) := by decide +kernel
theorem in9 : ∀ w ∈ u_ws "NeighbourWiresModel" T9 37, w ∈ tw := tw_in (by decide +kernel)
abbrev y_N_init : MethodName := ⟨"NeighbourWires", "<init>", "()V"⟩
abbrev b_N_init : ByteArray := prog_1_method_1_code
abbrev y_N_feed : MethodName := ⟨"NeighbourWires", "feed", "(J)I"⟩
abbrev b_N_feed : ByteArray := prog_1_method_2_code
abbrev y_N_end : MethodName := ⟨"NeighbourWires", "end", "(I)I"⟩
abbrev b_N_end : ByteArray := prog_1_method_3_code
abbrev y_N_text : MethodName := ⟨"NeighbourWires", "text", "()I"⟩
abbrev b_N_text : ByteArray := prog_1_method_4_code
abbrev y_N_fault : MethodName := ⟨"NeighbourWires", "fault", "()I"⟩
abbrev b_N_fault : ByteArray := prog_1_method_5_code
abbrev y_N_order : MethodName := ⟨"NeighbourWires", "order", "(I)I"⟩
abbrev b_N_order : ByteArray := prog_1_method_6_code
abbrev y_N_shield : MethodName := ⟨"NeighbourWires", "shield", "(IZ)I"⟩
abbrev b_N_shield : ByteArray := prog_1_method_7_code
abbrev y_N_at : MethodName := ⟨"NeighbourWires", "at", "(II)I"⟩
abbrev b_N_at : ByteArray := prog_1_method_8_code
abbrev y_N_change : MethodName := ⟨"NeighbourWires", "change", "(III)I"⟩
abbrev b_N_change : ByteArray := prog_1_method_9_code
abbrev y_N_slow : MethodName := ⟨"NeighbourWires", "slow", "(III)I"⟩
abbrev b_N_slow : ByteArray := prog_1_method_10_code
abbrev y_N_weigh : MethodName := ⟨"NeighbourWires", "weigh", "(II)V"⟩
abbrev b_N_weigh : ByteArray := prog_1_method_11_code
abbrev y_N_send : MethodName := ⟨"NeighbourWires", "send", "(I)I"⟩
abbrev b_N_send : ByteArray := prog_1_method_12_code
abbrev y_N_empty : MethodName := ⟨"NeighbourWires", "empty", "()I"⟩
abbrev b_N_empty : ByteArray := prog_1_method_13_code
abbrev y_N_sent : MethodName := ⟨"NeighbourWires", "sent", "(I)I"⟩
abbrev b_N_sent : ByteArray := prog_1_method_14_code
abbrev y_N_row : MethodName := ⟨"NeighbourWires", "row", "(I)I"⟩
abbrev b_N_row : ByteArray := prog_1_method_15_code
abbrev y_N_best : MethodName := ⟨"NeighbourWires", "best", "(I)I"⟩
abbrev b_N_best : ByteArray := prog_1_method_16_code
abbrev y_N_shields : MethodName := ⟨"NeighbourWires", "shields", "(II)I"⟩
abbrev b_N_shields : ByteArray := prog_1_method_17_code
abbrev y_N_leastShields : MethodName := ⟨"NeighbourWires", "leastShields", "(I)I"⟩
abbrev b_N_leastShields : ByteArray := prog_1_method_18_code
abbrev y_N_slowestBehind : MethodName := ⟨"NeighbourWires", "slowestBehind", "(I)I"⟩
abbrev b_N_slowestBehind : ByteArray := prog_1_method_19_code
abbrev y_N_turned : MethodName := ⟨"NeighbourWires", "turned", "(II)I"⟩
abbrev b_N_turned : ByteArray := prog_1_method_20_code
abbrev y_N_book : MethodName := ⟨"NeighbourWires", "book", "(I)I"⟩
abbrev b_N_book : ByteArray := prog_1_method_21_code
abbrev y_N_word : MethodName := ⟨"NeighbourWires", "word", "(II)I"⟩
abbrev b_N_word : ByteArray := prog_1_method_22_code
abbrev y_N_place : MethodName := ⟨"NeighbourWires", "place", "(II)I"⟩
abbrev b_N_place : ByteArray := prog_1_method_23_code
abbrev y_N_slowest : MethodName := ⟨"NeighbourWires", "slowest", "(I)I"⟩
abbrev b_N_slowest : ByteArray := prog_1_method_24_code
abbrev y_N_slowestInto : MethodName := ⟨"NeighbourWires", "slowestInto", "(II)I"⟩
abbrev b_N_slowestInto : ByteArray := prog_1_method_25_code
abbrev y_N_greatest : MethodName := ⟨"NeighbourWires", "greatest", "(II)I"⟩
abbrev b_N_greatest : ByteArray := prog_1_method_26_code
abbrev y_N_lesser : MethodName := ⟨"NeighbourWires", "lesser", "(II)I"⟩
abbrev b_N_lesser : ByteArray := prog_1_method_27_code
abbrev y_N_isInBook : MethodName := ⟨"NeighbourWires", "isInBook", "(II)Z"⟩
abbrev b_N_isInBook : ByteArray := prog_1_method_28_code
abbrev y_N_isKind : MethodName := ⟨"NeighbourWires", "isKind", "(I)Z"⟩
abbrev b_N_isKind : ByteArray := prog_1_method_29_code
abbrev y_N_isSlow : MethodName := ⟨"NeighbourWires", "isSlow", "(I)Z"⟩
abbrev b_N_isSlow : ByteArray := prog_1_method_30_code
abbrev y_N_ways : MethodName := ⟨"NeighbourWires", "ways", "(II)I"⟩
abbrev b_N_ways : ByteArray := prog_1_method_31_code
abbrev y_N_kept : MethodName := ⟨"NeighbourWires", "kept", "(III)I"⟩
abbrev b_N_kept : ByteArray := prog_1_method_32_code
abbrev y_N_bits : MethodName := ⟨"NeighbourWires", "bits", "(I)I"⟩
abbrev b_N_bits : ByteArray := prog_1_method_33_code
abbrev y_N_encode : MethodName := ⟨"NeighbourWires", "encode", "(IIII)I"⟩
abbrev b_N_encode : ByteArray := prog_1_method_34_code
abbrev y_N_decode : MethodName := ⟨"NeighbourWires", "decode", "(IIII)I"⟩
abbrev b_N_decode : ByteArray := prog_1_method_35_code
abbrev y_N_keep : MethodName := ⟨"NeighbourWires", "keep", "(II)I"⟩
abbrev b_N_keep : ByteArray := prog_1_method_36_code
abbrev y_N_isBits : MethodName := ⟨"NeighbourWires", "isBits", "(I)Z"⟩
abbrev b_N_isBits : ByteArray := prog_1_method_37_code
abbrev y_N_sheet : MethodName := ⟨"NeighbourWires", "sheet", "(III)I"⟩
abbrev b_N_sheet : ByteArray := prog_1_method_38_code
abbrev y_N_lay : MethodName := ⟨"NeighbourWires", "lay", "(III)I"⟩
abbrev b_N_lay : ByteArray := prog_1_method_39_code
abbrev y_N_read : MethodName := ⟨"NeighbourWires", "read", "(IIII)I"⟩
abbrev b_N_read : ByteArray := prog_1_method_40_code
abbrev y_N_torn : MethodName := ⟨"NeighbourWires", "torn", "()I"⟩
abbrev b_N_torn : ByteArray := prog_1_method_41_code
abbrev y_N_count : MethodName := ⟨"NeighbourWires", "count", "(I)I"⟩
abbrev b_N_count : ByteArray := prog_1_method_42_code
abbrev y_N_isSheet : MethodName := ⟨"NeighbourWires", "isSheet", "(I)Z"⟩
abbrev b_N_isSheet : ByteArray := prog_1_method_43_code
abbrev y_N_isLane : MethodName := ⟨"NeighbourWires", "isLane", "(I)Z"⟩
abbrev b_N_isLane : ByteArray := prog_1_method_44_code
abbrev y_M_init : MethodName := ⟨"NeighbourWiresModel", "<init>", "()V"⟩
abbrev b_M_init : ByteArray := prog_11_method_1_code
abbrev y_M_in : MethodName := ⟨"NeighbourWiresModel", "in", "(JJJ)Z"⟩
abbrev b_M_in : ByteArray := prog_11_method_3_code
abbrev y_M_countOf : MethodName := ⟨"NeighbourWiresModel", "countOf", "(I)I"⟩
abbrev b_M_countOf : ByteArray := prog_11_method_4_code
abbrev y_M_plain : MethodName := ⟨"NeighbourWiresModel", "plain", "(I)I"⟩
abbrev b_M_plain : ByteArray := prog_11_method_5_code
abbrev y_M_feed : MethodName := ⟨"NeighbourWiresModel", "feed", "(J)I"⟩
abbrev b_M_feed : ByteArray := prog_11_method_6_code
abbrev y_M_end : MethodName := ⟨"NeighbourWiresModel", "end", "(I)I"⟩
abbrev b_M_end : ByteArray := prog_11_method_7_code
abbrev y_M_wants : MethodName := ⟨"NeighbourWiresModel", "wants", "(ZI)V"⟩
abbrev b_M_wants : ByteArray := prog_11_method_8_code
abbrev y_M_look : MethodName := ⟨"NeighbourWiresModel", "look", "(I)I"⟩
abbrev b_M_look : ByteArray := prog_11_method_9_code
abbrev y_M_is : MethodName := ⟨"NeighbourWiresModel", "is", "(IIIII)Z"⟩
abbrev b_M_is : ByteArray := prog_11_method_10_code
abbrev y_M_nameNow : MethodName := ⟨"NeighbourWiresModel", "nameNow", "()I"⟩
abbrev b_M_nameNow : ByteArray := prog_11_method_11_code
abbrev y_M_next : MethodName := ⟨"NeighbourWiresModel", "next", "()V"⟩
abbrev b_M_next : ByteArray := prog_11_method_12_code
abbrev y_M_isNumber : MethodName := ⟨"NeighbourWiresModel", "isNumber", "(II)V"⟩
abbrev b_M_isNumber : ByteArray := prog_11_method_13_code
abbrev y_M_readNumber : MethodName := ⟨"NeighbourWiresModel", "readNumber", "(II)I"⟩
abbrev b_M_readNumber : ByteArray := prog_11_method_14_code
abbrev y_M_readSend : MethodName := ⟨"NeighbourWiresModel", "readSend", "()V"⟩
abbrev b_M_readSend : ByteArray := prog_11_method_15_code
abbrev y_M_readStep : MethodName := ⟨"NeighbourWiresModel", "readStep", "()V"⟩
abbrev b_M_readStep : ByteArray := prog_11_method_16_code
abbrev y_M_readLine : MethodName := ⟨"NeighbourWiresModel", "readLine", "()V"⟩
abbrev b_M_readLine : ByteArray := prog_11_method_17_code
abbrev y_M_text : MethodName := ⟨"NeighbourWiresModel", "text", "()I"⟩
abbrev b_M_text : ByteArray := prog_11_method_18_code
abbrev y_M_fault : MethodName := ⟨"NeighbourWiresModel", "fault", "()I"⟩
abbrev b_M_fault : ByteArray := prog_11_method_19_code
abbrev y_M_isWord : MethodName := ⟨"NeighbourWiresModel", "isWord", "(I)Z"⟩
abbrev b_M_isWord : ByteArray := prog_11_method_20_code
abbrev y_M_order : MethodName := ⟨"NeighbourWiresModel", "order", "(I)I"⟩
abbrev b_M_order : ByteArray := prog_11_method_21_code
abbrev y_M_shield : MethodName := ⟨"NeighbourWiresModel", "shield", "(IZ)I"⟩
abbrev b_M_shield : ByteArray := prog_11_method_22_code
abbrev y_M_at : MethodName := ⟨"NeighbourWiresModel", "at", "(II)I"⟩
abbrev b_M_at : ByteArray := prog_11_method_23_code
abbrev y_M_moves : MethodName := ⟨"NeighbourWiresModel", "moves", "(IIIZI)V"⟩
abbrev b_M_moves : ByteArray := prog_11_method_24_code
abbrev y_M_isGuarded : MethodName := ⟨"NeighbourWiresModel", "isGuarded", "(I)Z"⟩
abbrev b_M_isGuarded : ByteArray := prog_11_method_25_code
abbrev y_M_movedNow : MethodName := ⟨"NeighbourWiresModel", "movedNow", "()I"⟩
abbrev b_M_movedNow : ByteArray := prog_11_method_26_code
abbrev y_M_costNow : MethodName := ⟨"NeighbourWiresModel", "costNow", "()I"⟩
abbrev b_M_costNow : ByteArray := prog_11_method_27_code
abbrev y_M_slowAt : MethodName := ⟨"NeighbourWiresModel", "slowAt", "(I)I"⟩
abbrev b_M_slowAt : ByteArray := prog_11_method_28_code
abbrev y_M_slowNow : MethodName := ⟨"NeighbourWiresModel", "slowNow", "()I"⟩
abbrev b_M_slowNow : ByteArray := prog_11_method_29_code
abbrev y_M_noiseNow : MethodName := ⟨"NeighbourWiresModel", "noiseNow", "()I"⟩
abbrev b_M_noiseNow : ByteArray := prog_11_method_30_code
abbrev y_M_plainMoves : MethodName := ⟨"NeighbourWiresModel", "plainMoves", "(II)V"⟩
abbrev b_M_plainMoves : ByteArray := prog_11_method_31_code
abbrev y_M_told : MethodName := ⟨"NeighbourWiresModel", "told", "(I)I"⟩
abbrev b_M_told : ByteArray := prog_11_method_32_code
abbrev y_M_change : MethodName := ⟨"NeighbourWiresModel", "change", "(III)I"⟩
abbrev b_M_change : ByteArray := prog_11_method_33_code
abbrev y_M_slow : MethodName := ⟨"NeighbourWiresModel", "slow", "(III)I"⟩
abbrev b_M_slow : ByteArray := prog_11_method_34_code
abbrev y_M_send : MethodName := ⟨"NeighbourWiresModel", "send", "(I)I"⟩
abbrev b_M_send : ByteArray := prog_11_method_35_code
abbrev y_M_empty : MethodName := ⟨"NeighbourWiresModel", "empty", "()I"⟩
abbrev b_M_empty : ByteArray := prog_11_method_36_code
abbrev y_M_sent : MethodName := ⟨"NeighbourWiresModel", "sent", "(I)I"⟩
abbrev b_M_sent : ByteArray := prog_11_method_37_code
abbrev y_M_ahead : MethodName := ⟨"NeighbourWiresModel", "ahead", "(I)I"⟩
abbrev b_M_ahead : ByteArray := prog_11_method_38_code
abbrev y_M_row : MethodName := ⟨"NeighbourWiresModel", "row", "(I)I"⟩
abbrev b_M_row : ByteArray := prog_11_method_39_code
abbrev y_M_goesOn : MethodName := ⟨"NeighbourWiresModel", "goesOn", "()Z"⟩
abbrev b_M_goesOn : ByteArray := prog_11_method_40_code
abbrev y_M_swaps : MethodName := ⟨"NeighbourWiresModel", "swaps", "(II)V"⟩
abbrev b_M_swaps : ByteArray := prog_11_method_41_code
abbrev y_M_best : MethodName := ⟨"NeighbourWiresModel", "best", "(I)I"⟩
abbrev b_M_best : ByteArray := prog_11_method_42_code
abbrev y_M_shields : MethodName := ⟨"NeighbourWiresModel", "shields", "(II)I"⟩
abbrev b_M_shields : ByteArray := prog_11_method_43_code
abbrev y_M_lying : MethodName := ⟨"NeighbourWiresModel", "lying", "(II)I"⟩
abbrev b_M_lying : ByteArray := prog_11_method_44_code
abbrev y_M_widerMoves : MethodName := ⟨"NeighbourWiresModel", "widerMoves", "(II)V"⟩
abbrev b_M_widerMoves : ByteArray := prog_11_method_45_code
abbrev y_M_widerCost : MethodName := ⟨"NeighbourWiresModel", "widerCost", "(II)I"⟩
abbrev b_M_widerCost : ByteArray := prog_11_method_46_code
abbrev y_M_findToCome : MethodName := ⟨"NeighbourWiresModel", "findToCome", "()V"⟩
abbrev b_M_findToCome : ByteArray := prog_11_method_47_code
abbrev y_M_turnsNow : MethodName := ⟨"NeighbourWiresModel", "turnsNow", "(III)I"⟩
abbrev b_M_turnsNow : ByteArray := prog_11_method_48_code
abbrev y_M_turned : MethodName := ⟨"NeighbourWiresModel", "turned", "(II)I"⟩
abbrev b_M_turned : ByteArray := prog_11_method_49_code
abbrev y_M_isIn : MethodName := ⟨"NeighbourWiresModel", "isIn", "(II)Z"⟩
abbrev b_M_isIn : ByteArray := prog_11_method_50_code
abbrev y_M_book : MethodName := ⟨"NeighbourWiresModel", "book", "(I)I"⟩
abbrev b_M_book : ByteArray := prog_11_method_51_code
abbrev y_M_word : MethodName := ⟨"NeighbourWiresModel", "word", "(II)I"⟩
abbrev b_M_word : ByteArray := prog_11_method_52_code
abbrev y_M_place : MethodName := ⟨"NeighbourWiresModel", "place", "(II)I"⟩
abbrev b_M_place : ByteArray := prog_11_method_53_code
abbrev y_M_slowBy : MethodName := ⟨"NeighbourWiresModel", "slowBy", "(II)I"⟩
abbrev b_M_slowBy : ByteArray := prog_11_method_54_code
abbrev y_M_slowest : MethodName := ⟨"NeighbourWiresModel", "slowest", "(I)I"⟩
abbrev b_M_slowest : ByteArray := prog_11_method_55_code
abbrev y_M_greatest : MethodName := ⟨"NeighbourWiresModel", "greatest", "(II)I"⟩
abbrev b_M_greatest : ByteArray := prog_11_method_56_code
abbrev y_M_findSlows : MethodName := ⟨"NeighbourWiresModel", "findSlows", "()V"⟩
abbrev b_M_findSlows : ByteArray := prog_11_method_57_code
abbrev y_M_waysFrom : MethodName := ⟨"NeighbourWiresModel", "waysFrom", "(II)I"⟩
abbrev b_M_waysFrom : ByteArray := prog_11_method_58_code
abbrev y_M_allKept : MethodName := ⟨"NeighbourWiresModel", "allKept", "()V"⟩
abbrev b_M_allKept : ByteArray := prog_11_method_59_code
abbrev y_M_findKept : MethodName := ⟨"NeighbourWiresModel", "findKept", "(II)I"⟩
abbrev b_M_findKept : ByteArray := prog_11_method_60_code
abbrev y_M_leastKept : MethodName := ⟨"NeighbourWiresModel", "leastKept", "()I"⟩
abbrev b_M_leastKept : ByteArray := prog_11_method_61_code
abbrev y_M_ways : MethodName := ⟨"NeighbourWiresModel", "ways", "(II)I"⟩
abbrev b_M_ways : ByteArray := prog_11_method_62_code
abbrev y_M_kept : MethodName := ⟨"NeighbourWiresModel", "kept", "(III)I"⟩
abbrev b_M_kept : ByteArray := prog_11_method_63_code
abbrev y_M_bits : MethodName := ⟨"NeighbourWiresModel", "bits", "(I)I"⟩
abbrev b_M_bits : ByteArray := prog_11_method_64_code
abbrev y_M_encode : MethodName := ⟨"NeighbourWiresModel", "encode", "(IIII)I"⟩
abbrev b_M_encode : ByteArray := prog_11_method_65_code
abbrev y_M_decode : MethodName := ⟨"NeighbourWiresModel", "decode", "(IIII)I"⟩
abbrev b_M_decode : ByteArray := prog_11_method_66_code
abbrev y_M_isSheet : MethodName := ⟨"NeighbourWiresModel", "isSheet", "(II)Z"⟩
abbrev b_M_isSheet : ByteArray := prog_11_method_67_code
abbrev y_M_sheet : MethodName := ⟨"NeighbourWiresModel", "sheet", "(III)I"⟩
abbrev b_M_sheet : ByteArray := prog_11_method_68_code
abbrev y_M_lay : MethodName := ⟨"NeighbourWiresModel", "lay", "(III)I"⟩
abbrev b_M_lay : ByteArray := prog_11_method_69_code
abbrev y_M_read : MethodName := ⟨"NeighbourWiresModel", "read", "(IIII)I"⟩
abbrev b_M_read : ByteArray := prog_11_method_70_code
abbrev y_M_torn : MethodName := ⟨"NeighbourWiresModel", "torn", "()I"⟩
abbrev b_M_torn : ByteArray := prog_11_method_71_code
abbrev y_M_count : MethodName := ⟨"NeighbourWiresModel", "count", "(I)I"⟩
abbrev b_M_count : ByteArray := prog_11_method_72_code
abbrev y_C_init : MethodName := ⟨"NeighbourWires$Change", "<init>", "()V"⟩
abbrev b_C_init : ByteArray := prog_2_method_1_code
abbrev y_C_between : MethodName := ⟨"NeighbourWires$Change", "between", "(IIII)V"⟩
abbrev b_C_between : ByteArray := prog_2_method_2_code
abbrev y_C_moves : MethodName := ⟨"NeighbourWires$Change", "moves", "()I"⟩
abbrev b_C_moves : ByteArray := prog_2_method_3_code
abbrev y_C_cost : MethodName := ⟨"NeighbourWires$Change", "cost", "(II)I"⟩
abbrev b_C_cost : ByteArray := prog_2_method_4_code
abbrev y_C_slowAt : MethodName := ⟨"NeighbourWires$Change", "slowAt", "(I)I"⟩
abbrev b_C_slowAt : ByteArray := prog_2_method_5_code
abbrev y_C_againstOver : MethodName := ⟨"NeighbourWires$Change", "againstOver", "(I)I"⟩
abbrev b_C_againstOver : ByteArray := prog_2_method_6_code
abbrev y_C_greatestSlow : MethodName := ⟨"NeighbourWires$Change", "greatestSlow", "()I"⟩
abbrev b_C_greatestSlow : ByteArray := prog_2_method_7_code
abbrev y_C_noise : MethodName := ⟨"NeighbourWires$Change", "noise", "()I"⟩
abbrev b_C_noise : ByteArray := prog_2_method_8_code
abbrev y_K_init : MethodName := ⟨"NeighbourWires$Machine", "<init>", "(LNeighbourWires$Change;)V"⟩
abbrev b_K_init : ByteArray := prog_3_method_1_code
abbrev y_K_prepare : MethodName := ⟨"NeighbourWires$Machine", "prepare", "(I)V"⟩
abbrev b_K_prepare : ByteArray := prog_3_method_2_code
abbrev y_K_link : MethodName := ⟨"NeighbourWires$Machine", "link", "(III)V"⟩
abbrev b_K_link : ByteArray := prog_3_method_3_code
abbrev y_K_addWay : MethodName := ⟨"NeighbourWires$Machine", "addWay", "(III)V"⟩
abbrev b_K_addWay : ByteArray := prog_3_method_4_code
abbrev y_K_rowOf : MethodName := ⟨"NeighbourWires$Machine", "rowOf", "(II)I"⟩
abbrev b_K_rowOf : ByteArray := prog_3_method_5_code
abbrev y_K_nearPart : MethodName := ⟨"NeighbourWires$Machine", "nearPart", "(III)J"⟩
abbrev b_K_nearPart : ByteArray := prog_3_method_6_code
abbrev y_K_waysFrom : MethodName := ⟨"NeighbourWires$Machine", "waysFrom", "(II)I"⟩
abbrev b_K_waysFrom : ByteArray := prog_3_method_7_code
abbrev y_K_keep : MethodName := ⟨"NeighbourWires$Machine", "keep", "(II)I"⟩
abbrev b_K_keep : ByteArray := prog_3_method_8_code
abbrev y_K_fillKept : MethodName := ⟨"NeighbourWires$Machine", "fillKept", "()V"⟩
abbrev b_K_fillKept : ByteArray := prog_3_method_9_code
abbrev y_K_keptWays : MethodName := ⟨"NeighbourWires$Machine", "keptWays", "(II)I"⟩
abbrev b_K_keptWays : ByteArray := prog_3_method_10_code
abbrev y_K_drop : MethodName := ⟨"NeighbourWires$Machine", "drop", "(I)V"⟩
abbrev b_K_drop : ByteArray := prog_3_method_11_code
abbrev y_K_isIn : MethodName := ⟨"NeighbourWires$Machine", "isIn", "([JI)Z"⟩
abbrev b_K_isIn : ByteArray := prog_3_method_12_code
abbrev y_K_lookFrom : MethodName := ⟨"NeighbourWires$Machine", "lookFrom", "(II)V"⟩
abbrev b_K_lookFrom : ByteArray := prog_3_method_13_code
abbrev y_K_isSeen : MethodName := ⟨"NeighbourWires$Machine", "isSeen", "(I)Z"⟩
abbrev b_K_isSeen : ByteArray := prog_3_method_14_code
abbrev y_K_seenBelow : MethodName := ⟨"NeighbourWires$Machine", "seenBelow", "(I)I"⟩
abbrev b_K_seenBelow : ByteArray := prog_3_method_15_code
abbrev y_K_seenNumbered : MethodName := ⟨"NeighbourWires$Machine", "seenNumbered", "(I)I"⟩
abbrev b_K_seenNumbered : ByteArray := prog_3_method_16_code
abbrev y_K_greatestBook : MethodName := ⟨"NeighbourWires$Machine", "greatestBook", "(I)I"⟩
abbrev b_K_greatestBook : ByteArray := prog_3_method_17_code
abbrev y_K_grow : MethodName := ⟨"NeighbourWires$Machine", "grow", "([JIIII)I"⟩
abbrev b_K_grow : ByteArray := prog_3_method_18_code
abbrev y_O_init : MethodName := ⟨"NeighbourWires$Orders", "<init>", "(LNeighbourWires$Plan;)V"⟩
abbrev b_O_init : ByteArray := prog_4_method_1_code
abbrev y_O_search : MethodName := ⟨"NeighbourWires$Orders", "search", "()V"⟩
abbrev b_O_search : ByteArray := prog_4_method_2_code
abbrev y_O_addPairs : MethodName := ⟨"NeighbourWires$Orders", "addPairs", "(III)V"⟩
abbrev b_O_addPairs : ByteArray := prog_4_method_3_code
abbrev y_O_moveOf : MethodName := ⟨"NeighbourWires$Orders", "moveOf", "(III)I"⟩
abbrev b_O_moveOf : ByteArray := prog_4_method_4_code
abbrev y_O_costBehind : MethodName := ⟨"NeighbourWires$Orders", "costBehind", "(II)I"⟩
abbrev b_O_costBehind : ByteArray := prog_4_method_5_code
abbrev y_O_costVia : MethodName := ⟨"NeighbourWires$Orders", "costVia", "(III)I"⟩
abbrev b_O_costVia : ByteArray := prog_4_method_6_code
abbrev y_O_leastCost : MethodName := ⟨"NeighbourWires$Orders", "leastCost", "()I"⟩
abbrev b_O_leastCost : ByteArray := prog_4_method_7_code
abbrev y_O_leastFigures : MethodName := ⟨"NeighbourWires$Orders", "leastFigures", "()I"⟩
abbrev b_O_leastFigures : ByteArray := prog_4_method_8_code
abbrev y_O_cheapestOf : MethodName := ⟨"NeighbourWires$Orders", "cheapestOf", "(III)I"⟩
abbrev b_O_cheapestOf : ByteArray := prog_4_method_9_code
abbrev y_O_indexOf : MethodName := ⟨"NeighbourWires$Orders", "indexOf", "(II)I"⟩
abbrev b_O_indexOf : ByteArray := prog_4_method_10_code
abbrev y_O_get : MethodName := ⟨"NeighbourWires$Orders", "get", "([II)I"⟩
abbrev b_O_get : ByteArray := prog_4_method_11_code
abbrev y_O_put : MethodName := ⟨"NeighbourWires$Orders", "put", "([III)V"⟩
abbrev b_O_put : ByteArray := prog_4_method_12_code
abbrev y_P_init : MethodName := ⟨"NeighbourWires$Plan", "<init>", "()V"⟩
abbrev b_P_init : ByteArray := prog_5_method_1_code
abbrev y_P_reset : MethodName := ⟨"NeighbourWires$Plan", "reset", "()V"⟩
abbrev b_P_reset : ByteArray := prog_5_method_2_code
abbrev y_P_copy : MethodName := ⟨"NeighbourWires$Plan", "copy", "(LNeighbourWires$Plan;)V"⟩
abbrev b_P_copy : ByteArray := prog_5_method_3_code
abbrev y_P_words : MethodName := ⟨"NeighbourWires$Plan", "words", "()I"⟩
abbrev b_P_words : ByteArray := prog_5_method_4_code
abbrev y_P_isWord : MethodName := ⟨"NeighbourWires$Plan", "isWord", "(I)Z"⟩
abbrev b_P_isWord : ByteArray := prog_5_method_5_code
abbrev y_P_isWire : MethodName := ⟨"NeighbourWires$Plan", "isWire", "(I)Z"⟩
abbrev b_P_isWire : ByteArray := prog_5_method_6_code
abbrev y_P_isGap : MethodName := ⟨"NeighbourWires$Plan", "isGap", "(I)Z"⟩
abbrev b_P_isGap : ByteArray := prog_5_method_7_code
abbrev y_P_shieldAt : MethodName := ⟨"NeighbourWires$Plan", "shieldAt", "(I)I"⟩
abbrev b_P_shieldAt : ByteArray := prog_5_method_8_code
abbrev y_P_putShield : MethodName := ⟨"NeighbourWires$Plan", "putShield", "(IZ)V"⟩
abbrev b_P_putShield : ByteArray := prog_5_method_9_code
abbrev y_P_wireAt : MethodName := ⟨"NeighbourWires$Plan", "wireAt", "(I)I"⟩
abbrev b_P_wireAt : ByteArray := prog_5_method_10_code
abbrev y_P_placeOf : MethodName := ⟨"NeighbourWires$Plan", "placeOf", "(I)I"⟩
abbrev b_P_placeOf : ByteArray := prog_5_method_11_code
abbrev y_P_reorder : MethodName := ⟨"NeighbourWires$Plan", "reorder", "(I)Z"⟩
abbrev b_P_reorder : ByteArray := prog_5_method_12_code
abbrev y_P_isOrder : MethodName := ⟨"NeighbourWires$Plan", "isOrder", "(I)Z"⟩
abbrev b_P_isOrder : ByteArray := prog_5_method_13_code
abbrev y_P_wordAt : MethodName := ⟨"NeighbourWires$Plan", "wordAt", "(I)I"⟩
abbrev b_P_wordAt : ByteArray := prog_5_method_14_code
abbrev y_P_append : MethodName := ⟨"NeighbourWires$Plan", "append", "(I)Z"⟩
abbrev b_P_append : ByteArray := prog_5_method_15_code
abbrev y_P_byPlaces : MethodName := ⟨"NeighbourWires$Plan", "byPlaces", "(I)I"⟩
abbrev b_P_byPlaces : ByteArray := prog_5_method_16_code
abbrev y_P_layOut : MethodName := ⟨"NeighbourWires$Plan", "layOut", "()V"⟩
abbrev b_P_layOut : ByteArray := prog_5_method_17_code
abbrev y_P_laidBefore : MethodName := ⟨"NeighbourWires$Plan", "laidBefore", "(I)I"⟩
abbrev b_P_laidBefore : ByteArray := prog_5_method_18_code
abbrev y_R_init : MethodName := ⟨"NeighbourWires$Reader", "<init>", "()V"⟩
abbrev b_R_init : ByteArray := prog_6_method_1_code
abbrev y_R_readText : MethodName := ⟨"NeighbourWires$Reader", "readText", "()I"⟩
abbrev b_R_readText : ByteArray := prog_6_method_2_code
abbrev y_R_readLine : MethodName := ⟨"NeighbourWires$Reader", "readLine", "()I"⟩
abbrev b_R_readLine : ByteArray := prog_6_method_3_code
abbrev y_R_outOfPlace : MethodName := ⟨"NeighbourWires$Reader", "outOfPlace", "()I"⟩
abbrev b_R_outOfPlace : ByteArray := prog_6_method_4_code
abbrev y_R_isToldAgain : MethodName := ⟨"NeighbourWires$Reader", "isToldAgain", "(I)Z"⟩
abbrev b_R_isToldAgain : ByteArray := prog_6_method_5_code
abbrev y_R_fewestNumbers : MethodName := ⟨"NeighbourWires$Reader", "fewestNumbers", "(I)I"⟩
abbrev b_R_fewestNumbers : ByteArray := prog_6_method_6_code
abbrev y_R_mostNumbers : MethodName := ⟨"NeighbourWires$Reader", "mostNumbers", "(I)I"⟩
abbrev b_R_mostNumbers : ByteArray := prog_6_method_7_code
abbrev y_R_take : MethodName := ⟨"NeighbourWires$Reader", "take", "(III)I"⟩
abbrev b_R_take : ByteArray := prog_6_method_8_code
abbrev y_R_takeWires : MethodName := ⟨"NeighbourWires$Reader", "takeWires", "(I)I"⟩
abbrev b_R_takeWires : ByteArray := prog_6_method_9_code
abbrev y_R_takeShield : MethodName := ⟨"NeighbourWires$Reader", "takeShield", "(I)I"⟩
abbrev b_R_takeShield : ByteArray := prog_6_method_10_code
abbrev y_R_takeWord : MethodName := ⟨"NeighbourWires$Reader", "takeWord", "(I)I"⟩
abbrev b_R_takeWord : ByteArray := prog_6_method_11_code
abbrev y_R_takeStep : MethodName := ⟨"NeighbourWires$Reader", "takeStep", "(II)I"⟩
abbrev b_R_takeStep : ByteArray := prog_6_method_12_code
abbrev y_R_takeSteps : MethodName := ⟨"NeighbourWires$Reader", "takeSteps", "(I)I"⟩
abbrev b_R_takeSteps : ByteArray := prog_6_method_13_code
abbrev y_H_init : MethodName := ⟨"NeighbourWires$Sheet", "<init>", "()V"⟩
abbrev b_H_init : ByteArray := prog_7_method_1_code
abbrev y_H_isNothing : MethodName := ⟨"NeighbourWires$Sheet", "isNothing", "()Z"⟩
abbrev b_H_isNothing : ByteArray := prog_7_method_2_code
abbrev y_H_renew : MethodName := ⟨"NeighbourWires$Sheet", "renew", "(II)V"⟩
abbrev b_H_renew : ByteArray := prog_7_method_3_code
abbrev y_H_faultAs : MethodName := ⟨"NeighbourWires$Sheet", "faultAs", "(II)I"⟩
abbrev b_H_faultAs : ByteArray := prog_7_method_4_code
abbrev y_H_cell : MethodName := ⟨"NeighbourWires$Sheet", "cell", "(I)I"⟩
abbrev b_H_cell : ByteArray := prog_7_method_5_code
abbrev y_H_put : MethodName := ⟨"NeighbourWires$Sheet", "put", "(II)V"⟩
abbrev b_H_put : ByteArray := prog_7_method_6_code
abbrev y_T_init : MethodName := ⟨"NeighbourWires$Tape", "<init>", "()V"⟩
abbrev b_T_init : ByteArray := prog_8_method_1_code
abbrev y_T_append : MethodName := ⟨"NeighbourWires$Tape", "append", "(J)Z"⟩
abbrev b_T_append : ByteArray := prog_8_method_2_code
abbrev y_T_cut : MethodName := ⟨"NeighbourWires$Tape", "cut", "(I)Z"⟩
abbrev b_T_cut : ByteArray := prog_8_method_3_code
abbrev y_T_rewind : MethodName := ⟨"NeighbourWires$Tape", "rewind", "()V"⟩
abbrev b_T_rewind : ByteArray := prog_8_method_4_code
abbrev y_T_next : MethodName := ⟨"NeighbourWires$Tape", "next", "()V"⟩
abbrev b_T_next : ByteArray := prog_8_method_5_code
abbrev y_T_nameNumber : MethodName := ⟨"NeighbourWires$Tape", "nameNumber", "()I"⟩
abbrev b_T_nameNumber : ByteArray := prog_8_method_6_code
abbrev y_T_spells : MethodName := ⟨"NeighbourWires$Tape", "spells", "(Ljava/lang/String;)Z"⟩
abbrev b_T_spells : ByteArray := prog_8_method_7_code
abbrev y_T_nextNumber : MethodName := ⟨"NeighbourWires$Tape", "nextNumber", "()V"⟩
abbrev b_T_nextNumber : ByteArray := prog_8_method_8_code
abbrev y_T_endOfRun : MethodName := ⟨"NeighbourWires$Tape", "endOfRun", "(III)I"⟩
abbrev b_T_endOfRun : ByteArray := prog_8_method_9_code
abbrev y_T_isWithin : MethodName := ⟨"NeighbourWires$Tape", "isWithin", "(III)Z"⟩
abbrev b_T_isWithin : ByteArray := prog_8_method_10_code
abbrev y_T_byteAt : MethodName := ⟨"NeighbourWires$Tape", "byteAt", "(I)I"⟩
abbrev b_T_byteAt : ByteArray := prog_8_method_11_code
abbrev y_U_init : MethodName := ⟨"NeighbourWires$Turns", "<init>", "(LNeighbourWires$Plan;LNeighbourWires$Change;)V"⟩
abbrev b_U_init : ByteArray := prog_9_method_1_code
abbrev y_U_sendAll : MethodName := ⟨"NeighbourWires$Turns", "sendAll", "(I)V"⟩
abbrev b_U_sendAll : ByteArray := prog_9_method_2_code
abbrev y_U_isTurned : MethodName := ⟨"NeighbourWires$Turns", "isTurned", "(III)Z"⟩
abbrev b_U_isTurned : ByteArray := prog_9_method_3_code
abbrev y_U_movesOtherwise : MethodName := ⟨"NeighbourWires$Turns", "movesOtherwise", "(II)I"⟩
abbrev b_U_movesOtherwise : ByteArray := prog_9_method_4_code
abbrev y_U_costOf : MethodName := ⟨"NeighbourWires$Turns", "costOf", "(III)I"⟩
abbrev b_U_costOf : ByteArray := prog_9_method_5_code
abbrev y_U_lying : MethodName := ⟨"NeighbourWires$Turns", "lying", "(II)I"⟩
abbrev b_U_lying : ByteArray := prog_9_method_6_code
abbrev y_L_law : MethodName := ⟨"NeighbourWiresLaw", "law", "([I)Z"⟩
abbrev b_L_law : ByteArray := code
end
section
theorem wd0 : Cond.selects "NeighbourWires$Tape" y_T_endOfRun y_T_endOfRun ∈ tw := tw_of 0 (by decide +kernel)
theorem wd1 : Cond.selects "NeighbourWires$Tape" y_T_byteAt y_T_byteAt ∈ tw := tw_of 1 (by decide +kernel)
theorem wd2 : Cond.selects "NeighbourWires$Tape" y_T_nameNumber y_T_nameNumber ∈ tw := tw_of 2 (by decide +kernel)
theorem wd3 : Cond.selects "NeighbourWires$Tape" y_T_spells y_T_spells ∈ tw := tw_of 3 (by decide +kernel)
theorem wd4 : Cond.selects "NeighbourWires$Tape" y_T_nextNumber y_T_nextNumber ∈ tw := tw_of 4 (by decide +kernel)
theorem wd5 : Cond.selects "NeighbourWires$Reader" y_R_readLine y_R_readLine ∈ tw := tw_of 5 (by decide +kernel)
theorem wd6 : Cond.selects "NeighbourWires$Reader" y_R_outOfPlace y_R_outOfPlace ∈ tw := tw_of 6 (by decide +kernel)
theorem wd7 : Cond.selects "NeighbourWires$Reader" y_R_isToldAgain y_R_isToldAgain ∈ tw := tw_of 7 (by decide +kernel)
theorem wd8 : Cond.selects "NeighbourWires$Reader" y_R_take y_R_take ∈ tw := tw_of 8 (by decide +kernel)
theorem wd9 : Cond.selects "NeighbourWires$Reader" y_R_takeWires y_R_takeWires ∈ tw := tw_of 9 (by decide +kernel)
theorem wd10 : Cond.selects "NeighbourWires$Reader" y_R_takeShield y_R_takeShield ∈ tw := tw_of 10 (by decide +kernel)
theorem wd11 : Cond.selects "NeighbourWires$Reader" y_R_takeWord y_R_takeWord ∈ tw := tw_of 11 (by decide +kernel)
theorem wd12 : Cond.selects "NeighbourWires$Reader" y_R_takeStep y_R_takeStep ∈ tw := tw_of 12 (by decide +kernel)
theorem wd13 : Cond.selects "NeighbourWires$Reader" y_R_takeSteps y_R_takeSteps ∈ tw := tw_of 13 (by decide +kernel)
theorem wd14 : Cond.selects "NeighbourWires$Plan" y_P_isOrder y_P_isOrder ∈ tw := tw_of 14 (by decide +kernel)
theorem wd15 : Cond.selects "NeighbourWires" y_N_weigh y_N_weigh ∈ tw := tw_of 15 (by decide +kernel)
theorem wd16 : Cond.selects "NeighbourWires$Change" y_C_againstOver y_C_againstOver ∈ tw := tw_of 16 (by decide +kernel)
theorem wd17 : Cond.selects "NeighbourWires$Orders" y_O_addPairs y_O_addPairs ∈ tw := tw_of 17 (by decide +kernel)
theorem wd18 : Cond.selects "NeighbourWires$Orders" y_O_costBehind y_O_costBehind ∈ tw := tw_of 18 (by decide +kernel)
theorem wd19 : Cond.selects "NeighbourWires$Orders" y_O_costVia y_O_costVia ∈ tw := tw_of 19 (by decide +kernel)
theorem wd20 : Cond.selects "NeighbourWires$Orders" y_O_cheapestOf y_O_cheapestOf ∈ tw := tw_of 20 (by decide +kernel)
theorem wd21 : Cond.selects "NeighbourWires" y_N_leastShields y_N_leastShields ∈ tw := tw_of 21 (by decide +kernel)
theorem wd22 : Cond.selects "NeighbourWires" y_N_slowestBehind y_N_slowestBehind ∈ tw := tw_of 22 (by decide +kernel)
theorem wd23 : Cond.selects "NeighbourWires$Turns" y_U_isTurned y_U_isTurned ∈ tw := tw_of 23 (by decide +kernel)
theorem wd24 : Cond.selects "NeighbourWires$Turns" y_U_movesOtherwise y_U_movesOtherwise ∈ tw := tw_of 24 (by decide +kernel)
theorem wd25 : Cond.selects "NeighbourWires$Turns" y_U_lying y_U_lying ∈ tw := tw_of 25 (by decide +kernel)
theorem wd26 : Cond.selects "NeighbourWires$Turns" y_U_costOf y_U_costOf ∈ tw := tw_of 26 (by decide +kernel)
theorem wd27 : Cond.selects "NeighbourWires" y_N_lesser y_N_lesser ∈ tw := tw_of 27 (by decide +kernel)
theorem wd28 : Cond.selects "NeighbourWires" y_N_isInBook y_N_isInBook ∈ tw := tw_of 28 (by decide +kernel)
theorem wd29 : Cond.selects "NeighbourWires" y_N_slowestInto y_N_slowestInto ∈ tw := tw_of 29 (by decide +kernel)
theorem wd30 : Cond.selects "NeighbourWires$Machine" y_K_link y_K_link ∈ tw := tw_of 30 (by decide +kernel)
theorem wd31 : Cond.selects "NeighbourWires$Machine" y_K_addWay y_K_addWay ∈ tw := tw_of 31 (by decide +kernel)
theorem wd32 : Cond.selects "NeighbourWires$Machine" y_K_nearPart y_K_nearPart ∈ tw := tw_of 32 (by decide +kernel)
theorem wd33 : Cond.selects "NeighbourWires" y_N_keep y_N_keep ∈ tw := tw_of 33 (by decide +kernel)
theorem wd34 : Cond.selects "NeighbourWires$Machine" y_K_fillKept y_K_fillKept ∈ tw := tw_of 34 (by decide +kernel)
theorem wd35 : Cond.selects "NeighbourWires$Machine" y_K_keptWays y_K_keptWays ∈ tw := tw_of 35 (by decide +kernel)
theorem wd36 : Cond.selects "NeighbourWires$Machine" y_K_drop y_K_drop ∈ tw := tw_of 36 (by decide +kernel)
theorem wd37 : Cond.selects "NeighbourWiresModel" y_M_next y_M_next ∈ tw := tw_of 37 (by decide +kernel)
theorem wd38 : Cond.selects "NeighbourWiresModel" y_M_look y_M_look ∈ tw := tw_of 38 (by decide +kernel)
theorem wd39 : Cond.selects "NeighbourWiresModel" y_M_nameNow y_M_nameNow ∈ tw := tw_of 39 (by decide +kernel)
theorem wd40 : Cond.selects "NeighbourWiresModel" y_M_is y_M_is ∈ tw := tw_of 40 (by decide +kernel)
theorem wd41 : Cond.selects "NeighbourWiresModel" y_M_wants y_M_wants ∈ tw := tw_of 41 (by decide +kernel)
theorem wd42 : Cond.selects "NeighbourWiresModel" y_M_readLine y_M_readLine ∈ tw := tw_of 42 (by decide +kernel)
theorem wd43 : Cond.selects "NeighbourWiresModel" y_M_readNumber y_M_readNumber ∈ tw := tw_of 43 (by decide +kernel)
theorem wd44 : Cond.selects "NeighbourWiresModel" y_M_isNumber y_M_isNumber ∈ tw := tw_of 44 (by decide +kernel)
theorem wd45 : Cond.selects "NeighbourWiresModel" y_M_readSend y_M_readSend ∈ tw := tw_of 45 (by decide +kernel)
theorem wd46 : Cond.selects "NeighbourWiresModel" y_M_readStep y_M_readStep ∈ tw := tw_of 46 (by decide +kernel)
theorem wd47 : Cond.selects "NeighbourWiresModel" y_M_isWord y_M_isWord ∈ tw := tw_of 47 (by decide +kernel)
theorem wd48 : Cond.selects "NeighbourWiresModel" y_M_plainMoves y_M_plainMoves ∈ tw := tw_of 48 (by decide +kernel)
theorem wd49 : Cond.selects "NeighbourWiresModel" y_M_moves y_M_moves ∈ tw := tw_of 49 (by decide +kernel)
theorem wd50 : Cond.selects "NeighbourWiresModel" y_M_told y_M_told ∈ tw := tw_of 50 (by decide +kernel)
theorem wd51 : Cond.selects "NeighbourWiresModel" y_M_costNow y_M_costNow ∈ tw := tw_of 51 (by decide +kernel)
theorem wd52 : Cond.selects "NeighbourWiresModel" y_M_isGuarded y_M_isGuarded ∈ tw := tw_of 52 (by decide +kernel)
theorem wd53 : Cond.selects "NeighbourWiresModel" y_M_movedNow y_M_movedNow ∈ tw := tw_of 53 (by decide +kernel)
theorem wd54 : Cond.selects "NeighbourWiresModel" y_M_slowNow y_M_slowNow ∈ tw := tw_of 54 (by decide +kernel)
theorem wd55 : Cond.selects "NeighbourWiresModel" y_M_slowAt y_M_slowAt ∈ tw := tw_of 55 (by decide +kernel)
theorem wd56 : Cond.selects "NeighbourWiresModel" y_M_noiseNow y_M_noiseNow ∈ tw := tw_of 56 (by decide +kernel)
theorem wd57 : Cond.selects "NeighbourWiresModel" y_M_ahead y_M_ahead ∈ tw := tw_of 57 (by decide +kernel)
theorem wd58 : Cond.selects "NeighbourWiresModel" y_M_goesOn y_M_goesOn ∈ tw := tw_of 58 (by decide +kernel)
theorem wd59 : Cond.selects "NeighbourWiresModel" y_M_swaps y_M_swaps ∈ tw := tw_of 59 (by decide +kernel)
theorem wd60 : Cond.selects "NeighbourWiresModel" y_M_findToCome y_M_findToCome ∈ tw := tw_of 60 (by decide +kernel)
theorem wd61 : Cond.selects "NeighbourWiresModel" y_M_lying y_M_lying ∈ tw := tw_of 61 (by decide +kernel)
theorem wd62 : Cond.selects "NeighbourWiresModel" y_M_widerCost y_M_widerCost ∈ tw := tw_of 62 (by decide +kernel)
theorem wd63 : Cond.selects "NeighbourWiresModel" y_M_widerMoves y_M_widerMoves ∈ tw := tw_of 63 (by decide +kernel)
theorem wd64 : Cond.selects "NeighbourWiresModel" y_M_turnsNow y_M_turnsNow ∈ tw := tw_of 64 (by decide +kernel)
theorem wd65 : Cond.selects "NeighbourWiresModel" y_M_isIn y_M_isIn ∈ tw := tw_of 65 (by decide +kernel)
theorem wd66 : Cond.selects "NeighbourWiresModel" y_M_slowBy y_M_slowBy ∈ tw := tw_of 66 (by decide +kernel)
theorem wd67 : Cond.selects "NeighbourWiresModel" y_M_allKept y_M_allKept ∈ tw := tw_of 67 (by decide +kernel)
theorem wd68 : Cond.selects "NeighbourWiresModel" y_M_findSlows y_M_findSlows ∈ tw := tw_of 68 (by decide +kernel)
theorem wd69 : Cond.selects "NeighbourWiresModel" y_M_waysFrom y_M_waysFrom ∈ tw := tw_of 69 (by decide +kernel)
theorem wd70 : Cond.selects "NeighbourWiresModel" y_M_findKept y_M_findKept ∈ tw := tw_of 70 (by decide +kernel)
theorem wd71 : Cond.selects "NeighbourWiresModel" y_M_leastKept y_M_leastKept ∈ tw := tw_of 71 (by decide +kernel)
theorem wd72 : Cond.initialized "NeighbourWiresLaw" ∈ tw := tw_of 72 (by decide +kernel)
theorem wd73 : Cond.initialized "NeighbourWires" ∈ tw := tw_of 73 (by decide +kernel)
theorem wd74 : Cond.initialized "NeighbourWires$Plan" ∈ tw := tw_of 74 (by decide +kernel)
theorem wd75 : Cond.initialized "NeighbourWires$Change" ∈ tw := tw_of 75 (by decide +kernel)
theorem wd76 : Cond.initialized "NeighbourWires$Reader" ∈ tw := tw_of 76 (by decide +kernel)
theorem wd77 : Cond.initialized "NeighbourWires$Tape" ∈ tw := tw_of 77 (by decide +kernel)
theorem wd78 : Cond.initialized "NeighbourWires$Orders" ∈ tw := tw_of 78 (by decide +kernel)
theorem wd79 : Cond.initialized "NeighbourWires$Turns" ∈ tw := tw_of 79 (by decide +kernel)
theorem wd80 : Cond.initialized "NeighbourWires$Machine" ∈ tw := tw_of 80 (by decide +kernel)
theorem wd81 : Cond.initialized "NeighbourWires$Sheet" ∈ tw := tw_of 81 (by decide +kernel)
theorem wd82 : Cond.initialized "NeighbourWiresModel" ∈ tw := tw_of 82 (by decide +kernel)
theorem wd83 : Cond.initialized "java/lang/String" ∈ tw := tw_of 83 (by decide +kernel)
theorem wd84 : Cond.initialized "java/lang/StringLatin1" ∈ tw := tw_of 84 (by decide +kernel)
theorem wd85 : Cond.initialized "jdk/internal/util/Preconditions" ∈ tw := tw_of 85 (by decide +kernel)
theorem wd86 : Cond.initialized "java/lang/StringUTF16" ∈ tw := tw_of 86 (by decide +kernel)
theorem wd87 : Cond.initialized "java/lang/System" ∈ tw := tw_of 87 (by decide +kernel)
theorem wd88 : Cond.initialized "java/lang/Integer" ∈ tw := tw_of 88 (by decide +kernel)
theorem wd89 : Cond.initialized "java/lang/Math" ∈ tw := tw_of 89 (by decide +kernel)
theorem wd90 : Cond.initialized "java/lang/Long" ∈ tw := tw_of 90 (by decide +kernel)
theorem wd91 : Cond.classLink "NeighbourWiresLaw" 7 "NeighbourWires" ∈ tw := tw_of 91 (by decide +kernel)
theorem wd92 : Cond.instantiable "NeighbourWires" 8 ∈ tw := tw_of 92 (by decide +kernel)
theorem wd93 : Cond.methodLink "NeighbourWiresLaw" 9 y_N_init ∈ tw := tw_of 93 (by decide +kernel)
theorem wd94 : Cond.instanceMethod y_N_init ∈ tw := tw_of 94 (by decide +kernel)
theorem wd95 : Cond.code y_N_init prog_1_method_1_code 2 none ∈ tw := tw_of 95 (by decide +kernel)
theorem wd96 : Cond.methodLink "NeighbourWires" 1 objectInit ∈ tw := tw_of 96 (by decide +kernel)
theorem wd97 : Cond.instanceMethod objectInit ∈ tw := tw_of 97 (by decide +kernel)
theorem wd98 : Cond.code objectInit object_method_1_code 1 none ∈ tw := tw_of 98 (by decide +kernel)
theorem wd99 : Cond.classLink "NeighbourWires" 7 "NeighbourWires$Plan" ∈ tw := tw_of 99 (by decide +kernel)
theorem wd100 : Cond.instantiable "NeighbourWires$Plan" 8 ∈ tw := tw_of 100 (by decide +kernel)
theorem wd101 : Cond.methodLink "NeighbourWires" 9 y_P_init ∈ tw := tw_of 101 (by decide +kernel)
theorem wd102 : Cond.instanceMethod y_P_init ∈ tw := tw_of 102 (by decide +kernel)
theorem wd103 : Cond.code y_P_init prog_5_method_1_code 1 none ∈ tw := tw_of 103 (by decide +kernel)
theorem wd104 : Cond.methodLink "NeighbourWires$Plan" 3 objectInit ∈ tw := tw_of 104 (by decide +kernel)
theorem wd105 : Cond.methodLink "NeighbourWires$Plan" 21 y_P_reset ∈ tw := tw_of 105 (by decide +kernel)
theorem wd106 : Cond.instanceMethod y_P_reset ∈ tw := tw_of 106 (by decide +kernel)
theorem wd107 : Cond.selects "NeighbourWires$Plan" y_P_reset y_P_reset ∈ tw := tw_of 107 (by decide +kernel)
theorem wd108 : Cond.code y_P_reset prog_5_method_2_code 2 none ∈ tw := tw_of 108 (by decide +kernel)
theorem wd109 : Cond.fieldLink "NeighbourWires$Plan" 24 "NeighbourWires$Plan" "wires" "I" ∈ tw := tw_of 109 (by decide +kernel)
theorem wd110 : Cond.fieldLink "NeighbourWires$Orders" 22 "NeighbourWires$Plan" "wires" "I" ∈ tw := tw_of 110 (by decide +kernel)
theorem wd111 : Cond.fieldLink "NeighbourWires$Turns" 63 "NeighbourWires$Plan" "wires" "I" ∈ tw := tw_of 111 (by decide +kernel)
theorem wd112 : Cond.fieldLink "NeighbourWires$Reader" 91 "NeighbourWires$Plan" "wires" "I" ∈ tw := tw_of 112 (by decide +kernel)
theorem wd113 : Cond.fieldLink "NeighbourWires" 150 "NeighbourWires$Plan" "wires" "I" ∈ tw := tw_of 113 (by decide +kernel)
theorem wd114 : Cond.fieldLink "NeighbourWires$Plan" 28 "NeighbourWires$Plan" "own" "I" ∈ tw := tw_of 114 (by decide +kernel)
theorem wd115 : Cond.fieldLink "NeighbourWires$Orders" 39 "NeighbourWires$Plan" "own" "I" ∈ tw := tw_of 115 (by decide +kernel)
theorem wd116 : Cond.fieldLink "NeighbourWires$Turns" 82 "NeighbourWires$Plan" "own" "I" ∈ tw := tw_of 116 (by decide +kernel)
theorem wd117 : Cond.fieldLink "NeighbourWires$Reader" 75 "NeighbourWires$Plan" "own" "I" ∈ tw := tw_of 117 (by decide +kernel)
theorem wd118 : Cond.fieldLink "NeighbourWires" 122 "NeighbourWires$Plan" "own" "I" ∈ tw := tw_of 118 (by decide +kernel)
theorem wd119 : Cond.fieldLink "NeighbourWires$Plan" 31 "NeighbourWires$Plan" "side" "I" ∈ tw := tw_of 119 (by decide +kernel)
theorem wd120 : Cond.fieldLink "NeighbourWires$Orders" 47 "NeighbourWires$Plan" "side" "I" ∈ tw := tw_of 120 (by decide +kernel)
theorem wd121 : Cond.fieldLink "NeighbourWires$Turns" 85 "NeighbourWires$Plan" "side" "I" ∈ tw := tw_of 121 (by decide +kernel)
theorem wd122 : Cond.fieldLink "NeighbourWires$Reader" 78 "NeighbourWires$Plan" "side" "I" ∈ tw := tw_of 122 (by decide +kernel)
theorem wd123 : Cond.fieldLink "NeighbourWires" 125 "NeighbourWires$Plan" "side" "I" ∈ tw := tw_of 123 (by decide +kernel)
theorem wd124 : Cond.fieldLink "NeighbourWires$Plan" 34 "NeighbourWires$Plan" "shields" "I" ∈ tw := tw_of 124 (by decide +kernel)
theorem wd125 : Cond.fieldLink "NeighbourWires$Turns" 75 "NeighbourWires$Plan" "shields" "I" ∈ tw := tw_of 125 (by decide +kernel)
theorem wd126 : Cond.fieldLink "NeighbourWires" 153 "NeighbourWires$Plan" "shields" "I" ∈ tw := tw_of 126 (by decide +kernel)
theorem wd127 : Cond.fieldLink "NeighbourWires$Plan" 37 "NeighbourWires$Plan" "length" "I" ∈ tw := tw_of 127 (by decide +kernel)
theorem wd128 : Cond.fieldLink "NeighbourWires$Turns" 37 "NeighbourWires$Plan" "length" "I" ∈ tw := tw_of 128 (by decide +kernel)
theorem wd129 : Cond.fieldLink "NeighbourWires$Orders" 32 "NeighbourWires$Plan" "length" "I" ∈ tw := tw_of 129 (by decide +kernel)
theorem wd130 : Cond.fieldLink "NeighbourWires" 162 "NeighbourWires$Plan" "length" "I" ∈ tw := tw_of 130 (by decide +kernel)
theorem wd131 : Cond.fieldLink "NeighbourWires$Reader" 119 "NeighbourWires$Plan" "length" "I" ∈ tw := tw_of 131 (by decide +kernel)
theorem wd132 : Cond.fieldLink "NeighbourWires$Plan" 9 "NeighbourWires$Plan" "wireAt" "[I" ∈ tw := tw_of 132 (by decide +kernel)
theorem wd133 : Cond.fieldLink "NeighbourWires$Plan" 15 "NeighbourWires$Plan" "row" "[I" ∈ tw := tw_of 133 (by decide +kernel)
theorem wd134 : Cond.fieldLink "NeighbourWires$Plan" 18 "NeighbourWires$Plan" "laid" "[I" ∈ tw := tw_of 134 (by decide +kernel)
theorem wd152 : Cond.arrayClass .int ∈ tw := tw_of 152 (by decide +kernel)
theorem wd153 : Cond.classLink "NeighbourWires" 16 "NeighbourWires$Change" ∈ tw := tw_of 153 (by decide +kernel)
theorem wd154 : Cond.instantiable "NeighbourWires$Change" 7 ∈ tw := tw_of 154 (by decide +kernel)
theorem wd156 : Cond.instanceMethod y_C_init ∈ tw := tw_of 156 (by decide +kernel)
theorem wd157 : Cond.code y_C_init prog_2_method_1_code 1 none ∈ tw := tw_of 157 (by decide +kernel)
theorem wd158 : Cond.methodLink "NeighbourWires$Change" 1 objectInit ∈ tw := tw_of 158 (by decide +kernel)
theorem wd159 : Cond.fieldLink "NeighbourWires$Change" 7 "NeighbourWires$Change" "places" "I" ∈ tw := tw_of 159 (by decide +kernel)
theorem wd160 : Cond.fieldLink "NeighbourWires$Change" 13 "NeighbourWires$Change" "rising" "I" ∈ tw := tw_of 160 (by decide +kernel)
theorem wd161 : Cond.fieldLink "NeighbourWires$Change" 16 "NeighbourWires$Change" "falling" "I" ∈ tw := tw_of 161 (by decide +kernel)
theorem wd162 : Cond.fieldLink "NeighbourWires$Change" 19 "NeighbourWires$Change" "moving" "I" ∈ tw := tw_of 162 (by decide +kernel)
theorem wd163 : Cond.fieldLink "NeighbourWires$Change" 22 "NeighbourWires$Change" "shielded" "I" ∈ tw := tw_of 163 (by decide +kernel)
theorem wd164 : Cond.fieldLink "NeighbourWires$Change" 25 "NeighbourWires$Change" "against1" "I" ∈ tw := tw_of 164 (by decide +kernel)
theorem wd165 : Cond.fieldLink "NeighbourWires$Change" 28 "NeighbourWires$Change" "against2" "I" ∈ tw := tw_of 165 (by decide +kernel)
theorem wd181 : Cond.classLink "NeighbourWires" 23 "NeighbourWires$Reader" ∈ tw := tw_of 181 (by decide +kernel)
theorem wd182 : Cond.instantiable "NeighbourWires$Reader" 6 ∈ tw := tw_of 182 (by decide +kernel)
theorem wd184 : Cond.instanceMethod y_R_init ∈ tw := tw_of 184 (by decide +kernel)
theorem wd185 : Cond.code y_R_init prog_6_method_1_code 1 none ∈ tw := tw_of 185 (by decide +kernel)
theorem wd186 : Cond.methodLink "NeighbourWires$Reader" 3 objectInit ∈ tw := tw_of 186 (by decide +kernel)
theorem wd187 : Cond.classLink "NeighbourWires$Reader" 9 "NeighbourWires$Tape" ∈ tw := tw_of 187 (by decide +kernel)
theorem wd188 : Cond.instantiable "NeighbourWires$Tape" 6 ∈ tw := tw_of 188 (by decide +kernel)
theorem wd190 : Cond.instanceMethod y_T_init ∈ tw := tw_of 190 (by decide +kernel)
theorem wd191 : Cond.code y_T_init prog_8_method_1_code 1 none ∈ tw := tw_of 191 (by decide +kernel)
theorem wd192 : Cond.methodLink "NeighbourWires$Tape" 3 objectInit ∈ tw := tw_of 192 (by decide +kernel)
theorem wd193 : Cond.fieldLink "NeighbourWires$Tape" 15 "NeighbourWires$Tape" "size" "I" ∈ tw := tw_of 193 (by decide +kernel)
theorem wd194 : Cond.fieldLink "NeighbourWires" 74 "NeighbourWires$Tape" "size" "I" ∈ tw := tw_of 194 (by decide +kernel)
theorem wd195 : Cond.fieldLink "NeighbourWires$Reader" 41 "NeighbourWires$Tape" "kind" "I" ∈ tw := tw_of 195 (by decide +kernel)
theorem wd196 : Cond.fieldLink "NeighbourWires$Tape" 36 "NeighbourWires$Tape" "kind" "I" ∈ tw := tw_of 196 (by decide +kernel)
theorem wd197 : Cond.fieldLink "NeighbourWires$Reader" 48 "NeighbourWires$Tape" "start" "I" ∈ tw := tw_of 197 (by decide +kernel)
theorem wd198 : Cond.fieldLink "NeighbourWires$Tape" 26 "NeighbourWires$Tape" "start" "I" ∈ tw := tw_of 198 (by decide +kernel)
theorem wd199 : Cond.fieldLink "NeighbourWires$Reader" 54 "NeighbourWires$Tape" "value" "I" ∈ tw := tw_of 199 (by decide +kernel)
theorem wd200 : Cond.fieldLink "NeighbourWires$Tape" 29 "NeighbourWires$Tape" "value" "I" ∈ tw := tw_of 200 (by decide +kernel)
theorem wd201 : Cond.fieldLink "NeighbourWires$Tape" 9 "NeighbourWires$Tape" "bytes" "[B" ∈ tw := tw_of 201 (by decide +kernel)
theorem wd202 : Cond.fieldLink "NeighbourWires$Tape" 19 "NeighbourWires$Tape" "ahead" "I" ∈ tw := tw_of 202 (by decide +kernel)
theorem wd216 : Cond.arrayClass .byte ∈ tw := tw_of 216 (by decide +kernel)
theorem wd217 : Cond.classLink "NeighbourWires$Reader" 18 "NeighbourWires$Plan" ∈ tw := tw_of 217 (by decide +kernel)
theorem wd218 : Cond.methodLink "NeighbourWires$Reader" 20 y_P_init ∈ tw := tw_of 218 (by decide +kernel)
theorem wd219 : Cond.fieldLink "NeighbourWires$Reader" 12 "NeighbourWires$Reader" "tape" "LNeighbourWires$Tape;" ∈ tw := tw_of 219 (by decide +kernel)
theorem wd220 : Cond.fieldLink "NeighbourWires" 64 "NeighbourWires$Reader" "tape" "LNeighbourWires$Tape;" ∈ tw := tw_of 220 (by decide +kernel)
theorem wd221 : Cond.fieldLink "NeighbourWires$Reader" 21 "NeighbourWires$Reader" "told" "LNeighbourWires$Plan;" ∈ tw := tw_of 221 (by decide +kernel)
theorem wd222 : Cond.fieldLink "NeighbourWires" 86 "NeighbourWires$Reader" "told" "LNeighbourWires$Plan;" ∈ tw := tw_of 222 (by decide +kernel)
theorem wd223 : Cond.fieldLink "NeighbourWires$Reader" 31 "NeighbourWires$Reader" "fault" "I" ∈ tw := tw_of 223 (by decide +kernel)
theorem wd224 : Cond.fieldLink "NeighbourWires" 92 "NeighbourWires$Reader" "fault" "I" ∈ tw := tw_of 224 (by decide +kernel)
theorem wd225 : Cond.fieldLink "NeighbourWires$Reader" 35 "NeighbourWires$Reader" "namesTold" "I" ∈ tw := tw_of 225 (by decide +kernel)
theorem wd226 : Cond.fieldLink "NeighbourWires$Reader" 110 "NeighbourWires$Reader" "stepFrom" "I" ∈ tw := tw_of 226 (by decide +kernel)
theorem wd227 : Cond.fieldLink "NeighbourWires$Reader" 113 "NeighbourWires$Reader" "stepBy" "I" ∈ tw := tw_of 227 (by decide +kernel)
theorem wd241 : Cond.classLink "NeighbourWires" 30 "NeighbourWires$Orders" ∈ tw := tw_of 241 (by decide +kernel)
theorem wd242 : Cond.instantiable "NeighbourWires$Orders" 5 ∈ tw := tw_of 242 (by decide +kernel)
theorem wd243 : Cond.methodLink "NeighbourWires" 32 y_O_init ∈ tw := tw_of 243 (by decide +kernel)
theorem wd244 : Cond.instanceMethod y_O_init ∈ tw := tw_of 244 (by decide +kernel)
theorem wd245 : Cond.code y_O_init prog_4_method_1_code 2 none ∈ tw := tw_of 245 (by decide +kernel)
theorem wd246 : Cond.methodLink "NeighbourWires$Orders" 3 objectInit ∈ tw := tw_of 246 (by decide +kernel)
theorem wd247 : Cond.fieldLink "NeighbourWires$Orders" 9 "NeighbourWires$Orders" "asNeighbours" "[I" ∈ tw := tw_of 247 (by decide +kernel)
theorem wd248 : Cond.fieldLink "NeighbourWires$Orders" 15 "NeighbourWires$Orders" "least" "[I" ∈ tw := tw_of 248 (by decide +kernel)
theorem wd249 : Cond.fieldLink "NeighbourWires$Orders" 18 "NeighbourWires$Orders" "plan" "LNeighbourWires$Plan;" ∈ tw := tw_of 249 (by decide +kernel)
theorem wd250 : Cond.fieldLink "NeighbourWires$Orders" 28 "NeighbourWires$Orders" "wires" "I" ∈ tw := tw_of 250 (by decide +kernel)
theorem wd251 : Cond.fieldLink "NeighbourWires$Orders" 29 "NeighbourWires$Orders" "ownCost" "I" ∈ tw := tw_of 251 (by decide +kernel)
theorem wd263 : Cond.classLink "NeighbourWires" 39 "NeighbourWires$Turns" ∈ tw := tw_of 263 (by decide +kernel)
theorem wd264 : Cond.instantiable "NeighbourWires$Turns" 6 ∈ tw := tw_of 264 (by decide +kernel)
theorem wd265 : Cond.methodLink "NeighbourWires" 41 y_U_init ∈ tw := tw_of 265 (by decide +kernel)
theorem wd266 : Cond.instanceMethod y_U_init ∈ tw := tw_of 266 (by decide +kernel)
theorem wd267 : Cond.code y_U_init prog_9_method_1_code 3 none ∈ tw := tw_of 267 (by decide +kernel)
theorem wd268 : Cond.methodLink "NeighbourWires$Turns" 3 objectInit ∈ tw := tw_of 268 (by decide +kernel)
theorem wd269 : Cond.fieldLink "NeighbourWires$Turns" 24 "NeighbourWires$Turns" "cost" "I" ∈ tw := tw_of 269 (by decide +kernel)
theorem wd270 : Cond.fieldLink "NeighbourWires" 206 "NeighbourWires$Turns" "cost" "I" ∈ tw := tw_of 270 (by decide +kernel)
theorem wd271 : Cond.fieldLink "NeighbourWires$Turns" 28 "NeighbourWires$Turns" "count" "I" ∈ tw := tw_of 271 (by decide +kernel)
theorem wd272 : Cond.fieldLink "NeighbourWires" 208 "NeighbourWires$Turns" "count" "I" ∈ tw := tw_of 272 (by decide +kernel)
theorem wd273 : Cond.fieldLink "NeighbourWires$Turns" 31 "NeighbourWires$Turns" "first" "I" ∈ tw := tw_of 273 (by decide +kernel)
theorem wd274 : Cond.fieldLink "NeighbourWires" 211 "NeighbourWires$Turns" "first" "I" ∈ tw := tw_of 274 (by decide +kernel)
theorem wd275 : Cond.fieldLink "NeighbourWires$Turns" 34 "NeighbourWires$Turns" "slowest" "I" ∈ tw := tw_of 275 (by decide +kernel)
theorem wd276 : Cond.fieldLink "NeighbourWires" 214 "NeighbourWires$Turns" "slowest" "I" ∈ tw := tw_of 276 (by decide +kernel)
theorem wd277 : Cond.fieldLink "NeighbourWires$Turns" 9 "NeighbourWires$Turns" "plan" "LNeighbourWires$Plan;" ∈ tw := tw_of 277 (by decide +kernel)
theorem wd278 : Cond.fieldLink "NeighbourWires$Turns" 15 "NeighbourWires$Turns" "change" "LNeighbourWires$Change;" ∈ tw := tw_of 278 (by decide +kernel)
theorem wd292 : Cond.classLink "NeighbourWires" 48 "NeighbourWires$Machine" ∈ tw := tw_of 292 (by decide +kernel)
theorem wd293 : Cond.instantiable "NeighbourWires$Machine" 6 ∈ tw := tw_of 293 (by decide +kernel)
theorem wd294 : Cond.methodLink "NeighbourWires" 50 y_K_init ∈ tw := tw_of 294 (by decide +kernel)
theorem wd295 : Cond.instanceMethod y_K_init ∈ tw := tw_of 295 (by decide +kernel)
theorem wd296 : Cond.code y_K_init prog_3_method_1_code 2 none ∈ tw := tw_of 296 (by decide +kernel)
theorem wd297 : Cond.methodLink "NeighbourWires$Machine" 5 objectInit ∈ tw := tw_of 297 (by decide +kernel)
theorem wd298 : Cond.fieldLink "NeighbourWires$Machine" 21 "NeighbourWires$Machine" "change" "LNeighbourWires$Change;" ∈ tw := tw_of 298 (by decide +kernel)
theorem wd299 : Cond.fieldLink "NeighbourWires$Machine" 11 "NeighbourWires$Machine" "near" "[J" ∈ tw := tw_of 299 (by decide +kernel)
theorem wd300 : Cond.fieldLink "NeighbourWires$Machine" 15 "NeighbourWires$Machine" "kept" "[J" ∈ tw := tw_of 300 (by decide +kernel)
theorem wd301 : Cond.fieldLink "NeighbourWires$Machine" 18 "NeighbourWires$Machine" "seen" "[J" ∈ tw := tw_of 301 (by decide +kernel)
theorem wd302 : Cond.fieldLink "NeighbourWires$Machine" 25 "NeighbourWires$Machine" "wires" "I" ∈ tw := tw_of 302 (by decide +kernel)
theorem wd303 : Cond.fieldLink "NeighbourWires$Machine" 29 "NeighbourWires$Machine" "words" "I" ∈ tw := tw_of 303 (by decide +kernel)
theorem wd317 : Cond.arrayClass .long ∈ tw := tw_of 317 (by decide +kernel)
theorem wd318 : Cond.classLink "NeighbourWires" 57 "NeighbourWires$Sheet" ∈ tw := tw_of 318 (by decide +kernel)
theorem wd320 : Cond.instantiable "NeighbourWires$Sheet" 3 ∈ tw := tw_of 320 (by decide +kernel)
theorem wd322 : Cond.instanceMethod y_H_init ∈ tw := tw_of 322 (by decide +kernel)
theorem wd323 : Cond.code y_H_init prog_7_method_1_code 1 none ∈ tw := tw_of 323 (by decide +kernel)
theorem wd324 : Cond.methodLink "NeighbourWires$Sheet" 3 objectInit ∈ tw := tw_of 324 (by decide +kernel)
theorem wd325 : Cond.fieldLink "NeighbourWires$Sheet" 11 "NeighbourWires$Sheet" "lane" "I" ∈ tw := tw_of 325 (by decide +kernel)
theorem wd326 : Cond.fieldLink "NeighbourWires" 270 "NeighbourWires$Sheet" "lane" "I" ∈ tw := tw_of 326 (by decide +kernel)
theorem wd327 : Cond.fieldLink "NeighbourWires$Sheet" 19 "NeighbourWires$Sheet" "size" "I" ∈ tw := tw_of 327 (by decide +kernel)
theorem wd328 : Cond.fieldLink "NeighbourWires" 289 "NeighbourWires$Sheet" "size" "I" ∈ tw := tw_of 328 (by decide +kernel)
theorem wd329 : Cond.fieldLink "NeighbourWires$Sheet" 15 "NeighbourWires$Sheet" "cells" "[I" ∈ tw := tw_of 329 (by decide +kernel)
theorem wd337 : Cond.fieldLink "NeighbourWires" 10 "NeighbourWires" "plan" "LNeighbourWires$Plan;" ∈ tw := tw_of 337 (by decide +kernel)
theorem wd338 : Cond.fieldLink "NeighbourWires" 19 "NeighbourWires" "change" "LNeighbourWires$Change;" ∈ tw := tw_of 338 (by decide +kernel)
theorem wd339 : Cond.fieldLink "NeighbourWires" 26 "NeighbourWires" "reader" "LNeighbourWires$Reader;" ∈ tw := tw_of 339 (by decide +kernel)
theorem wd340 : Cond.fieldLink "NeighbourWires" 35 "NeighbourWires" "orders" "LNeighbourWires$Orders;" ∈ tw := tw_of 340 (by decide +kernel)
theorem wd341 : Cond.fieldLink "NeighbourWires" 44 "NeighbourWires" "turns" "LNeighbourWires$Turns;" ∈ tw := tw_of 341 (by decide +kernel)
theorem wd342 : Cond.fieldLink "NeighbourWires" 53 "NeighbourWires" "machine" "LNeighbourWires$Machine;" ∈ tw := tw_of 342 (by decide +kernel)
theorem wd343 : Cond.fieldLink "NeighbourWires" 59 "NeighbourWires" "sheets" "[LNeighbourWires$Sheet;" ∈ tw := tw_of 343 (by decide +kernel)
theorem wd344 : Cond.fieldLink "NeighbourWires" 282 "NeighbourWires" "torn" "I" ∈ tw := tw_of 344 (by decide +kernel)
theorem wd362 : Cond.methodLink "NeighbourWiresLaw" 15 y_N_feed ∈ tw := tw_of 362 (by decide +kernel)
theorem wd363 : Cond.instanceMethod y_N_feed ∈ tw := tw_of 363 (by decide +kernel)
theorem wd364 : Cond.selects "NeighbourWires" y_N_feed y_N_feed ∈ tw := tw_of 364 (by decide +kernel)
theorem wd365 : Cond.code y_N_feed prog_1_method_2_code 3 (Option.some .int) ∈ tw := tw_of 365 (by decide +kernel)
theorem wd366 : Cond.methodLink "NeighbourWires" 68 y_T_append ∈ tw := tw_of 366 (by decide +kernel)
theorem wd367 : Cond.instanceMethod y_T_append ∈ tw := tw_of 367 (by decide +kernel)
theorem wd368 : Cond.selects "NeighbourWires$Tape" y_T_append y_T_append ∈ tw := tw_of 368 (by decide +kernel)
theorem wd369 : Cond.code y_T_append prog_8_method_2_code 4 (Option.some .boolean) ∈ tw := tw_of 369 (by decide +kernel)
theorem wd370 : Cond.methodLink "NeighbourWiresLaw" 20 y_N_end ∈ tw := tw_of 370 (by decide +kernel)
theorem wd371 : Cond.instanceMethod y_N_end ∈ tw := tw_of 371 (by decide +kernel)
theorem wd372 : Cond.selects "NeighbourWires" y_N_end y_N_end ∈ tw := tw_of 372 (by decide +kernel)
theorem wd373 : Cond.code y_N_end prog_1_method_3_code 3 (Option.some .int) ∈ tw := tw_of 373 (by decide +kernel)
theorem wd374 : Cond.methodLink "NeighbourWires" 78 y_T_cut ∈ tw := tw_of 374 (by decide +kernel)
theorem wd375 : Cond.instanceMethod y_T_cut ∈ tw := tw_of 375 (by decide +kernel)
theorem wd376 : Cond.selects "NeighbourWires$Tape" y_T_cut y_T_cut ∈ tw := tw_of 376 (by decide +kernel)
theorem wd377 : Cond.code y_T_cut prog_8_method_3_code 2 (Option.some .boolean) ∈ tw := tw_of 377 (by decide +kernel)
theorem wd378 : Cond.methodLink "NeighbourWiresLaw" 25 y_N_text ∈ tw := tw_of 378 (by decide +kernel)
theorem wd379 : Cond.instanceMethod y_N_text ∈ tw := tw_of 379 (by decide +kernel)
theorem wd380 : Cond.selects "NeighbourWires" y_N_text y_N_text ∈ tw := tw_of 380 (by decide +kernel)
theorem wd381 : Cond.code y_N_text prog_1_method_4_code 2 (Option.some .int) ∈ tw := tw_of 381 (by decide +kernel)
theorem wd382 : Cond.methodLink "NeighbourWires" 82 y_R_readText ∈ tw := tw_of 382 (by decide +kernel)
theorem wd383 : Cond.instanceMethod y_R_readText ∈ tw := tw_of 383 (by decide +kernel)
theorem wd384 : Cond.selects "NeighbourWires$Reader" y_R_readText y_R_readText ∈ tw := tw_of 384 (by decide +kernel)
theorem wd385 : Cond.code y_R_readText prog_6_method_2_code 2 (Option.some .int) ∈ tw := tw_of 385 (by decide +kernel)
theorem wd386 : Cond.methodLink "NeighbourWires$Reader" 25 y_P_reset ∈ tw := tw_of 386 (by decide +kernel)
theorem wd387 : Cond.methodLink "NeighbourWires$Reader" 28 y_T_rewind ∈ tw := tw_of 387 (by decide +kernel)
theorem wd388 : Cond.instanceMethod y_T_rewind ∈ tw := tw_of 388 (by decide +kernel)
theorem wd389 : Cond.selects "NeighbourWires$Tape" y_T_rewind y_T_rewind ∈ tw := tw_of 389 (by decide +kernel)
theorem wd390 : Cond.code y_T_rewind prog_8_method_4_code 1 none ∈ tw := tw_of 390 (by decide +kernel)
theorem wd391 : Cond.methodLink "NeighbourWires$Reader" 38 y_T_next ∈ tw := tw_of 391 (by decide +kernel)
theorem wd392 : Cond.instanceMethod y_T_next ∈ tw := tw_of 392 (by decide +kernel)
theorem wd393 : Cond.selects "NeighbourWires$Tape" y_T_next y_T_next ∈ tw := tw_of 393 (by decide +kernel)
theorem wd394 : Cond.code y_T_next prog_8_method_5_code 2 none ∈ tw := tw_of 394 (by decide +kernel)
theorem wd395 : Cond.methodLink "NeighbourWires$Tape" 22 y_T_endOfRun ∈ tw := tw_of 395 (by decide +kernel)
theorem wd397 : Cond.instanceMethod y_T_endOfRun ∈ tw := tw_of 397 (by decide +kernel)
theorem wd398 : Cond.code y_T_endOfRun prog_8_method_9_code 5 (Option.some .int) ∈ tw := tw_of 398 (by decide +kernel)
theorem wd399 : Cond.methodLink "NeighbourWires$Tape" 32 y_T_byteAt ∈ tw := tw_of 399 (by decide +kernel)
theorem wd401 : Cond.instanceMethod y_T_byteAt ∈ tw := tw_of 401 (by decide +kernel)
theorem wd402 : Cond.code y_T_byteAt prog_8_method_11_code 2 (Option.some .int) ∈ tw := tw_of 402 (by decide +kernel)
theorem wd403 : Cond.methodLink "NeighbourWires$Tape" 39 y_T_isWithin ∈ tw := tw_of 403 (by decide +kernel)
theorem wd404 : Cond.static y_T_isWithin ∈ tw := tw_of 404 (by decide +kernel)
theorem wd405 : Cond.code y_T_isWithin prog_8_method_10_code 3 (Option.some .boolean) ∈ tw := tw_of 405 (by decide +kernel)
theorem wd406 : Cond.methodLink "NeighbourWires$Tape" 43 y_T_nameNumber ∈ tw := tw_of 406 (by decide +kernel)
theorem wd408 : Cond.instanceMethod y_T_nameNumber ∈ tw := tw_of 408 (by decide +kernel)
theorem wd409 : Cond.code y_T_nameNumber prog_8_method_6_code 1 (Option.some .int) ∈ tw := tw_of 409 (by decide +kernel)
theorem wd411 : Cond.methodLink "NeighbourWires$Tape" 52 y_T_spells ∈ tw := tw_of 411 (by decide +kernel)
theorem wd413 : Cond.instanceMethod y_T_spells ∈ tw := tw_of 413 (by decide +kernel)
theorem wd414 : Cond.code y_T_spells prog_8_method_7_code 3 (Option.some .boolean) ∈ tw := tw_of 414 (by decide +kernel)
theorem wd415 : Cond.methodLink "NeighbourWires$Tape" 66 ⟨"java/lang/String", "length", "()I"⟩ ∈ tw := tw_of 415 (by decide +kernel)
theorem wd416 : Cond.instanceMethod ⟨"java/lang/String", "length", "()I"⟩ ∈ tw := tw_of 416 (by decide +kernel)
theorem wd417 : Cond.selects "java/lang/String" ⟨"java/lang/String", "length", "()I"⟩ ⟨"java/lang/String", "length", "()I"⟩ ∈ tw := tw_of 417 (by decide +kernel)
theorem wd418 : Cond.code ⟨"java/lang/String", "length", "()I"⟩ prog_15_method_54_code 1 (Option.some .int) ∈ tw := tw_of 418 (by decide +kernel)
theorem wd419 : Cond.methodLink "java/lang/String" 335 ⟨"java/lang/String", "coder", "()B"⟩ ∈ tw := tw_of 419 (by decide +kernel)
theorem wd420 : Cond.instanceMethod ⟨"java/lang/String", "coder", "()B"⟩ ∈ tw := tw_of 420 (by decide +kernel)
theorem wd421 : Cond.selects "java/lang/String" ⟨"java/lang/String", "coder", "()B"⟩ ⟨"java/lang/String", "coder", "()B"⟩ ∈ tw := tw_of 421 (by decide +kernel)
theorem wd422 : Cond.code ⟨"java/lang/String", "coder", "()B"⟩ prog_15_method_152_code 1 (Option.some .byte) ∈ tw := tw_of 422 (by decide +kernel)
theorem wd423 : Cond.fieldLink "java/lang/String" 38 "java/lang/String" "COMPACT_STRINGS" "Z" ∈ tw := tw_of 423 (by decide +kernel)
theorem wd425 : Cond.methodLink "NeighbourWires$Tape" 71 ⟨"java/lang/String", "charAt", "(I)C"⟩ ∈ tw := tw_of 425 (by decide +kernel)
theorem wd426 : Cond.instanceMethod ⟨"java/lang/String", "charAt", "(I)C"⟩ ∈ tw := tw_of 426 (by decide +kernel)
theorem wd427 : Cond.selects "java/lang/String" ⟨"java/lang/String", "charAt", "(I)C"⟩ ⟨"java/lang/String", "charAt", "(I)C"⟩ ∈ tw := tw_of 427 (by decide +kernel)
theorem wd428 : Cond.code ⟨"java/lang/String", "charAt", "(I)C"⟩ prog_15_method_56_code 2 (Option.some .char) ∈ tw := tw_of 428 (by decide +kernel)
theorem wd429 : Cond.methodLink "java/lang/String" 492 ⟨"java/lang/String", "isLatin1", "()Z"⟩ ∈ tw := tw_of 429 (by decide +kernel)
theorem wd430 : Cond.instanceMethod ⟨"java/lang/String", "isLatin1", "()Z"⟩ ∈ tw := tw_of 430 (by decide +kernel)
theorem wd431 : Cond.selects "java/lang/String" ⟨"java/lang/String", "isLatin1", "()Z"⟩ ⟨"java/lang/String", "isLatin1", "()Z"⟩ ∈ tw := tw_of 431 (by decide +kernel)
theorem wd432 : Cond.code ⟨"java/lang/String", "isLatin1", "()Z"⟩ prog_15_method_154_code 1 (Option.some .boolean) ∈ tw := tw_of 432 (by decide +kernel)
theorem wd433 : Cond.methodLink "java/lang/String" 495 ⟨"java/lang/StringLatin1", "charAt", "([BI)C"⟩ ∈ tw := tw_of 433 (by decide +kernel)
theorem wd434 : Cond.static ⟨"java/lang/StringLatin1", "charAt", "([BI)C"⟩ ∈ tw := tw_of 434 (by decide +kernel)
theorem wd435 : Cond.code ⟨"java/lang/StringLatin1", "charAt", "([BI)C"⟩ prog_16_method_2_code 2 (Option.some .char) ∈ tw := tw_of 435 (by decide +kernel)
theorem wd436 : Cond.methodLink "java/lang/StringLatin1" 9 ⟨"java/lang/String", "checkIndex", "(II)V"⟩ ∈ tw := tw_of 436 (by decide +kernel)
theorem wd437 : Cond.static ⟨"java/lang/String", "checkIndex", "(II)V"⟩ ∈ tw := tw_of 437 (by decide +kernel)
theorem wd438 : Cond.code ⟨"java/lang/String", "checkIndex", "(II)V"⟩ prog_15_method_155_code 2 none ∈ tw := tw_of 438 (by decide +kernel)
theorem wd439 : Cond.fieldLink "java/lang/String" 1053 "jdk/internal/util/Preconditions" "SIOOBE_FORMATTER" "Ljava/util/function/BiFunction;" ∈ tw := tw_of 439 (by decide +kernel)
theorem wd441 : Cond.methodLink "java/lang/String" 1059 ⟨"jdk/internal/util/Preconditions", "checkIndex", "(IILjava/util/function/BiFunction;)I"⟩ ∈ tw := tw_of 441 (by decide +kernel)
theorem wd442 : Cond.static ⟨"jdk/internal/util/Preconditions", "checkIndex", "(IILjava/util/function/BiFunction;)I"⟩ ∈ tw := tw_of 442 (by decide +kernel)
theorem wd443 : Cond.code ⟨"jdk/internal/util/Preconditions", "checkIndex", "(IILjava/util/function/BiFunction;)I"⟩ prog_19_method_11_code 3 (Option.some .int) ∈ tw := tw_of 443 (by decide +kernel)
theorem wd444 : Cond.methodLink "java/lang/String" 498 ⟨"java/lang/StringUTF16", "charAt", "([BI)C"⟩ ∈ tw := tw_of 444 (by decide +kernel)
theorem wd445 : Cond.static ⟨"java/lang/StringUTF16", "charAt", "([BI)C"⟩ ∈ tw := tw_of 445 (by decide +kernel)
theorem wd446 : Cond.code ⟨"java/lang/StringUTF16", "charAt", "([BI)C"⟩ prog_17_method_83_code 2 (Option.some .char) ∈ tw := tw_of 446 (by decide +kernel)
theorem wd447 : Cond.methodLink "java/lang/StringUTF16" 67 ⟨"java/lang/StringUTF16", "checkIndex", "(I[B)V"⟩ ∈ tw := tw_of 447 (by decide +kernel)
theorem wd448 : Cond.static ⟨"java/lang/StringUTF16", "checkIndex", "(I[B)V"⟩ ∈ tw := tw_of 448 (by decide +kernel)
theorem wd449 : Cond.code ⟨"java/lang/StringUTF16", "checkIndex", "(I[B)V"⟩ prog_17_method_91_code 2 none ∈ tw := tw_of 449 (by decide +kernel)
theorem wd450 : Cond.methodLink "java/lang/StringUTF16" 48 ⟨"java/lang/StringUTF16", "length", "([B)I"⟩ ∈ tw := tw_of 450 (by decide +kernel)
theorem wd451 : Cond.static ⟨"java/lang/StringUTF16", "length", "([B)I"⟩ ∈ tw := tw_of 451 (by decide +kernel)
theorem wd452 : Cond.code ⟨"java/lang/StringUTF16", "length", "([B)I"⟩ prog_17_method_6_code 1 (Option.some .int) ∈ tw := tw_of 452 (by decide +kernel)
theorem wd453 : Cond.methodLink "java/lang/StringUTF16" 414 ⟨"java/lang/String", "checkIndex", "(II)V"⟩ ∈ tw := tw_of 453 (by decide +kernel)
theorem wd454 : Cond.methodLink "java/lang/StringUTF16" 71 ⟨"java/lang/StringUTF16", "getChar", "([BI)C"⟩ ∈ tw := tw_of 454 (by decide +kernel)
theorem wd455 : Cond.static ⟨"java/lang/StringUTF16", "getChar", "([BI)C"⟩ ∈ tw := tw_of 455 (by decide +kernel)
theorem wd456 : Cond.code ⟨"java/lang/StringUTF16", "getChar", "([BI)C"⟩ prog_17_method_5_code 2 (Option.some .char) ∈ tw := tw_of 456 (by decide +kernel)
theorem wd457 : Cond.fieldLink "java/lang/StringUTF16" 44 "java/lang/StringUTF16" "$assertionsDisabled" "Z" ∈ tw := tw_of 457 (by decide +kernel)
theorem wd459 : Cond.fieldLink "java/lang/StringUTF16" 59 "java/lang/StringUTF16" "HI_BYTE_SHIFT" "I" ∈ tw := tw_of 459 (by decide +kernel)
theorem wd461 : Cond.fieldLink "java/lang/StringUTF16" 63 "java/lang/StringUTF16" "LO_BYTE_SHIFT" "I" ∈ tw := tw_of 461 (by decide +kernel)
theorem wd468 : Cond.methodLink "NeighbourWires$Tape" 47 y_T_nextNumber ∈ tw := tw_of 468 (by decide +kernel)
theorem wd470 : Cond.instanceMethod y_T_nextNumber ∈ tw := tw_of 470 (by decide +kernel)
theorem wd471 : Cond.code y_T_nextNumber prog_8_method_8_code 3 none ∈ tw := tw_of 471 (by decide +kernel)
theorem wd472 : Cond.methodLink "NeighbourWires$Reader" 44 y_R_readLine ∈ tw := tw_of 472 (by decide +kernel)
theorem wd474 : Cond.instanceMethod y_R_readLine ∈ tw := tw_of 474 (by decide +kernel)
theorem wd475 : Cond.code y_R_readLine prog_6_method_3_code 5 (Option.some .int) ∈ tw := tw_of 475 (by decide +kernel)
theorem wd476 : Cond.methodLink "NeighbourWires$Reader" 51 y_R_outOfPlace ∈ tw := tw_of 476 (by decide +kernel)
theorem wd478 : Cond.instanceMethod y_R_outOfPlace ∈ tw := tw_of 478 (by decide +kernel)
theorem wd479 : Cond.code y_R_outOfPlace prog_6_method_4_code 1 (Option.some .int) ∈ tw := tw_of 479 (by decide +kernel)
theorem wd480 : Cond.methodLink "NeighbourWires$Reader" 57 y_R_isToldAgain ∈ tw := tw_of 480 (by decide +kernel)
theorem wd482 : Cond.instanceMethod y_R_isToldAgain ∈ tw := tw_of 482 (by decide +kernel)
theorem wd483 : Cond.code y_R_isToldAgain prog_6_method_5_code 3 (Option.some .boolean) ∈ tw := tw_of 483 (by decide +kernel)
theorem wd484 : Cond.methodLink "NeighbourWires$Reader" 61 y_R_fewestNumbers ∈ tw := tw_of 484 (by decide +kernel)
theorem wd485 : Cond.static y_R_fewestNumbers ∈ tw := tw_of 485 (by decide +kernel)
theorem wd486 : Cond.code y_R_fewestNumbers prog_6_method_6_code 1 (Option.some .int) ∈ tw := tw_of 486 (by decide +kernel)
theorem wd487 : Cond.methodLink "NeighbourWires$Reader" 65 y_R_mostNumbers ∈ tw := tw_of 487 (by decide +kernel)
theorem wd488 : Cond.static y_R_mostNumbers ∈ tw := tw_of 488 (by decide +kernel)
theorem wd489 : Cond.code y_R_mostNumbers prog_6_method_7_code 1 (Option.some .int) ∈ tw := tw_of 489 (by decide +kernel)
theorem wd490 : Cond.methodLink "NeighbourWires$Reader" 68 y_R_take ∈ tw := tw_of 490 (by decide +kernel)
theorem wd492 : Cond.instanceMethod y_R_take ∈ tw := tw_of 492 (by decide +kernel)
theorem wd493 : Cond.code y_R_take prog_6_method_8_code 4 (Option.some .int) ∈ tw := tw_of 493 (by decide +kernel)
theorem wd494 : Cond.methodLink "NeighbourWires$Reader" 72 y_R_takeWires ∈ tw := tw_of 494 (by decide +kernel)
theorem wd496 : Cond.instanceMethod y_R_takeWires ∈ tw := tw_of 496 (by decide +kernel)
theorem wd497 : Cond.code y_R_takeWires prog_6_method_9_code 2 (Option.some .int) ∈ tw := tw_of 497 (by decide +kernel)
theorem wd498 : Cond.methodLink "NeighbourWires$Reader" 81 y_R_takeShield ∈ tw := tw_of 498 (by decide +kernel)
theorem wd500 : Cond.instanceMethod y_R_takeShield ∈ tw := tw_of 500 (by decide +kernel)
theorem wd501 : Cond.code y_R_takeShield prog_6_method_10_code 2 (Option.some .int) ∈ tw := tw_of 501 (by decide +kernel)
theorem wd502 : Cond.methodLink "NeighbourWires$Reader" 94 y_P_isGap ∈ tw := tw_of 502 (by decide +kernel)
theorem wd503 : Cond.instanceMethod y_P_isGap ∈ tw := tw_of 503 (by decide +kernel)
theorem wd504 : Cond.selects "NeighbourWires$Plan" y_P_isGap y_P_isGap ∈ tw := tw_of 504 (by decide +kernel)
theorem wd505 : Cond.code y_P_isGap prog_5_method_7_code 2 (Option.some .boolean) ∈ tw := tw_of 505 (by decide +kernel)
theorem wd506 : Cond.methodLink "NeighbourWires$Reader" 97 y_P_shieldAt ∈ tw := tw_of 506 (by decide +kernel)
theorem wd507 : Cond.instanceMethod y_P_shieldAt ∈ tw := tw_of 507 (by decide +kernel)
theorem wd508 : Cond.selects "NeighbourWires$Plan" y_P_shieldAt y_P_shieldAt ∈ tw := tw_of 508 (by decide +kernel)
theorem wd509 : Cond.code y_P_shieldAt prog_5_method_8_code 2 (Option.some .int) ∈ tw := tw_of 509 (by decide +kernel)
theorem wd510 : Cond.methodLink "NeighbourWires$Plan" 50 y_P_isGap ∈ tw := tw_of 510 (by decide +kernel)
theorem wd511 : Cond.methodLink "NeighbourWires$Reader" 100 y_P_putShield ∈ tw := tw_of 511 (by decide +kernel)
theorem wd512 : Cond.instanceMethod y_P_putShield ∈ tw := tw_of 512 (by decide +kernel)
theorem wd513 : Cond.selects "NeighbourWires$Plan" y_P_putShield y_P_putShield ∈ tw := tw_of 513 (by decide +kernel)
theorem wd514 : Cond.code y_P_putShield prog_5_method_9_code 3 none ∈ tw := tw_of 514 (by decide +kernel)
theorem wd515 : Cond.methodLink "NeighbourWires$Reader" 84 y_R_takeWord ∈ tw := tw_of 515 (by decide +kernel)
theorem wd517 : Cond.instanceMethod y_R_takeWord ∈ tw := tw_of 517 (by decide +kernel)
theorem wd518 : Cond.code y_R_takeWord prog_6_method_11_code 2 (Option.some .int) ∈ tw := tw_of 518 (by decide +kernel)
theorem wd519 : Cond.methodLink "NeighbourWires$Reader" 104 y_P_isWord ∈ tw := tw_of 519 (by decide +kernel)
theorem wd520 : Cond.instanceMethod y_P_isWord ∈ tw := tw_of 520 (by decide +kernel)
theorem wd521 : Cond.selects "NeighbourWires$Plan" y_P_isWord y_P_isWord ∈ tw := tw_of 521 (by decide +kernel)
theorem wd522 : Cond.code y_P_isWord prog_5_method_5_code 2 (Option.some .boolean) ∈ tw := tw_of 522 (by decide +kernel)
theorem wd523 : Cond.methodLink "NeighbourWires$Plan" 46 y_P_words ∈ tw := tw_of 523 (by decide +kernel)
theorem wd524 : Cond.instanceMethod y_P_words ∈ tw := tw_of 524 (by decide +kernel)
theorem wd525 : Cond.selects "NeighbourWires$Plan" y_P_words y_P_words ∈ tw := tw_of 525 (by decide +kernel)
theorem wd526 : Cond.code y_P_words prog_5_method_4_code 1 (Option.some .int) ∈ tw := tw_of 526 (by decide +kernel)
theorem wd527 : Cond.methodLink "NeighbourWires$Reader" 107 y_P_append ∈ tw := tw_of 527 (by decide +kernel)
theorem wd528 : Cond.instanceMethod y_P_append ∈ tw := tw_of 528 (by decide +kernel)
theorem wd529 : Cond.selects "NeighbourWires$Plan" y_P_append y_P_append ∈ tw := tw_of 529 (by decide +kernel)
theorem wd530 : Cond.code y_P_append prog_5_method_15_code 2 (Option.some .boolean) ∈ tw := tw_of 530 (by decide +kernel)
theorem wd531 : Cond.methodLink "NeighbourWires$Reader" 87 y_R_takeStep ∈ tw := tw_of 531 (by decide +kernel)
theorem wd533 : Cond.instanceMethod y_R_takeStep ∈ tw := tw_of 533 (by decide +kernel)
theorem wd534 : Cond.code y_R_takeStep prog_6_method_12_code 3 (Option.some .int) ∈ tw := tw_of 534 (by decide +kernel)
theorem wd535 : Cond.methodLink "NeighbourWires$Reader" 116 y_R_takeSteps ∈ tw := tw_of 535 (by decide +kernel)
theorem wd537 : Cond.instanceMethod y_R_takeSteps ∈ tw := tw_of 537 (by decide +kernel)
theorem wd538 : Cond.code y_R_takeSteps prog_6_method_13_code 3 (Option.some .int) ∈ tw := tw_of 538 (by decide +kernel)
theorem wd539 : Cond.methodLink "NeighbourWires$Reader" 122 y_P_words ∈ tw := tw_of 539 (by decide +kernel)
theorem wd540 : Cond.methodLink "NeighbourWires" 89 y_P_copy ∈ tw := tw_of 540 (by decide +kernel)
theorem wd541 : Cond.instanceMethod y_P_copy ∈ tw := tw_of 541 (by decide +kernel)
theorem wd542 : Cond.selects "NeighbourWires$Plan" y_P_copy y_P_copy ∈ tw := tw_of 542 (by decide +kernel)
theorem wd543 : Cond.code y_P_copy prog_5_method_3_code 2 none ∈ tw := tw_of 543 (by decide +kernel)
theorem wd544 : Cond.methodLink "NeighbourWires$Plan" 40 ⟨"java/lang/System", "arraycopy", "(Ljava/lang/Object;ILjava/lang/Object;II)V"⟩ ∈ tw := tw_of 544 (by decide +kernel)
theorem wd545 : Cond.static ⟨"java/lang/System", "arraycopy", "(Ljava/lang/Object;ILjava/lang/Object;II)V"⟩ ∈ tw := tw_of 545 (by decide +kernel)
theorem wd546 : Cond.native ⟨"java/lang/System", "arraycopy", "(Ljava/lang/Object;ILjava/lang/Object;II)V"⟩ ∈ tw := tw_of 546 (by decide +kernel)
theorem wd547 : Cond.methodLink "NeighbourWiresLaw" 30 y_N_fault ∈ tw := tw_of 547 (by decide +kernel)
theorem wd548 : Cond.instanceMethod y_N_fault ∈ tw := tw_of 548 (by decide +kernel)
theorem wd549 : Cond.selects "NeighbourWires" y_N_fault y_N_fault ∈ tw := tw_of 549 (by decide +kernel)
theorem wd550 : Cond.code y_N_fault prog_1_method_5_code 1 (Option.some .int) ∈ tw := tw_of 550 (by decide +kernel)
theorem wd551 : Cond.methodLink "NeighbourWiresLaw" 34 y_N_order ∈ tw := tw_of 551 (by decide +kernel)
theorem wd552 : Cond.instanceMethod y_N_order ∈ tw := tw_of 552 (by decide +kernel)
theorem wd553 : Cond.selects "NeighbourWires" y_N_order y_N_order ∈ tw := tw_of 553 (by decide +kernel)
theorem wd554 : Cond.code y_N_order prog_1_method_6_code 2 (Option.some .int) ∈ tw := tw_of 554 (by decide +kernel)
theorem wd555 : Cond.methodLink "NeighbourWires" 95 y_P_reorder ∈ tw := tw_of 555 (by decide +kernel)
theorem wd556 : Cond.instanceMethod y_P_reorder ∈ tw := tw_of 556 (by decide +kernel)
theorem wd557 : Cond.selects "NeighbourWires$Plan" y_P_reorder y_P_reorder ∈ tw := tw_of 557 (by decide +kernel)
theorem wd558 : Cond.code y_P_reorder prog_5_method_12_code 4 (Option.some .boolean) ∈ tw := tw_of 558 (by decide +kernel)
theorem wd559 : Cond.methodLink "NeighbourWires$Plan" 57 y_P_isOrder ∈ tw := tw_of 559 (by decide +kernel)
theorem wd561 : Cond.instanceMethod y_P_isOrder ∈ tw := tw_of 561 (by decide +kernel)
theorem wd562 : Cond.code y_P_isOrder prog_5_method_13_code 6 (Option.some .boolean) ∈ tw := tw_of 562 (by decide +kernel)
theorem wd563 : Cond.methodLink "NeighbourWires$Plan" 60 y_P_isWire ∈ tw := tw_of 563 (by decide +kernel)
theorem wd564 : Cond.instanceMethod y_P_isWire ∈ tw := tw_of 564 (by decide +kernel)
theorem wd565 : Cond.selects "NeighbourWires$Plan" y_P_isWire y_P_isWire ∈ tw := tw_of 565 (by decide +kernel)
theorem wd566 : Cond.code y_P_isWire prog_5_method_6_code 2 (Option.some .boolean) ∈ tw := tw_of 566 (by decide +kernel)
theorem wd567 : Cond.methodLink "NeighbourWiresLaw" 38 y_N_shield ∈ tw := tw_of 567 (by decide +kernel)
theorem wd568 : Cond.instanceMethod y_N_shield ∈ tw := tw_of 568 (by decide +kernel)
theorem wd569 : Cond.selects "NeighbourWires" y_N_shield y_N_shield ∈ tw := tw_of 569 (by decide +kernel)
theorem wd570 : Cond.code y_N_shield prog_1_method_7_code 4 (Option.some .int) ∈ tw := tw_of 570 (by decide +kernel)
theorem wd571 : Cond.methodLink "NeighbourWires" 98 y_P_isGap ∈ tw := tw_of 571 (by decide +kernel)
theorem wd572 : Cond.methodLink "NeighbourWires" 101 y_P_shieldAt ∈ tw := tw_of 572 (by decide +kernel)
theorem wd573 : Cond.methodLink "NeighbourWires" 105 y_P_putShield ∈ tw := tw_of 573 (by decide +kernel)
theorem wd574 : Cond.methodLink "NeighbourWiresLaw" 43 y_N_at ∈ tw := tw_of 574 (by decide +kernel)
theorem wd575 : Cond.instanceMethod y_N_at ∈ tw := tw_of 575 (by decide +kernel)
theorem wd576 : Cond.selects "NeighbourWires" y_N_at y_N_at ∈ tw := tw_of 576 (by decide +kernel)
theorem wd577 : Cond.code y_N_at prog_1_method_8_code 3 (Option.some .int) ∈ tw := tw_of 577 (by decide +kernel)
theorem wd578 : Cond.methodLink "NeighbourWires" 109 y_P_isWire ∈ tw := tw_of 578 (by decide +kernel)
theorem wd579 : Cond.methodLink "NeighbourWires" 112 y_P_wireAt ∈ tw := tw_of 579 (by decide +kernel)
theorem wd580 : Cond.instanceMethod y_P_wireAt ∈ tw := tw_of 580 (by decide +kernel)
theorem wd581 : Cond.selects "NeighbourWires$Plan" y_P_wireAt y_P_wireAt ∈ tw := tw_of 581 (by decide +kernel)
theorem wd582 : Cond.code y_P_wireAt prog_5_method_10_code 2 (Option.some .int) ∈ tw := tw_of 582 (by decide +kernel)
theorem wd583 : Cond.methodLink "NeighbourWiresLaw" 48 y_N_change ∈ tw := tw_of 583 (by decide +kernel)
theorem wd584 : Cond.instanceMethod y_N_change ∈ tw := tw_of 584 (by decide +kernel)
theorem wd585 : Cond.selects "NeighbourWires" y_N_change y_N_change ∈ tw := tw_of 585 (by decide +kernel)
theorem wd586 : Cond.code y_N_change prog_1_method_9_code 4 (Option.some .int) ∈ tw := tw_of 586 (by decide +kernel)
theorem wd587 : Cond.methodLink "NeighbourWires" 115 y_P_isWord ∈ tw := tw_of 587 (by decide +kernel)
theorem wd588 : Cond.methodLink "NeighbourWires" 118 y_N_weigh ∈ tw := tw_of 588 (by decide +kernel)
theorem wd590 : Cond.instanceMethod y_N_weigh ∈ tw := tw_of 590 (by decide +kernel)
theorem wd591 : Cond.code y_N_weigh prog_1_method_11_code 3 none ∈ tw := tw_of 591 (by decide +kernel)
theorem wd592 : Cond.methodLink "NeighbourWires" 147 y_P_byPlaces ∈ tw := tw_of 592 (by decide +kernel)
theorem wd593 : Cond.instanceMethod y_P_byPlaces ∈ tw := tw_of 593 (by decide +kernel)
theorem wd594 : Cond.selects "NeighbourWires$Plan" y_P_byPlaces y_P_byPlaces ∈ tw := tw_of 594 (by decide +kernel)
theorem wd595 : Cond.code y_P_byPlaces prog_5_method_16_code 4 (Option.some .int) ∈ tw := tw_of 595 (by decide +kernel)
theorem wd596 : Cond.methodLink "NeighbourWires$Plan" 54 y_P_wireAt ∈ tw := tw_of 596 (by decide +kernel)
theorem wd597 : Cond.methodLink "NeighbourWires" 156 y_C_between ∈ tw := tw_of 597 (by decide +kernel)
theorem wd598 : Cond.instanceMethod y_C_between ∈ tw := tw_of 598 (by decide +kernel)
theorem wd599 : Cond.selects "NeighbourWires$Change" y_C_between y_C_between ∈ tw := tw_of 599 (by decide +kernel)
theorem wd600 : Cond.code y_C_between prog_2_method_2_code 7 none ∈ tw := tw_of 600 (by decide +kernel)
theorem wd601 : Cond.methodLink "NeighbourWires" 128 y_C_cost ∈ tw := tw_of 601 (by decide +kernel)
theorem wd602 : Cond.instanceMethod y_C_cost ∈ tw := tw_of 602 (by decide +kernel)
theorem wd603 : Cond.selects "NeighbourWires$Change" y_C_cost y_C_cost ∈ tw := tw_of 603 (by decide +kernel)
theorem wd604 : Cond.code y_C_cost prog_2_method_4_code 5 (Option.some .int) ∈ tw := tw_of 604 (by decide +kernel)
theorem wd605 : Cond.methodLink "NeighbourWires$Change" 31 ⟨"java/lang/Integer", "bitCount", "(I)I"⟩ ∈ tw := tw_of 605 (by decide +kernel)
theorem wd606 : Cond.static ⟨"java/lang/Integer", "bitCount", "(I)I"⟩ ∈ tw := tw_of 606 (by decide +kernel)
theorem wd607 : Cond.code ⟨"java/lang/Integer", "bitCount", "(I)I"⟩ prog_12_method_49_code 1 (Option.some .int) ∈ tw := tw_of 607 (by decide +kernel)
theorem wd608 : Cond.constant "java/lang/Integer" 265 (1431655765 : Int32) ∈ tw := tw_of 608 (by decide +kernel)
theorem wd609 : Cond.constant "java/lang/Integer" 266 (858993459 : Int32) ∈ tw := tw_of 609 (by decide +kernel)
theorem wd610 : Cond.constant "java/lang/Integer" 267 (252645135 : Int32) ∈ tw := tw_of 610 (by decide +kernel)
theorem wd611 : Cond.methodLink "NeighbourWires$Change" 37 y_C_moves ∈ tw := tw_of 611 (by decide +kernel)
theorem wd612 : Cond.instanceMethod y_C_moves ∈ tw := tw_of 612 (by decide +kernel)
theorem wd613 : Cond.selects "NeighbourWires$Change" y_C_moves y_C_moves ∈ tw := tw_of 613 (by decide +kernel)
theorem wd614 : Cond.code y_C_moves prog_2_method_3_code 1 (Option.some .int) ∈ tw := tw_of 614 (by decide +kernel)
theorem wd615 : Cond.methodLink "NeighbourWires" 132 y_C_greatestSlow ∈ tw := tw_of 615 (by decide +kernel)
theorem wd616 : Cond.instanceMethod y_C_greatestSlow ∈ tw := tw_of 616 (by decide +kernel)
theorem wd617 : Cond.selects "NeighbourWires$Change" y_C_greatestSlow y_C_greatestSlow ∈ tw := tw_of 617 (by decide +kernel)
theorem wd618 : Cond.code y_C_greatestSlow prog_2_method_7_code 6 (Option.some .int) ∈ tw := tw_of 618 (by decide +kernel)
theorem wd619 : Cond.methodLink "NeighbourWires" 135 y_C_noise ∈ tw := tw_of 619 (by decide +kernel)
theorem wd620 : Cond.instanceMethod y_C_noise ∈ tw := tw_of 620 (by decide +kernel)
theorem wd621 : Cond.selects "NeighbourWires$Change" y_C_noise y_C_noise ∈ tw := tw_of 621 (by decide +kernel)
theorem wd622 : Cond.code y_C_noise prog_2_method_8_code 7 (Option.some .int) ∈ tw := tw_of 622 (by decide +kernel)
theorem wd623 : Cond.methodLink "NeighbourWires" 138 y_C_moves ∈ tw := tw_of 623 (by decide +kernel)
theorem wd624 : Cond.methodLink "NeighbourWiresLaw" 53 y_N_slow ∈ tw := tw_of 624 (by decide +kernel)
theorem wd625 : Cond.instanceMethod y_N_slow ∈ tw := tw_of 625 (by decide +kernel)
theorem wd626 : Cond.selects "NeighbourWires" y_N_slow y_N_slow ∈ tw := tw_of 626 (by decide +kernel)
theorem wd627 : Cond.code y_N_slow prog_1_method_10_code 4 (Option.some .int) ∈ tw := tw_of 627 (by decide +kernel)
theorem wd628 : Cond.methodLink "NeighbourWires" 141 y_P_placeOf ∈ tw := tw_of 628 (by decide +kernel)
theorem wd629 : Cond.instanceMethod y_P_placeOf ∈ tw := tw_of 629 (by decide +kernel)
theorem wd630 : Cond.selects "NeighbourWires$Plan" y_P_placeOf y_P_placeOf ∈ tw := tw_of 630 (by decide +kernel)
theorem wd631 : Cond.code y_P_placeOf prog_5_method_11_code 3 (Option.some .int) ∈ tw := tw_of 631 (by decide +kernel)
theorem wd632 : Cond.methodLink "NeighbourWires" 144 y_C_slowAt ∈ tw := tw_of 632 (by decide +kernel)
theorem wd633 : Cond.instanceMethod y_C_slowAt ∈ tw := tw_of 633 (by decide +kernel)
theorem wd634 : Cond.selects "NeighbourWires$Change" y_C_slowAt y_C_slowAt ∈ tw := tw_of 634 (by decide +kernel)
theorem wd635 : Cond.code y_C_slowAt prog_2_method_5_code 2 (Option.some .int) ∈ tw := tw_of 635 (by decide +kernel)
theorem wd636 : Cond.methodLink "NeighbourWires$Change" 41 y_C_againstOver ∈ tw := tw_of 636 (by decide +kernel)
theorem wd638 : Cond.instanceMethod y_C_againstOver ∈ tw := tw_of 638 (by decide +kernel)
theorem wd639 : Cond.code y_C_againstOver prog_2_method_6_code 2 (Option.some .int) ∈ tw := tw_of 639 (by decide +kernel)
theorem wd640 : Cond.methodLink "NeighbourWiresLaw" 57 y_N_send ∈ tw := tw_of 640 (by decide +kernel)
theorem wd641 : Cond.instanceMethod y_N_send ∈ tw := tw_of 641 (by decide +kernel)
theorem wd642 : Cond.selects "NeighbourWires" y_N_send y_N_send ∈ tw := tw_of 642 (by decide +kernel)
theorem wd643 : Cond.code y_N_send prog_1_method_12_code 2 (Option.some .int) ∈ tw := tw_of 643 (by decide +kernel)
theorem wd644 : Cond.methodLink "NeighbourWires" 160 y_P_append ∈ tw := tw_of 644 (by decide +kernel)
theorem wd645 : Cond.methodLink "NeighbourWiresLaw" 61 y_N_empty ∈ tw := tw_of 645 (by decide +kernel)
theorem wd646 : Cond.instanceMethod y_N_empty ∈ tw := tw_of 646 (by decide +kernel)
theorem wd647 : Cond.selects "NeighbourWires" y_N_empty y_N_empty ∈ tw := tw_of 647 (by decide +kernel)
theorem wd648 : Cond.code y_N_empty prog_1_method_13_code 2 (Option.some .int) ∈ tw := tw_of 648 (by decide +kernel)
theorem wd649 : Cond.methodLink "NeighbourWiresLaw" 65 y_N_sent ∈ tw := tw_of 649 (by decide +kernel)
theorem wd650 : Cond.instanceMethod y_N_sent ∈ tw := tw_of 650 (by decide +kernel)
theorem wd651 : Cond.selects "NeighbourWires" y_N_sent y_N_sent ∈ tw := tw_of 651 (by decide +kernel)
theorem wd652 : Cond.code y_N_sent prog_1_method_14_code 2 (Option.some .int) ∈ tw := tw_of 652 (by decide +kernel)
theorem wd653 : Cond.methodLink "NeighbourWires" 165 y_P_wordAt ∈ tw := tw_of 653 (by decide +kernel)
theorem wd654 : Cond.instanceMethod y_P_wordAt ∈ tw := tw_of 654 (by decide +kernel)
theorem wd655 : Cond.selects "NeighbourWires$Plan" y_P_wordAt y_P_wordAt ∈ tw := tw_of 655 (by decide +kernel)
theorem wd656 : Cond.code y_P_wordAt prog_5_method_14_code 2 (Option.some .int) ∈ tw := tw_of 656 (by decide +kernel)
theorem wd657 : Cond.methodLink "NeighbourWiresLaw" 69 y_N_row ∈ tw := tw_of 657 (by decide +kernel)
theorem wd658 : Cond.instanceMethod y_N_row ∈ tw := tw_of 658 (by decide +kernel)
theorem wd659 : Cond.selects "NeighbourWires" y_N_row y_N_row ∈ tw := tw_of 659 (by decide +kernel)
theorem wd660 : Cond.code y_N_row prog_1_method_15_code 11 (Option.some .int) ∈ tw := tw_of 660 (by decide +kernel)
theorem wd661 : Cond.methodLink "NeighbourWires" 168 ⟨"java/lang/Math", "max", "(II)I"⟩ ∈ tw := tw_of 661 (by decide +kernel)
theorem wd662 : Cond.static ⟨"java/lang/Math", "max", "(II)I"⟩ ∈ tw := tw_of 662 (by decide +kernel)
theorem wd663 : Cond.code ⟨"java/lang/Math", "max", "(II)I"⟩ prog_14_method_65_code 2 (Option.some .int) ∈ tw := tw_of 663 (by decide +kernel)
theorem wd664 : Cond.methodLink "NeighbourWiresLaw" 73 y_N_best ∈ tw := tw_of 664 (by decide +kernel)
theorem wd665 : Cond.instanceMethod y_N_best ∈ tw := tw_of 665 (by decide +kernel)
theorem wd666 : Cond.selects "NeighbourWires" y_N_best y_N_best ∈ tw := tw_of 666 (by decide +kernel)
theorem wd667 : Cond.code y_N_best prog_1_method_16_code 2 (Option.some .int) ∈ tw := tw_of 667 (by decide +kernel)
theorem wd668 : Cond.methodLink "NeighbourWires" 173 y_O_search ∈ tw := tw_of 668 (by decide +kernel)
theorem wd669 : Cond.instanceMethod y_O_search ∈ tw := tw_of 669 (by decide +kernel)
theorem wd670 : Cond.selects "NeighbourWires$Orders" y_O_search y_O_search ∈ tw := tw_of 670 (by decide +kernel)
theorem wd671 : Cond.code y_O_search prog_4_method_2_code 4 none ∈ tw := tw_of 671 (by decide +kernel)
theorem wd672 : Cond.methodLink "NeighbourWires$Orders" 35 y_P_wordAt ∈ tw := tw_of 672 (by decide +kernel)
theorem wd673 : Cond.methodLink "NeighbourWires$Orders" 42 ⟨"java/lang/Integer", "bitCount", "(I)I"⟩ ∈ tw := tw_of 673 (by decide +kernel)
theorem wd674 : Cond.methodLink "NeighbourWires$Orders" 50 y_O_addPairs ∈ tw := tw_of 674 (by decide +kernel)
theorem wd676 : Cond.instanceMethod y_O_addPairs ∈ tw := tw_of 676 (by decide +kernel)
theorem wd677 : Cond.code y_O_addPairs prog_4_method_3_code 8 none ∈ tw := tw_of 677 (by decide +kernel)
theorem wd678 : Cond.methodLink "NeighbourWires$Orders" 65 y_O_moveOf ∈ tw := tw_of 678 (by decide +kernel)
theorem wd679 : Cond.static y_O_moveOf ∈ tw := tw_of 679 (by decide +kernel)
theorem wd680 : Cond.code y_O_moveOf prog_4_method_4_code 3 (Option.some .int) ∈ tw := tw_of 680 (by decide +kernel)
theorem wd681 : Cond.methodLink "NeighbourWires$Orders" 54 y_O_indexOf ∈ tw := tw_of 681 (by decide +kernel)
theorem wd682 : Cond.static y_O_indexOf ∈ tw := tw_of 682 (by decide +kernel)
theorem wd683 : Cond.code y_O_indexOf prog_4_method_10_code 2 (Option.some .int) ∈ tw := tw_of 683 (by decide +kernel)
theorem wd684 : Cond.methodLink "NeighbourWires$Orders" 69 y_O_get ∈ tw := tw_of 684 (by decide +kernel)
theorem wd685 : Cond.static y_O_get ∈ tw := tw_of 685 (by decide +kernel)
theorem wd686 : Cond.code y_O_get prog_4_method_11_code 2 (Option.some .int) ∈ tw := tw_of 686 (by decide +kernel)
theorem wd687 : Cond.methodLink "NeighbourWires$Orders" 61 y_O_put ∈ tw := tw_of 687 (by decide +kernel)
theorem wd688 : Cond.static y_O_put ∈ tw := tw_of 688 (by decide +kernel)
theorem wd689 : Cond.code y_O_put prog_4_method_12_code 3 none ∈ tw := tw_of 689 (by decide +kernel)
theorem wd690 : Cond.methodLink "NeighbourWires$Orders" 58 y_O_costBehind ∈ tw := tw_of 690 (by decide +kernel)
theorem wd692 : Cond.instanceMethod y_O_costBehind ∈ tw := tw_of 692 (by decide +kernel)
theorem wd693 : Cond.code y_O_costBehind prog_4_method_5_code 5 (Option.some .int) ∈ tw := tw_of 693 (by decide +kernel)
theorem wd694 : Cond.constant "NeighbourWires$Orders" 73 (2147483647 : Int32) ∈ tw := tw_of 694 (by decide +kernel)
theorem wd695 : Cond.methodLink "NeighbourWires$Orders" 74 y_O_costVia ∈ tw := tw_of 695 (by decide +kernel)
theorem wd697 : Cond.instanceMethod y_O_costVia ∈ tw := tw_of 697 (by decide +kernel)
theorem wd698 : Cond.code y_O_costVia prog_4_method_6_code 4 (Option.some .int) ∈ tw := tw_of 698 (by decide +kernel)
theorem wd699 : Cond.methodLink "NeighbourWires$Orders" 77 ⟨"java/lang/Math", "min", "(II)I"⟩ ∈ tw := tw_of 699 (by decide +kernel)
theorem wd700 : Cond.static ⟨"java/lang/Math", "min", "(II)I"⟩ ∈ tw := tw_of 700 (by decide +kernel)
theorem wd701 : Cond.code ⟨"java/lang/Math", "min", "(II)I"⟩ prog_14_method_69_code 2 (Option.some .int) ∈ tw := tw_of 701 (by decide +kernel)
theorem wd702 : Cond.methodLink "NeighbourWires" 176 y_O_leastCost ∈ tw := tw_of 702 (by decide +kernel)
theorem wd703 : Cond.instanceMethod y_O_leastCost ∈ tw := tw_of 703 (by decide +kernel)
theorem wd704 : Cond.selects "NeighbourWires$Orders" y_O_leastCost y_O_leastCost ∈ tw := tw_of 704 (by decide +kernel)
theorem wd705 : Cond.code y_O_leastCost prog_4_method_7_code 4 (Option.some .int) ∈ tw := tw_of 705 (by decide +kernel)
theorem wd706 : Cond.methodLink "NeighbourWires" 179 y_O_leastFigures ∈ tw := tw_of 706 (by decide +kernel)
theorem wd707 : Cond.instanceMethod y_O_leastFigures ∈ tw := tw_of 707 (by decide +kernel)
theorem wd708 : Cond.selects "NeighbourWires$Orders" y_O_leastFigures y_O_leastFigures ∈ tw := tw_of 708 (by decide +kernel)
theorem wd709 : Cond.code y_O_leastFigures prog_4_method_8_code 7 (Option.some .int) ∈ tw := tw_of 709 (by decide +kernel)
theorem wd710 : Cond.methodLink "NeighbourWires$Orders" 82 y_O_leastCost ∈ tw := tw_of 710 (by decide +kernel)
theorem wd711 : Cond.methodLink "NeighbourWires$Orders" 86 y_O_cheapestOf ∈ tw := tw_of 711 (by decide +kernel)
theorem wd713 : Cond.instanceMethod y_O_cheapestOf ∈ tw := tw_of 713 (by decide +kernel)
theorem wd714 : Cond.code y_O_cheapestOf prog_4_method_9_code 6 (Option.some .int) ∈ tw := tw_of 714 (by decide +kernel)
theorem wd715 : Cond.methodLink "NeighbourWiresLaw" 77 y_N_shields ∈ tw := tw_of 715 (by decide +kernel)
theorem wd716 : Cond.instanceMethod y_N_shields ∈ tw := tw_of 716 (by decide +kernel)
theorem wd717 : Cond.selects "NeighbourWires" y_N_shields y_N_shields ∈ tw := tw_of 717 (by decide +kernel)
theorem wd718 : Cond.code y_N_shields prog_1_method_17_code 4 (Option.some .int) ∈ tw := tw_of 718 (by decide +kernel)
theorem wd719 : Cond.methodLink "NeighbourWires" 182 y_N_isSlow ∈ tw := tw_of 719 (by decide +kernel)
theorem wd720 : Cond.static y_N_isSlow ∈ tw := tw_of 720 (by decide +kernel)
theorem wd721 : Cond.code y_N_isSlow prog_1_method_30_code 1 (Option.some .boolean) ∈ tw := tw_of 721 (by decide +kernel)
theorem wd722 : Cond.methodLink "NeighbourWires" 185 y_N_leastShields ∈ tw := tw_of 722 (by decide +kernel)
theorem wd724 : Cond.instanceMethod y_N_leastShields ∈ tw := tw_of 724 (by decide +kernel)
theorem wd725 : Cond.code y_N_leastShields prog_1_method_18_code 5 (Option.some .int) ∈ tw := tw_of 725 (by decide +kernel)
theorem wd726 : Cond.methodLink "NeighbourWires" 193 y_P_layOut ∈ tw := tw_of 726 (by decide +kernel)
theorem wd727 : Cond.instanceMethod y_P_layOut ∈ tw := tw_of 727 (by decide +kernel)
theorem wd728 : Cond.selects "NeighbourWires$Plan" y_P_layOut y_P_layOut ∈ tw := tw_of 728 (by decide +kernel)
theorem wd729 : Cond.code y_P_layOut prog_5_method_17_code 2 none ∈ tw := tw_of 729 (by decide +kernel)
theorem wd730 : Cond.methodLink "NeighbourWires$Plan" 63 y_P_wordAt ∈ tw := tw_of 730 (by decide +kernel)
theorem wd731 : Cond.methodLink "NeighbourWires$Plan" 66 y_P_byPlaces ∈ tw := tw_of 731 (by decide +kernel)
theorem wd732 : Cond.methodLink "NeighbourWires" 188 ⟨"java/lang/Integer", "bitCount", "(I)I"⟩ ∈ tw := tw_of 732 (by decide +kernel)
theorem wd733 : Cond.methodLink "NeighbourWires" 196 y_N_slowestBehind ∈ tw := tw_of 733 (by decide +kernel)
theorem wd735 : Cond.instanceMethod y_N_slowestBehind ∈ tw := tw_of 735 (by decide +kernel)
theorem wd736 : Cond.code y_N_slowestBehind prog_1_method_19_code 4 (Option.some .int) ∈ tw := tw_of 736 (by decide +kernel)
theorem wd737 : Cond.methodLink "NeighbourWires" 199 y_P_laidBefore ∈ tw := tw_of 737 (by decide +kernel)
theorem wd738 : Cond.instanceMethod y_P_laidBefore ∈ tw := tw_of 738 (by decide +kernel)
theorem wd739 : Cond.selects "NeighbourWires$Plan" y_P_laidBefore y_P_laidBefore ∈ tw := tw_of 739 (by decide +kernel)
theorem wd740 : Cond.code y_P_laidBefore prog_5_method_18_code 2 (Option.some .int) ∈ tw := tw_of 740 (by decide +kernel)
theorem wd741 : Cond.methodLink "NeighbourWiresLaw" 81 y_N_turned ∈ tw := tw_of 741 (by decide +kernel)
theorem wd742 : Cond.instanceMethod y_N_turned ∈ tw := tw_of 742 (by decide +kernel)
theorem wd743 : Cond.selects "NeighbourWires" y_N_turned y_N_turned ∈ tw := tw_of 743 (by decide +kernel)
theorem wd744 : Cond.code y_N_turned prog_1_method_20_code 3 (Option.some .int) ∈ tw := tw_of 744 (by decide +kernel)
theorem wd745 : Cond.methodLink "NeighbourWires" 202 y_U_sendAll ∈ tw := tw_of 745 (by decide +kernel)
theorem wd746 : Cond.instanceMethod y_U_sendAll ∈ tw := tw_of 746 (by decide +kernel)
theorem wd747 : Cond.selects "NeighbourWires$Turns" y_U_sendAll y_U_sendAll ∈ tw := tw_of 747 (by decide +kernel)
theorem wd748 : Cond.code y_U_sendAll prog_9_method_2_code 5 none ∈ tw := tw_of 748 (by decide +kernel)
theorem wd749 : Cond.methodLink "NeighbourWires$Turns" 19 y_P_layOut ∈ tw := tw_of 749 (by decide +kernel)
theorem wd750 : Cond.methodLink "NeighbourWires$Turns" 40 y_U_isTurned ∈ tw := tw_of 750 (by decide +kernel)
theorem wd752 : Cond.instanceMethod y_U_isTurned ∈ tw := tw_of 752 (by decide +kernel)
theorem wd753 : Cond.code y_U_isTurned prog_9_method_3_code 4 (Option.some .boolean) ∈ tw := tw_of 753 (by decide +kernel)
theorem wd754 : Cond.methodLink "NeighbourWires$Turns" 60 y_U_movesOtherwise ∈ tw := tw_of 754 (by decide +kernel)
theorem wd756 : Cond.instanceMethod y_U_movesOtherwise ∈ tw := tw_of 756 (by decide +kernel)
theorem wd757 : Cond.code y_U_movesOtherwise prog_9_method_4_code 4 (Option.some .int) ∈ tw := tw_of 757 (by decide +kernel)
theorem wd758 : Cond.methodLink "NeighbourWires$Turns" 66 y_U_lying ∈ tw := tw_of 758 (by decide +kernel)
theorem wd760 : Cond.instanceMethod y_U_lying ∈ tw := tw_of 760 (by decide +kernel)
theorem wd761 : Cond.code y_U_lying prog_9_method_6_code 4 (Option.some .int) ∈ tw := tw_of 761 (by decide +kernel)
theorem wd762 : Cond.methodLink "NeighbourWires$Turns" 90 y_P_laidBefore ∈ tw := tw_of 762 (by decide +kernel)
theorem wd763 : Cond.methodLink "NeighbourWires$Turns" 69 ⟨"java/lang/Integer", "bitCount", "(I)I"⟩ ∈ tw := tw_of 763 (by decide +kernel)
theorem wd764 : Cond.methodLink "NeighbourWires$Turns" 44 y_U_costOf ∈ tw := tw_of 764 (by decide +kernel)
theorem wd766 : Cond.instanceMethod y_U_costOf ∈ tw := tw_of 766 (by decide +kernel)
theorem wd767 : Cond.code y_U_costOf prog_9_method_5_code 4 (Option.some .int) ∈ tw := tw_of 767 (by decide +kernel)
theorem wd768 : Cond.methodLink "NeighbourWires$Turns" 78 y_C_between ∈ tw := tw_of 768 (by decide +kernel)
theorem wd769 : Cond.methodLink "NeighbourWires$Turns" 88 y_C_cost ∈ tw := tw_of 769 (by decide +kernel)
theorem wd770 : Cond.methodLink "NeighbourWires$Turns" 48 y_C_greatestSlow ∈ tw := tw_of 770 (by decide +kernel)
theorem wd771 : Cond.methodLink "NeighbourWires$Turns" 54 ⟨"java/lang/Math", "max", "(II)I"⟩ ∈ tw := tw_of 771 (by decide +kernel)
theorem wd772 : Cond.methodLink "NeighbourWiresLaw" 85 y_N_book ∈ tw := tw_of 772 (by decide +kernel)
theorem wd773 : Cond.instanceMethod y_N_book ∈ tw := tw_of 773 (by decide +kernel)
theorem wd774 : Cond.selects "NeighbourWires" y_N_book y_N_book ∈ tw := tw_of 774 (by decide +kernel)
theorem wd775 : Cond.code y_N_book prog_1_method_21_code 2 (Option.some .int) ∈ tw := tw_of 775 (by decide +kernel)
theorem wd776 : Cond.methodLink "NeighbourWires" 217 y_N_isKind ∈ tw := tw_of 776 (by decide +kernel)
theorem wd777 : Cond.static y_N_isKind ∈ tw := tw_of 777 (by decide +kernel)
theorem wd778 : Cond.code y_N_isKind prog_1_method_29_code 1 (Option.some .boolean) ∈ tw := tw_of 778 (by decide +kernel)
theorem wd779 : Cond.methodLink "NeighbourWires" 220 y_P_words ∈ tw := tw_of 779 (by decide +kernel)
theorem wd780 : Cond.methodLink "NeighbourWires" 223 y_N_lesser ∈ tw := tw_of 780 (by decide +kernel)
theorem wd782 : Cond.instanceMethod y_N_lesser ∈ tw := tw_of 782 (by decide +kernel)
theorem wd783 : Cond.code y_N_lesser prog_1_method_27_code 5 (Option.some .int) ∈ tw := tw_of 783 (by decide +kernel)
theorem wd784 : Cond.methodLink "NeighbourWires" 226 y_N_isInBook ∈ tw := tw_of 784 (by decide +kernel)
theorem wd786 : Cond.instanceMethod y_N_isInBook ∈ tw := tw_of 786 (by decide +kernel)
theorem wd787 : Cond.code y_N_isInBook prog_1_method_28_code 7 (Option.some .boolean) ∈ tw := tw_of 787 (by decide +kernel)
theorem wd788 : Cond.methodLink "NeighbourWiresLaw" 89 y_N_word ∈ tw := tw_of 788 (by decide +kernel)
theorem wd789 : Cond.instanceMethod y_N_word ∈ tw := tw_of 789 (by decide +kernel)
theorem wd790 : Cond.selects "NeighbourWires" y_N_word y_N_word ∈ tw := tw_of 790 (by decide +kernel)
theorem wd791 : Cond.code y_N_word prog_1_method_22_code 5 (Option.some .int) ∈ tw := tw_of 791 (by decide +kernel)
theorem wd792 : Cond.methodLink "NeighbourWiresLaw" 93 y_N_place ∈ tw := tw_of 792 (by decide +kernel)
theorem wd793 : Cond.instanceMethod y_N_place ∈ tw := tw_of 793 (by decide +kernel)
theorem wd794 : Cond.selects "NeighbourWires" y_N_place y_N_place ∈ tw := tw_of 794 (by decide +kernel)
theorem wd795 : Cond.code y_N_place prog_1_method_23_code 3 (Option.some .int) ∈ tw := tw_of 795 (by decide +kernel)
theorem wd796 : Cond.methodLink "NeighbourWiresLaw" 97 y_N_slowest ∈ tw := tw_of 796 (by decide +kernel)
theorem wd797 : Cond.instanceMethod y_N_slowest ∈ tw := tw_of 797 (by decide +kernel)
theorem wd798 : Cond.selects "NeighbourWires" y_N_slowest y_N_slowest ∈ tw := tw_of 798 (by decide +kernel)
theorem wd799 : Cond.code y_N_slowest prog_1_method_24_code 4 (Option.some .int) ∈ tw := tw_of 799 (by decide +kernel)
theorem wd800 : Cond.methodLink "NeighbourWires" 230 y_N_slowestInto ∈ tw := tw_of 800 (by decide +kernel)
theorem wd802 : Cond.instanceMethod y_N_slowestInto ∈ tw := tw_of 802 (by decide +kernel)
theorem wd803 : Cond.code y_N_slowestInto prog_1_method_25_code 5 (Option.some .int) ∈ tw := tw_of 803 (by decide +kernel)
theorem wd804 : Cond.methodLink "NeighbourWiresLaw" 101 y_N_greatest ∈ tw := tw_of 804 (by decide +kernel)
theorem wd805 : Cond.instanceMethod y_N_greatest ∈ tw := tw_of 805 (by decide +kernel)
theorem wd806 : Cond.selects "NeighbourWires" y_N_greatest y_N_greatest ∈ tw := tw_of 806 (by decide +kernel)
theorem wd807 : Cond.code y_N_greatest prog_1_method_26_code 4 (Option.some .int) ∈ tw := tw_of 807 (by decide +kernel)
theorem wd808 : Cond.methodLink "NeighbourWires" 233 y_K_prepare ∈ tw := tw_of 808 (by decide +kernel)
theorem wd809 : Cond.instanceMethod y_K_prepare ∈ tw := tw_of 809 (by decide +kernel)
theorem wd810 : Cond.selects "NeighbourWires$Machine" y_K_prepare y_K_prepare ∈ tw := tw_of 810 (by decide +kernel)
theorem wd811 : Cond.code y_K_prepare prog_3_method_2_code 4 none ∈ tw := tw_of 811 (by decide +kernel)
theorem wd812 : Cond.methodLink "NeighbourWires$Machine" 32 y_C_between ∈ tw := tw_of 812 (by decide +kernel)
theorem wd813 : Cond.methodLink "NeighbourWires$Machine" 38 y_C_greatestSlow ∈ tw := tw_of 813 (by decide +kernel)
theorem wd814 : Cond.methodLink "NeighbourWires$Machine" 42 y_K_link ∈ tw := tw_of 814 (by decide +kernel)
theorem wd816 : Cond.instanceMethod y_K_link ∈ tw := tw_of 816 (by decide +kernel)
theorem wd817 : Cond.code y_K_link prog_3_method_3_code 5 none ∈ tw := tw_of 817 (by decide +kernel)
theorem wd818 : Cond.methodLink "NeighbourWires$Machine" 46 y_K_addWay ∈ tw := tw_of 818 (by decide +kernel)
theorem wd820 : Cond.instanceMethod y_K_addWay ∈ tw := tw_of 820 (by decide +kernel)
theorem wd821 : Cond.code y_K_addWay prog_3_method_4_code 5 none ∈ tw := tw_of 821 (by decide +kernel)
theorem wd822 : Cond.methodLink "NeighbourWires$Machine" 49 y_K_rowOf ∈ tw := tw_of 822 (by decide +kernel)
theorem wd823 : Cond.static y_K_rowOf ∈ tw := tw_of 823 (by decide +kernel)
theorem wd824 : Cond.code y_K_rowOf prog_3_method_5_code 2 (Option.some .int) ∈ tw := tw_of 824 (by decide +kernel)
theorem wd825 : Cond.methodLink "NeighbourWires" 236 y_K_greatestBook ∈ tw := tw_of 825 (by decide +kernel)
theorem wd826 : Cond.instanceMethod y_K_greatestBook ∈ tw := tw_of 826 (by decide +kernel)
theorem wd827 : Cond.selects "NeighbourWires$Machine" y_K_greatestBook y_K_greatestBook ∈ tw := tw_of 827 (by decide +kernel)
theorem wd828 : Cond.code y_K_greatestBook prog_3_method_17_code 2 (Option.some .int) ∈ tw := tw_of 828 (by decide +kernel)
theorem wd829 : Cond.methodLink "NeighbourWires$Machine" 89 y_K_grow ∈ tw := tw_of 829 (by decide +kernel)
theorem wd830 : Cond.static y_K_grow ∈ tw := tw_of 830 (by decide +kernel)
theorem wd831 : Cond.code y_K_grow prog_3_method_18_code 11 (Option.some .int) ∈ tw := tw_of 831 (by decide +kernel)
theorem wd832 : Cond.methodLink "NeighbourWires$Machine" 93 ⟨"java/lang/Integer", "bitCount", "(I)I"⟩ ∈ tw := tw_of 832 (by decide +kernel)
theorem wd833 : Cond.methodLink "NeighbourWiresLaw" 105 y_N_ways ∈ tw := tw_of 833 (by decide +kernel)
theorem wd834 : Cond.instanceMethod y_N_ways ∈ tw := tw_of 834 (by decide +kernel)
theorem wd835 : Cond.selects "NeighbourWires" y_N_ways y_N_ways ∈ tw := tw_of 835 (by decide +kernel)
theorem wd836 : Cond.code y_N_ways prog_1_method_31_code 3 (Option.some .int) ∈ tw := tw_of 836 (by decide +kernel)
theorem wd837 : Cond.methodLink "NeighbourWires" 239 y_K_waysFrom ∈ tw := tw_of 837 (by decide +kernel)
theorem wd838 : Cond.instanceMethod y_K_waysFrom ∈ tw := tw_of 838 (by decide +kernel)
theorem wd839 : Cond.selects "NeighbourWires$Machine" y_K_waysFrom y_K_waysFrom ∈ tw := tw_of 839 (by decide +kernel)
theorem wd840 : Cond.code y_K_waysFrom prog_3_method_7_code 5 (Option.some .int) ∈ tw := tw_of 840 (by decide +kernel)
theorem wd841 : Cond.methodLink "NeighbourWires$Machine" 53 y_K_nearPart ∈ tw := tw_of 841 (by decide +kernel)
theorem wd843 : Cond.instanceMethod y_K_nearPart ∈ tw := tw_of 843 (by decide +kernel)
theorem wd844 : Cond.code y_K_nearPart prog_3_method_6_code 5 (Option.some .long) ∈ tw := tw_of 844 (by decide +kernel)
theorem wd845 : Cond.methodLink "NeighbourWires$Machine" 57 ⟨"java/lang/Long", "bitCount", "(J)I"⟩ ∈ tw := tw_of 845 (by decide +kernel)
theorem wd846 : Cond.static ⟨"java/lang/Long", "bitCount", "(J)I"⟩ ∈ tw := tw_of 846 (by decide +kernel)
theorem wd847 : Cond.code ⟨"java/lang/Long", "bitCount", "(J)I"⟩ prog_13_method_50_code 2 (Option.some .int) ∈ tw := tw_of 847 (by decide +kernel)
theorem wd848 : Cond.constantLong "java/lang/Long" 314 (6148914691236517205 : Int64) ∈ tw := tw_of 848 (by decide +kernel)
theorem wd849 : Cond.constantLong "java/lang/Long" 316 (3689348814741910323 : Int64) ∈ tw := tw_of 849 (by decide +kernel)
theorem wd850 : Cond.constantLong "java/lang/Long" 318 (1085102592571150095 : Int64) ∈ tw := tw_of 850 (by decide +kernel)
theorem wd851 : Cond.methodLink "NeighbourWiresLaw" 109 y_N_kept ∈ tw := tw_of 851 (by decide +kernel)
theorem wd852 : Cond.instanceMethod y_N_kept ∈ tw := tw_of 852 (by decide +kernel)
theorem wd853 : Cond.selects "NeighbourWires" y_N_kept y_N_kept ∈ tw := tw_of 853 (by decide +kernel)
theorem wd854 : Cond.code y_N_kept prog_1_method_32_code 5 (Option.some .int) ∈ tw := tw_of 854 (by decide +kernel)
theorem wd855 : Cond.methodLink "NeighbourWires" 242 y_N_isBits ∈ tw := tw_of 855 (by decide +kernel)
theorem wd856 : Cond.static y_N_isBits ∈ tw := tw_of 856 (by decide +kernel)
theorem wd857 : Cond.code y_N_isBits prog_1_method_37_code 1 (Option.some .boolean) ∈ tw := tw_of 857 (by decide +kernel)
theorem wd858 : Cond.methodLink "NeighbourWires" 245 y_N_keep ∈ tw := tw_of 858 (by decide +kernel)
theorem wd860 : Cond.instanceMethod y_N_keep ∈ tw := tw_of 860 (by decide +kernel)
theorem wd861 : Cond.code y_N_keep prog_1_method_36_code 3 (Option.some .int) ∈ tw := tw_of 861 (by decide +kernel)
theorem wd862 : Cond.methodLink "NeighbourWires" 260 y_K_keep ∈ tw := tw_of 862 (by decide +kernel)
theorem wd863 : Cond.instanceMethod y_K_keep ∈ tw := tw_of 863 (by decide +kernel)
theorem wd864 : Cond.selects "NeighbourWires$Machine" y_K_keep y_K_keep ∈ tw := tw_of 864 (by decide +kernel)
theorem wd865 : Cond.code y_K_keep prog_3_method_8_code 8 (Option.some .int) ∈ tw := tw_of 865 (by decide +kernel)
theorem wd866 : Cond.methodLink "NeighbourWires$Machine" 63 y_K_fillKept ∈ tw := tw_of 866 (by decide +kernel)
theorem wd868 : Cond.instanceMethod y_K_fillKept ∈ tw := tw_of 868 (by decide +kernel)
theorem wd869 : Cond.code y_K_fillKept prog_3_method_9_code 4 none ∈ tw := tw_of 869 (by decide +kernel)
theorem wd870 : Cond.constantLong "NeighbourWires$Machine" 83 (-1 : Int64) ∈ tw := tw_of 870 (by decide +kernel)
theorem wd871 : Cond.methodLink "NeighbourWires$Machine" 66 y_K_isIn ∈ tw := tw_of 871 (by decide +kernel)
theorem wd872 : Cond.static y_K_isIn ∈ tw := tw_of 872 (by decide +kernel)
theorem wd873 : Cond.code y_K_isIn prog_3_method_12_code 3 (Option.some .boolean) ∈ tw := tw_of 873 (by decide +kernel)
theorem wd874 : Cond.methodLink "NeighbourWires$Machine" 70 y_K_keptWays ∈ tw := tw_of 874 (by decide +kernel)
theorem wd876 : Cond.instanceMethod y_K_keptWays ∈ tw := tw_of 876 (by decide +kernel)
theorem wd877 : Cond.code y_K_keptWays prog_3_method_10_code 5 (Option.some .int) ∈ tw := tw_of 877 (by decide +kernel)
theorem wd878 : Cond.methodLink "NeighbourWires$Machine" 73 y_K_drop ∈ tw := tw_of 878 (by decide +kernel)
theorem wd880 : Cond.instanceMethod y_K_drop ∈ tw := tw_of 880 (by decide +kernel)
theorem wd881 : Cond.code y_K_drop prog_3_method_11_code 3 none ∈ tw := tw_of 881 (by decide +kernel)
theorem wd882 : Cond.methodLink "NeighbourWires$Machine" 77 ⟨"java/lang/System", "arraycopy", "(Ljava/lang/Object;ILjava/lang/Object;II)V"⟩ ∈ tw := tw_of 882 (by decide +kernel)
theorem wd883 : Cond.methodLink "NeighbourWires" 248 y_K_seenNumbered ∈ tw := tw_of 883 (by decide +kernel)
theorem wd884 : Cond.instanceMethod y_K_seenNumbered ∈ tw := tw_of 884 (by decide +kernel)
theorem wd885 : Cond.selects "NeighbourWires$Machine" y_K_seenNumbered y_K_seenNumbered ∈ tw := tw_of 885 (by decide +kernel)
theorem wd886 : Cond.code y_K_seenNumbered prog_3_method_16_code 4 (Option.some .int) ∈ tw := tw_of 886 (by decide +kernel)
theorem wd887 : Cond.methodLink "NeighbourWires$Machine" 85 y_K_isSeen ∈ tw := tw_of 887 (by decide +kernel)
theorem wd888 : Cond.instanceMethod y_K_isSeen ∈ tw := tw_of 888 (by decide +kernel)
theorem wd889 : Cond.selects "NeighbourWires$Machine" y_K_isSeen y_K_isSeen ∈ tw := tw_of 889 (by decide +kernel)
theorem wd890 : Cond.code y_K_isSeen prog_3_method_14_code 2 (Option.some .boolean) ∈ tw := tw_of 890 (by decide +kernel)
theorem wd891 : Cond.methodLink "NeighbourWiresLaw" 113 y_N_bits ∈ tw := tw_of 891 (by decide +kernel)
theorem wd892 : Cond.instanceMethod y_N_bits ∈ tw := tw_of 892 (by decide +kernel)
theorem wd893 : Cond.selects "NeighbourWires" y_N_bits y_N_bits ∈ tw := tw_of 893 (by decide +kernel)
theorem wd894 : Cond.code y_N_bits prog_1_method_33_code 4 (Option.some .int) ∈ tw := tw_of 894 (by decide +kernel)
theorem wd895 : Cond.methodLink "NeighbourWiresLaw" 117 y_N_encode ∈ tw := tw_of 895 (by decide +kernel)
theorem wd896 : Cond.instanceMethod y_N_encode ∈ tw := tw_of 896 (by decide +kernel)
theorem wd897 : Cond.selects "NeighbourWires" y_N_encode y_N_encode ∈ tw := tw_of 897 (by decide +kernel)
theorem wd898 : Cond.code y_N_encode prog_1_method_34_code 9 (Option.some .int) ∈ tw := tw_of 898 (by decide +kernel)
theorem wd899 : Cond.methodLink "NeighbourWires" 251 y_K_lookFrom ∈ tw := tw_of 899 (by decide +kernel)
theorem wd900 : Cond.instanceMethod y_K_lookFrom ∈ tw := tw_of 900 (by decide +kernel)
theorem wd901 : Cond.selects "NeighbourWires$Machine" y_K_lookFrom y_K_lookFrom ∈ tw := tw_of 901 (by decide +kernel)
theorem wd902 : Cond.code y_K_lookFrom prog_3_method_13_code 4 none ∈ tw := tw_of 902 (by decide +kernel)
theorem wd903 : Cond.methodLink "NeighbourWiresLaw" 122 y_N_decode ∈ tw := tw_of 903 (by decide +kernel)
theorem wd904 : Cond.instanceMethod y_N_decode ∈ tw := tw_of 904 (by decide +kernel)
theorem wd905 : Cond.selects "NeighbourWires" y_N_decode y_N_decode ∈ tw := tw_of 905 (by decide +kernel)
theorem wd906 : Cond.code y_N_decode prog_1_method_35_code 6 (Option.some .int) ∈ tw := tw_of 906 (by decide +kernel)
theorem wd907 : Cond.methodLink "NeighbourWires" 254 y_K_isSeen ∈ tw := tw_of 907 (by decide +kernel)
theorem wd908 : Cond.methodLink "NeighbourWires" 257 y_K_seenBelow ∈ tw := tw_of 908 (by decide +kernel)
theorem wd909 : Cond.instanceMethod y_K_seenBelow ∈ tw := tw_of 909 (by decide +kernel)
theorem wd910 : Cond.selects "NeighbourWires$Machine" y_K_seenBelow y_K_seenBelow ∈ tw := tw_of 910 (by decide +kernel)
theorem wd911 : Cond.code y_K_seenBelow prog_3_method_15_code 4 (Option.some .int) ∈ tw := tw_of 911 (by decide +kernel)
theorem wd912 : Cond.methodLink "NeighbourWiresLaw" 126 y_N_sheet ∈ tw := tw_of 912 (by decide +kernel)
theorem wd913 : Cond.instanceMethod y_N_sheet ∈ tw := tw_of 913 (by decide +kernel)
theorem wd914 : Cond.selects "NeighbourWires" y_N_sheet y_N_sheet ∈ tw := tw_of 914 (by decide +kernel)
theorem wd915 : Cond.code y_N_sheet prog_1_method_38_code 4 (Option.some .int) ∈ tw := tw_of 915 (by decide +kernel)
theorem wd916 : Cond.methodLink "NeighbourWires" 261 y_N_isSheet ∈ tw := tw_of 916 (by decide +kernel)
theorem wd917 : Cond.static y_N_isSheet ∈ tw := tw_of 917 (by decide +kernel)
theorem wd918 : Cond.code y_N_isSheet prog_1_method_43_code 1 (Option.some .boolean) ∈ tw := tw_of 918 (by decide +kernel)
theorem wd919 : Cond.methodLink "NeighbourWires" 264 y_N_isLane ∈ tw := tw_of 919 (by decide +kernel)
theorem wd920 : Cond.static y_N_isLane ∈ tw := tw_of 920 (by decide +kernel)
theorem wd921 : Cond.code y_N_isLane prog_1_method_44_code 1 (Option.some .boolean) ∈ tw := tw_of 921 (by decide +kernel)
theorem wd922 : Cond.methodLink "NeighbourWires" 267 y_H_renew ∈ tw := tw_of 922 (by decide +kernel)
theorem wd923 : Cond.instanceMethod y_H_renew ∈ tw := tw_of 923 (by decide +kernel)
theorem wd924 : Cond.selects "NeighbourWires$Sheet" y_H_renew y_H_renew ∈ tw := tw_of 924 (by decide +kernel)
theorem wd925 : Cond.code y_H_renew prog_7_method_3_code 4 none ∈ tw := tw_of 925 (by decide +kernel)
theorem wd926 : Cond.methodLink "NeighbourWiresLaw" 130 y_N_lay ∈ tw := tw_of 926 (by decide +kernel)
theorem wd927 : Cond.instanceMethod y_N_lay ∈ tw := tw_of 927 (by decide +kernel)
theorem wd928 : Cond.selects "NeighbourWires" y_N_lay y_N_lay ∈ tw := tw_of 928 (by decide +kernel)
theorem wd929 : Cond.code y_N_lay prog_1_method_39_code 6 (Option.some .int) ∈ tw := tw_of 929 (by decide +kernel)
theorem wd930 : Cond.methodLink "NeighbourWires" 273 y_H_faultAs ∈ tw := tw_of 930 (by decide +kernel)
theorem wd931 : Cond.instanceMethod y_H_faultAs ∈ tw := tw_of 931 (by decide +kernel)
theorem wd932 : Cond.selects "NeighbourWires$Sheet" y_H_faultAs y_H_faultAs ∈ tw := tw_of 932 (by decide +kernel)
theorem wd933 : Cond.code y_H_faultAs prog_7_method_4_code 3 (Option.some .int) ∈ tw := tw_of 933 (by decide +kernel)
theorem wd934 : Cond.methodLink "NeighbourWires$Sheet" 22 y_H_isNothing ∈ tw := tw_of 934 (by decide +kernel)
theorem wd935 : Cond.instanceMethod y_H_isNothing ∈ tw := tw_of 935 (by decide +kernel)
theorem wd936 : Cond.selects "NeighbourWires$Sheet" y_H_isNothing y_H_isNothing ∈ tw := tw_of 936 (by decide +kernel)
theorem wd937 : Cond.code y_H_isNothing prog_7_method_2_code 1 (Option.some .boolean) ∈ tw := tw_of 937 (by decide +kernel)
theorem wd938 : Cond.methodLink "NeighbourWires" 276 y_H_put ∈ tw := tw_of 938 (by decide +kernel)
theorem wd939 : Cond.instanceMethod y_H_put ∈ tw := tw_of 939 (by decide +kernel)
theorem wd940 : Cond.selects "NeighbourWires$Sheet" y_H_put y_H_put ∈ tw := tw_of 940 (by decide +kernel)
theorem wd941 : Cond.code y_H_put prog_7_method_6_code 3 none ∈ tw := tw_of 941 (by decide +kernel)
theorem wd942 : Cond.methodLink "NeighbourWiresLaw" 134 y_N_read ∈ tw := tw_of 942 (by decide +kernel)
theorem wd943 : Cond.instanceMethod y_N_read ∈ tw := tw_of 943 (by decide +kernel)
theorem wd944 : Cond.selects "NeighbourWires" y_N_read y_N_read ∈ tw := tw_of 944 (by decide +kernel)
theorem wd945 : Cond.code y_N_read prog_1_method_40_code 9 (Option.some .int) ∈ tw := tw_of 945 (by decide +kernel)
theorem wd946 : Cond.methodLink "NeighbourWires" 279 y_H_cell ∈ tw := tw_of 946 (by decide +kernel)
theorem wd947 : Cond.instanceMethod y_H_cell ∈ tw := tw_of 947 (by decide +kernel)
theorem wd948 : Cond.selects "NeighbourWires$Sheet" y_H_cell y_H_cell ∈ tw := tw_of 948 (by decide +kernel)
theorem wd949 : Cond.code y_H_cell prog_7_method_5_code 2 (Option.some .int) ∈ tw := tw_of 949 (by decide +kernel)
theorem wd950 : Cond.methodLink "NeighbourWiresLaw" 138 y_N_torn ∈ tw := tw_of 950 (by decide +kernel)
theorem wd951 : Cond.instanceMethod y_N_torn ∈ tw := tw_of 951 (by decide +kernel)
theorem wd952 : Cond.selects "NeighbourWires" y_N_torn y_N_torn ∈ tw := tw_of 952 (by decide +kernel)
theorem wd953 : Cond.code y_N_torn prog_1_method_41_code 1 (Option.some .int) ∈ tw := tw_of 953 (by decide +kernel)
theorem wd954 : Cond.methodLink "NeighbourWiresLaw" 142 y_N_count ∈ tw := tw_of 954 (by decide +kernel)
theorem wd955 : Cond.instanceMethod y_N_count ∈ tw := tw_of 955 (by decide +kernel)
theorem wd956 : Cond.selects "NeighbourWires" y_N_count y_N_count ∈ tw := tw_of 956 (by decide +kernel)
theorem wd957 : Cond.code y_N_count prog_1_method_42_code 2 (Option.some .int) ∈ tw := tw_of 957 (by decide +kernel)
theorem wd958 : Cond.methodLink "NeighbourWires" 285 y_H_isNothing ∈ tw := tw_of 958 (by decide +kernel)
theorem wd959 : Cond.classLink "NeighbourWiresLaw" 10 "NeighbourWiresModel" ∈ tw := tw_of 959 (by decide +kernel)
theorem wd960 : Cond.instantiable "NeighbourWiresModel" 37 ∈ tw := tw_of 960 (by decide +kernel)
theorem wd961 : Cond.methodLink "NeighbourWiresLaw" 12 y_M_init ∈ tw := tw_of 961 (by decide +kernel)
theorem wd962 : Cond.instanceMethod y_M_init ∈ tw := tw_of 962 (by decide +kernel)
theorem wd963 : Cond.code y_M_init prog_11_method_1_code 2 none ∈ tw := tw_of 963 (by decide +kernel)
theorem wd964 : Cond.methodLink "NeighbourWiresModel" 1 objectInit ∈ tw := tw_of 964 (by decide +kernel)
theorem wd965 : Cond.constant "NeighbourWiresModel" 57 (65536 : Int32) ∈ tw := tw_of 965 (by decide +kernel)
theorem wd966 : Cond.fieldLink "NeighbourWiresModel" 7 "NeighbourWiresModel" "wires" "I" ∈ tw := tw_of 966 (by decide +kernel)
theorem wd967 : Cond.fieldLink "NeighbourWiresModel" 13 "NeighbourWiresModel" "own" "I" ∈ tw := tw_of 967 (by decide +kernel)
theorem wd968 : Cond.fieldLink "NeighbourWiresModel" 16 "NeighbourWiresModel" "side" "I" ∈ tw := tw_of 968 (by decide +kernel)
theorem wd969 : Cond.fieldLink "NeighbourWiresModel" 156 "NeighbourWiresModel" "shields" "I" ∈ tw := tw_of 969 (by decide +kernel)
theorem wd970 : Cond.fieldLink "NeighbourWiresModel" 159 "NeighbourWiresModel" "rowLong" "I" ∈ tw := tw_of 970 (by decide +kernel)
theorem wd971 : Cond.fieldLink "NeighbourWiresModel" 19 "NeighbourWiresModel" "words" "[I" ∈ tw := tw_of 971 (by decide +kernel)
theorem wd972 : Cond.fieldLink "NeighbourWiresModel" 23 "NeighbourWiresModel" "order" "[I" ∈ tw := tw_of 972 (by decide +kernel)
theorem wd973 : Cond.fieldLink "NeighbourWiresModel" 128 "NeighbourWiresModel" "dWires" "I" ∈ tw := tw_of 973 (by decide +kernel)
theorem wd974 : Cond.fieldLink "NeighbourWiresModel" 138 "NeighbourWiresModel" "dOwn" "I" ∈ tw := tw_of 974 (by decide +kernel)
theorem wd975 : Cond.fieldLink "NeighbourWiresModel" 141 "NeighbourWiresModel" "dSide" "I" ∈ tw := tw_of 975 (by decide +kernel)
theorem wd976 : Cond.fieldLink "NeighbourWiresModel" 144 "NeighbourWiresModel" "dShields" "I" ∈ tw := tw_of 976 (by decide +kernel)
theorem wd977 : Cond.fieldLink "NeighbourWiresModel" 131 "NeighbourWiresModel" "dLong" "I" ∈ tw := tw_of 977 (by decide +kernel)
theorem wd978 : Cond.fieldLink "NeighbourWiresModel" 26 "NeighbourWiresModel" "dWords" "[I" ∈ tw := tw_of 978 (by decide +kernel)
theorem wd979 : Cond.fieldLink "NeighbourWiresModel" 29 "NeighbourWiresModel" "isTold" "[Z" ∈ tw := tw_of 979 (by decide +kernel)
theorem wd980 : Cond.fieldLink "NeighbourWiresModel" 33 "NeighbourWiresModel" "tape" "[I" ∈ tw := tw_of 980 (by decide +kernel)
theorem wd981 : Cond.fieldLink "NeighbourWiresModel" 70 "NeighbourWiresModel" "taped" "I" ∈ tw := tw_of 981 (by decide +kernel)
theorem wd982 : Cond.fieldLink "NeighbourWiresModel" 88 "NeighbourWiresModel" "pos" "I" ∈ tw := tw_of 982 (by decide +kernel)
theorem wd983 : Cond.fieldLink "NeighbourWiresModel" 82 "NeighbourWiresModel" "from" "I" ∈ tw := tw_of 983 (by decide +kernel)
theorem wd984 : Cond.fieldLink "NeighbourWiresModel" 99 "NeighbourWiresModel" "sort" "I" ∈ tw := tw_of 984 (by decide +kernel)
theorem wd985 : Cond.fieldLink "NeighbourWiresModel" 110 "NeighbourWiresModel" "value" "I" ∈ tw := tw_of 985 (by decide +kernel)
theorem wd986 : Cond.fieldLink "NeighbourWiresModel" 79 "NeighbourWiresModel" "fault" "I" ∈ tw := tw_of 986 (by decide +kernel)
theorem wd987 : Cond.fieldLink "NeighbourWiresModel" 85 "NeighbourWiresModel" "wrongAt" "I" ∈ tw := tw_of 987 (by decide +kernel)
theorem wd988 : Cond.fieldLink "NeighbourWiresModel" 36 "NeighbourWiresModel" "asked" "[I" ∈ tw := tw_of 988 (by decide +kernel)
theorem wd989 : Cond.fieldLink "NeighbourWiresModel" 39 "NeighbourWiresModel" "move" "[I" ∈ tw := tw_of 989 (by decide +kernel)
theorem wd990 : Cond.fieldLink "NeighbourWiresModel" 162 "NeighbourWiresModel" "places" "I" ∈ tw := tw_of 990 (by decide +kernel)
theorem wd991 : Cond.fieldLink "NeighbourWiresModel" 165 "NeighbourWiresModel" "guards" "I" ∈ tw := tw_of 991 (by decide +kernel)
theorem wd992 : Cond.fieldLink "NeighbourWiresModel" 42 "NeighbourWiresModel" "beside" "[I" ∈ tw := tw_of 992 (by decide +kernel)
theorem wd993 : Cond.fieldLink "NeighbourWiresModel" 45 "NeighbourWiresModel" "tried" "[I" ∈ tw := tw_of 993 (by decide +kernel)
theorem wd994 : Cond.fieldLink "NeighbourWiresModel" 48 "NeighbourWiresModel" "toCome" "[I" ∈ tw := tw_of 994 (by decide +kernel)
theorem wd995 : Cond.fieldLink "NeighbourWiresModel" 51 "NeighbourWiresModel" "goesWith" "[I" ∈ tw := tw_of 995 (by decide +kernel)
theorem wd996 : Cond.fieldLink "NeighbourWiresModel" 54 "NeighbourWiresModel" "isKept" "[Z" ∈ tw := tw_of 996 (by decide +kernel)
theorem wd997 : Cond.fieldLink "NeighbourWiresModel" 248 "NeighbourWiresModel" "slowFor" "I" ∈ tw := tw_of 997 (by decide +kernel)
theorem wd998 : Cond.fieldLink "NeighbourWiresModel" 58 "NeighbourWiresModel" "slows" "[I" ∈ tw := tw_of 998 (by decide +kernel)
theorem wd999 : Cond.fieldLink "NeighbourWiresModel" 61 "NeighbourWiresModel" "lanes" "[I" ∈ tw := tw_of 999 (by decide +kernel)
theorem wd1000 : Cond.fieldLink "NeighbourWiresModel" 64 "NeighbourWiresModel" "sizes" "[I" ∈ tw := tw_of 1000 (by decide +kernel)
theorem wd1001 : Cond.fieldLink "NeighbourWiresModel" 67 "NeighbourWiresModel" "cells" "[I" ∈ tw := tw_of 1001 (by decide +kernel)
theorem wd1002 : Cond.fieldLink "NeighbourWiresModel" 275 "NeighbourWiresModel" "torn" "I" ∈ tw := tw_of 1002 (by decide +kernel)
theorem wd1078 : Cond.arrayClass .boolean ∈ tw := tw_of 1078 (by decide +kernel)
theorem wd1079 : Cond.methodLink "NeighbourWiresLaw" 19 y_M_feed ∈ tw := tw_of 1079 (by decide +kernel)
theorem wd1080 : Cond.instanceMethod y_M_feed ∈ tw := tw_of 1080 (by decide +kernel)
theorem wd1081 : Cond.selects "NeighbourWiresModel" y_M_feed y_M_feed ∈ tw := tw_of 1081 (by decide +kernel)
theorem wd1082 : Cond.code y_M_feed prog_11_method_6_code 4 (Option.some .int) ∈ tw := tw_of 1082 (by decide +kernel)
theorem wd1083 : Cond.constantLong "NeighbourWiresModel" 73 (255 : Int64) ∈ tw := tw_of 1083 (by decide +kernel)
theorem wd1084 : Cond.methodLink "NeighbourWiresLaw" 24 y_M_end ∈ tw := tw_of 1084 (by decide +kernel)
theorem wd1085 : Cond.instanceMethod y_M_end ∈ tw := tw_of 1085 (by decide +kernel)
theorem wd1086 : Cond.selects "NeighbourWiresModel" y_M_end y_M_end ∈ tw := tw_of 1086 (by decide +kernel)
theorem wd1087 : Cond.code y_M_end prog_11_method_7_code 3 (Option.some .int) ∈ tw := tw_of 1087 (by decide +kernel)
theorem wd1088 : Cond.methodLink "NeighbourWiresModel" 75 y_M_in ∈ tw := tw_of 1088 (by decide +kernel)
theorem wd1089 : Cond.static y_M_in ∈ tw := tw_of 1089 (by decide +kernel)
theorem wd1090 : Cond.code y_M_in prog_11_method_3_code 6 (Option.some .boolean) ∈ tw := tw_of 1090 (by decide +kernel)
theorem wd1091 : Cond.methodLink "NeighbourWiresLaw" 29 y_M_text ∈ tw := tw_of 1091 (by decide +kernel)
theorem wd1092 : Cond.instanceMethod y_M_text ∈ tw := tw_of 1092 (by decide +kernel)
theorem wd1093 : Cond.selects "NeighbourWiresModel" y_M_text y_M_text ∈ tw := tw_of 1093 (by decide +kernel)
theorem wd1094 : Cond.code y_M_text prog_11_method_18_code 3 (Option.some .int) ∈ tw := tw_of 1094 (by decide +kernel)
theorem wd1095 : Cond.methodLink "NeighbourWiresModel" 125 y_M_next ∈ tw := tw_of 1095 (by decide +kernel)
theorem wd1097 : Cond.instanceMethod y_M_next ∈ tw := tw_of 1097 (by decide +kernel)
theorem wd1098 : Cond.code y_M_next prog_11_method_12_code 2 none ∈ tw := tw_of 1098 (by decide +kernel)
theorem wd1099 : Cond.methodLink "NeighbourWiresModel" 91 y_M_look ∈ tw := tw_of 1099 (by decide +kernel)
theorem wd1101 : Cond.instanceMethod y_M_look ∈ tw := tw_of 1101 (by decide +kernel)
theorem wd1102 : Cond.code y_M_look prog_11_method_9_code 2 (Option.some .int) ∈ tw := tw_of 1102 (by decide +kernel)
theorem wd1103 : Cond.constantLong "NeighbourWiresModel" 102 (97 : Int64) ∈ tw := tw_of 1103 (by decide +kernel)
theorem wd1104 : Cond.constantLong "NeighbourWiresModel" 104 (122 : Int64) ∈ tw := tw_of 1104 (by decide +kernel)
theorem wd1105 : Cond.methodLink "NeighbourWiresModel" 106 y_M_nameNow ∈ tw := tw_of 1105 (by decide +kernel)
theorem wd1107 : Cond.instanceMethod y_M_nameNow ∈ tw := tw_of 1107 (by decide +kernel)
theorem wd1108 : Cond.code y_M_nameNow prog_11_method_11_code 1 (Option.some .int) ∈ tw := tw_of 1108 (by decide +kernel)
theorem wd1109 : Cond.methodLink "NeighbourWiresModel" 95 y_M_is ∈ tw := tw_of 1109 (by decide +kernel)
theorem wd1111 : Cond.instanceMethod y_M_is ∈ tw := tw_of 1111 (by decide +kernel)
theorem wd1112 : Cond.code y_M_is prog_11_method_10_code 6 (Option.some .boolean) ∈ tw := tw_of 1112 (by decide +kernel)
theorem wd1113 : Cond.methodLink "NeighbourWiresModel" 113 y_M_wants ∈ tw := tw_of 1113 (by decide +kernel)
theorem wd1115 : Cond.instanceMethod y_M_wants ∈ tw := tw_of 1115 (by decide +kernel)
theorem wd1116 : Cond.code y_M_wants prog_11_method_8_code 3 none ∈ tw := tw_of 1116 (by decide +kernel)
theorem wd1117 : Cond.constantLong "NeighbourWiresModel" 117 (48 : Int64) ∈ tw := tw_of 1117 (by decide +kernel)
theorem wd1118 : Cond.constantLong "NeighbourWiresModel" 119 (57 : Int64) ∈ tw := tw_of 1118 (by decide +kernel)
theorem wd1119 : Cond.methodLink "NeighbourWiresModel" 153 y_M_readLine ∈ tw := tw_of 1119 (by decide +kernel)
theorem wd1121 : Cond.instanceMethod y_M_readLine ∈ tw := tw_of 1121 (by decide +kernel)
theorem wd1122 : Cond.code y_M_readLine prog_11_method_17_code 3 none ∈ tw := tw_of 1122 (by decide +kernel)
theorem wd1123 : Cond.methodLink "NeighbourWiresModel" 134 y_M_readNumber ∈ tw := tw_of 1123 (by decide +kernel)
theorem wd1125 : Cond.instanceMethod y_M_readNumber ∈ tw := tw_of 1125 (by decide +kernel)
theorem wd1126 : Cond.code y_M_readNumber prog_11_method_14_code 4 (Option.some .int) ∈ tw := tw_of 1126 (by decide +kernel)
theorem wd1127 : Cond.methodLink "NeighbourWiresModel" 121 y_M_isNumber ∈ tw := tw_of 1127 (by decide +kernel)
theorem wd1129 : Cond.instanceMethod y_M_isNumber ∈ tw := tw_of 1129 (by decide +kernel)
theorem wd1130 : Cond.code y_M_isNumber prog_11_method_13_code 3 none ∈ tw := tw_of 1130 (by decide +kernel)
theorem wd1131 : Cond.methodLink "NeighbourWiresModel" 147 y_M_readSend ∈ tw := tw_of 1131 (by decide +kernel)
theorem wd1133 : Cond.instanceMethod y_M_readSend ∈ tw := tw_of 1133 (by decide +kernel)
theorem wd1134 : Cond.code y_M_readSend prog_11_method_15_code 2 none ∈ tw := tw_of 1134 (by decide +kernel)
theorem wd1135 : Cond.methodLink "NeighbourWiresModel" 150 y_M_readStep ∈ tw := tw_of 1135 (by decide +kernel)
theorem wd1137 : Cond.instanceMethod y_M_readStep ∈ tw := tw_of 1137 (by decide +kernel)
theorem wd1138 : Cond.code y_M_readStep prog_11_method_16_code 5 none ∈ tw := tw_of 1138 (by decide +kernel)
theorem wd1139 : Cond.methodLink "NeighbourWiresLaw" 33 y_M_fault ∈ tw := tw_of 1139 (by decide +kernel)
theorem wd1140 : Cond.instanceMethod y_M_fault ∈ tw := tw_of 1140 (by decide +kernel)
theorem wd1141 : Cond.selects "NeighbourWiresModel" y_M_fault y_M_fault ∈ tw := tw_of 1141 (by decide +kernel)
theorem wd1142 : Cond.code y_M_fault prog_11_method_19_code 1 (Option.some .int) ∈ tw := tw_of 1142 (by decide +kernel)
theorem wd1143 : Cond.methodLink "NeighbourWiresLaw" 37 y_M_order ∈ tw := tw_of 1143 (by decide +kernel)
theorem wd1144 : Cond.instanceMethod y_M_order ∈ tw := tw_of 1144 (by decide +kernel)
theorem wd1145 : Cond.selects "NeighbourWiresModel" y_M_order y_M_order ∈ tw := tw_of 1145 (by decide +kernel)
theorem wd1146 : Cond.code y_M_order prog_11_method_21_code 5 (Option.some .int) ∈ tw := tw_of 1146 (by decide +kernel)
theorem wd1147 : Cond.methodLink "NeighbourWiresLaw" 42 y_M_shield ∈ tw := tw_of 1147 (by decide +kernel)
theorem wd1148 : Cond.instanceMethod y_M_shield ∈ tw := tw_of 1148 (by decide +kernel)
theorem wd1149 : Cond.selects "NeighbourWiresModel" y_M_shield y_M_shield ∈ tw := tw_of 1149 (by decide +kernel)
theorem wd1150 : Cond.code y_M_shield prog_11_method_22_code 4 (Option.some .int) ∈ tw := tw_of 1150 (by decide +kernel)
theorem wd1151 : Cond.methodLink "NeighbourWiresLaw" 47 y_M_at ∈ tw := tw_of 1151 (by decide +kernel)
theorem wd1152 : Cond.instanceMethod y_M_at ∈ tw := tw_of 1152 (by decide +kernel)
theorem wd1153 : Cond.selects "NeighbourWiresModel" y_M_at y_M_at ∈ tw := tw_of 1153 (by decide +kernel)
theorem wd1154 : Cond.code y_M_at prog_11_method_23_code 3 (Option.some .int) ∈ tw := tw_of 1154 (by decide +kernel)
theorem wd1155 : Cond.methodLink "NeighbourWiresLaw" 52 y_M_change ∈ tw := tw_of 1155 (by decide +kernel)
theorem wd1156 : Cond.instanceMethod y_M_change ∈ tw := tw_of 1156 (by decide +kernel)
theorem wd1157 : Cond.selects "NeighbourWiresModel" y_M_change y_M_change ∈ tw := tw_of 1157 (by decide +kernel)
theorem wd1158 : Cond.code y_M_change prog_11_method_33_code 4 (Option.some .int) ∈ tw := tw_of 1158 (by decide +kernel)
theorem wd1159 : Cond.methodLink "NeighbourWiresModel" 194 y_M_isWord ∈ tw := tw_of 1159 (by decide +kernel)
theorem wd1161 : Cond.instanceMethod y_M_isWord ∈ tw := tw_of 1161 (by decide +kernel)
theorem wd1162 : Cond.code y_M_isWord prog_11_method_20_code 2 (Option.some .boolean) ∈ tw := tw_of 1162 (by decide +kernel)
theorem wd1163 : Cond.constantLong "NeighbourWiresModel" 197 (3 : Int64) ∈ tw := tw_of 1163 (by decide +kernel)
theorem wd1164 : Cond.methodLink "NeighbourWiresModel" 199 y_M_plainMoves ∈ tw := tw_of 1164 (by decide +kernel)
theorem wd1166 : Cond.instanceMethod y_M_plainMoves ∈ tw := tw_of 1166 (by decide +kernel)
theorem wd1167 : Cond.code y_M_plainMoves prog_11_method_31_code 3 none ∈ tw := tw_of 1167 (by decide +kernel)
theorem wd1168 : Cond.methodLink "NeighbourWiresModel" 181 y_M_moves ∈ tw := tw_of 1168 (by decide +kernel)
theorem wd1170 : Cond.instanceMethod y_M_moves ∈ tw := tw_of 1170 (by decide +kernel)
theorem wd1171 : Cond.code y_M_moves prog_11_method_24_code 8 none ∈ tw := tw_of 1171 (by decide +kernel)
theorem wd1172 : Cond.methodLink "NeighbourWiresModel" 202 y_M_told ∈ tw := tw_of 1172 (by decide +kernel)
theorem wd1174 : Cond.instanceMethod y_M_told ∈ tw := tw_of 1174 (by decide +kernel)
theorem wd1175 : Cond.code y_M_told prog_11_method_32_code 2 (Option.some .int) ∈ tw := tw_of 1175 (by decide +kernel)
theorem wd1176 : Cond.methodLink "NeighbourWiresModel" 185 y_M_costNow ∈ tw := tw_of 1176 (by decide +kernel)
theorem wd1178 : Cond.instanceMethod y_M_costNow ∈ tw := tw_of 1178 (by decide +kernel)
theorem wd1179 : Cond.code y_M_costNow prog_11_method_27_code 4 (Option.some .int) ∈ tw := tw_of 1179 (by decide +kernel)
theorem wd1180 : Cond.methodLink "NeighbourWiresModel" 168 y_M_isGuarded ∈ tw := tw_of 1180 (by decide +kernel)
theorem wd1182 : Cond.instanceMethod y_M_isGuarded ∈ tw := tw_of 1182 (by decide +kernel)
theorem wd1183 : Cond.code y_M_isGuarded prog_11_method_25_code 2 (Option.some .boolean) ∈ tw := tw_of 1183 (by decide +kernel)
theorem wd1184 : Cond.methodLink "NeighbourWiresModel" 172 y_M_movedNow ∈ tw := tw_of 1184 (by decide +kernel)
theorem wd1186 : Cond.instanceMethod y_M_movedNow ∈ tw := tw_of 1186 (by decide +kernel)
theorem wd1187 : Cond.code y_M_movedNow prog_11_method_26_code 3 (Option.some .int) ∈ tw := tw_of 1187 (by decide +kernel)
theorem wd1188 : Cond.methodLink "NeighbourWiresModel" 188 y_M_slowNow ∈ tw := tw_of 1188 (by decide +kernel)
theorem wd1190 : Cond.instanceMethod y_M_slowNow ∈ tw := tw_of 1190 (by decide +kernel)
theorem wd1191 : Cond.code y_M_slowNow prog_11_method_29_code 3 (Option.some .int) ∈ tw := tw_of 1191 (by decide +kernel)
theorem wd1192 : Cond.methodLink "NeighbourWiresModel" 178 y_M_slowAt ∈ tw := tw_of 1192 (by decide +kernel)
theorem wd1194 : Cond.instanceMethod y_M_slowAt ∈ tw := tw_of 1194 (by decide +kernel)
theorem wd1195 : Cond.code y_M_slowAt prog_11_method_28_code 3 (Option.some .int) ∈ tw := tw_of 1195 (by decide +kernel)
theorem wd1196 : Cond.methodLink "NeighbourWiresModel" 175 y_M_plain ∈ tw := tw_of 1196 (by decide +kernel)
theorem wd1197 : Cond.static y_M_plain ∈ tw := tw_of 1197 (by decide +kernel)
theorem wd1198 : Cond.code y_M_plain prog_11_method_5_code 1 (Option.some .int) ∈ tw := tw_of 1198 (by decide +kernel)
theorem wd1199 : Cond.methodLink "NeighbourWiresModel" 191 y_M_noiseNow ∈ tw := tw_of 1199 (by decide +kernel)
theorem wd1201 : Cond.instanceMethod y_M_noiseNow ∈ tw := tw_of 1201 (by decide +kernel)
theorem wd1202 : Cond.code y_M_noiseNow prog_11_method_30_code 6 (Option.some .int) ∈ tw := tw_of 1202 (by decide +kernel)
theorem wd1203 : Cond.methodLink "NeighbourWiresLaw" 56 y_M_slow ∈ tw := tw_of 1203 (by decide +kernel)
theorem wd1204 : Cond.instanceMethod y_M_slow ∈ tw := tw_of 1204 (by decide +kernel)
theorem wd1205 : Cond.selects "NeighbourWiresModel" y_M_slow y_M_slow ∈ tw := tw_of 1205 (by decide +kernel)
theorem wd1206 : Cond.code y_M_slow prog_11_method_34_code 6 (Option.some .int) ∈ tw := tw_of 1206 (by decide +kernel)
theorem wd1207 : Cond.methodLink "NeighbourWiresLaw" 60 y_M_send ∈ tw := tw_of 1207 (by decide +kernel)
theorem wd1208 : Cond.instanceMethod y_M_send ∈ tw := tw_of 1208 (by decide +kernel)
theorem wd1209 : Cond.selects "NeighbourWiresModel" y_M_send y_M_send ∈ tw := tw_of 1209 (by decide +kernel)
theorem wd1210 : Cond.code y_M_send prog_11_method_35_code 2 (Option.some .int) ∈ tw := tw_of 1210 (by decide +kernel)
theorem wd1211 : Cond.methodLink "NeighbourWiresLaw" 64 y_M_empty ∈ tw := tw_of 1211 (by decide +kernel)
theorem wd1212 : Cond.instanceMethod y_M_empty ∈ tw := tw_of 1212 (by decide +kernel)
theorem wd1213 : Cond.selects "NeighbourWiresModel" y_M_empty y_M_empty ∈ tw := tw_of 1213 (by decide +kernel)
theorem wd1214 : Cond.code y_M_empty prog_11_method_36_code 2 (Option.some .int) ∈ tw := tw_of 1214 (by decide +kernel)
theorem wd1215 : Cond.methodLink "NeighbourWiresLaw" 68 y_M_sent ∈ tw := tw_of 1215 (by decide +kernel)
theorem wd1216 : Cond.instanceMethod y_M_sent ∈ tw := tw_of 1216 (by decide +kernel)
theorem wd1217 : Cond.selects "NeighbourWiresModel" y_M_sent y_M_sent ∈ tw := tw_of 1217 (by decide +kernel)
theorem wd1218 : Cond.code y_M_sent prog_11_method_37_code 2 (Option.some .int) ∈ tw := tw_of 1218 (by decide +kernel)
theorem wd1219 : Cond.methodLink "NeighbourWiresLaw" 72 y_M_row ∈ tw := tw_of 1219 (by decide +kernel)
theorem wd1220 : Cond.instanceMethod y_M_row ∈ tw := tw_of 1220 (by decide +kernel)
theorem wd1221 : Cond.selects "NeighbourWiresModel" y_M_row y_M_row ∈ tw := tw_of 1221 (by decide +kernel)
theorem wd1222 : Cond.code y_M_row prog_11_method_39_code 9 (Option.some .int) ∈ tw := tw_of 1222 (by decide +kernel)
theorem wd1223 : Cond.constantLong "NeighbourWiresModel" 205 (4 : Int64) ∈ tw := tw_of 1223 (by decide +kernel)
theorem wd1224 : Cond.constantLong "NeighbourWiresModel" 207 (10 : Int64) ∈ tw := tw_of 1224 (by decide +kernel)
theorem wd1225 : Cond.constantLong "NeighbourWiresModel" 209 (14 : Int64) ∈ tw := tw_of 1225 (by decide +kernel)
theorem wd1226 : Cond.methodLink "NeighbourWiresModel" 211 y_M_ahead ∈ tw := tw_of 1226 (by decide +kernel)
theorem wd1228 : Cond.instanceMethod y_M_ahead ∈ tw := tw_of 1228 (by decide +kernel)
theorem wd1229 : Cond.code y_M_ahead prog_11_method_38_code 2 (Option.some .int) ∈ tw := tw_of 1229 (by decide +kernel)
theorem wd1230 : Cond.methodLink "NeighbourWiresLaw" 76 y_M_best ∈ tw := tw_of 1230 (by decide +kernel)
theorem wd1231 : Cond.instanceMethod y_M_best ∈ tw := tw_of 1231 (by decide +kernel)
theorem wd1232 : Cond.selects "NeighbourWiresModel" y_M_best y_M_best ∈ tw := tw_of 1232 (by decide +kernel)
theorem wd1233 : Cond.code y_M_best prog_11_method_42_code 8 (Option.some .int) ∈ tw := tw_of 1233 (by decide +kernel)
theorem wd1234 : Cond.constant "NeighbourWiresModel" 217 (100000000 : Int32) ∈ tw := tw_of 1234 (by decide +kernel)
theorem wd1235 : Cond.methodLink "NeighbourWiresModel" 218 y_M_goesOn ∈ tw := tw_of 1235 (by decide +kernel)
theorem wd1237 : Cond.instanceMethod y_M_goesOn ∈ tw := tw_of 1237 (by decide +kernel)
theorem wd1238 : Cond.code y_M_goesOn prog_11_method_40_code 5 (Option.some .boolean) ∈ tw := tw_of 1238 (by decide +kernel)
theorem wd1239 : Cond.methodLink "NeighbourWiresModel" 214 y_M_swaps ∈ tw := tw_of 1239 (by decide +kernel)
theorem wd1241 : Cond.instanceMethod y_M_swaps ∈ tw := tw_of 1241 (by decide +kernel)
theorem wd1242 : Cond.code y_M_swaps prog_11_method_41_code 4 none ∈ tw := tw_of 1242 (by decide +kernel)
theorem wd1243 : Cond.methodLink "NeighbourWiresLaw" 80 y_M_shields ∈ tw := tw_of 1243 (by decide +kernel)
theorem wd1244 : Cond.instanceMethod y_M_shields ∈ tw := tw_of 1244 (by decide +kernel)
theorem wd1245 : Cond.selects "NeighbourWiresModel" y_M_shields y_M_shields ∈ tw := tw_of 1245 (by decide +kernel)
theorem wd1246 : Cond.code y_M_shields prog_11_method_43_code 7 (Option.some .int) ∈ tw := tw_of 1246 (by decide +kernel)
theorem wd1247 : Cond.methodLink "NeighbourWiresModel" 222 y_M_countOf ∈ tw := tw_of 1247 (by decide +kernel)
theorem wd1248 : Cond.static y_M_countOf ∈ tw := tw_of 1248 (by decide +kernel)
theorem wd1249 : Cond.code y_M_countOf prog_11_method_4_code 3 (Option.some .int) ∈ tw := tw_of 1249 (by decide +kernel)
theorem wd1250 : Cond.methodLink "NeighbourWiresLaw" 84 y_M_turned ∈ tw := tw_of 1250 (by decide +kernel)
theorem wd1251 : Cond.instanceMethod y_M_turned ∈ tw := tw_of 1251 (by decide +kernel)
theorem wd1252 : Cond.selects "NeighbourWiresModel" y_M_turned y_M_turned ∈ tw := tw_of 1252 (by decide +kernel)
theorem wd1253 : Cond.code y_M_turned prog_11_method_49_code 11 (Option.some .int) ∈ tw := tw_of 1253 (by decide +kernel)
theorem wd1254 : Cond.methodLink "NeighbourWiresModel" 234 y_M_findToCome ∈ tw := tw_of 1254 (by decide +kernel)
theorem wd1256 : Cond.instanceMethod y_M_findToCome ∈ tw := tw_of 1256 (by decide +kernel)
theorem wd1257 : Cond.code y_M_findToCome prog_11_method_47_code 6 none ∈ tw := tw_of 1257 (by decide +kernel)
theorem wd1258 : Cond.methodLink "NeighbourWiresModel" 228 y_M_lying ∈ tw := tw_of 1258 (by decide +kernel)
theorem wd1260 : Cond.instanceMethod y_M_lying ∈ tw := tw_of 1260 (by decide +kernel)
theorem wd1261 : Cond.code y_M_lying prog_11_method_44_code 4 (Option.some .int) ∈ tw := tw_of 1261 (by decide +kernel)
theorem wd1262 : Cond.methodLink "NeighbourWiresModel" 231 y_M_widerCost ∈ tw := tw_of 1262 (by decide +kernel)
theorem wd1264 : Cond.instanceMethod y_M_widerCost ∈ tw := tw_of 1264 (by decide +kernel)
theorem wd1265 : Cond.code y_M_widerCost prog_11_method_46_code 3 (Option.some .int) ∈ tw := tw_of 1265 (by decide +kernel)
theorem wd1266 : Cond.methodLink "NeighbourWiresModel" 225 y_M_widerMoves ∈ tw := tw_of 1266 (by decide +kernel)
theorem wd1268 : Cond.instanceMethod y_M_widerMoves ∈ tw := tw_of 1268 (by decide +kernel)
theorem wd1269 : Cond.code y_M_widerMoves prog_11_method_45_code 3 none ∈ tw := tw_of 1269 (by decide +kernel)
theorem wd1270 : Cond.methodLink "NeighbourWiresModel" 237 y_M_turnsNow ∈ tw := tw_of 1270 (by decide +kernel)
theorem wd1272 : Cond.instanceMethod y_M_turnsNow ∈ tw := tw_of 1272 (by decide +kernel)
theorem wd1273 : Cond.code y_M_turnsNow prog_11_method_48_code 8 (Option.some .int) ∈ tw := tw_of 1273 (by decide +kernel)
theorem wd1274 : Cond.methodLink "NeighbourWiresLaw" 88 y_M_book ∈ tw := tw_of 1274 (by decide +kernel)
theorem wd1275 : Cond.instanceMethod y_M_book ∈ tw := tw_of 1275 (by decide +kernel)
theorem wd1276 : Cond.selects "NeighbourWiresModel" y_M_book y_M_book ∈ tw := tw_of 1276 (by decide +kernel)
theorem wd1277 : Cond.code y_M_book prog_11_method_51_code 4 (Option.some .int) ∈ tw := tw_of 1277 (by decide +kernel)
theorem wd1278 : Cond.methodLink "NeighbourWiresModel" 241 y_M_isIn ∈ tw := tw_of 1278 (by decide +kernel)
theorem wd1280 : Cond.instanceMethod y_M_isIn ∈ tw := tw_of 1280 (by decide +kernel)
theorem wd1281 : Cond.code y_M_isIn prog_11_method_50_code 8 (Option.some .boolean) ∈ tw := tw_of 1281 (by decide +kernel)
theorem wd1282 : Cond.methodLink "NeighbourWiresLaw" 92 y_M_word ∈ tw := tw_of 1282 (by decide +kernel)
theorem wd1283 : Cond.instanceMethod y_M_word ∈ tw := tw_of 1283 (by decide +kernel)
theorem wd1284 : Cond.selects "NeighbourWiresModel" y_M_word y_M_word ∈ tw := tw_of 1284 (by decide +kernel)
theorem wd1285 : Cond.code y_M_word prog_11_method_52_code 5 (Option.some .int) ∈ tw := tw_of 1285 (by decide +kernel)
theorem wd1286 : Cond.methodLink "NeighbourWiresLaw" 96 y_M_place ∈ tw := tw_of 1286 (by decide +kernel)
theorem wd1287 : Cond.instanceMethod y_M_place ∈ tw := tw_of 1287 (by decide +kernel)
theorem wd1288 : Cond.selects "NeighbourWiresModel" y_M_place y_M_place ∈ tw := tw_of 1288 (by decide +kernel)
theorem wd1289 : Cond.code y_M_place prog_11_method_53_code 5 (Option.some .int) ∈ tw := tw_of 1289 (by decide +kernel)
theorem wd1290 : Cond.methodLink "NeighbourWiresLaw" 100 y_M_slowest ∈ tw := tw_of 1290 (by decide +kernel)
theorem wd1291 : Cond.instanceMethod y_M_slowest ∈ tw := tw_of 1291 (by decide +kernel)
theorem wd1292 : Cond.selects "NeighbourWiresModel" y_M_slowest y_M_slowest ∈ tw := tw_of 1292 (by decide +kernel)
theorem wd1293 : Cond.code y_M_slowest prog_11_method_55_code 6 (Option.some .int) ∈ tw := tw_of 1293 (by decide +kernel)
theorem wd1294 : Cond.methodLink "NeighbourWiresModel" 245 y_M_slowBy ∈ tw := tw_of 1294 (by decide +kernel)
theorem wd1296 : Cond.instanceMethod y_M_slowBy ∈ tw := tw_of 1296 (by decide +kernel)
theorem wd1297 : Cond.code y_M_slowBy prog_11_method_54_code 3 (Option.some .int) ∈ tw := tw_of 1297 (by decide +kernel)
theorem wd1298 : Cond.methodLink "NeighbourWiresLaw" 104 y_M_greatest ∈ tw := tw_of 1298 (by decide +kernel)
theorem wd1299 : Cond.instanceMethod y_M_greatest ∈ tw := tw_of 1299 (by decide +kernel)
theorem wd1300 : Cond.selects "NeighbourWiresModel" y_M_greatest y_M_greatest ∈ tw := tw_of 1300 (by decide +kernel)
theorem wd1301 : Cond.code y_M_greatest prog_11_method_56_code 9 (Option.some .int) ∈ tw := tw_of 1301 (by decide +kernel)
theorem wd1302 : Cond.methodLink "NeighbourWiresLaw" 108 y_M_ways ∈ tw := tw_of 1302 (by decide +kernel)
theorem wd1303 : Cond.instanceMethod y_M_ways ∈ tw := tw_of 1303 (by decide +kernel)
theorem wd1304 : Cond.selects "NeighbourWiresModel" y_M_ways y_M_ways ∈ tw := tw_of 1304 (by decide +kernel)
theorem wd1305 : Cond.code y_M_ways prog_11_method_62_code 3 (Option.some .int) ∈ tw := tw_of 1305 (by decide +kernel)
theorem wd1306 : Cond.methodLink "NeighbourWiresModel" 254 y_M_allKept ∈ tw := tw_of 1306 (by decide +kernel)
theorem wd1308 : Cond.instanceMethod y_M_allKept ∈ tw := tw_of 1308 (by decide +kernel)
theorem wd1309 : Cond.code y_M_allKept prog_11_method_59_code 2 none ∈ tw := tw_of 1309 (by decide +kernel)
theorem wd1310 : Cond.methodLink "NeighbourWiresModel" 251 y_M_findSlows ∈ tw := tw_of 1310 (by decide +kernel)
theorem wd1312 : Cond.instanceMethod y_M_findSlows ∈ tw := tw_of 1312 (by decide +kernel)
theorem wd1313 : Cond.code y_M_findSlows prog_11_method_57_code 3 none ∈ tw := tw_of 1313 (by decide +kernel)
theorem wd1314 : Cond.methodLink "NeighbourWiresModel" 257 y_M_waysFrom ∈ tw := tw_of 1314 (by decide +kernel)
theorem wd1316 : Cond.instanceMethod y_M_waysFrom ∈ tw := tw_of 1316 (by decide +kernel)
theorem wd1317 : Cond.code y_M_waysFrom prog_11_method_58_code 5 (Option.some .int) ∈ tw := tw_of 1317 (by decide +kernel)
theorem wd1318 : Cond.methodLink "NeighbourWiresLaw" 112 y_M_kept ∈ tw := tw_of 1318 (by decide +kernel)
theorem wd1319 : Cond.instanceMethod y_M_kept ∈ tw := tw_of 1319 (by decide +kernel)
theorem wd1320 : Cond.selects "NeighbourWiresModel" y_M_kept y_M_kept ∈ tw := tw_of 1320 (by decide +kernel)
theorem wd1321 : Cond.code y_M_kept prog_11_method_63_code 5 (Option.some .int) ∈ tw := tw_of 1321 (by decide +kernel)
theorem wd1322 : Cond.constantLong "NeighbourWiresModel" 260 (8 : Int64) ∈ tw := tw_of 1322 (by decide +kernel)
theorem wd1323 : Cond.methodLink "NeighbourWiresModel" 262 y_M_findKept ∈ tw := tw_of 1323 (by decide +kernel)
theorem wd1325 : Cond.instanceMethod y_M_findKept ∈ tw := tw_of 1325 (by decide +kernel)
theorem wd1326 : Cond.code y_M_findKept prog_11_method_60_code 6 (Option.some .int) ∈ tw := tw_of 1326 (by decide +kernel)
theorem wd1327 : Cond.methodLink "NeighbourWiresModel" 265 y_M_leastKept ∈ tw := tw_of 1327 (by decide +kernel)
theorem wd1329 : Cond.instanceMethod y_M_leastKept ∈ tw := tw_of 1329 (by decide +kernel)
theorem wd1330 : Cond.code y_M_leastKept prog_11_method_61_code 2 (Option.some .int) ∈ tw := tw_of 1330 (by decide +kernel)
theorem wd1331 : Cond.methodLink "NeighbourWiresLaw" 116 y_M_bits ∈ tw := tw_of 1331 (by decide +kernel)
theorem wd1332 : Cond.instanceMethod y_M_bits ∈ tw := tw_of 1332 (by decide +kernel)
theorem wd1333 : Cond.selects "NeighbourWiresModel" y_M_bits y_M_bits ∈ tw := tw_of 1333 (by decide +kernel)
theorem wd1334 : Cond.code y_M_bits prog_11_method_64_code 3 (Option.some .int) ∈ tw := tw_of 1334 (by decide +kernel)
theorem wd1335 : Cond.methodLink "NeighbourWiresLaw" 121 y_M_encode ∈ tw := tw_of 1335 (by decide +kernel)
theorem wd1336 : Cond.instanceMethod y_M_encode ∈ tw := tw_of 1336 (by decide +kernel)
theorem wd1337 : Cond.selects "NeighbourWiresModel" y_M_encode y_M_encode ∈ tw := tw_of 1337 (by decide +kernel)
theorem wd1338 : Cond.code y_M_encode prog_11_method_65_code 10 (Option.some .int) ∈ tw := tw_of 1338 (by decide +kernel)
theorem wd1339 : Cond.methodLink "NeighbourWiresLaw" 125 y_M_decode ∈ tw := tw_of 1339 (by decide +kernel)
theorem wd1340 : Cond.instanceMethod y_M_decode ∈ tw := tw_of 1340 (by decide +kernel)
theorem wd1341 : Cond.selects "NeighbourWiresModel" y_M_decode y_M_decode ∈ tw := tw_of 1341 (by decide +kernel)
theorem wd1342 : Cond.code y_M_decode prog_11_method_66_code 7 (Option.some .int) ∈ tw := tw_of 1342 (by decide +kernel)
theorem wd1343 : Cond.methodLink "NeighbourWiresLaw" 129 y_M_sheet ∈ tw := tw_of 1343 (by decide +kernel)
theorem wd1344 : Cond.instanceMethod y_M_sheet ∈ tw := tw_of 1344 (by decide +kernel)
theorem wd1345 : Cond.selects "NeighbourWiresModel" y_M_sheet y_M_sheet ∈ tw := tw_of 1345 (by decide +kernel)
theorem wd1346 : Cond.code y_M_sheet prog_11_method_68_code 5 (Option.some .int) ∈ tw := tw_of 1346 (by decide +kernel)
theorem wd1347 : Cond.methodLink "NeighbourWiresModel" 270 y_M_isSheet ∈ tw := tw_of 1347 (by decide +kernel)
theorem wd1348 : Cond.static y_M_isSheet ∈ tw := tw_of 1348 (by decide +kernel)
theorem wd1349 : Cond.code y_M_isSheet prog_11_method_67_code 2 (Option.some .boolean) ∈ tw := tw_of 1349 (by decide +kernel)
theorem wd1350 : Cond.constantLong "NeighbourWiresModel" 268 (2 : Int64) ∈ tw := tw_of 1350 (by decide +kernel)
theorem wd1351 : Cond.methodLink "NeighbourWiresLaw" 133 y_M_lay ∈ tw := tw_of 1351 (by decide +kernel)
theorem wd1352 : Cond.instanceMethod y_M_lay ∈ tw := tw_of 1352 (by decide +kernel)
theorem wd1353 : Cond.selects "NeighbourWiresModel" y_M_lay y_M_lay ∈ tw := tw_of 1353 (by decide +kernel)
theorem wd1354 : Cond.code y_M_lay prog_11_method_69_code 4 (Option.some .int) ∈ tw := tw_of 1354 (by decide +kernel)
theorem wd1355 : Cond.methodLink "NeighbourWiresLaw" 137 y_M_read ∈ tw := tw_of 1355 (by decide +kernel)
theorem wd1356 : Cond.instanceMethod y_M_read ∈ tw := tw_of 1356 (by decide +kernel)
theorem wd1357 : Cond.selects "NeighbourWiresModel" y_M_read y_M_read ∈ tw := tw_of 1357 (by decide +kernel)
theorem wd1358 : Cond.code y_M_read prog_11_method_70_code 10 (Option.some .int) ∈ tw := tw_of 1358 (by decide +kernel)
theorem wd1359 : Cond.constantLong "NeighbourWiresModel" 273 (40 : Int64) ∈ tw := tw_of 1359 (by decide +kernel)
theorem wd1360 : Cond.methodLink "NeighbourWiresLaw" 141 y_M_torn ∈ tw := tw_of 1360 (by decide +kernel)
theorem wd1361 : Cond.instanceMethod y_M_torn ∈ tw := tw_of 1361 (by decide +kernel)
theorem wd1362 : Cond.selects "NeighbourWiresModel" y_M_torn y_M_torn ∈ tw := tw_of 1362 (by decide +kernel)
theorem wd1363 : Cond.code y_M_torn prog_11_method_71_code 1 (Option.some .int) ∈ tw := tw_of 1363 (by decide +kernel)
theorem wd1364 : Cond.methodLink "NeighbourWiresLaw" 145 y_M_count ∈ tw := tw_of 1364 (by decide +kernel)
theorem wd1365 : Cond.instanceMethod y_M_count ∈ tw := tw_of 1365 (by decide +kernel)
theorem wd1366 : Cond.selects "NeighbourWiresModel" y_M_count y_M_count ∈ tw := tw_of 1366 (by decide +kernel)
theorem wd1367 : Cond.code y_M_count prog_11_method_72_code 2 (Option.some .int) ∈ tw := tw_of 1367 (by decide +kernel)
theorem wd1368 : Cond.constantLong "NeighbourWiresLaw" 13 (4294967295 : Int64) ∈ tw := tw_of 1368 (by decide +kernel)
theorem wd1369 : Cond.fieldLink "java/lang/String" 9 "java/lang/String" "value" "[B" ∈ tw := tw_of 1369 (by decide +kernel)
theorem wd1370 : Cond.fieldLink "java/lang/String" 15 "java/lang/String" "coder" "B" ∈ tw := tw_of 1370 (by decide +kernel)
end
section
/-! BASE: abstract states, worlds by shape, walks over them -/
abbrev St : Type := (Nat → Nat → Int32) × (Nat → Nat → Int64)
def sI (S : St) (q k : Nat) (v : Int32) : St := (fun a => if a = q then upd (S.1 a) k v else S.1 a, S.2)
def sL (S : St) (q k : Nat) (v : Int64) : St := (S.1, fun a => if a = q then vp_updL (S.2 a) k v else S.2 a)
def sA (S : St) (q : Nat) (f : Nat → Int32) : St := (fun a => if a = q then f else S.1 a, S.2)
def sB (S : St) (q : Nat) (f : Nat → Int64) : St := (S.1, fun a => if a = q then f else S.2 a)
/-- a cell's shape: an object (its class's place; a field is an int or the cell it names), or an array (kind, length, the cells of a row of references) -/
abbrev Sh : Type := (Nat × List (Option Nat)) ⊕ (Nat × Nat × List Nat)
/-- the world's names: addresses, array classes, classes' places, strings -/
abbrev Ww : Type := (Nat → Nat) × (Nat → ClassId) × va_G × (Nat → Nat) × (Nat → Nat)
def mkF (ad : Nat → Nat) (f : Nat → Int32) : Nat → List (Option Nat) → List Value
  | _, [] => []
  | k, none :: l => .int (f k) :: mkF ad f (k + 1) l
  | k, some r :: l => .ref (ad r) :: mkF ad f (k + 1) l
def mkE (w : Ww) (S : St) (q : Nat) : Sh → va_E
  | .inl o => .inr (o.1, mkF w.1 (S.1 q) 0 o.2)
  | .inr a => .inl (w.2.1 a.1, a.2.1, match a.1 with
    | 1 => .inr (.inl (S.2 q))
    | 4 => .inr (.inr (.inr (.inr (fun i => (a.2.2[i]?).map w.1))))
    | _ => .inl (S.1 q))
def mkW (w : Ww) (S : St) : Nat → List Sh → va_W
  | _, [] => []
  | q, s :: l => (w.1 q, mkE w S q s) :: mkW w S (q + 1) l
theorem mkF_n {ad : Nat → Nat} {f : Nat → Int32} : ∀ {fl : List (Option Nat)} {q k : Nat}, fl[k]? = some none → (mkF ad f q fl)[k]? = some (.int (f (q + k)))
  | [], q, k, h => by simp at h
  | none :: l, q, 0, _ => rfl
  | some r :: l, q, 0, h => by simp at h
  | none :: l, q, k + 1, h => by
    have h2 : l[k]? = some none := by simpa using h
    have := mkF_n (ad := ad) (f := f) (q := q + 1) h2
    show (mkF ad f (q + 1) l)[k]? = _
    rw [this, show q + 1 + k = q + (k + 1) by omega]
  | some r :: l, q, k + 1, h => by
    have h2 : l[k]? = some none := by simpa using h
    have := mkF_n (ad := ad) (f := f) (q := q + 1) h2
    show (mkF ad f (q + 1) l)[k]? = _
    rw [this, show q + 1 + k = q + (k + 1) by omega]
theorem mkF_s {ad : Nat → Nat} {f : Nat → Int32} {r : Nat} : ∀ {fl : List (Option Nat)} {q k : Nat}, fl[k]? = some (some r) → (mkF ad f q fl)[k]? = some (.ref (ad r))
  | [], q, k, h => by simp at h
  | none :: l, q, 0, h => by simp at h
  | some r' :: l, q, 0, h => by
    have : r' = r := by simpa using h
    subst this
    rfl
  | none :: l, q, k + 1, h => by
    have h2 : l[k]? = some (some r) := by simpa using h
    exact mkF_s (ad := ad) (f := f) (q := q + 1) h2
  | some r' :: l, q, k + 1, h => by
    have h2 : l[k]? = some (some r) := by simpa using h
    exact mkF_s (ad := ad) (f := f) (q := q + 1) h2
theorem mkF_len {ad : Nat → Nat} {f : Nat → Int32} : ∀ {fl : List (Option Nat)} {q : Nat}, (mkF ad f q fl).length = fl.length
  | [], _ => rfl
  | none :: l, q => by show (mkF ad f (q + 1) l).length + 1 = _; rw [mkF_len]; rfl
  | some r :: l, q => by show (mkF ad f (q + 1) l).length + 1 = _; rw [mkF_len]; rfl
theorem mkF_ne {ad : Nat → Nat} {f : Nat → Int32} {v : Int32} {j : Nat} : ∀ {fl : List (Option Nat)} {q : Nat}, j < q → mkF ad (upd f j v) q fl = mkF ad f q fl
  | [], _, _ => rfl
  | none :: l, q, h => by
    show Value.int (upd f j v q) :: mkF ad (upd f j v) (q + 1) l = Value.int (f q) :: mkF ad f (q + 1) l
    rw [mkF_ne (by omega), pk_un (by omega)]
  | some r :: l, q, h => by
    show Value.ref (ad r) :: mkF ad (upd f j v) (q + 1) l = Value.ref (ad r) :: mkF ad f (q + 1) l
    rw [mkF_ne (by omega)]
theorem mkF_set {ad : Nat → Nat} {f : Nat → Int32} {v : Int32} : ∀ {fl : List (Option Nat)} {q k : Nat}, fl[k]? = some none → (mkF ad f q fl).set k (.int v) = mkF ad (upd f (q + k) v) q fl
  | [], q, k, h => by simp at h
  | none :: l, q, 0, _ => by
    show Value.int v :: mkF ad f (q + 1) l = Value.int (upd f q v q) :: mkF ad (upd f q v) (q + 1) l
    rw [mkF_ne (by omega), pk_us]
  | some r :: l, q, 0, h => by simp at h
  | none :: l, q, k + 1, h => by
    have h2 : l[k]? = some none := by simpa using h
    show Value.int (f q) :: (mkF ad f (q + 1) l).set k (.int v) = Value.int (upd f (q + (k + 1)) v q) :: mkF ad (upd f (q + (k + 1)) v) (q + 1) l
    rw [mkF_set h2, show q + 1 + k = q + (k + 1) by omega, pk_un (by omega)]
  | some r :: l, q, k + 1, h => by
    have h2 : l[k]? = some none := by simpa using h
    show Value.ref (ad r) :: (mkF ad f (q + 1) l).set k (.int v) = Value.ref (ad r) :: mkF ad (upd f (q + (k + 1)) v) (q + 1) l
    rw [mkF_set h2, show q + 1 + k = q + (k + 1) by omega]
theorem mkW_get {w : Ww} {S : St} {s : Sh} : ∀ {l : List Sh} {q k : Nat}, l[k]? = some s → (mkW w S q l)[k]? = some (w.1 (q + k), mkE w S (q + k) s)
  | [], q, k, h => by simp at h
  | a :: l, q, 0, h => by
    have : a = s := by simpa using h
    subst this
    rfl
  | a :: l, q, k + 1, h => by
    have h2 : l[k]? = some s := by simpa using h
    have := mkW_get (w := w) (S := S) (q := q + 1) h2
    show (mkW w S (q + 1) l)[k]? = _
    rw [this, show q + 1 + k = q + (k + 1) by omega]
theorem mkW_ex {w : Ww} {S : St} : ∀ {l : List Sh} {q k : Nat} {p : Nat × va_E}, (mkW w S q l)[k]? = some p → k < l.length ∧ p.1 = w.1 (q + k)
  | [], q, k, p, h => by simp [mkW] at h
  | a :: l, q, 0, p, h => by
    have : (w.1 q, mkE w S q a) = p := by simpa [mkW] using h
    subst this
    exact ⟨Nat.succ_pos _, rfl⟩
  | a :: l, q, k + 1, p, h => by
    have h2 : (mkW w S (q + 1) l)[k]? = some p := by simpa [mkW] using h
    obtain ⟨h3, h4⟩ := mkW_ex h2
    exact ⟨Nat.succ_lt_succ h3, by rw [h4, show q + 1 + k = q + (k + 1) by omega]⟩
/-- states that say the same of the cells from q on make the same world -/
theorem mkE_congr {w : Ww} {S S' : St} {q : Nat} {s : Sh} (h1 : S'.1 q = S.1 q) (h2 : S'.2 q = S.2 q) : mkE w S' q s = mkE w S q s := by
  cases s with
  | inl o => show (Sum.inr (o.1, mkF w.1 (S'.1 q) 0 o.2) : va_E) = Sum.inr (o.1, mkF w.1 (S.1 q) 0 o.2); rw [h1]
  | inr a => unfold mkE; rw [h1, h2]
theorem mkW_congr {w : Ww} {S S' : St} : ∀ {l : List Sh} {q : Nat}, (∀ a, q ≤ a → S'.1 a = S.1 a ∧ S'.2 a = S.2 a) → mkW w S' q l = mkW w S q l
  | [], _, _ => rfl
  | s :: l, q, h => by
    show (w.1 q, mkE w S' q s) :: mkW w S' (q + 1) l = (w.1 q, mkE w S q s) :: mkW w S (q + 1) l
    rw [mkE_congr (h q (Nat.le_refl q)).1 (h q (Nat.le_refl q)).2, mkW_congr (fun a ha => h a (by omega))]
theorem mkW_set {w : Ww} {S S' : St} {s : Sh} {e : va_E} : ∀ {l : List Sh} {q k : Nat}, l[k]? = some s → (∀ a, a ≠ q + k → S'.1 a = S.1 a ∧ S'.2 a = S.2 a) → mkE w S' (q + k) s = e → (mkW w S q l).set k (w.1 (q + k), e) = mkW w S' q l
  | [], q, k, h, _, _ => by simp at h
  | a :: l, q, 0, h, h2, h3 => by
    have : a = s := by simpa using h
    subst this
    show (w.1 (q + 0), e) :: mkW w S (q + 1) l = (w.1 q, mkE w S' q a) :: mkW w S' (q + 1) l
    rw [mkW_congr (S := S) (S' := S') (fun a ha => h2 a (by omega)), ← h3]
    rfl
  | a :: l, q, k + 1, h, h2, h3 => by
    have h4 : l[k]? = some s := by simpa using h
    have e1 : q + 1 + k = q + (k + 1) := by omega
    show (w.1 q, mkE w S q a) :: (mkW w S (q + 1) l).set k (w.1 (q + (k + 1)), e) = (w.1 q, mkE w S' q a) :: mkW w S' (q + 1) l
    rw [← e1] at h2 h3 ⊢
    rw [mkW_set h4 h2 h3, mkE_congr (S := S) (S' := S') (h2 q (by omega)).1 (h2 q (by omega)).2]
/-- the cells of a world's shape, and those that are new -/
def AW (sh : List Sh) (w : Ww) (sz : Nat) : Nat → Prop := fun q => (∃ k, k < sh.length ∧ q = w.1 k) ∨ sz ≤ q
def lenS : List Nat := [5, 3, 4, 6, 4, 4]
def txS (i : Nat) : String := ["wires", "own", "side", "shield", "send", "step"].getD i ""
def ixS (i : Nat) : Nat := [50, 56, 58, 60, 62, 64].getD i 0
def bytS : List (List Int32) := [[119, 105, 114, 101, 115], [111, 119, 110], [115, 105, 100, 101], [115, 104, 105, 101, 108, 100], [115, 101, 110, 100], [115, 116, 101, 112]]
/-- the String constants of the tape -/
def SX (w : Ww) (A : Nat → Prop) (U : State) (H : Heap) : Prop := vk_S 6 lenS bytS w.2.2.2.1 w.2.2.2.2 A U H ∧ (∀ i : Nat, i < 6 → vk_R "NeighbourWires$Tape" (ixS i) (txS i) (w.2.2.2.1 i) U) ∧ va_Z "java/lang/String" "COMPACT_STRINGS" "Z" (.int 1) A U H ∧ va_Zq "jdk/internal/util/Preconditions" "SIOOBE_FORMATTER" "Ljava/util/function/BiFunction;" A U H
def tysW (w : Ww) : List (ClassId × FieldType) := [(w.2.1 0, .int), (w.2.1 1, .long), (w.2.1 2, .byte), (w.2.1 3, .boolean), (w.2.1 4, .object "NeighbourWires$Sheet")]
/-- what a walk stands in -/
abbrev Cx : Type := Program × Launch × Env × Room × State × MethodId × Array Value × List Frame × Method × Code × (State → Prop) × (Nat → Prop) × Nat
def WX (sh : List Sh) (w : Ww) (x : Cx) (S : St) (pc : Nat) (lo : List (Nat × Value)) (st : List Value) : Prop :=
  match x with
  | (p, l, e, R, s, m, args, below, meth, c, Q, A, nL) => ∀ (H : Heap) (lc : List Loc) (ls : Array Slot), va_P w.2.2.1 cls (mkW w S 0 sh) H → va_D A (mkW w S 0 sh) → va_S A s.heap H lc → lv_has ls nL lo → W p l e R s m args below meth c H lc 0 0 Q (F0 m pc ls st)
def XC (sh : List Sh) (w : Ww) (own : String) (cc : ByteArray) (l0 : Launch) (d0 : Nat) (x : Cx) : Prop :=
  match x with
  | (p, l, e, R, s, m, args, below, meth, c, Q, A, nL) => (p.tables.exec = Jvm.exec ∧ c.code = cc ∧ c.maxLocals = nL ∧ s.vm.findClass own = some m.cls ∧ ∀ w ∈ tw, w.before args s = true) ∧ l = l0 ∧ va_K w.2.2.1 cls (tysW w) s ∧ (∀ q, s.heap.size ≤ q → A q) ∧ (∀ k, k < sh.length → A (w.1 k)) ∧ SX w A s s.heap ∧ meth.locks = false ∧ d0 ≤ R.frames ∧ 60 * d0 ≤ R.locals
/-- the end of a method that answers an int: its answer and state are rs -/
def RI (sh : List Sh) (w : Ww) (cc : ByteArray) (bz : Int32 → Prop) (rs : Int32 × St) (x : Cx) : Prop := ∀ (pc : Nat) (lo : List (Nat × Value)) (v : Int32) (S1 : St), decode cc pc = .ok (.ireturn, 1) → some (v, S1) = some rs → bz v → WX sh w x S1 pc lo [.int v]
def RL' (sh : List Sh) (w : Ww) (cc : ByteArray) (rs : Int64 × St) (x : Cx) : Prop := ∀ (pc : Nat) (lo : List (Nat × Value)) (v : Int64) (S1 : St), decode cc pc = .ok (.lreturn, 1) → some (v, S1) = some rs → WX sh w x S1 pc lo [.long v]
def RV (sh : List Sh) (w : Ww) (cc : ByteArray) (rs : St) (x : Cx) : Prop := ∀ (pc : Nat) (lo : List (Nat × Value)) (S1 : St), decode cc pc = .ok (.return_, 1) → some S1 = some rs → WX sh w x S1 pc lo []
def bz01 (v : Int32) : Prop := v = 0 ∨ v = 1
def bzT (_ : Int32) : Prop := True
def rmD (d : Nat) : Room := { frames := d, cells := 0, slots := 0, locals := 60 * d }
def preM (sh : List Sh) (w : Ww) (S : St) (sz : Nat) (U : State) : Prop := U.heap.size = sz ∧ va_P w.2.2.1 cls (mkW w S 0 sh) U.heap ∧ va_K w.2.2.1 cls (tysW w) U ∧ va_D (fun _ => True) (mkW w S 0 sh) ∧ SX w (AW sh w sz) U U.heap
def posM (sh : List Sh) (w : Ww) (sz : Nat) (u : St) (t : State) : Prop := va_P w.2.2.1 cls (mkW w u 0 sh) t.heap ∧ va_D (AW sh w sz) (mkW w u 0 sh)
/-- contracts: a method that answers an int; a long; nothing -/
def MI (sh : List Sh) (w : Ww) (l : Launch) (y : MethodName) (cc : ByteArray) (nL : Nat) (ret : FieldType) (d : Nat) (av : List Value) (S : St) (r : Int32) (S' : St) (bz : Int32 → Prop) : Prop := ∀ sz : Nat, Met l y (.code y cc nL (some ret) :: tw) (rmD d) (va_Pc av (preM sh w S sz)) (va_Qi (fun (r1 : Int32) (u : St) => r1 = r ∧ u = S' ∧ bz r1) (posM sh w sz) (AW sh w sz)) 0 0 (AW sh w sz)
def ML (sh : List Sh) (w : Ww) (l : Launch) (y : MethodName) (cc : ByteArray) (nL : Nat) (d : Nat) (av : List Value) (S : St) (r : Int64) (S' : St) : Prop := ∀ sz : Nat, Met l y (.code y cc nL (some .long) :: tw) (rmD d) (va_Pc av (preM sh w S sz)) (va_Ql (fun (r1 : Int64) (u : St) => r1 = r ∧ u = S') (posM sh w sz) (AW sh w sz)) 0 0 (AW sh w sz)
def MV (sh : List Sh) (w : Ww) (l : Launch) (y : MethodName) (cc : ByteArray) (nL : Nat) (d : Nat) (av : List Value) (S : St) (S' : St) : Prop := ∀ sz : Nat, Met l y (.code y cc nL none :: tw) (rmD d) (va_Pc av (preM sh w S sz)) (va_Qv (fun (u : St) => u = S') (posM sh w sz) (AW sh w sz)) 0 0 (AW sh w sz)
def dc (cc : ByteArray) (pc : Nat) (i : Instr) (len n : Nat) : Prop := decode cc pc = .ok (i, len) ∧ pc + len = n
end
section
/-! ROWS of a walk over WX -/
section ROWS
variable {sh : List Sh} {w : Ww} {own : String} {cc : ByteArray} {l0 : Launch} {d0 : Nat} {x : Cx} {S : St} {pc n : Nat} {lo lo' : List (Nat × Value)} {st : List Value}
def dj (cc : ByteArray) (pc : Nat) (i : Instr) (off : Int) (n t : Nat) : Prop := decode cc pc = .ok (i, 3) ∧ pc + 3 = n ∧ (pc : Int) + off = (t : Int)
def bnd {α β : Type} (v : α) (k : α → β) : β := k v
def jn {α β : Type} (k : α) (b : α → β) : β := b k
def cal {α β : Type} (f : Option (α × St)) (k : α → St → Option β) : Option β := match f with
  | some (r, S) => k r S
  | none => none
def cav {β : Type} (f : Option St) (k : St → Option β) : Option β := match f with
  | some S => k S
  | none => none
def crd {α β : Type} (f : Option α) (k : α → Option β) : Option β := match f with
  | some r => k r
  | none => none
def chk {β : Type} (i : Int32) (n : Nat) (k : Option β) : Option β := if 0 ≤ i ∧ i.toNatClampNeg < n then k else none
def nz {β : Type} (d : Int32) (k : Option β) : Option β := if d = 0 then none else k
def jshl (x y : Int32) : Int32 := x <<< (y &&& 31)
def jshr (x y : Int32) : Int32 := x >>> (y &&& 31)
def jushr (x y : Int32) : Int32 := (x.toUInt32 >>> (y.toUInt32 &&& Int32.toUInt32 31)).toInt32
def jrem (x y : Int32) : Int32 := x - x / y * y
def jlshl (x : Int64) (y : Int32) : Int64 := x <<< (y.toInt64 &&& 63)
def jlshr (x : Int64) (y : Int32) : Int64 := x >>> (y.toInt64 &&& 63)
def jlushr (x : Int64) (y : Int32) : Int64 := (x.toUInt64 >>> (y.toInt64.toUInt64 &&& Int64.toUInt64 63)).toInt64
def jb (x : Int32) : Int32 := x.toInt8.toInt32
def js (x : Int32) : Int32 := x.toInt16.toInt32
def jmax (x y : Int32) : Int32 := if x < y then y else x
def jmin (x y : Int32) : Int32 := if y < x then y else x
theorem chk_in {β : Type} {i : Int32} {N : Nat} {k : Option β} {rs : β} (h : chk i N k = some rs) : vp_in i N ∧ i.toNatClampNeg < N ∧ k = some rs := by
  unfold chk at h
  by_cases hc : 0 ≤ i ∧ i.toNatClampNeg < N
  · rw [if_pos hc] at h
    refine ⟨fun q => ?_, hc.2, h⟩
    rcases q with q | q
    · exact absurd q (Int32.not_lt.mpr hc.1)
    · omega
  · rw [if_neg hc] at h
    cases h
theorem nz_in {β : Type} {d : Int32} {k : Option β} {rs : β} (h : nz d k = some rs) : ¬ d = 0 ∧ k = some rs := by
  unfold nz at h
  by_cases hc : d = 0
  · rw [if_pos hc] at h; cases h
  · rw [if_neg hc] at h; exact ⟨hc, h⟩
theorem cal_in {α β : Type} {f : Option (α × St)} {k : α → St → Option β} {rs : β} (h : cal f k = some rs) : ∃ r S1, f = some (r, S1) ∧ k r S1 = some rs := by
  match f, h with
  | some (r, S1), h => exact ⟨r, S1, rfl, h⟩
theorem cav_in {β : Type} {f : Option St} {k : St → Option β} {rs : β} (h : cav f k = some rs) : ∃ S1, f = some S1 ∧ k S1 = some rs := by
  match f, h with
  | some S1, h => exact ⟨S1, rfl, h⟩
theorem crd_in {α β : Type} {f : Option α} {k : α → Option β} {rs : β} (h : crd f k = some rs) : ∃ r, f = some r ∧ k r = some rs := by
  match f, h with
  | some r, h => exact ⟨r, rfl, h⟩
theorem x_ite {c : Prop} [Decidable c] {α : Type} {X Y : Option α} {rs : α} (hf : (if c then X else Y) = some rs) : (c ∧ X = some rs) ∨ (¬ c ∧ Y = some rs) := by
  by_cases hc : c
  · rw [if_pos hc] at hf; exact Or.inl ⟨hc, hf⟩
  · rw [if_neg hc] at hf; exact Or.inr ⟨hc, hf⟩
theorem x_bi {v : Int32} {α : Type} {K : Int32 → Option α} {rs : α} (hf : bnd v K = some rs) (kk : ∀ y, K y = some rs → WX sh w x S pc lo (.int y :: st)) : WX sh w x S pc lo (.int v :: st) := kk v hf
theorem x_bl {v : Int64} {α : Type} {K : Int64 → Option α} {rs : α} (hf : bnd v K = some rs) (kk : ∀ y, K y = some rs → WX sh w x S pc lo (.long y :: st)) : WX sh w x S pc lo (.long v :: st) := kk v hf
theorem x_retR {bz : Int32 → Prop} {v r : Int32} (hR : RI sh w cc bz (r, S) x) (hd : dc cc pc .ireturn 1 n) (hf : some v = some r) (hb : bz v) : WX sh w x S pc lo [.int v] := hR _ _ _ _ hd.1 (by cases hf; rfl) hb
theorem x_retL {v r : Int64} (hR : RL' sh w cc (r, S) x) (hd : dc cc pc .lreturn 1 n) (hf : some v = some r) : WX sh w x S pc lo [.long v] := hR _ _ _ _ hd.1 (by cases hf; rfl)
theorem x_bnd {α β : Type} {v : α} {k : α → Option β} {rs : β} {G : α → Prop} (hf : bnd v k = some rs) (kk : ∀ y, k y = some rs → G y) : G v := kk v hf
theorem x_jn {α β : Type} {k : α} {b : α → Option β} {rs : β} {G : Prop} (P : α → Prop) (hf : jn k b = some rs) (hk : P k) (kk : ∀ J, P J → b J = some rs → G) : G := kk k hk hf
theorem x_sub (ks : List Nat) (hl : lv_pick lo ks = lo') (kk : WX sh w x S pc lo' st) : WX sh w x S pc lo st := by
  obtain ⟨p, l, e, R, s, m, args, below, meth, c, Q, A, nL⟩ := x
  intro H lc ls hP hD hS hl2
  exact kk H lc ls hP hD hS (lv_sub hl2 ks hl)
theorem x_iload (C : XC sh w own cc l0 d0 x) {i : Nat} {v : Int32} (hd : dc cc pc (.iload i) 2 n) (k : Nat) (hl : lo[k]? = some (i, .int v)) (kk : WX sh w x S n lo (.int v :: st)) : WX sh w x S pc lo st := by
  obtain ⟨p, l, e, R, s, m, args, below, meth, c, Q, A, nL⟩ := x
  obtain ⟨⟨hx, hb, hml, hown, hts⟩, rfl, hK, hA, hAk, hSX, hlk, hfr, hlo⟩ := C
  obtain ⟨hd, rfl⟩ := hd
  intro H lc ls hP hD hS hl2
  exact lv_iload hx hb hd (lv_at hl2 k hl) (kk H lc ls hP hD hS hl2)
theorem x_iload_n (C : XC sh w own cc l0 d0 x) {i : Fin 4} {j : Nat} {v : Int32} (hd : dc cc pc (.iload_n i) 1 n) (k : Nat) (hl : lo[k]? = some (j, .int v)) (kk : WX sh w x S n lo (.int v :: st)) (hi : (i : Nat) = j := by rfl) : WX sh w x S pc lo st := by
  obtain ⟨p, l, e, R, s, m, args, below, meth, c, Q, A, nL⟩ := x
  obtain ⟨⟨hx, hb, hml, hown, hts⟩, rfl, hK, hA, hAk, hSX, hlk, hfr, hlo⟩ := C
  obtain ⟨hd, rfl⟩ := hd
  intro H lc ls hP hD hS hl2
  exact lv_iload_n hx hb hd hi (lv_at hl2 k hl) (kk H lc ls hP hD hS hl2)
theorem x_lload (C : XC sh w own cc l0 d0 x) {i : Nat} {v : Int64} (hd : dc cc pc (.lload i) 2 n) (k : Nat) (hl : lo[k]? = some (i, .long v)) (kk : WX sh w x S n lo (.long v :: st)) : WX sh w x S pc lo st := by
  obtain ⟨p, l, e, R, s, m, args, below, meth, c, Q, A, nL⟩ := x
  obtain ⟨⟨hx, hb, hml, hown, hts⟩, rfl, hK, hA, hAk, hSX, hlk, hfr, hlo⟩ := C
  obtain ⟨hd, rfl⟩ := hd
  intro H lc ls hP hD hS hl2
  exact lv_lload hx hb hd (lv_at hl2 k hl) (kk H lc ls hP hD hS hl2)
theorem x_lload_n (C : XC sh w own cc l0 d0 x) {i : Fin 4} {j : Nat} {v : Int64} (hd : dc cc pc (.lload_n i) 1 n) (k : Nat) (hl : lo[k]? = some (j, .long v)) (kk : WX sh w x S n lo (.long v :: st)) (hi : (i : Nat) = j := by rfl) : WX sh w x S pc lo st := by
  obtain ⟨p, l, e, R, s, m, args, below, meth, c, Q, A, nL⟩ := x
  obtain ⟨⟨hx, hb, hml, hown, hts⟩, rfl, hK, hA, hAk, hSX, hlk, hfr, hlo⟩ := C
  obtain ⟨hd, rfl⟩ := hd
  intro H lc ls hP hD hS hl2
  exact lv_lload_n hx hb hd hi (lv_at hl2 k hl) (kk H lc ls hP hD hS hl2)
theorem x_aload (C : XC sh w own cc l0 d0 x) {i a : Nat} (hd : dc cc pc (.aload i) 2 n) (k : Nat) (hl : lo[k]? = some (i, .ref a)) (kk : WX sh w x S n lo (.ref a :: st)) : WX sh w x S pc lo st := by
  obtain ⟨p, l, e, R, s, m, args, below, meth, c, Q, A, nL⟩ := x
  obtain ⟨⟨hx, hb, hml, hown, hts⟩, rfl, hK, hA, hAk, hSX, hlk, hfr, hlo⟩ := C
  obtain ⟨hd, rfl⟩ := hd
  intro H lc ls hP hD hS hl2
  exact lv_aload hx hb hd (lv_at hl2 k hl) (kk H lc ls hP hD hS hl2)
theorem x_aload_n (C : XC sh w own cc l0 d0 x) {i : Fin 4} {j a : Nat} (hd : dc cc pc (.aload_n i) 1 n) (k : Nat) (hl : lo[k]? = some (j, .ref a)) (kk : WX sh w x S n lo (.ref a :: st)) (hi : (i : Nat) = j := by rfl) : WX sh w x S pc lo st := by
  obtain ⟨p, l, e, R, s, m, args, below, meth, c, Q, A, nL⟩ := x
  obtain ⟨⟨hx, hb, hml, hown, hts⟩, rfl, hK, hA, hAk, hSX, hlk, hfr, hlo⟩ := C
  obtain ⟨hd, rfl⟩ := hd
  intro H lc ls hP hD hS hl2
  exact lv_aload_n hx hb hd hi (lv_at hl2 k hl) (kk H lc ls hP hD hS hl2)
theorem x_istore (C : XC sh w own cc l0 d0 x) {i : Nat} {v : Int32} (hd : dc cc pc (.istore i) 2 n) (lo2 : List (Nat × Value)) (hnL : i < x.2.2.2.2.2.2.2.2.2.2.2.2) (hl : (i, Value.int v) :: lo.filter (fun q => !(q.1 == i) && !(q.1 + 1 == i && q.2.category == 2)) = lo2) (kk : WX sh w x S n lo2 st) : WX sh w x S pc lo (.int v :: st) := by
  obtain ⟨p, l, e, R, s, m, args, below, meth, c, Q, A, nL⟩ := x
  obtain ⟨⟨hx, hb, hml, hown, hts⟩, rfl, hK, hA, hAk, hSX, hlk, hfr, hlo⟩ := C
  obtain ⟨hd, rfl⟩ := hd
  intro H lc ls hP hD hS hl2
  exact lv_istore hx hb hd hl2 hnL hl (fun ls2 hl3 => kk H lc ls2 hP hD hS hl3)
theorem x_istore_n (C : XC sh w own cc l0 d0 x) {i : Fin 4} {j : Nat} {v : Int32} (hd : dc cc pc (.istore_n i) 1 n) (lo2 : List (Nat × Value)) (hnL : j < x.2.2.2.2.2.2.2.2.2.2.2.2) (hl : (j, Value.int v) :: lo.filter (fun q => !(q.1 == j) && !(q.1 + 1 == j && q.2.category == 2)) = lo2) (kk : WX sh w x S n lo2 st) (hi : (i : Nat) = j := by rfl) : WX sh w x S pc lo (.int v :: st) := by
  obtain ⟨p, l, e, R, s, m, args, below, meth, c, Q, A, nL⟩ := x
  obtain ⟨⟨hx, hb, hml, hown, hts⟩, rfl, hK, hA, hAk, hSX, hlk, hfr, hlo⟩ := C
  obtain ⟨hd, rfl⟩ := hd
  intro H lc ls hP hD hS hl2
  exact lv_istore_n hx hb hd hi hl2 hnL hl (fun ls2 hl3 => kk H lc ls2 hP hD hS hl3)
theorem x_astore (C : XC sh w own cc l0 d0 x) {i : Nat} {v : Nat} (hd : dc cc pc (.astore i) 2 n) (lo2 : List (Nat × Value)) (hnL : i < x.2.2.2.2.2.2.2.2.2.2.2.2) (hl : (i, Value.ref v) :: lo.filter (fun q => !(q.1 == i) && !(q.1 + 1 == i && q.2.category == 2)) = lo2) (kk : WX sh w x S n lo2 st) : WX sh w x S pc lo (.ref v :: st) := by
  obtain ⟨p, l, e, R, s, m, args, below, meth, c, Q, A, nL⟩ := x
  obtain ⟨⟨hx, hb, hml, hown, hts⟩, rfl, hK, hA, hAk, hSX, hlk, hfr, hlo⟩ := C
  obtain ⟨hd, rfl⟩ := hd
  intro H lc ls hP hD hS hl2
  exact lv_astore hx hb hd hl2 hnL hl (fun ls2 hl3 => kk H lc ls2 hP hD hS hl3)
theorem x_astore_n (C : XC sh w own cc l0 d0 x) {i : Fin 4} {j : Nat} {v : Nat} (hd : dc cc pc (.astore_n i) 1 n) (lo2 : List (Nat × Value)) (hnL : j < x.2.2.2.2.2.2.2.2.2.2.2.2) (hl : (j, Value.ref v) :: lo.filter (fun q => !(q.1 == j) && !(q.1 + 1 == j && q.2.category == 2)) = lo2) (kk : WX sh w x S n lo2 st) (hi : (i : Nat) = j := by rfl) : WX sh w x S pc lo (.ref v :: st) := by
  obtain ⟨p, l, e, R, s, m, args, below, meth, c, Q, A, nL⟩ := x
  obtain ⟨⟨hx, hb, hml, hown, hts⟩, rfl, hK, hA, hAk, hSX, hlk, hfr, hlo⟩ := C
  obtain ⟨hd, rfl⟩ := hd
  intro H lc ls hP hD hS hl2
  exact lv_astore_n hx hb hd hi hl2 hnL hl (fun ls2 hl3 => kk H lc ls2 hP hD hS hl3)
theorem x_lstore (C : XC sh w own cc l0 d0 x) {i : Nat} {v : Int64} (hd : dc cc pc (.lstore i) 2 n) (lo2 : List (Nat × Value)) (hnL : i + 1 < x.2.2.2.2.2.2.2.2.2.2.2.2) (hl : (i, Value.long v) :: lo.filter (fun q => !(q.1 == i) && (!(q.1 == i + 1) && !(q.1 + 1 == i && q.2.category == 2))) = lo2) (kk : WX sh w x S n lo2 st) : WX sh w x S pc lo (.long v :: st) := by
  obtain ⟨p, l, e, R, s, m, args, below, meth, c, Q, A, nL⟩ := x
  obtain ⟨⟨hx, hb, hml, hown, hts⟩, rfl, hK, hA, hAk, hSX, hlk, hfr, hlo⟩ := C
  obtain ⟨hd, rfl⟩ := hd
  intro H lc ls hP hD hS hl2
  exact lv_lstore hx hb hd hl2 hnL hl (fun ls2 hl3 => kk H lc ls2 hP hD hS hl3)
theorem x_iinc (C : XC sh w own cc l0 d0 x) {i : Nat} {v : Int32} {t : Int} {α : Type} {K : Int32 → Option α} {rs : α} (d : Int32) (hd : dc cc pc (.iinc i t) 3 n) (k : Nat) (hl : lo[k]? = some (i, .int v)) (hnL : i < x.2.2.2.2.2.2.2.2.2.2.2.2) (hf : bnd (v + d) K = some rs) (lo2 : Int32 → List (Nat × Value)) (hl3 : ∀ y, (i, Value.int y) :: lo.filter (fun q => !(q.1 == i) && !(q.1 + 1 == i && q.2.category == 2)) = lo2 y) (kk : ∀ y, K y = some rs → WX sh w x S n (lo2 y) st) (ht : Int32.ofInt t = d := by decide) : WX sh w x S pc lo st := by
  obtain ⟨p, l, e, R, s, m, args, below, meth, c, Q, A, nL⟩ := x
  obtain ⟨⟨hx, hb, hml, hown, hts⟩, rfl, hK, hA, hAk, hSX, hlk, hfr, hlo⟩ := C
  obtain ⟨hd, rfl⟩ := hd
  intro H lc ls hP hD hS hl2
  subst ht
  exact lv_iinc hx hb hd hl2 hl rfl hnL (hl3 _) (fun ls2 hl4 => kk _ hf H lc ls2 hP hD hS hl4)
theorem x_iconst (C : XC sh w own cc l0 d0 x) {i : Int} (hd : dc cc pc (.iconst i) 1 n) (v : Int32) (kk : WX sh w x S n lo (.int v :: st)) (hv : Int32.ofInt i = v := by decide) : WX sh w x S pc lo st := by
  obtain ⟨p, l, e, R, s, m, args, below, meth, c, Q, A, nL⟩ := x
  obtain ⟨⟨hx, hb, hml, hown, hts⟩, rfl, hK, hA, hAk, hSX, hlk, hfr, hlo⟩ := C
  obtain ⟨hd, rfl⟩ := hd
  intro H lc ls hP hD hS hl2
  exact lv_iconst hx hb hd hv (kk H lc ls hP hD hS hl2)
theorem x_bipush (C : XC sh w own cc l0 d0 x) {i : Int} (hd : dc cc pc (.bipush i) 2 n) (v : Int32) (kk : WX sh w x S n lo (.int v :: st)) (hv : (Int8.ofInt i).toInt32 = v := by decide) : WX sh w x S pc lo st := by
  obtain ⟨p, l, e, R, s, m, args, below, meth, c, Q, A, nL⟩ := x
  obtain ⟨⟨hx, hb, hml, hown, hts⟩, rfl, hK, hA, hAk, hSX, hlk, hfr, hlo⟩ := C
  obtain ⟨hd, rfl⟩ := hd
  intro H lc ls hP hD hS hl2
  exact lv_bipush hx hb hd hv (kk H lc ls hP hD hS hl2)
theorem x_sipush (C : XC sh w own cc l0 d0 x) {i : Int} (hd : dc cc pc (.sipush i) 3 n) (v : Int32) (kk : WX sh w x S n lo (.int v :: st)) (hv : (Int16.ofInt i).toInt32 = v := by decide) : WX sh w x S pc lo st := by
  obtain ⟨p, l, e, R, s, m, args, below, meth, c, Q, A, nL⟩ := x
  obtain ⟨⟨hx, hb, hml, hown, hts⟩, rfl, hK, hA, hAk, hSX, hlk, hfr, hlo⟩ := C
  obtain ⟨hd, rfl⟩ := hd
  intro H lc ls hP hD hS hl2
  exact lv_sipush hx hb hd hv (kk H lc ls hP hD hS hl2)
theorem x_lconst (C : XC sh w own cc l0 d0 x) {i : Fin 2} (hd : dc cc pc (.lconst i) 1 n) (v : Int64) (kk : WX sh w x S n lo (.long v :: st)) (hv : Int64.ofNat (i : Nat) = v := by decide) : WX sh w x S pc lo st := by
  obtain ⟨p, l, e, R, s, m, args, below, meth, c, Q, A, nL⟩ := x
  obtain ⟨⟨hx, hb, hml, hown, hts⟩, rfl, hK, hA, hAk, hSX, hlk, hfr, hlo⟩ := C
  obtain ⟨hd, rfl⟩ := hd
  intro H lc ls hP hD hS hl2
  exact lv_lconst hx hb hd hv (kk H lc ls hP hD hS hl2)
theorem x_ldc (C : XC sh w own cc l0 d0 x) {i : Nat} {v : Int32} (hd : dc cc pc (.ldc i) 2 n) (hw : Cond.constant own i v ∈ tw) (kk : WX sh w x S n lo (.int v :: st)) : WX sh w x S pc lo st := by
  obtain ⟨p, l, e, R, s, m, args, below, meth, c, Q, A, nL⟩ := x
  obtain ⟨⟨hx, hb, hml, hown, hts⟩, rfl, hK, hA, hAk, hSX, hlk, hfr, hlo⟩ := C
  obtain ⟨hd, rfl⟩ := hd
  intro H lc ls hP hD hS hl2
  exact lv_ldc hx hb hown (hts _ hw) hd (kk H lc ls hP hD hS hl2)
theorem x_ldcw (C : XC sh w own cc l0 d0 x) {i : Nat} {v : Int32} (hd : dc cc pc (.ldc_w i) 3 n) (hw : Cond.constant own i v ∈ tw) (kk : WX sh w x S n lo (.int v :: st)) : WX sh w x S pc lo st := by
  obtain ⟨p, l, e, R, s, m, args, below, meth, c, Q, A, nL⟩ := x
  obtain ⟨⟨hx, hb, hml, hown, hts⟩, rfl, hK, hA, hAk, hSX, hlk, hfr, hlo⟩ := C
  obtain ⟨hd, rfl⟩ := hd
  intro H lc ls hP hD hS hl2
  exact lv_ldcw hx hb hown (hts _ hw) hd (kk H lc ls hP hD hS hl2)
theorem x_lstore_n (C : XC sh w own cc l0 d0 x) {i : Fin 4} {j : Nat} {v : Int64} (hd : dc cc pc (.lstore_n i) 1 n) (lo2 : List (Nat × Value)) (hnL : j + 1 < x.2.2.2.2.2.2.2.2.2.2.2.2) (hl : (j, Value.long v) :: lo.filter (fun q => !(q.1 == j) && (!(q.1 == j + 1) && !(q.1 + 1 == j && q.2.category == 2))) = lo2) (kk : WX sh w x S n lo2 st) (hi : (i : Nat) = j := by rfl) : WX sh w x S pc lo (.long v :: st) := by
  obtain ⟨p, l, e, R, s, m, args, below, meth, c, Q, A, nL⟩ := x
  obtain ⟨⟨hx, hb, hml, hown, hts⟩, rfl, hK, hA, hAk, hSX, hlk, hfr, hlo⟩ := C
  obtain ⟨hd, rfl⟩ := hd
  intro H lc ls hP hD hS hl2
  exact lv_lstore_n hx hb hd hi hl2 hnL hl (fun ls2 hl3 => kk H lc ls2 hP hD hS hl3)
theorem x_ldc2 (C : XC sh w own cc l0 d0 x) {i : Nat} {v : Int64} (hd : dc cc pc (.ldc2_w i) 3 n) (hw : Cond.constantLong own i v ∈ tw) (kk : WX sh w x S n lo (.long v :: st)) : WX sh w x S pc lo st := by
  obtain ⟨p, l, e, R, s, m, args, below, meth, c, Q, A, nL⟩ := x
  obtain ⟨⟨hx, hb, hml, hown, hts⟩, rfl, hK, hA, hAk, hSX, hlk, hfr, hlo⟩ := C
  obtain ⟨hd, rfl⟩ := hd
  intro H lc ls hP hD hS hl2
  exact lv_ldc2 hx hb hown (hts _ hw) hd (kk H lc ls hP hD hS hl2)
theorem x_ldcS (C : XC sh w own cc l0 d0 x) {i : Nat} (hd : dc cc pc (.ldc i) 2 n) (ho : own = "NeighbourWires$Tape") (j : Nat) (hj : j < 6) (hi : ixS j = i) (kk : WX sh w x S n lo (.ref (w.2.2.2.1 j) :: st)) : WX sh w x S pc lo st := by
  obtain ⟨p, l, e, R, s, m, args, below, meth, c, Q, A, nL⟩ := x
  obtain ⟨⟨hx, hb, hml, hown, hts⟩, rfl, hK, hA, hAk, hSX, hlk, hfr, hlo⟩ := C
  obtain ⟨hd, rfl⟩ := hd
  intro H lc ls hP hD hS hl2
  subst hi; subst ho
  exact va_ldcS hx hb hown (hSX.2.1 j hj) hd (kk H lc ls hP hD hS hl2)
theorem x_iadd (C : XC sh w own cc l0 d0 x) {a b : Int32} (hd : dc cc pc .iadd 1 n) (kk : WX sh w x S n lo (.int (a + b) :: st)) : WX sh w x S pc lo (.int b :: .int a :: st) := by
  obtain ⟨p, l, e, R, s, m, args, below, meth, c, Q, A, nL⟩ := x
  obtain ⟨⟨hx, hb, hml, hown, hts⟩, rfl, hK, hA, hAk, hSX, hlk, hfr, hlo⟩ := C
  obtain ⟨hd, rfl⟩ := hd
  intro H lc ls hP hD hS hl2
  exact lv_iadd hx hb hd (kk H lc ls hP hD hS hl2)
theorem x_isub (C : XC sh w own cc l0 d0 x) {a b : Int32} (hd : dc cc pc .isub 1 n) (kk : WX sh w x S n lo (.int (a - b) :: st)) : WX sh w x S pc lo (.int b :: .int a :: st) := by
  obtain ⟨p, l, e, R, s, m, args, below, meth, c, Q, A, nL⟩ := x
  obtain ⟨⟨hx, hb, hml, hown, hts⟩, rfl, hK, hA, hAk, hSX, hlk, hfr, hlo⟩ := C
  obtain ⟨hd, rfl⟩ := hd
  intro H lc ls hP hD hS hl2
  exact lv_isub hx hb hd (kk H lc ls hP hD hS hl2)
theorem x_imul (C : XC sh w own cc l0 d0 x) {a b : Int32} (hd : dc cc pc .imul 1 n) (kk : WX sh w x S n lo (.int (a * b) :: st)) : WX sh w x S pc lo (.int b :: .int a :: st) := by
  obtain ⟨p, l, e, R, s, m, args, below, meth, c, Q, A, nL⟩ := x
  obtain ⟨⟨hx, hb, hml, hown, hts⟩, rfl, hK, hA, hAk, hSX, hlk, hfr, hlo⟩ := C
  obtain ⟨hd, rfl⟩ := hd
  intro H lc ls hP hD hS hl2
  exact lv_imul hx hb hd (kk H lc ls hP hD hS hl2)
theorem x_iand (C : XC sh w own cc l0 d0 x) {a b : Int32} (hd : dc cc pc .iand 1 n) (kk : WX sh w x S n lo (.int (a &&& b) :: st)) : WX sh w x S pc lo (.int b :: .int a :: st) := by
  obtain ⟨p, l, e, R, s, m, args, below, meth, c, Q, A, nL⟩ := x
  obtain ⟨⟨hx, hb, hml, hown, hts⟩, rfl, hK, hA, hAk, hSX, hlk, hfr, hlo⟩ := C
  obtain ⟨hd, rfl⟩ := hd
  intro H lc ls hP hD hS hl2
  exact lv_iand hx hb hd (kk H lc ls hP hD hS hl2)
theorem x_ior (C : XC sh w own cc l0 d0 x) {a b : Int32} (hd : dc cc pc .ior 1 n) (kk : WX sh w x S n lo (.int (a ||| b) :: st)) : WX sh w x S pc lo (.int b :: .int a :: st) := by
  obtain ⟨p, l, e, R, s, m, args, below, meth, c, Q, A, nL⟩ := x
  obtain ⟨⟨hx, hb, hml, hown, hts⟩, rfl, hK, hA, hAk, hSX, hlk, hfr, hlo⟩ := C
  obtain ⟨hd, rfl⟩ := hd
  intro H lc ls hP hD hS hl2
  exact lv_ior hx hb hd (kk H lc ls hP hD hS hl2)
theorem x_ixor (C : XC sh w own cc l0 d0 x) {a b : Int32} (hd : dc cc pc .ixor 1 n) (kk : WX sh w x S n lo (.int (a ^^^ b) :: st)) : WX sh w x S pc lo (.int b :: .int a :: st) := by
  obtain ⟨p, l, e, R, s, m, args, below, meth, c, Q, A, nL⟩ := x
  obtain ⟨⟨hx, hb, hml, hown, hts⟩, rfl, hK, hA, hAk, hSX, hlk, hfr, hlo⟩ := C
  obtain ⟨hd, rfl⟩ := hd
  intro H lc ls hP hD hS hl2
  exact lv_ixor hx hb hd (kk H lc ls hP hD hS hl2)
theorem x_ishl (C : XC sh w own cc l0 d0 x) {a b : Int32} (hd : dc cc pc .ishl 1 n) (kk : WX sh w x S n lo (.int (jshl a b) :: st)) : WX sh w x S pc lo (.int b :: .int a :: st) := by
  obtain ⟨p, l, e, R, s, m, args, below, meth, c, Q, A, nL⟩ := x
  obtain ⟨⟨hx, hb, hml, hown, hts⟩, rfl, hK, hA, hAk, hSX, hlk, hfr, hlo⟩ := C
  obtain ⟨hd, rfl⟩ := hd
  intro H lc ls hP hD hS hl2
  exact lv_ishl hx hb hd (kk H lc ls hP hD hS hl2)
theorem x_ishr (C : XC sh w own cc l0 d0 x) {a b : Int32} (hd : dc cc pc .ishr 1 n) (kk : WX sh w x S n lo (.int (jshr a b) :: st)) : WX sh w x S pc lo (.int b :: .int a :: st) := by
  obtain ⟨p, l, e, R, s, m, args, below, meth, c, Q, A, nL⟩ := x
  obtain ⟨⟨hx, hb, hml, hown, hts⟩, rfl, hK, hA, hAk, hSX, hlk, hfr, hlo⟩ := C
  obtain ⟨hd, rfl⟩ := hd
  intro H lc ls hP hD hS hl2
  exact lv_ishr hx hb hd (kk H lc ls hP hD hS hl2)
theorem x_ladd (C : XC sh w own cc l0 d0 x) {a b : Int64} (hd : dc cc pc .ladd 1 n) (kk : WX sh w x S n lo (.long (a + b) :: st)) : WX sh w x S pc lo (.long b :: .long a :: st) := by
  obtain ⟨p, l, e, R, s, m, args, below, meth, c, Q, A, nL⟩ := x
  obtain ⟨⟨hx, hb, hml, hown, hts⟩, rfl, hK, hA, hAk, hSX, hlk, hfr, hlo⟩ := C
  obtain ⟨hd, rfl⟩ := hd
  intro H lc ls hP hD hS hl2
  exact lv_ladd hx hb hd (kk H lc ls hP hD hS hl2)
theorem x_lsub (C : XC sh w own cc l0 d0 x) {a b : Int64} (hd : dc cc pc .lsub 1 n) (kk : WX sh w x S n lo (.long (a - b) :: st)) : WX sh w x S pc lo (.long b :: .long a :: st) := by
  obtain ⟨p, l, e, R, s, m, args, below, meth, c, Q, A, nL⟩ := x
  obtain ⟨⟨hx, hb, hml, hown, hts⟩, rfl, hK, hA, hAk, hSX, hlk, hfr, hlo⟩ := C
  obtain ⟨hd, rfl⟩ := hd
  intro H lc ls hP hD hS hl2
  exact lv_lsub hx hb hd (kk H lc ls hP hD hS hl2)
theorem x_land (C : XC sh w own cc l0 d0 x) {a b : Int64} (hd : dc cc pc .land 1 n) (kk : WX sh w x S n lo (.long (a &&& b) :: st)) : WX sh w x S pc lo (.long b :: .long a :: st) := by
  obtain ⟨p, l, e, R, s, m, args, below, meth, c, Q, A, nL⟩ := x
  obtain ⟨⟨hx, hb, hml, hown, hts⟩, rfl, hK, hA, hAk, hSX, hlk, hfr, hlo⟩ := C
  obtain ⟨hd, rfl⟩ := hd
  intro H lc ls hP hD hS hl2
  exact lv_land hx hb hd (kk H lc ls hP hD hS hl2)
theorem x_lor (C : XC sh w own cc l0 d0 x) {a b : Int64} (hd : dc cc pc .lor 1 n) (kk : WX sh w x S n lo (.long (a ||| b) :: st)) : WX sh w x S pc lo (.long b :: .long a :: st) := by
  obtain ⟨p, l, e, R, s, m, args, below, meth, c, Q, A, nL⟩ := x
  obtain ⟨⟨hx, hb, hml, hown, hts⟩, rfl, hK, hA, hAk, hSX, hlk, hfr, hlo⟩ := C
  obtain ⟨hd, rfl⟩ := hd
  intro H lc ls hP hD hS hl2
  exact lv_lor hx hb hd (kk H lc ls hP hD hS hl2)
theorem x_lxor (C : XC sh w own cc l0 d0 x) {a b : Int64} (hd : dc cc pc .lxor 1 n) (kk : WX sh w x S n lo (.long (a ^^^ b) :: st)) : WX sh w x S pc lo (.long b :: .long a :: st) := by
  obtain ⟨p, l, e, R, s, m, args, below, meth, c, Q, A, nL⟩ := x
  obtain ⟨⟨hx, hb, hml, hown, hts⟩, rfl, hK, hA, hAk, hSX, hlk, hfr, hlo⟩ := C
  obtain ⟨hd, rfl⟩ := hd
  intro H lc ls hP hD hS hl2
  exact lv_lxor hx hb hd (kk H lc ls hP hD hS hl2)
theorem x_idiv (C : XC sh w own cc l0 d0 x) {a b : Int32} (hd : dc cc pc .idiv 1 n) (hne : ¬ b = 0) (kk : WX sh w x S n lo (.int (a / b) :: st)) : WX sh w x S pc lo (.int b :: .int a :: st) := by
  obtain ⟨p, l, e, R, s, m, args, below, meth, c, Q, A, nL⟩ := x
  obtain ⟨⟨hx, hb, hml, hown, hts⟩, rfl, hK, hA, hAk, hSX, hlk, hfr, hlo⟩ := C
  obtain ⟨hd, rfl⟩ := hd
  intro H lc ls hP hD hS hl2
  exact lv_idiv hx hb hd hne (kk H lc ls hP hD hS hl2)
theorem x_irem (C : XC sh w own cc l0 d0 x) {a b : Int32} (hd : dc cc pc .irem 1 n) (hne : ¬ b = 0) (kk : WX sh w x S n lo (.int (jrem a b) :: st)) : WX sh w x S pc lo (.int b :: .int a :: st) := by
  obtain ⟨p, l, e, R, s, m, args, below, meth, c, Q, A, nL⟩ := x
  obtain ⟨⟨hx, hb, hml, hown, hts⟩, rfl, hK, hA, hAk, hSX, hlk, hfr, hlo⟩ := C
  obtain ⟨hd, rfl⟩ := hd
  intro H lc ls hP hD hS hl2
  exact lv_irem hx hb hd hne (kk H lc ls hP hD hS hl2)
theorem x_ineg (C : XC sh w own cc l0 d0 x) {a : Int32} (hd : dc cc pc .ineg 1 n) (kk : WX sh w x S n lo (.int (-a) :: st)) : WX sh w x S pc lo (.int a :: st) := by
  obtain ⟨p, l, e, R, s, m, args, below, meth, c, Q, A, nL⟩ := x
  obtain ⟨⟨hx, hb, hml, hown, hts⟩, rfl, hK, hA, hAk, hSX, hlk, hfr, hlo⟩ := C
  obtain ⟨hd, rfl⟩ := hd
  intro H lc ls hP hD hS hl2
  exact lv_ineg hx hb hd (kk H lc ls hP hD hS hl2)
theorem x_iushr (C : XC sh w own cc l0 d0 x) {a b : Int32} (hd : dc cc pc .iushr 1 n) (kk : WX sh w x S n lo (.int (jushr a b) :: st)) : WX sh w x S pc lo (.int b :: .int a :: st) := by
  obtain ⟨p, l, e, R, s, m, args, below, meth, c, Q, A, nL⟩ := x
  obtain ⟨⟨hx, hb, hml, hown, hts⟩, rfl, hK, hA, hAk, hSX, hlk, hfr, hlo⟩ := C
  obtain ⟨hd, rfl⟩ := hd
  intro H lc ls hP hD hS hl2
  exact lv_iushr hx hb hd rfl (kk H lc ls hP hD hS hl2)
theorem x_lushr (C : XC sh w own cc l0 d0 x) {a : Int64} {b : Int32} (hd : dc cc pc .lushr 1 n) (kk : WX sh w x S n lo (.long (jlushr a b) :: st)) : WX sh w x S pc lo (.int b :: .long a :: st) := by
  obtain ⟨p, l, e, R, s, m, args, below, meth, c, Q, A, nL⟩ := x
  obtain ⟨⟨hx, hb, hml, hown, hts⟩, rfl, hK, hA, hAk, hSX, hlk, hfr, hlo⟩ := C
  obtain ⟨hd, rfl⟩ := hd
  intro H lc ls hP hD hS hl2
  exact lv_lushr hx hb hd rfl (kk H lc ls hP hD hS hl2)
theorem x_lshl (C : XC sh w own cc l0 d0 x) {a : Int64} {b : Int32} (hd : dc cc pc .lshl 1 n) (kk : WX sh w x S n lo (.long (jlshl a b) :: st)) : WX sh w x S pc lo (.int b :: .long a :: st) := by
  obtain ⟨p, l, e, R, s, m, args, below, meth, c, Q, A, nL⟩ := x
  obtain ⟨⟨hx, hb, hml, hown, hts⟩, rfl, hK, hA, hAk, hSX, hlk, hfr, hlo⟩ := C
  obtain ⟨hd, rfl⟩ := hd
  intro H lc ls hP hD hS hl2
  exact lv_lshl hx hb hd rfl (kk H lc ls hP hD hS hl2)
theorem x_lshr (C : XC sh w own cc l0 d0 x) {a : Int64} {b : Int32} (hd : dc cc pc .lshr 1 n) (kk : WX sh w x S n lo (.long (jlshr a b) :: st)) : WX sh w x S pc lo (.int b :: .long a :: st) := by
  obtain ⟨p, l, e, R, s, m, args, below, meth, c, Q, A, nL⟩ := x
  obtain ⟨⟨hx, hb, hml, hown, hts⟩, rfl, hK, hA, hAk, hSX, hlk, hfr, hlo⟩ := C
  obtain ⟨hd, rfl⟩ := hd
  intro H lc ls hP hD hS hl2
  exact lv_lshr hx hb hd rfl (kk H lc ls hP hD hS hl2)
theorem x_i2l (C : XC sh w own cc l0 d0 x) {a : Int32} (hd : dc cc pc .i2l 1 n) (kk : WX sh w x S n lo (.long a.toInt64 :: st)) : WX sh w x S pc lo (.int a :: st) := by
  obtain ⟨p, l, e, R, s, m, args, below, meth, c, Q, A, nL⟩ := x
  obtain ⟨⟨hx, hb, hml, hown, hts⟩, rfl, hK, hA, hAk, hSX, hlk, hfr, hlo⟩ := C
  obtain ⟨hd, rfl⟩ := hd
  intro H lc ls hP hD hS hl2
  exact lv_i2l hx hb hd rfl (kk H lc ls hP hD hS hl2)
theorem x_l2i (C : XC sh w own cc l0 d0 x) {a : Int64} (hd : dc cc pc .l2i 1 n) (kk : WX sh w x S n lo (.int a.toInt32 :: st)) : WX sh w x S pc lo (.long a :: st) := by
  obtain ⟨p, l, e, R, s, m, args, below, meth, c, Q, A, nL⟩ := x
  obtain ⟨⟨hx, hb, hml, hown, hts⟩, rfl, hK, hA, hAk, hSX, hlk, hfr, hlo⟩ := C
  obtain ⟨hd, rfl⟩ := hd
  intro H lc ls hP hD hS hl2
  exact lv_l2i hx hb hd rfl (kk H lc ls hP hD hS hl2)
theorem x_i2b (C : XC sh w own cc l0 d0 x) {a : Int32} (hd : dc cc pc .i2b 1 n) (kk : WX sh w x S n lo (.int (jb a) :: st)) : WX sh w x S pc lo (.int a :: st) := by
  obtain ⟨p, l, e, R, s, m, args, below, meth, c, Q, A, nL⟩ := x
  obtain ⟨⟨hx, hb, hml, hown, hts⟩, rfl, hK, hA, hAk, hSX, hlk, hfr, hlo⟩ := C
  obtain ⟨hd, rfl⟩ := hd
  intro H lc ls hP hD hS hl2
  exact lv_i2b hx hb hd rfl (kk H lc ls hP hD hS hl2)
theorem x_i2s (C : XC sh w own cc l0 d0 x) {a : Int32} (hd : dc cc pc .i2s 1 n) (kk : WX sh w x S n lo (.int (js a) :: st)) : WX sh w x S pc lo (.int a :: st) := by
  obtain ⟨p, l, e, R, s, m, args, below, meth, c, Q, A, nL⟩ := x
  obtain ⟨⟨hx, hb, hml, hown, hts⟩, rfl, hK, hA, hAk, hSX, hlk, hfr, hlo⟩ := C
  obtain ⟨hd, rfl⟩ := hd
  intro H lc ls hP hD hS hl2
  exact lv_i2s hx hb hd rfl (kk H lc ls hP hD hS hl2)
theorem x_lcmp (C : XC sh w own cc l0 d0 x) {a b : Int64} (hd : dc cc pc .lcmp 1 n) (kk : WX sh w x S n lo (.int (lg_cmp a b) :: st)) : WX sh w x S pc lo (.long b :: .long a :: st) := by
  obtain ⟨p, l, e, R, s, m, args, below, meth, c, Q, A, nL⟩ := x
  obtain ⟨⟨hx, hb, hml, hown, hts⟩, rfl, hK, hA, hAk, hSX, hlk, hfr, hlo⟩ := C
  obtain ⟨hd, rfl⟩ := hd
  intro H lc ls hP hD hS hl2
  exact W.lcmp hx hb hd (kk H lc ls hP hD hS hl2)
theorem x_dup (C : XC sh w own cc l0 d0 x) {va : Value} (hd : dc cc pc .dup 1 n) (hc : va.category = 1) (kk : WX sh w x S n lo (va :: va :: st)) : WX sh w x S pc lo (va :: st) := by
  obtain ⟨p, l, e, R, s, m, args, below, meth, c, Q, A, nL⟩ := x
  obtain ⟨⟨hx, hb, hml, hown, hts⟩, rfl, hK, hA, hAk, hSX, hlk, hfr, hlo⟩ := C
  obtain ⟨hd, rfl⟩ := hd
  intro H lc ls hP hD hS hl2
  exact lv_dup hx hb hd hc (kk H lc ls hP hD hS hl2)
theorem x_dup2 (C : XC sh w own cc l0 d0 x) {va vb : Value} (hd : dc cc pc .dup2 1 n) (hc : va.category = 1) (hc2 : vb.category = 1) (kk : WX sh w x S n lo (va :: vb :: va :: vb :: st)) : WX sh w x S pc lo (va :: vb :: st) := by
  obtain ⟨p, l, e, R, s, m, args, below, meth, c, Q, A, nL⟩ := x
  obtain ⟨⟨hx, hb, hml, hown, hts⟩, rfl, hK, hA, hAk, hSX, hlk, hfr, hlo⟩ := C
  obtain ⟨hd, rfl⟩ := hd
  intro H lc ls hP hD hS hl2
  exact lv_dup2_11 hx hb hd hc hc2 (kk H lc ls hP hD hS hl2)
theorem x_pop (C : XC sh w own cc l0 d0 x) {va : Value} (hd : dc cc pc .pop 1 n) (hc : va.category = 1) (kk : WX sh w x S n lo st) : WX sh w x S pc lo (va :: st) := by
  obtain ⟨p, l, e, R, s, m, args, below, meth, c, Q, A, nL⟩ := x
  obtain ⟨⟨hx, hb, hml, hown, hts⟩, rfl, hK, hA, hAk, hSX, hlk, hfr, hlo⟩ := C
  obtain ⟨hd, rfl⟩ := hd
  intro H lc ls hP hD hS hl2
  exact lv_pop hx hb hd hc (kk H lc ls hP hD hS hl2)
theorem x_icmp_eq (C : XC sh w own cc l0 d0 x) {a b : Int32} {t : Nat} {off : Int} {α : Type} {X Y : Option α} {rs : α} (hd : dj cc pc (.if_icmp .eq off) off n t) (hf : (if a = b then X else Y) = some rs) (kX : X = some rs → WX sh w x S t lo st) (kY : Y = some rs → WX sh w x S n lo st) : WX sh w x S pc lo (.int b :: .int a :: st) := by
  obtain ⟨p, l, e, R, s, m, args, below, meth, c, Q, A, nL⟩ := x
  obtain ⟨⟨hx, hb, hml, hown, hts⟩, rfl, hK, hA, hAk, hSX, hlk, hfr, hlo⟩ := C
  obtain ⟨hd, rfl, ht⟩ := hd
  intro H lc ls hP hD hS hl2
  exact lv_icmp_eq hx hb hd ht (fun q => kX (by rw [if_pos q] at hf; exact hf) H lc ls hP hD hS hl2) (fun q => kY (by rw [if_neg q] at hf; exact hf) H lc ls hP hD hS hl2)
theorem x_icmp_ne (C : XC sh w own cc l0 d0 x) {a b : Int32} {t : Nat} {off : Int} {α : Type} {X Y : Option α} {rs : α} (hd : dj cc pc (.if_icmp .ne off) off n t) (hf : (if a = b then X else Y) = some rs) (kX : X = some rs → WX sh w x S n lo st) (kY : Y = some rs → WX sh w x S t lo st) : WX sh w x S pc lo (.int b :: .int a :: st) := by
  obtain ⟨p, l, e, R, s, m, args, below, meth, c, Q, A, nL⟩ := x
  obtain ⟨⟨hx, hb, hml, hown, hts⟩, rfl, hK, hA, hAk, hSX, hlk, hfr, hlo⟩ := C
  obtain ⟨hd, rfl, ht⟩ := hd
  intro H lc ls hP hD hS hl2
  exact lv_icmp_ne hx hb hd ht (fun q => kY (by rw [if_neg q] at hf; exact hf) H lc ls hP hD hS hl2) (fun q => kX (by rw [if_pos q] at hf; exact hf) H lc ls hP hD hS hl2)
theorem x_icmp_lt (C : XC sh w own cc l0 d0 x) {a b : Int32} {t : Nat} {off : Int} {α : Type} {X Y : Option α} {rs : α} (hd : dj cc pc (.if_icmp .lt off) off n t) (hf : (if a < b then X else Y) = some rs) (kX : X = some rs → WX sh w x S t lo st) (kY : Y = some rs → WX sh w x S n lo st) : WX sh w x S pc lo (.int b :: .int a :: st) := by
  obtain ⟨p, l, e, R, s, m, args, below, meth, c, Q, A, nL⟩ := x
  obtain ⟨⟨hx, hb, hml, hown, hts⟩, rfl, hK, hA, hAk, hSX, hlk, hfr, hlo⟩ := C
  obtain ⟨hd, rfl, ht⟩ := hd
  intro H lc ls hP hD hS hl2
  exact lv_icmp_lt hx hb hd ht (fun q => kX (by rw [if_pos q] at hf; exact hf) H lc ls hP hD hS hl2) (fun q => kY (by rw [if_neg q] at hf; exact hf) H lc ls hP hD hS hl2)
theorem x_icmp_ge (C : XC sh w own cc l0 d0 x) {a b : Int32} {t : Nat} {off : Int} {α : Type} {X Y : Option α} {rs : α} (hd : dj cc pc (.if_icmp .ge off) off n t) (hf : (if a < b then X else Y) = some rs) (kX : X = some rs → WX sh w x S n lo st) (kY : Y = some rs → WX sh w x S t lo st) : WX sh w x S pc lo (.int b :: .int a :: st) := by
  obtain ⟨p, l, e, R, s, m, args, below, meth, c, Q, A, nL⟩ := x
  obtain ⟨⟨hx, hb, hml, hown, hts⟩, rfl, hK, hA, hAk, hSX, hlk, hfr, hlo⟩ := C
  obtain ⟨hd, rfl, ht⟩ := hd
  intro H lc ls hP hD hS hl2
  exact lv_icmp_ge hx hb hd ht (fun q => kY (by rw [if_neg (Int32.not_lt.mpr q)] at hf; exact hf) H lc ls hP hD hS hl2) (fun q => kX (by rw [if_pos (Int32.not_le.mp q)] at hf; exact hf) H lc ls hP hD hS hl2)
theorem x_icmp_gt (C : XC sh w own cc l0 d0 x) {a b : Int32} {t : Nat} {off : Int} {α : Type} {X Y : Option α} {rs : α} (hd : dj cc pc (.if_icmp .gt off) off n t) (hf : (if b < a then X else Y) = some rs) (kX : X = some rs → WX sh w x S t lo st) (kY : Y = some rs → WX sh w x S n lo st) : WX sh w x S pc lo (.int b :: .int a :: st) := by
  obtain ⟨p, l, e, R, s, m, args, below, meth, c, Q, A, nL⟩ := x
  obtain ⟨⟨hx, hb, hml, hown, hts⟩, rfl, hK, hA, hAk, hSX, hlk, hfr, hlo⟩ := C
  obtain ⟨hd, rfl, ht⟩ := hd
  intro H lc ls hP hD hS hl2
  exact lv_icmp_gt hx hb hd ht (fun q => kX (by rw [if_pos q] at hf; exact hf) H lc ls hP hD hS hl2) (fun q => kY (by rw [if_neg q] at hf; exact hf) H lc ls hP hD hS hl2)
theorem x_icmp_le (C : XC sh w own cc l0 d0 x) {a b : Int32} {t : Nat} {off : Int} {α : Type} {X Y : Option α} {rs : α} (hd : dj cc pc (.if_icmp .le off) off n t) (hf : (if b < a then X else Y) = some rs) (kX : X = some rs → WX sh w x S n lo st) (kY : Y = some rs → WX sh w x S t lo st) : WX sh w x S pc lo (.int b :: .int a :: st) := by
  obtain ⟨p, l, e, R, s, m, args, below, meth, c, Q, A, nL⟩ := x
  obtain ⟨⟨hx, hb, hml, hown, hts⟩, rfl, hK, hA, hAk, hSX, hlk, hfr, hlo⟩ := C
  obtain ⟨hd, rfl, ht⟩ := hd
  intro H lc ls hP hD hS hl2
  exact lv_icmp_le hx hb hd ht (fun q => kY (by rw [if_neg (Int32.not_lt.mpr q)] at hf; exact hf) H lc ls hP hD hS hl2) (fun q => kX (by rw [if_pos (Int32.not_le.mp q)] at hf; exact hf) H lc ls hP hD hS hl2)
theorem x_if_eq (C : XC sh w own cc l0 d0 x) {a : Int32} {t : Nat} {off : Int} {α : Type} {X Y : Option α} {rs : α} (hd : dj cc pc (.ifCond .eq off) off n t) (hf : (if a = 0 then X else Y) = some rs) (kX : X = some rs → WX sh w x S t lo st) (kY : Y = some rs → WX sh w x S n lo st) : WX sh w x S pc lo (.int a :: st) := by
  obtain ⟨p, l, e, R, s, m, args, below, meth, c, Q, A, nL⟩ := x
  obtain ⟨⟨hx, hb, hml, hown, hts⟩, rfl, hK, hA, hAk, hSX, hlk, hfr, hlo⟩ := C
  obtain ⟨hd, rfl, ht⟩ := hd
  intro H lc ls hP hD hS hl2
  exact lv_if_eq hx hb hd ht (fun q => kX (by rw [if_pos q] at hf; exact hf) H lc ls hP hD hS hl2) (fun q => kY (by rw [if_neg q] at hf; exact hf) H lc ls hP hD hS hl2)
theorem x_if_ne (C : XC sh w own cc l0 d0 x) {a : Int32} {t : Nat} {off : Int} {α : Type} {X Y : Option α} {rs : α} (hd : dj cc pc (.ifCond .ne off) off n t) (hf : (if a = 0 then X else Y) = some rs) (kX : X = some rs → WX sh w x S n lo st) (kY : Y = some rs → WX sh w x S t lo st) : WX sh w x S pc lo (.int a :: st) := by
  obtain ⟨p, l, e, R, s, m, args, below, meth, c, Q, A, nL⟩ := x
  obtain ⟨⟨hx, hb, hml, hown, hts⟩, rfl, hK, hA, hAk, hSX, hlk, hfr, hlo⟩ := C
  obtain ⟨hd, rfl, ht⟩ := hd
  intro H lc ls hP hD hS hl2
  exact lv_if_ne hx hb hd ht (fun q => kY (by rw [if_neg q] at hf; exact hf) H lc ls hP hD hS hl2) (fun q => kX (by rw [if_pos q] at hf; exact hf) H lc ls hP hD hS hl2)
theorem x_if_lt (C : XC sh w own cc l0 d0 x) {a : Int32} {t : Nat} {off : Int} {α : Type} {X Y : Option α} {rs : α} (hd : dj cc pc (.ifCond .lt off) off n t) (hf : (if a < 0 then X else Y) = some rs) (kX : X = some rs → WX sh w x S t lo st) (kY : Y = some rs → WX sh w x S n lo st) : WX sh w x S pc lo (.int a :: st) := by
  obtain ⟨p, l, e, R, s, m, args, below, meth, c, Q, A, nL⟩ := x
  obtain ⟨⟨hx, hb, hml, hown, hts⟩, rfl, hK, hA, hAk, hSX, hlk, hfr, hlo⟩ := C
  obtain ⟨hd, rfl, ht⟩ := hd
  intro H lc ls hP hD hS hl2
  exact lv_if_lt hx hb hd ht (fun q => kX (by rw [if_pos q] at hf; exact hf) H lc ls hP hD hS hl2) (fun q => kY (by rw [if_neg q] at hf; exact hf) H lc ls hP hD hS hl2)
theorem x_if_ge (C : XC sh w own cc l0 d0 x) {a : Int32} {t : Nat} {off : Int} {α : Type} {X Y : Option α} {rs : α} (hd : dj cc pc (.ifCond .ge off) off n t) (hf : (if a < 0 then X else Y) = some rs) (kX : X = some rs → WX sh w x S n lo st) (kY : Y = some rs → WX sh w x S t lo st) : WX sh w x S pc lo (.int a :: st) := by
  obtain ⟨p, l, e, R, s, m, args, below, meth, c, Q, A, nL⟩ := x
  obtain ⟨⟨hx, hb, hml, hown, hts⟩, rfl, hK, hA, hAk, hSX, hlk, hfr, hlo⟩ := C
  obtain ⟨hd, rfl, ht⟩ := hd
  intro H lc ls hP hD hS hl2
  exact lv_if_ge hx hb hd ht (fun q => kY (by rw [if_neg (Int32.not_lt.mpr q)] at hf; exact hf) H lc ls hP hD hS hl2) (fun q => kX (by rw [if_pos (Int32.not_le.mp q)] at hf; exact hf) H lc ls hP hD hS hl2)
theorem x_if_gt (C : XC sh w own cc l0 d0 x) {a : Int32} {t : Nat} {off : Int} {α : Type} {X Y : Option α} {rs : α} (hd : dj cc pc (.ifCond .gt off) off n t) (hf : (if 0 < a then X else Y) = some rs) (kX : X = some rs → WX sh w x S t lo st) (kY : Y = some rs → WX sh w x S n lo st) : WX sh w x S pc lo (.int a :: st) := by
  obtain ⟨p, l, e, R, s, m, args, below, meth, c, Q, A, nL⟩ := x
  obtain ⟨⟨hx, hb, hml, hown, hts⟩, rfl, hK, hA, hAk, hSX, hlk, hfr, hlo⟩ := C
  obtain ⟨hd, rfl, ht⟩ := hd
  intro H lc ls hP hD hS hl2
  exact lv_if_gt hx hb hd ht (fun q => kX (by rw [if_pos q] at hf; exact hf) H lc ls hP hD hS hl2) (fun q => kY (by rw [if_neg q] at hf; exact hf) H lc ls hP hD hS hl2)
theorem x_if_le (C : XC sh w own cc l0 d0 x) {a : Int32} {t : Nat} {off : Int} {α : Type} {X Y : Option α} {rs : α} (hd : dj cc pc (.ifCond .le off) off n t) (hf : (if 0 < a then X else Y) = some rs) (kX : X = some rs → WX sh w x S n lo st) (kY : Y = some rs → WX sh w x S t lo st) : WX sh w x S pc lo (.int a :: st) := by
  obtain ⟨p, l, e, R, s, m, args, below, meth, c, Q, A, nL⟩ := x
  obtain ⟨⟨hx, hb, hml, hown, hts⟩, rfl, hK, hA, hAk, hSX, hlk, hfr, hlo⟩ := C
  obtain ⟨hd, rfl, ht⟩ := hd
  intro H lc ls hP hD hS hl2
  exact lv_if_le hx hb hd ht (fun q => kY (by rw [if_neg (Int32.not_lt.mpr q)] at hf; exact hf) H lc ls hP hD hS hl2) (fun q => kX (by rw [if_pos (Int32.not_le.mp q)] at hf; exact hf) H lc ls hP hD hS hl2)
theorem x_goto (C : XC sh w own cc l0 d0 x) {t : Nat} {off : Int} (hd : dj cc pc (.goto off) off n t) (kk : WX sh w x S t lo st) : WX sh w x S pc lo st := by
  obtain ⟨p, l, e, R, s, m, args, below, meth, c, Q, A, nL⟩ := x
  obtain ⟨⟨hx, hb, hml, hown, hts⟩, rfl, hK, hA, hAk, hSX, hlk, hfr, hlo⟩ := C
  obtain ⟨hd, rfl, ht⟩ := hd
  intro H lc ls hP hD hS hl2
  exact lv_goto hx hb hd ht (kk H lc ls hP hD hS hl2)
theorem pfdI : parseFieldDescriptor "I" = some .int := by decide +kernel
def fo (ci k : Nat) (Cn : String) (nm ds : String) (fin : Bool) (T : u_T) (N : Nat) (tf : Nat → FieldType) : Prop := cls[ci]? = some (Cn, T, N) ∧ (∀ w ∈ u_ws Cn T N, w ∈ tw) ∧ k < N ∧ T k = (Cn, nm, ds, fin) ∧ (∀ k, k < N → parseFieldDescriptor (T k).2.2.1 = some (tf k)) ∧ (∀ a, a < N → ∀ b, b < N → a ≠ b → (T a).2.1 ≠ (T b).2.1)
theorem mkW0 {sh : List Sh} {w : Ww} {S : St} {q : Nat} {s : Sh} (h : sh[q]? = some s) : (mkW w S 0 sh)[q]? = some (w.1 q, mkE w S q s) := by
  have := mkW_get (w := w) (S := S) (q := 0) h
  rwa [Nat.zero_add] at this
theorem mkW_set0 {sh : List Sh} {w : Ww} {S S' : St} {s : Sh} {e : va_E} {q : Nat} (h : sh[q]? = some s) (h2 : ∀ a, a ≠ q → S'.1 a = S.1 a ∧ S'.2 a = S.2 a) (h3 : mkE w S' q s = e) : (mkW w S 0 sh).set q (w.1 q, e) = mkW w S' 0 sh := by
  have := mkW_set (w := w) (S := S) (S' := S') (e := e) (q := 0) h (by rw [Nat.zero_add]; exact h2) (by rw [Nat.zero_add]; exact h3)
  rwa [Nat.zero_add] at this
theorem x_get (C : XC sh w own cc l0 d0 x) {q ci k : Nat} {fl : List (Option Nat)} {Cn nm ds : String} {fin : Bool} {T : u_T} {N idx : Nat} {tf : Nat → FieldType} (hd : dc cc pc (.getfield idx) 3 n) (hfo : fo ci k Cn nm ds fin T N tf) (hl : Cond.fieldLink own idx Cn nm ds ∈ tw) (hq : sh[q]? = some (.inl (ci, fl))) (hk : fl[k]? = some none) (kk : WX sh w x S n lo (.int (S.1 q k) :: st)) : WX sh w x S pc lo (.ref (w.1 q) :: st) := by
  obtain ⟨p, l, e, R, s, m, args, below, meth, c, Q, A, nL⟩ := x
  obtain ⟨⟨hx, hb, hml, hown, hts⟩, rfl, hK, hA, hAk, hSX, hlk, hfr, hlo⟩ := C
  obtain ⟨hd, rfl⟩ := hd
  intro H lc ls hP hD hS hl2
  obtain ⟨hc, hin, hkN, hT, hty, hnm⟩ := hfo
  refine va_get (D := w.2.2.1) (v := .int (S.1 q k)) (C := Cn) (T := T) (N := N) (ref := Cn) (index := idx) hx hb hts hin hown hK hP q (mkW0 hq) hc k hkN (by rw [hT]; exact hts _ hl) (by rw [hT]; exact fun _ h => h) ?_ hd (kk H lc ls hP hD hS hl2)
  rw [mkF_n hk, Nat.zero_add]
theorem x_getr (C : XC sh w own cc l0 d0 x) {q ci k : Nat} {fl : List (Option Nat)} {Cn nm ds : String} {fin : Bool} {T : u_T} {N idx : Nat} {tf : Nat → FieldType} {r : Nat} (hd : dc cc pc (.getfield idx) 3 n) (hfo : fo ci k Cn nm ds fin T N tf) (hl : Cond.fieldLink own idx Cn nm ds ∈ tw) (hq : sh[q]? = some (.inl (ci, fl))) (hk : fl[k]? = some (some r)) (kk : WX sh w x S n lo (.ref (w.1 r) :: st)) : WX sh w x S pc lo (.ref (w.1 q) :: st) := by
  obtain ⟨p, l, e, R, s, m, args, below, meth, c, Q, A, nL⟩ := x
  obtain ⟨⟨hx, hb, hml, hown, hts⟩, rfl, hK, hA, hAk, hSX, hlk, hfr, hlo⟩ := C
  obtain ⟨hd, rfl⟩ := hd
  intro H lc ls hP hD hS hl2
  obtain ⟨hc, hin, hkN, hT, hty, hnm⟩ := hfo
  exact va_get (D := w.2.2.1) (v := .ref (w.1 r)) (C := Cn) (T := T) (N := N) (ref := Cn) (index := idx) hx hb hts hin hown hK hP q (mkW0 hq) hc k hkN (by rw [hT]; exact hts _ hl) (by rw [hT]; exact fun _ h => h) (mkF_s hk) hd (kk H lc ls hP hD hS hl2)
theorem x_put (C : XC sh w own cc l0 d0 x) {q ci k : Nat} {fl : List (Option Nat)} {Cn nm ds : String} {T : u_T} {N idx : Nat} {tf : Nat → FieldType} {v : Int32} {α : Type} {K : St → Option α} {rs : α} (hd : dc cc pc (.putfield idx) 3 n) (hfo : fo ci k Cn nm "I" false T N tf) (hl : Cond.fieldLink own idx Cn nm "I" ∈ tw) (hq : sh[q]? = some (.inl (ci, fl))) (hk : fl[k]? = some none) (hf : bnd (sI S q k v) K = some rs) (kk : ∀ S1, K S1 = some rs → WX sh w x S1 n lo st) : WX sh w x S pc lo (.int v :: .ref (w.1 q) :: st) := by
  obtain ⟨p, l, e, R, s, m, args, below, meth, c, Q, A, nL⟩ := x
  obtain ⟨⟨hx, hb, hml, hown, hts⟩, rfl, hK, hA, hAk, hSX, hlk, hfr, hlo⟩ := C
  obtain ⟨hd, rfl⟩ := hd
  intro H lc ls hP hD hS hl2
  obtain ⟨hc, hin, hkN, hT, hty, hnm⟩ := hfo
  refine va_put (D := w.2.2.1) (v := .int v) (ty := .int) (C := Cn) (T := T) (N := N) (ref := Cn) (index := idx) hx hb hts hin tf hty hnm hown hK hP hD hS q (mkW0 hq) hc k hkN (by rw [hT]; exact hts _ hl) (by rw [hT]; exact fun _ h => h) (by rw [hT]) (by rw [hT]; exact pfdI) rfl rfl (by show k < (mkF w.1 (S.1 q) 0 fl).length; rw [mkF_len]; exact (List.getElem?_eq_some_iff.mp hk).1) hd (fun H1 lc1 hP1 hD1 hS1 => ?_)
  have e9 : (mkW w S 0 sh).set q (w.1 q, Sum.inr (ci, (mkF w.1 (S.1 q) 0 fl).set k (.int v))) = mkW w (sI S q k v) 0 sh := mkW_set0 hq (fun a ha => ⟨by show (if a = q then _ else _) = _; rw [if_neg ha], rfl⟩) (by
    show (Sum.inr (ci, mkF w.1 (if q = q then upd (S.1 q) k v else S.1 q) 0 fl) : va_E) = _
    rw [if_pos rfl, mkF_set hk, Nat.zero_add])
  exact kk _ hf H1 lc1 ls (by rw [← e9]; exact hP1) (by rw [← e9]; exact hD1) hS1 hl2
theorem x_iald (C : XC sh w own cc l0 d0 x) {q len : Nat} {rl : List Nat} {i : Int32} {α : Type} {X : Option α} {rs : α} (hd : dc cc pc .iaload 1 n) (hq : sh[q]? = some (.inr (0, len, rl))) (hf : chk i len X = some rs) (kk : X = some rs → WX sh w x S n lo (.int (S.1 q i.toNatClampNeg) :: st)) : WX sh w x S pc lo (.int i :: .ref (w.1 q) :: st) := by
  obtain ⟨p, l, e, R, s, m, args, below, meth, c, Q, A, nL⟩ := x
  obtain ⟨⟨hx, hb, hml, hown, hts⟩, rfl, hK, hA, hAk, hSX, hlk, hfr, hlo⟩ := C
  obtain ⟨hd, rfl⟩ := hd
  intro H lc ls hP hD hS hl2
  obtain ⟨hi, hi2, hf⟩ := chk_in hf
  exact va_iald hx hb hK hP q 0 (mkW0 hq) rfl hi hd (kk hf H lc ls hP hD hS hl2)
theorem x_bald (C : XC sh w own cc l0 d0 x) {q len : Nat} {rl : List Nat} {i : Int32} {α : Type} {X : Option α} {rs : α} (hd : dc cc pc .baload 1 n) (hq : sh[q]? = some (.inr (2, len, rl))) (hf : chk i len X = some rs) (kk : X = some rs → WX sh w x S n lo (.int (S.1 q i.toNatClampNeg) :: st)) : WX sh w x S pc lo (.int i :: .ref (w.1 q) :: st) := by
  obtain ⟨p, l, e, R, s, m, args, below, meth, c, Q, A, nL⟩ := x
  obtain ⟨⟨hx, hb, hml, hown, hts⟩, rfl, hK, hA, hAk, hSX, hlk, hfr, hlo⟩ := C
  obtain ⟨hd, rfl⟩ := hd
  intro H lc ls hP hD hS hl2
  obtain ⟨hi, hi2, hf⟩ := chk_in hf
  exact va_bald hx hb hK hP q 2 (mkW0 hq) rfl hi hd (kk hf H lc ls hP hD hS hl2)
theorem x_zald (C : XC sh w own cc l0 d0 x) {q len : Nat} {rl : List Nat} {i : Int32} {α : Type} {X : Option α} {rs : α} (hd : dc cc pc .baload 1 n) (hq : sh[q]? = some (.inr (3, len, rl))) (hf : chk i len X = some rs) (kk : X = some rs → WX sh w x S n lo (.int (S.1 q i.toNatClampNeg) :: st)) : WX sh w x S pc lo (.int i :: .ref (w.1 q) :: st) := by
  obtain ⟨p, l, e, R, s, m, args, below, meth, c, Q, A, nL⟩ := x
  obtain ⟨⟨hx, hb, hml, hown, hts⟩, rfl, hK, hA, hAk, hSX, hlk, hfr, hlo⟩ := C
  obtain ⟨hd, rfl⟩ := hd
  intro H lc ls hP hD hS hl2
  obtain ⟨hi, hi2, hf⟩ := chk_in hf
  exact va_zald hx hb hK hP q 3 (mkW0 hq) rfl hi hd (kk hf H lc ls hP hD hS hl2)
theorem x_lald (C : XC sh w own cc l0 d0 x) {q len : Nat} {rl : List Nat} {i : Int32} {α : Type} {X : Option α} {rs : α} (hd : dc cc pc .laload 1 n) (hq : sh[q]? = some (.inr (1, len, rl))) (hf : chk i len X = some rs) (kk : X = some rs → WX sh w x S n lo (.long (S.2 q i.toNatClampNeg) :: st)) : WX sh w x S pc lo (.int i :: .ref (w.1 q) :: st) := by
  obtain ⟨p, l, e, R, s, m, args, below, meth, c, Q, A, nL⟩ := x
  obtain ⟨⟨hx, hb, hml, hown, hts⟩, rfl, hK, hA, hAk, hSX, hlk, hfr, hlo⟩ := C
  obtain ⟨hd, rfl⟩ := hd
  intro H lc ls hP hD hS hl2
  obtain ⟨hi, hi2, hf⟩ := chk_in hf
  exact va_lald hx hb hK hP q 1 (mkW0 hq) rfl hi hd (kk hf H lc ls hP hD hS hl2)
theorem x_aald (C : XC sh w own cc l0 d0 x) {q len : Nat} {rl : List Nat} {i : Int32} {α : Type} {X : Option α} {rs : α} (g : Nat → Nat) (hd : dc cc pc .aaload 1 n) (hq : sh[q]? = some (.inr (4, len, rl))) (hg : ∀ j, j < len → rl[j]? = some (g j)) (hf : chk i len X = some rs) (kk : i.toNatClampNeg < len → X = some rs → WX sh w x S n lo (.ref (w.1 (g i.toNatClampNeg)) :: st)) : WX sh w x S pc lo (.int i :: .ref (w.1 q) :: st) := by
  obtain ⟨p, l, e, R, s, m, args, below, meth, c, Q, A, nL⟩ := x
  obtain ⟨⟨hx, hb, hml, hown, hts⟩, rfl, hK, hA, hAk, hSX, hlk, hfr, hlo⟩ := C
  obtain ⟨hd, rfl⟩ := hd
  intro H lc ls hP hD hS hl2
  obtain ⟨hi, hi2, hf⟩ := chk_in hf
  refine va_aldq hx hb hK hP q 4 (mkW0 hq) rfl hi hd ?_
  rw [show ((rl[i.toNatClampNeg]?).map w.1) = some (w.1 (g i.toNatClampNeg)) by rw [hg _ hi2]; rfl]
  exact kk hi2 hf H lc ls hP hD hS hl2
theorem x_iast (C : XC sh w own cc l0 d0 x) {q len : Nat} {rl : List Nat} {i v : Int32} {α : Type} {K : St → Option α} {rs : α} (hd : dc cc pc .iastore 1 n) (hq : sh[q]? = some (.inr (0, len, rl))) (hf : chk i len (bnd (sI S q i.toNatClampNeg v) K) = some rs) (kk : ∀ S1, K S1 = some rs → WX sh w x S1 n lo st) : WX sh w x S pc lo (.int v :: .int i :: .ref (w.1 q) :: st) := by
  obtain ⟨p, l, e, R, s, m, args, below, meth, c, Q, A, nL⟩ := x
  obtain ⟨⟨hx, hb, hml, hown, hts⟩, rfl, hK, hA, hAk, hSX, hlk, hfr, hlo⟩ := C
  obtain ⟨hd, rfl⟩ := hd
  intro H lc ls hP hD hS hl2
  obtain ⟨hi, hi2, hf⟩ := chk_in hf
  refine va_iast hx hb hK hP hD hS q 0 (mkW0 hq) rfl hi hd (fun H1 lc1 hP1 hD1 hS1 => ?_)
  have e9 : (mkW w S 0 sh).set q (w.1 q, Sum.inl (w.2.1 0, len, Sum.inl (upd (S.1 q) i.toNatClampNeg v))) = mkW w (sI S q i.toNatClampNeg v) 0 sh := mkW_set0 hq (fun a ha => ⟨by show (if a = q then _ else _) = _; rw [if_neg ha], rfl⟩) (by
    show (Sum.inl (w.2.1 0, len, Sum.inl (if q = q then upd (S.1 q) i.toNatClampNeg v else S.1 q)) : va_E) = _
    rw [if_pos rfl])
  exact kk _ hf H1 lc1 ls (by rw [← e9]; exact hP1) (by rw [← e9]; exact hD1) hS1 hl2
theorem x_bast (C : XC sh w own cc l0 d0 x) {q len : Nat} {rl : List Nat} {i v : Int32} {α : Type} {K : St → Option α} {rs : α} (hd : dc cc pc .bastore 1 n) (hq : sh[q]? = some (.inr (2, len, rl))) (hf : chk i len (bnd (sI S q i.toNatClampNeg (vp_nar .byte v)) K) = some rs) (kk : ∀ S1, K S1 = some rs → WX sh w x S1 n lo st) : WX sh w x S pc lo (.int v :: .int i :: .ref (w.1 q) :: st) := by
  obtain ⟨p, l, e, R, s, m, args, below, meth, c, Q, A, nL⟩ := x
  obtain ⟨⟨hx, hb, hml, hown, hts⟩, rfl, hK, hA, hAk, hSX, hlk, hfr, hlo⟩ := C
  obtain ⟨hd, rfl⟩ := hd
  intro H lc ls hP hD hS hl2
  obtain ⟨hi, hi2, hf⟩ := chk_in hf
  refine va_bast hx hb hK hP hD hS q 2 (mkW0 hq) rfl hi hd (fun H1 lc1 hP1 hD1 hS1 => ?_)
  have e9 : (mkW w S 0 sh).set q (w.1 q, Sum.inl (w.2.1 2, len, Sum.inl (upd (S.1 q) i.toNatClampNeg (vp_nar .byte v)))) = mkW w (sI S q i.toNatClampNeg (vp_nar .byte v)) 0 sh := mkW_set0 hq (fun a ha => ⟨by show (if a = q then _ else _) = _; rw [if_neg ha], rfl⟩) (by
    show (Sum.inl (w.2.1 2, len, Sum.inl (if q = q then upd (S.1 q) i.toNatClampNeg (vp_nar .byte v) else S.1 q)) : va_E) = _
    rw [if_pos rfl])
  exact kk _ hf H1 lc1 ls (by rw [← e9]; exact hP1) (by rw [← e9]; exact hD1) hS1 hl2
theorem x_zast (C : XC sh w own cc l0 d0 x) {q len : Nat} {rl : List Nat} {i v : Int32} {α : Type} {K : St → Option α} {rs : α} (hd : dc cc pc .bastore 1 n) (hq : sh[q]? = some (.inr (3, len, rl))) (hv : vp_nar .boolean v = v) (hf : chk i len (bnd (sI S q i.toNatClampNeg v) K) = some rs) (kk : ∀ S1, K S1 = some rs → WX sh w x S1 n lo st) : WX sh w x S pc lo (.int v :: .int i :: .ref (w.1 q) :: st) := by
  obtain ⟨p, l, e, R, s, m, args, below, meth, c, Q, A, nL⟩ := x
  obtain ⟨⟨hx, hb, hml, hown, hts⟩, rfl, hK, hA, hAk, hSX, hlk, hfr, hlo⟩ := C
  obtain ⟨hd, rfl⟩ := hd
  intro H lc ls hP hD hS hl2
  obtain ⟨hi, hi2, hf⟩ := chk_in hf
  refine va_zast hx hb hK hP hD hS q 3 (mkW0 hq) rfl hi hd (fun H1 lc1 hP1 hD1 hS1 => ?_)
  rw [hv] at hP1 hD1
  have e9 : (mkW w S 0 sh).set q (w.1 q, Sum.inl (w.2.1 3, len, Sum.inl (upd (S.1 q) i.toNatClampNeg v))) = mkW w (sI S q i.toNatClampNeg v) 0 sh := mkW_set0 hq (fun a ha => ⟨by show (if a = q then _ else _) = _; rw [if_neg ha], rfl⟩) (by
    show (Sum.inl (w.2.1 3, len, Sum.inl (if q = q then upd (S.1 q) i.toNatClampNeg v else S.1 q)) : va_E) = _
    rw [if_pos rfl])
  exact kk _ hf H1 lc1 ls (by rw [← e9]; exact hP1) (by rw [← e9]; exact hD1) hS1 hl2
theorem x_zastG (C : XC sh w own cc l0 d0 x) {q len : Nat} {rl : List Nat} {i v : Int32} {α : Type} {K : St → Option α} {rs : α} (hd : dc cc pc .bastore 1 n) (hq : sh[q]? = some (.inr (3, len, rl))) (hf : chk i len (bnd (sI S q i.toNatClampNeg (vp_nar .boolean v)) K) = some rs) (kk : ∀ S1, K S1 = some rs → WX sh w x S1 n lo st) : WX sh w x S pc lo (.int v :: .int i :: .ref (w.1 q) :: st) := by
  obtain ⟨p, l, e, R, s, m, args, below, meth, c, Q, A, nL⟩ := x
  obtain ⟨⟨hx, hb, hml, hown, hts⟩, rfl, hK, hA, hAk, hSX, hlk, hfr, hlo⟩ := C
  obtain ⟨hd, rfl⟩ := hd
  intro H lc ls hP hD hS hl2
  obtain ⟨hi, hi2, hf⟩ := chk_in hf
  refine va_zast hx hb hK hP hD hS q 3 (mkW0 hq) rfl hi hd (fun H1 lc1 hP1 hD1 hS1 => ?_)
  have e9 : (mkW w S 0 sh).set q (w.1 q, Sum.inl (w.2.1 3, len, Sum.inl (upd (S.1 q) i.toNatClampNeg (vp_nar .boolean v)))) = mkW w (sI S q i.toNatClampNeg (vp_nar .boolean v)) 0 sh := mkW_set0 hq (fun a ha => ⟨by show (if a = q then _ else _) = _; rw [if_neg ha], rfl⟩) (by
    show (Sum.inl (w.2.1 3, len, Sum.inl (if q = q then upd (S.1 q) i.toNatClampNeg (vp_nar .boolean v) else S.1 q)) : va_E) = _
    rw [if_pos rfl])
  exact kk _ hf H1 lc1 ls (by rw [← e9]; exact hP1) (by rw [← e9]; exact hD1) hS1 hl2
theorem x_last (C : XC sh w own cc l0 d0 x) {q len : Nat} {rl : List Nat} {i : Int32} {v : Int64} {α : Type} {K : St → Option α} {rs : α} (hd : dc cc pc .lastore 1 n) (hq : sh[q]? = some (.inr (1, len, rl))) (hf : chk i len (bnd (sL S q i.toNatClampNeg v) K) = some rs) (kk : ∀ S1, K S1 = some rs → WX sh w x S1 n lo st) : WX sh w x S pc lo (.long v :: .int i :: .ref (w.1 q) :: st) := by
  obtain ⟨p, l, e, R, s, m, args, below, meth, c, Q, A, nL⟩ := x
  obtain ⟨⟨hx, hb, hml, hown, hts⟩, rfl, hK, hA, hAk, hSX, hlk, hfr, hlo⟩ := C
  obtain ⟨hd, rfl⟩ := hd
  intro H lc ls hP hD hS hl2
  obtain ⟨hi, hi2, hf⟩ := chk_in hf
  refine va_last hx hb hK hP hD hS q 1 (mkW0 hq) rfl hi hd (fun H1 lc1 hP1 hD1 hS1 => ?_)
  have e9 : (mkW w S 0 sh).set q (w.1 q, Sum.inl (w.2.1 1, len, Sum.inr (Sum.inl (vp_updL (S.2 q) i.toNatClampNeg v)))) = mkW w (sL S q i.toNatClampNeg v) 0 sh := mkW_set0 hq (fun a ha => ⟨rfl, by show (if a = q then _ else _) = _; rw [if_neg ha]⟩) (by
    show (Sum.inl (w.2.1 1, len, Sum.inr (Sum.inl (if q = q then vp_updL (S.2 q) i.toNatClampNeg v else S.2 q))) : va_E) = _
    rw [if_pos rfl])
  exact kk _ hf H1 lc1 ls (by rw [← e9]; exact hP1) (by rw [← e9]; exact hD1) hS1 hl2
theorem x_alen (C : XC sh w own cc l0 d0 x) {q kd len : Nat} {rl : List Nat} {ty : FieldType} (v : Int32) (hd : dc cc pc .arraylength 1 n) (hq : sh[q]? = some (.inr (kd, len, rl))) (hk : (tysW w)[kd]? = some (w.2.1 kd, ty)) (hv : Int32.ofNat len = v) (kk : WX sh w x S n lo (.int v :: st)) : WX sh w x S pc lo (.ref (w.1 q) :: st) := by
  obtain ⟨p, l, e, R, s, m, args, below, meth, c, Q, A, nL⟩ := x
  obtain ⟨⟨hx, hb, hml, hown, hts⟩, rfl, hK, hA, hAk, hSX, hlk, hfr, hlo⟩ := C
  obtain ⟨hd, rfl⟩ := hd
  intro H lc ls hP hD hS hl2
  exact va_alen hx hb hK hP q kd (mkW0 hq) hk hv hd (kk H lc ls hP hD hS hl2)
theorem x_mmax (C : XC sh w own cc l0 d0 x) {a b : Int32} {idx : Nat} (hd : dc cc pc (.invokestatic idx) 3 n) (hl : Cond.methodLink own idx Lib.Math.max.name ∈ tw) (h1 : Cond.static Lib.Math.max.name ∈ tw ∧ Cond.initialized "java/lang/Math" ∈ tw ∧ Cond.code Lib.Math.max.name Lib.Math.max.code 2 (some .int) ∈ tw) (hr : 1 ≤ d0) (hcat : (st.map fun v => v.category).sum ≤ 8) (kk : WX sh w x S n lo (.int (jmax a b) :: st)) : WX sh w x S pc lo (.int b :: .int a :: st) := by
  obtain ⟨p, l, e, R, s, m, args, below, meth, c, Q, A, nL⟩ := x
  obtain ⟨⟨hx, hb, hml, hown, hts⟩, rfl, hK, hA, hAk, hSX, hlk, hfr, hlo⟩ := C
  obtain ⟨hd, rfl⟩ := hd
  intro H lc ls hP hD hS hl2
  exact va_mmax hx hb (by rw [hml, hl2.1]) hown (hts _ hl) (hts _ h1.1) (hts _ h1.2.1) (hts _ h1.2.2) (Nat.le_trans hr hfr) (by omega) (Nat.zero_le _) (Nat.zero_le _) hd (kk H lc ls hP hD hS hl2)
theorem x_mmin (C : XC sh w own cc l0 d0 x) {a b : Int32} {idx : Nat} (hd : dc cc pc (.invokestatic idx) 3 n) (hl : Cond.methodLink own idx Lib.Math.min.name ∈ tw) (h1 : Cond.static Lib.Math.min.name ∈ tw ∧ Cond.initialized "java/lang/Math" ∈ tw ∧ Cond.code Lib.Math.min.name Lib.Math.min.code 2 (some .int) ∈ tw) (hr : 1 ≤ d0) (hcat : (st.map fun v => v.category).sum ≤ 8) (kk : WX sh w x S n lo (.int (jmin a b) :: st)) : WX sh w x S pc lo (.int b :: .int a :: st) := by
  obtain ⟨p, l, e, R, s, m, args, below, meth, c, Q, A, nL⟩ := x
  obtain ⟨⟨hx, hb, hml, hown, hts⟩, rfl, hK, hA, hAk, hSX, hlk, hfr, hlo⟩ := C
  obtain ⟨hd, rfl⟩ := hd
  intro H lc ls hP hD hS hl2
  exact va_mmin hx hb (by rw [hml, hl2.1]) hown (hts _ hl) (hts _ h1.1) (hts _ h1.2.1) (hts _ h1.2.2) (Nat.le_trans hr hfr) (by omega) (Nat.zero_le _) (Nat.zero_le _) hd (kk H lc ls hP hD hS hl2)
theorem x_copyi (C : XC sh w own cc l0 d0 x) {q0 q1 len0 len idx : Nat} {rl0 rl : List Nat} {cnt : Int32} {α : Type} {K : St → Option α} {rs : α} (hd : dc cc pc (.invokestatic idx) 3 n) (hl : Cond.methodLink own idx arraycopyName ∈ tw) (h1 : Cond.native arraycopyName ∈ tw ∧ Cond.static arraycopyName ∈ tw ∧ Cond.initialized "java/lang/System" ∈ tw) (hq0 : sh[q0]? = some (.inr (0, len0, rl0))) (hq1 : sh[q1]? = some (.inr (0, len, rl))) (hc : ¬ cnt < 0 ∧ cnt.toNatClampNeg ≤ len0 ∧ cnt.toNatClampNeg ≤ len) (hr : 1 ≤ d0) (hcat : (st.map fun v => v.category).sum ≤ 8) (hf : bnd (sA S q1 (va_cpy (S.1 q0) (S.1 q1) 0 0 cnt.toNatClampNeg)) K = some rs) (kk : ∀ S1, K S1 = some rs → WX sh w x S1 n lo st) : WX sh w x S pc lo (.int cnt :: .int 0 :: .ref (w.1 q1) :: .int 0 :: .ref (w.1 q0) :: st) := by
  obtain ⟨p, l, e, R, s, m, args, below, meth, c, Q, A, nL⟩ := x
  obtain ⟨⟨hx, hb, hml, hown, hts⟩, rfl, hK, hA, hAk, hSX, hlk, hfr, hlo⟩ := C
  obtain ⟨hd, rfl⟩ := hd
  intro H lc ls hP hD hS hl2
  have h9 : nativeFrameWords "java/lang/System" "arraycopy" 5 ≤ 40 := by decide +kernel
  have z0 : (0 : Int32).toNatClampNeg = 0 := by decide
  refine va_copyi (sp := 0) (dp := 0) hx hb (by rw [hml, hl2.1]) hown (hts _ hl) (hts _ h1.1) (hts _ h1.2.1) (hts _ h1.2.2) hK hP hD hS q0 q1 0 0 (ty := .int) (mkW0 hq0) (mkW0 hq1) rfl rfl rfl (by decide) (by decide) hc.1 (by rw [z0, Nat.zero_add]; exact hc.2.1) (by rw [z0, Nat.zero_add]; exact hc.2.2) (fun _ _ => rfl) (Nat.le_trans hr hfr) (by omega) hd (fun H1 lc1 hP1 hD1 hS1 => ?_)
  have e9 : (mkW w S 0 sh).set q1 (w.1 q1, Sum.inl (w.2.1 0, len, Sum.inl (va_cpy (S.1 q0) (S.1 q1) 0 0 cnt.toNatClampNeg))) = mkW w (sA S q1 (va_cpy (S.1 q0) (S.1 q1) 0 0 cnt.toNatClampNeg)) 0 sh := mkW_set0 hq1 (fun a ha => ⟨by show (if a = q1 then _ else _) = _; rw [if_neg ha], rfl⟩) (by
    show (Sum.inl (w.2.1 0, len, Sum.inl (if q1 = q1 then va_cpy (S.1 q0) (S.1 q1) 0 0 cnt.toNatClampNeg else S.1 q1)) : va_E) = _
    rw [if_pos rfl])
  exact kk _ hf H1 lc1 ls (by rw [← e9]; exact hP1) (by rw [← e9]; exact hD1) hS1 hl2
theorem x_copyl (C : XC sh w own cc l0 d0 x) {q0 q1 len0 len idx : Nat} {rl0 rl : List Nat} {cnt : Int32} {α : Type} {K : St → Option α} {rs : α} (hd : dc cc pc (.invokestatic idx) 3 n) (hl : Cond.methodLink own idx arraycopyName ∈ tw) (h1 : Cond.native arraycopyName ∈ tw ∧ Cond.static arraycopyName ∈ tw ∧ Cond.initialized "java/lang/System" ∈ tw) (hq0 : sh[q0]? = some (.inr (1, len0, rl0))) (hq1 : sh[q1]? = some (.inr (1, len, rl))) (hc : ¬ cnt < 0 ∧ cnt.toNatClampNeg ≤ len0 ∧ cnt.toNatClampNeg ≤ len) (hr : 1 ≤ d0) (hcat : (st.map fun v => v.category).sum ≤ 8) (hf : bnd (sB S q1 (va_cpy (S.2 q0) (S.2 q1) 0 0 cnt.toNatClampNeg)) K = some rs) (kk : ∀ S1, K S1 = some rs → WX sh w x S1 n lo st) : WX sh w x S pc lo (.int cnt :: .int 0 :: .ref (w.1 q1) :: .int 0 :: .ref (w.1 q0) :: st) := by
  obtain ⟨p, l, e, R, s, m, args, below, meth, c, Q, A, nL⟩ := x
  obtain ⟨⟨hx, hb, hml, hown, hts⟩, rfl, hK, hA, hAk, hSX, hlk, hfr, hlo⟩ := C
  obtain ⟨hd, rfl⟩ := hd
  intro H lc ls hP hD hS hl2
  have h9 : nativeFrameWords "java/lang/System" "arraycopy" 5 ≤ 40 := by decide +kernel
  have z0 : (0 : Int32).toNatClampNeg = 0 := by decide
  refine va_copyl (sp := 0) (dp := 0) hx hb (by rw [hml, hl2.1]) hown (hts _ hl) (hts _ h1.1) (hts _ h1.2.1) (hts _ h1.2.2) hK hP hD hS q0 q1 1 1 (ty := .long) (mkW0 hq0) (mkW0 hq1) rfl rfl rfl (by decide) (by decide) hc.1 (by rw [z0, Nat.zero_add]; exact hc.2.1) (by rw [z0, Nat.zero_add]; exact hc.2.2) (fun _ _ => rfl) (Nat.le_trans hr hfr) (by omega) hd (fun H1 lc1 hP1 hD1 hS1 => ?_)
  have e9 : (mkW w S 0 sh).set q1 (w.1 q1, Sum.inl (w.2.1 1, len, Sum.inr (Sum.inl (va_cpy (S.2 q0) (S.2 q1) 0 0 cnt.toNatClampNeg)))) = mkW w (sB S q1 (va_cpy (S.2 q0) (S.2 q1) 0 0 cnt.toNatClampNeg)) 0 sh := mkW_set0 hq1 (fun a ha => ⟨rfl, by show (if a = q1 then _ else _) = _; rw [if_neg ha]⟩) (by
    show (Sum.inl (w.2.1 1, len, Sum.inr (Sum.inl (if q1 = q1 then va_cpy (S.2 q0) (S.2 q1) 0 0 cnt.toNatClampNeg else S.2 q1))) : va_E) = _
    rw [if_pos rfl])
  exact kk _ hf H1 lc1 ls (by rw [← e9]; exact hP1) (by rw [← e9]; exact hD1) hS1 hl2
theorem x_tin (C : XC sh w own cc l0 d0 x) {a k : Int32} {t len : Nat} {df lo1 hi off : Int} {offs : Array Int} (hd : dc cc pc (.tableswitch df lo1 hi offs) len n) (hk : a = k) (h1 : ¬ k.toInt < lo1) (h2 : ¬ hi < k.toInt) (ho : offs[(k.toInt - lo1).toNat]? = some off) (ht : (pc : Int) + off = (t : Int)) (kk : WX sh w x S t lo st) : WX sh w x S pc lo (.int a :: st) := by
  obtain ⟨p, l, e, R, s, m, args, below, meth, c, Q, A, nL⟩ := x
  obtain ⟨⟨hx, hb, hml, hown, hts⟩, rfl, hK, hA, hAk, hSX, hlk, hfr, hlo⟩ := C
  obtain ⟨hd, rfl⟩ := hd
  intro H lc ls hP hD hS hl2
  subst hk
  exact lv_tableIn hx hb hd h1 h2 ho ht (kk H lc ls hP hD hS hl2)
theorem x_tout (C : XC sh w own cc l0 d0 x) {a : Int32} {t len : Nat} {df lo1 hi : Int} {offs : Array Int} (hd : dc cc pc (.tableswitch df lo1 hi offs) len n) (h1 : a.toInt < lo1 ∨ hi < a.toInt) (ht : (pc : Int) + df = (t : Int)) (kk : WX sh w x S t lo st) : WX sh w x S pc lo (.int a :: st) := by
  obtain ⟨p, l, e, R, s, m, args, below, meth, c, Q, A, nL⟩ := x
  obtain ⟨⟨hx, hb, hml, hown, hts⟩, rfl, hK, hA, hAk, hSX, hlk, hfr, hlo⟩ := C
  obtain ⟨hd, rfl⟩ := hd
  intro H lc ls hP hD hS hl2
  exact lv_tableOut hx hb hd h1 ht (kk H lc ls hP hD hS hl2)
theorem x_look (C : XC sh w own cc l0 d0 x) {a : Int32} {t len : Nat} {df off : Int} {ps : Array (Int × Int)} (hd : dc cc pc (.lookupswitch df ps) len n) (hp : (ps.toList.zip (ps.toList.drop 1)).all (fun (a, next) => a.1 < next.1) = true) (ho : Op.lookupswitch.offset ps.toList df a.toInt = off) (ht : (pc : Int) + off = (t : Int)) (kk : WX sh w x S t lo st) : WX sh w x S pc lo (.int a :: st) := by
  obtain ⟨p, l, e, R, s, m, args, below, meth, c, Q, A, nL⟩ := x
  obtain ⟨⟨hx, hb, hml, hown, hts⟩, rfl, hK, hA, hAk, hSX, hlk, hfr, hlo⟩ := C
  obtain ⟨hd, rfl⟩ := hd
  intro H lc ls hP hD hS hl2
  exact lv_lookup hx hb hd hp ho ht (kk H lc ls hP hD hS hl2)
def cmV (y : MethodName) (Cn : String) (b : ByteArray) (nL : Nat) (ret : Option FieldType) (na : Nat) : Prop := (Cond.instanceMethod y ∈ tw ∧ Cond.selects Cn y y ∈ tw ∧ Cond.initialized Cn ∈ tw ∧ Cond.code y b nL ret ∈ tw) ∧ y.cls = Cn ∧ y.cls ≠ "java/lang/invoke/MethodHandle" ∧ y.cls ≠ "java/lang/invoke/VarHandle" ∧ (parseMethodDescriptor y.desc).map (fun d => d.parameters.length) = some na
def cmS (y : MethodName) (b : ByteArray) (nL : Nat) (ret : Option FieldType) (na : Nat) : Prop := (Cond.static y ∈ tw ∧ Cond.initialized y.cls ∈ tw ∧ Cond.code y b nL ret ∈ tw) ∧ y.cls ≠ "java/lang/invoke/MethodHandle" ∧ y.cls ≠ "java/lang/invoke/VarHandle" ∧ (parseMethodDescriptor y.desc).map (fun d => d.parameters.length) = some na
theorem giC {y : MethodName} {b : ByteArray} {nL : Nat} {ret : Option FieldType} (h : Cond.code y b nL ret ∈ tw) : GoodIn tw (Cond.code y b nL ret :: tw) := by
  intro c hc
  rcases List.mem_cons.mp hc with rfl | hc
  · exact ⟨h, good_of_word (tw_good h)⟩
  · exact ⟨hc, good_of_word (tw_good hc)⟩
theorem giV {y : MethodName} {own Cn : String} {idx : Nat} {b : ByteArray} {nL na : Nat} {ret : Option FieldType} (h : cmV y Cn b nL ret na) (hl : Cond.methodLink own idx y ∈ tw) : GoodIn tw (wsV own idx Cn y (Cond.code y b nL ret :: tw)) := by
  intro c hc
  unfold wsV at hc
  rcases List.mem_append.mp hc with hc | hc
  · simp only [List.mem_cons, List.not_mem_nil, or_false] at hc
    rcases hc with rfl | rfl | rfl | rfl
    · exact ⟨hl, good_of_word (tw_good hl)⟩
    · exact ⟨h.1.1, good_of_word (tw_good h.1.1)⟩
    · exact ⟨h.1.2.1, good_of_word (tw_good h.1.2.1)⟩
    · exact ⟨h.1.2.2.1, good_of_word (tw_good h.1.2.2.1)⟩
  · exact giC h.1.2.2.2 c hc
theorem giS {y : MethodName} {own : String} {idx : Nat} {b : ByteArray} {nL na : Nat} {ret : Option FieldType} (h : cmS y b nL ret na) (hl : Cond.methodLink own idx y ∈ tw) : GoodIn tw (va_wsS own idx y (Cond.code y b nL ret :: tw)) := by
  intro c hc
  unfold va_wsS at hc
  rcases List.mem_append.mp hc with hc | hc
  · simp only [List.mem_cons, List.not_mem_nil, or_false] at hc
    rcases hc with rfl | rfl | rfl
    · exact ⟨hl, good_of_word (tw_good hl)⟩
    · exact ⟨h.1.1, good_of_word (tw_good h.1.1)⟩
    · exact ⟨h.1.2.1, good_of_word (tw_good h.1.2.1)⟩
  · exact giC h.1.2.2 c hc
theorem preM_blind {sh : List Sh} {w : Ww} {S : St} {sz : Nat} {av : List Value} : FrameBlind (va_Pc av (preM sh w S sz)) := by
  intro a U g mk q
  obtain ⟨h1, h2, h3, h4, h5, h6⟩ := q
  exact ⟨h1, h2, h3, va_K.moved (u := U) (U := U.calling g mk a) (Vm.Alike.refl U.vm) h4, h5, vk_S.moved (u := U) (U := U.calling g mk a) (Vm.Alike.refl U.vm) h6.1, fun i hi => vk_R.same (u := U) (U := U.calling g mk a) rfl (h6.2.1 i hi), va_Z.moved (u := U) (U := U.calling g mk a) (Vm.Alike.refl U.vm) h6.2.2.1, va_Zq.moved (u := U) (U := U.calling g mk a) (Vm.Alike.refl U.vm) h6.2.2.2⟩
theorem SX.call {w : Ww} {A B : Nat → Prop} {s U : State} {H : Heap} {lc : List Loc} (h : SX w A s s.heap) (hS : va_S A s.heap H lc) (hU : U.heap = H) (hW : s.WarmedH U.vm) (hAB : ∀ q, B q → A q) : SX w B U U.heap := by
  rw [hU]
  exact ⟨vk_S.moved hW.alike (vk_S.narrow (vk_S.kept h.1 hS.2.1) hAB), fun i hi => vk_R.warm hW (h.2.1 i hi), va_Z.moved hW.alike (va_Z.narrow (va_Z.kept h.2.2.1 hS.2.1) hAB), va_Zq.moved hW.alike (va_Zq.narrow (va_Zq.kept h.2.2.2 hS.2.1) hAB)⟩
theorem preM_of {sh : List Sh} {w : Ww} {S : St} {A : Nat → Prop} {s U : State} {H : Heap} {lc : List Loc} (hP : va_P w.2.2.1 cls (mkW w S 0 sh) H) (hK : va_K w.2.2.1 cls (tysW w) s) (hD : va_D A (mkW w S 0 sh)) (hSX : SX w A s s.heap) (hS : va_S A s.heap H lc) (hU : U.heap = H) (hW : s.WarmedH U.vm) (hAB : ∀ q, AW sh w H.size q → A q) : preM sh w S H.size U :=
  ⟨by rw [hU], by rw [hU]; exact hP, va_K.moved hW.alike hK, hD.weaken (fun _ _ _ _ => trivial), hSX.call hS hU hW hAB⟩
theorem x_cvi (C : XC sh w own cc l0 d0 x) {y : MethodName} {b2 : ByteArray} {nL2 d na idx : Nat} {rt : FieldType} {bz : Int32 → Prop} {st0 : List Value} {α : Type} {rs : α} {q ci N : Nat} {T : u_T} {fl : List (Option Nat)} {Cn : String} {f : Option (Int32 × St)} {K : Int32 → St → Option α} (hd : dc cc pc (.invokevirtual idx) 3 n) (hl : Cond.methodLink own idx y ∈ tw) (cm : cmV y Cn b2 nL2 (some rt) na) (hc : cls[ci]? = some (Cn, T, N)) (hq : sh[q]? = some (.inl (ci, fl))) (As : List Value) (hn : As.length = na) (hst : st0 = As.reverse ++ .ref (w.1 q) :: st) (hro : d + 1 ≤ d0 ∧ nL2 ≤ 41) (hcat : (st.map fun v => v.category).sum ≤ 8) (hf : cal f K = some rs) (hm : ∀ r S1, f = some (r, S1) → MI sh w l0 y b2 nL2 rt d (.ref (w.1 q) :: As) S r S1 bz) (kk : ∀ r S1, K r S1 = some rs → bz r → WX sh w x S1 n lo (.int r :: st)) : WX sh w x S pc lo st0 := by
  obtain ⟨p, l, e, R, s, m, args, below, meth, c, Q, A, nL⟩ := x
  obtain ⟨⟨hx, hb, hml, hown, hts⟩, rfl, hK, hA, hAk, hSX, hlk, hfr, hlo⟩ := C
  obtain ⟨hd, rfl⟩ := hd
  intro H lc ls hP hD hS hl2
  subst hst
  have hAB : ∀ q, AW sh w H.size q → A q := by
    rintro q (⟨k, hk, rfl⟩ | h)
    · exact hAk k hk
    · exact hA q (Nat.le_trans hS.1 h)
  have hroom : (rmD d).frames + 1 ≤ R.frames ∧ 8 + (nL2 + 11) + (rmD d).locals ≤ R.locals := by
    unfold rmD
    dsimp only
    omega
  obtain ⟨r0, S0, hf0, hf⟩ := cal_in hf
  refine va_calli (va_runV (As := As) (rest := st) ⟨hx, hb, hml, hown, hts⟩ (hm r0 S0 hf0 H.size) (cwV na hts (giV cm hl) rfl rfl rfl cm.2 hroom) ⟨preM_blind, va_recv hK hP hc (mkW0 hq), fun U hU hW => ⟨rfl, preM_of hP hK hD hSX hS hU hW hAB⟩⟩ rfl hn hl2.1 rfl (lv_room hcat) hd ⟨Nat.zero_le _, Nat.zero_le _⟩) hS (fun q _ h => hAB q h) hAB (fun r1 u t H1 locs1 ht hvm hw hB hz hk hS1 => ?_)
  obtain ⟨rfl, rfl, hbz⟩ := hw
  obtain ⟨hP1, hD1⟩ := hB
  rw [ht] at hP1
  exact kk _ _ hf hbz H1 locs1 ls hP1 (hD1.weaken (fun _ q _ h => hAB _ h)) hS1 hl2
theorem x_cvl (C : XC sh w own cc l0 d0 x) {y : MethodName} {b2 : ByteArray} {nL2 d na idx : Nat} {st0 : List Value} {α : Type} {rs : α} {q ci N : Nat} {T : u_T} {fl : List (Option Nat)} {Cn : String} {f : Option (Int64 × St)} {K : Int64 → St → Option α} (hd : dc cc pc (.invokevirtual idx) 3 n) (hl : Cond.methodLink own idx y ∈ tw) (cm : cmV y Cn b2 nL2 (some .long) na) (hc : cls[ci]? = some (Cn, T, N)) (hq : sh[q]? = some (.inl (ci, fl))) (As : List Value) (hn : As.length = na) (hst : st0 = As.reverse ++ .ref (w.1 q) :: st) (hro : d + 1 ≤ d0 ∧ nL2 ≤ 41) (hcat : (st.map fun v => v.category).sum ≤ 8) (hf : cal f K = some rs) (hm : ∀ r S1, f = some (r, S1) → ML sh w l0 y b2 nL2 d (.ref (w.1 q) :: As) S r S1) (kk : ∀ r S1, K r S1 = some rs → WX sh w x S1 n lo (.long r :: st)) : WX sh w x S pc lo st0 := by
  obtain ⟨p, l, e, R, s, m, args, below, meth, c, Q, A, nL⟩ := x
  obtain ⟨⟨hx, hb, hml, hown, hts⟩, rfl, hK, hA, hAk, hSX, hlk, hfr, hlo⟩ := C
  obtain ⟨hd, rfl⟩ := hd
  intro H lc ls hP hD hS hl2
  subst hst
  have hAB : ∀ q, AW sh w H.size q → A q := by
    rintro q (⟨k, hk, rfl⟩ | h)
    · exact hAk k hk
    · exact hA q (Nat.le_trans hS.1 h)
  have hroom : (rmD d).frames + 1 ≤ R.frames ∧ 8 + (nL2 + 11) + (rmD d).locals ≤ R.locals := by
    unfold rmD
    dsimp only
    omega
  obtain ⟨r0, S0, hf0, hf⟩ := cal_in hf
  refine va_calll (va_runV (As := As) (rest := st) ⟨hx, hb, hml, hown, hts⟩ (hm r0 S0 hf0 H.size) (cwV na hts (giV cm hl) rfl rfl rfl cm.2 hroom) ⟨preM_blind, va_recv hK hP hc (mkW0 hq), fun U hU hW => ⟨rfl, preM_of hP hK hD hSX hS hU hW hAB⟩⟩ rfl hn hl2.1 rfl (lv_room hcat) hd ⟨Nat.zero_le _, Nat.zero_le _⟩) hS (fun q _ h => hAB q h) hAB (fun r1 u t H1 locs1 ht hvm hw hB hz hk hS1 => ?_)
  obtain ⟨rfl, rfl⟩ := hw
  obtain ⟨hP1, hD1⟩ := hB
  rw [ht] at hP1
  exact kk _ _ hf H1 locs1 ls hP1 (hD1.weaken (fun _ q _ h => hAB _ h)) hS1 hl2
theorem x_cvv (C : XC sh w own cc l0 d0 x) {y : MethodName} {b2 : ByteArray} {nL2 d na idx : Nat} {st0 : List Value} {α : Type} {rs : α} {q ci N : Nat} {T : u_T} {fl : List (Option Nat)} {Cn : String} {f : Option St} {K : St → Option α} (hd : dc cc pc (.invokevirtual idx) 3 n) (hl : Cond.methodLink own idx y ∈ tw) (cm : cmV y Cn b2 nL2 none na) (hc : cls[ci]? = some (Cn, T, N)) (hq : sh[q]? = some (.inl (ci, fl))) (As : List Value) (hn : As.length = na) (hst : st0 = As.reverse ++ .ref (w.1 q) :: st) (hro : d + 1 ≤ d0 ∧ nL2 ≤ 41) (hcat : (st.map fun v => v.category).sum ≤ 8) (hf : cav f K = some rs) (hm : ∀ S1, f = some S1 → MV sh w l0 y b2 nL2 d (.ref (w.1 q) :: As) S S1) (kk : ∀ S1, K S1 = some rs → WX sh w x S1 n lo st) : WX sh w x S pc lo st0 := by
  obtain ⟨p, l, e, R, s, m, args, below, meth, c, Q, A, nL⟩ := x
  obtain ⟨⟨hx, hb, hml, hown, hts⟩, rfl, hK, hA, hAk, hSX, hlk, hfr, hlo⟩ := C
  obtain ⟨hd, rfl⟩ := hd
  intro H lc ls hP hD hS hl2
  subst hst
  have hAB : ∀ q, AW sh w H.size q → A q := by
    rintro q (⟨k, hk, rfl⟩ | h)
    · exact hAk k hk
    · exact hA q (Nat.le_trans hS.1 h)
  have hroom : (rmD d).frames + 1 ≤ R.frames ∧ 8 + (nL2 + 11) + (rmD d).locals ≤ R.locals := by
    unfold rmD
    dsimp only
    omega
  obtain ⟨S0, hf0, hf⟩ := cav_in hf
  refine va_callv (va_runV (As := As) (rest := st) ⟨hx, hb, hml, hown, hts⟩ (hm S0 hf0 H.size) (cwV na hts (giV cm hl) rfl rfl rfl cm.2 hroom) ⟨preM_blind, va_recv hK hP hc (mkW0 hq), fun U hU hW => ⟨rfl, preM_of hP hK hD hSX hS hU hW hAB⟩⟩ rfl hn hl2.1 rfl (lv_room hcat) hd ⟨Nat.zero_le _, Nat.zero_le _⟩) hS (fun q _ h => hAB q h) hAB (fun u t H1 locs1 ht hvm hw hB hz hk hS1 => ?_)
  subst hw
  obtain ⟨hP1, hD1⟩ := hB
  rw [ht] at hP1
  exact kk _ hf H1 locs1 ls hP1 (hD1.weaken (fun _ q _ h => hAB _ h)) hS1 hl2
theorem x_cvr (C : XC sh w own cc l0 d0 x) {y : MethodName} {b2 : ByteArray} {nL2 d na idx : Nat} {rt : FieldType} {bz : Int32 → Prop} {st0 : List Value} {α : Type} {rs : α} {q ci N : Nat} {T : u_T} {fl : List (Option Nat)} {Cn : String} {f : Option Int32} {K : Int32 → Option α} (hd : dc cc pc (.invokevirtual idx) 3 n) (hl : Cond.methodLink own idx y ∈ tw) (cm : cmV y Cn b2 nL2 (some rt) na) (hc : cls[ci]? = some (Cn, T, N)) (hq : sh[q]? = some (.inl (ci, fl))) (As : List Value) (hn : As.length = na) (hst : st0 = As.reverse ++ .ref (w.1 q) :: st) (hro : d + 1 ≤ d0 ∧ nL2 ≤ 41) (hcat : (st.map fun v => v.category).sum ≤ 8) (hf : crd f K = some rs) (hm : ∀ r, f = some r → MI sh w l0 y b2 nL2 rt d (.ref (w.1 q) :: As) S r S bz) (kk : ∀ r, K r = some rs → bz r → WX sh w x S n lo (.int r :: st)) : WX sh w x S pc lo st0 := by
  obtain ⟨p, l, e, R, s, m, args, below, meth, c, Q, A, nL⟩ := x
  obtain ⟨⟨hx, hb, hml, hown, hts⟩, rfl, hK, hA, hAk, hSX, hlk, hfr, hlo⟩ := C
  obtain ⟨hd, rfl⟩ := hd
  intro H lc ls hP hD hS hl2
  subst hst
  have hAB : ∀ q, AW sh w H.size q → A q := by
    rintro q (⟨k, hk, rfl⟩ | h)
    · exact hAk k hk
    · exact hA q (Nat.le_trans hS.1 h)
  have hroom : (rmD d).frames + 1 ≤ R.frames ∧ 8 + (nL2 + 11) + (rmD d).locals ≤ R.locals := by
    unfold rmD
    dsimp only
    omega
  obtain ⟨r0, hf0, hf⟩ := crd_in hf
  refine va_calli (va_runV (As := As) (rest := st) ⟨hx, hb, hml, hown, hts⟩ (hm r0 hf0 H.size) (cwV na hts (giV cm hl) rfl rfl rfl cm.2 hroom) ⟨preM_blind, va_recv hK hP hc (mkW0 hq), fun U hU hW => ⟨rfl, preM_of hP hK hD hSX hS hU hW hAB⟩⟩ rfl hn hl2.1 rfl (lv_room hcat) hd ⟨Nat.zero_le _, Nat.zero_le _⟩) hS (fun q _ h => hAB q h) hAB (fun r1 u t H1 locs1 ht hvm hw hB hz hk hS1 => ?_)
  obtain ⟨rfl, rfl, hbz⟩ := hw
  obtain ⟨hP1, hD1⟩ := hB
  rw [ht] at hP1
  exact kk _ hf hbz H1 locs1 ls hP1 (hD1.weaken (fun _ q _ h => hAB _ h)) hS1 hl2
theorem x_cvq (C : XC sh w own cc l0 d0 x) {y : MethodName} {b2 : ByteArray} {nL2 d na idx : Nat} {st0 : List Value} {α : Type} {rs : α} {q ci N : Nat} {T : u_T} {fl : List (Option Nat)} {Cn : String} {f : Option Int64} {K : Int64 → Option α} (hd : dc cc pc (.invokevirtual idx) 3 n) (hl : Cond.methodLink own idx y ∈ tw) (cm : cmV y Cn b2 nL2 (some .long) na) (hc : cls[ci]? = some (Cn, T, N)) (hq : sh[q]? = some (.inl (ci, fl))) (As : List Value) (hn : As.length = na) (hst : st0 = As.reverse ++ .ref (w.1 q) :: st) (hro : d + 1 ≤ d0 ∧ nL2 ≤ 41) (hcat : (st.map fun v => v.category).sum ≤ 8) (hf : crd f K = some rs) (hm : ∀ r, f = some r → ML sh w l0 y b2 nL2 d (.ref (w.1 q) :: As) S r S) (kk : ∀ r, K r = some rs → WX sh w x S n lo (.long r :: st)) : WX sh w x S pc lo st0 := by
  obtain ⟨p, l, e, R, s, m, args, below, meth, c, Q, A, nL⟩ := x
  obtain ⟨⟨hx, hb, hml, hown, hts⟩, rfl, hK, hA, hAk, hSX, hlk, hfr, hlo⟩ := C
  obtain ⟨hd, rfl⟩ := hd
  intro H lc ls hP hD hS hl2
  subst hst
  have hAB : ∀ q, AW sh w H.size q → A q := by
    rintro q (⟨k, hk, rfl⟩ | h)
    · exact hAk k hk
    · exact hA q (Nat.le_trans hS.1 h)
  have hroom : (rmD d).frames + 1 ≤ R.frames ∧ 8 + (nL2 + 11) + (rmD d).locals ≤ R.locals := by
    unfold rmD
    dsimp only
    omega
  obtain ⟨r0, hf0, hf⟩ := crd_in hf
  refine va_calll (va_runV (As := As) (rest := st) ⟨hx, hb, hml, hown, hts⟩ (hm r0 hf0 H.size) (cwV na hts (giV cm hl) rfl rfl rfl cm.2 hroom) ⟨preM_blind, va_recv hK hP hc (mkW0 hq), fun U hU hW => ⟨rfl, preM_of hP hK hD hSX hS hU hW hAB⟩⟩ rfl hn hl2.1 rfl (lv_room hcat) hd ⟨Nat.zero_le _, Nat.zero_le _⟩) hS (fun q _ h => hAB q h) hAB (fun r1 u t H1 locs1 ht hvm hw hB hz hk hS1 => ?_)
  obtain ⟨rfl, rfl⟩ := hw
  obtain ⟨hP1, hD1⟩ := hB
  rw [ht] at hP1
  exact kk _ hf H1 locs1 ls hP1 (hD1.weaken (fun _ q _ h => hAB _ h)) hS1 hl2
theorem x_csi (C : XC sh w own cc l0 d0 x) {y : MethodName} {b2 : ByteArray} {nL2 d na idx : Nat} {rt : FieldType} {bz : Int32 → Prop} {st0 : List Value} {α : Type} {rs : α} {f : Option (Int32 × St)} {K : Int32 → St → Option α} (hd : dc cc pc (.invokestatic idx) 3 n) (hl : Cond.methodLink own idx y ∈ tw) (cm : cmS y b2 nL2 (some rt) na) (As : List Value) (hn : As.length = na) (hst : st0 = As.reverse ++ st) (hro : d + 1 ≤ d0 ∧ nL2 ≤ 41) (hcat : (st.map fun v => v.category).sum ≤ 8) (hf : cal f K = some rs) (hm : ∀ r S1, f = some (r, S1) → MI sh w l0 y b2 nL2 rt d (As) S r S1 bz) (kk : ∀ r S1, K r S1 = some rs → bz r → WX sh w x S1 n lo (.int r :: st)) : WX sh w x S pc lo st0 := by
  obtain ⟨p, l, e, R, s, m, args, below, meth, c, Q, A, nL⟩ := x
  obtain ⟨⟨hx, hb, hml, hown, hts⟩, rfl, hK, hA, hAk, hSX, hlk, hfr, hlo⟩ := C
  obtain ⟨hd, rfl⟩ := hd
  intro H lc ls hP hD hS hl2
  subst hst
  have hAB : ∀ q, AW sh w H.size q → A q := by
    rintro q (⟨k, hk, rfl⟩ | h)
    · exact hAk k hk
    · exact hA q (Nat.le_trans hS.1 h)
  have hroom : (rmD d).frames + 1 ≤ R.frames ∧ 8 + (nL2 + 11) + (rmD d).locals ≤ R.locals := by
    unfold rmD
    dsimp only
    omega
  obtain ⟨r0, S0, hf0, hf⟩ := cal_in hf
  refine va_calli (va_runS (As := As) (rest := st) ⟨hx, hb, hml, hown, hts⟩ (hm r0 S0 hf0 H.size) (va_cwS na hts (giS cm hl) rfl rfl rfl cm.2 hroom) ⟨preM_blind, fun U hU hW => ⟨rfl, preM_of hP hK hD hSX hS hU hW hAB⟩⟩ rfl hn hl2.1 rfl (lv_room hcat) hd ⟨Nat.zero_le _, Nat.zero_le _⟩) hS (fun q _ h => hAB q h) hAB (fun r1 u t H1 locs1 ht hvm hw hB hz hk hS1 => ?_)
  obtain ⟨rfl, rfl, hbz⟩ := hw
  obtain ⟨hP1, hD1⟩ := hB
  rw [ht] at hP1
  exact kk _ _ hf hbz H1 locs1 ls hP1 (hD1.weaken (fun _ q _ h => hAB _ h)) hS1 hl2
theorem x_csl (C : XC sh w own cc l0 d0 x) {y : MethodName} {b2 : ByteArray} {nL2 d na idx : Nat} {st0 : List Value} {α : Type} {rs : α} {f : Option (Int64 × St)} {K : Int64 → St → Option α} (hd : dc cc pc (.invokestatic idx) 3 n) (hl : Cond.methodLink own idx y ∈ tw) (cm : cmS y b2 nL2 (some .long) na) (As : List Value) (hn : As.length = na) (hst : st0 = As.reverse ++ st) (hro : d + 1 ≤ d0 ∧ nL2 ≤ 41) (hcat : (st.map fun v => v.category).sum ≤ 8) (hf : cal f K = some rs) (hm : ∀ r S1, f = some (r, S1) → ML sh w l0 y b2 nL2 d (As) S r S1) (kk : ∀ r S1, K r S1 = some rs → WX sh w x S1 n lo (.long r :: st)) : WX sh w x S pc lo st0 := by
  obtain ⟨p, l, e, R, s, m, args, below, meth, c, Q, A, nL⟩ := x
  obtain ⟨⟨hx, hb, hml, hown, hts⟩, rfl, hK, hA, hAk, hSX, hlk, hfr, hlo⟩ := C
  obtain ⟨hd, rfl⟩ := hd
  intro H lc ls hP hD hS hl2
  subst hst
  have hAB : ∀ q, AW sh w H.size q → A q := by
    rintro q (⟨k, hk, rfl⟩ | h)
    · exact hAk k hk
    · exact hA q (Nat.le_trans hS.1 h)
  have hroom : (rmD d).frames + 1 ≤ R.frames ∧ 8 + (nL2 + 11) + (rmD d).locals ≤ R.locals := by
    unfold rmD
    dsimp only
    omega
  obtain ⟨r0, S0, hf0, hf⟩ := cal_in hf
  refine va_calll (va_runS (As := As) (rest := st) ⟨hx, hb, hml, hown, hts⟩ (hm r0 S0 hf0 H.size) (va_cwS na hts (giS cm hl) rfl rfl rfl cm.2 hroom) ⟨preM_blind, fun U hU hW => ⟨rfl, preM_of hP hK hD hSX hS hU hW hAB⟩⟩ rfl hn hl2.1 rfl (lv_room hcat) hd ⟨Nat.zero_le _, Nat.zero_le _⟩) hS (fun q _ h => hAB q h) hAB (fun r1 u t H1 locs1 ht hvm hw hB hz hk hS1 => ?_)
  obtain ⟨rfl, rfl⟩ := hw
  obtain ⟨hP1, hD1⟩ := hB
  rw [ht] at hP1
  exact kk _ _ hf H1 locs1 ls hP1 (hD1.weaken (fun _ q _ h => hAB _ h)) hS1 hl2
theorem x_csv (C : XC sh w own cc l0 d0 x) {y : MethodName} {b2 : ByteArray} {nL2 d na idx : Nat} {st0 : List Value} {α : Type} {rs : α} {f : Option St} {K : St → Option α} (hd : dc cc pc (.invokestatic idx) 3 n) (hl : Cond.methodLink own idx y ∈ tw) (cm : cmS y b2 nL2 none na) (As : List Value) (hn : As.length = na) (hst : st0 = As.reverse ++ st) (hro : d + 1 ≤ d0 ∧ nL2 ≤ 41) (hcat : (st.map fun v => v.category).sum ≤ 8) (hf : cav f K = some rs) (hm : ∀ S1, f = some S1 → MV sh w l0 y b2 nL2 d (As) S S1) (kk : ∀ S1, K S1 = some rs → WX sh w x S1 n lo st) : WX sh w x S pc lo st0 := by
  obtain ⟨p, l, e, R, s, m, args, below, meth, c, Q, A, nL⟩ := x
  obtain ⟨⟨hx, hb, hml, hown, hts⟩, rfl, hK, hA, hAk, hSX, hlk, hfr, hlo⟩ := C
  obtain ⟨hd, rfl⟩ := hd
  intro H lc ls hP hD hS hl2
  subst hst
  have hAB : ∀ q, AW sh w H.size q → A q := by
    rintro q (⟨k, hk, rfl⟩ | h)
    · exact hAk k hk
    · exact hA q (Nat.le_trans hS.1 h)
  have hroom : (rmD d).frames + 1 ≤ R.frames ∧ 8 + (nL2 + 11) + (rmD d).locals ≤ R.locals := by
    unfold rmD
    dsimp only
    omega
  obtain ⟨S0, hf0, hf⟩ := cav_in hf
  refine va_callv (va_runS (As := As) (rest := st) ⟨hx, hb, hml, hown, hts⟩ (hm S0 hf0 H.size) (va_cwS na hts (giS cm hl) rfl rfl rfl cm.2 hroom) ⟨preM_blind, fun U hU hW => ⟨rfl, preM_of hP hK hD hSX hS hU hW hAB⟩⟩ rfl hn hl2.1 rfl (lv_room hcat) hd ⟨Nat.zero_le _, Nat.zero_le _⟩) hS (fun q _ h => hAB q h) hAB (fun u t H1 locs1 ht hvm hw hB hz hk hS1 => ?_)
  subst hw
  obtain ⟨hP1, hD1⟩ := hB
  rw [ht] at hP1
  exact kk _ hf H1 locs1 ls hP1 (hD1.weaken (fun _ q _ h => hAB _ h)) hS1 hl2
theorem x_csr (C : XC sh w own cc l0 d0 x) {y : MethodName} {b2 : ByteArray} {nL2 d na idx : Nat} {rt : FieldType} {bz : Int32 → Prop} {st0 : List Value} {α : Type} {rs : α} {f : Option Int32} {K : Int32 → Option α} (hd : dc cc pc (.invokestatic idx) 3 n) (hl : Cond.methodLink own idx y ∈ tw) (cm : cmS y b2 nL2 (some rt) na) (As : List Value) (hn : As.length = na) (hst : st0 = As.reverse ++ st) (hro : d + 1 ≤ d0 ∧ nL2 ≤ 41) (hcat : (st.map fun v => v.category).sum ≤ 8) (hf : crd f K = some rs) (hm : ∀ r, f = some r → MI sh w l0 y b2 nL2 rt d (As) S r S bz) (kk : ∀ r, K r = some rs → bz r → WX sh w x S n lo (.int r :: st)) : WX sh w x S pc lo st0 := by
  obtain ⟨p, l, e, R, s, m, args, below, meth, c, Q, A, nL⟩ := x
  obtain ⟨⟨hx, hb, hml, hown, hts⟩, rfl, hK, hA, hAk, hSX, hlk, hfr, hlo⟩ := C
  obtain ⟨hd, rfl⟩ := hd
  intro H lc ls hP hD hS hl2
  subst hst
  have hAB : ∀ q, AW sh w H.size q → A q := by
    rintro q (⟨k, hk, rfl⟩ | h)
    · exact hAk k hk
    · exact hA q (Nat.le_trans hS.1 h)
  have hroom : (rmD d).frames + 1 ≤ R.frames ∧ 8 + (nL2 + 11) + (rmD d).locals ≤ R.locals := by
    unfold rmD
    dsimp only
    omega
  obtain ⟨r0, hf0, hf⟩ := crd_in hf
  refine va_calli (va_runS (As := As) (rest := st) ⟨hx, hb, hml, hown, hts⟩ (hm r0 hf0 H.size) (va_cwS na hts (giS cm hl) rfl rfl rfl cm.2 hroom) ⟨preM_blind, fun U hU hW => ⟨rfl, preM_of hP hK hD hSX hS hU hW hAB⟩⟩ rfl hn hl2.1 rfl (lv_room hcat) hd ⟨Nat.zero_le _, Nat.zero_le _⟩) hS (fun q _ h => hAB q h) hAB (fun r1 u t H1 locs1 ht hvm hw hB hz hk hS1 => ?_)
  obtain ⟨rfl, rfl, hbz⟩ := hw
  obtain ⟨hP1, hD1⟩ := hB
  rw [ht] at hP1
  exact kk _ hf hbz H1 locs1 ls hP1 (hD1.weaken (fun _ q _ h => hAB _ h)) hS1 hl2
theorem x_csq (C : XC sh w own cc l0 d0 x) {y : MethodName} {b2 : ByteArray} {nL2 d na idx : Nat} {st0 : List Value} {α : Type} {rs : α} {f : Option Int64} {K : Int64 → Option α} (hd : dc cc pc (.invokestatic idx) 3 n) (hl : Cond.methodLink own idx y ∈ tw) (cm : cmS y b2 nL2 (some .long) na) (As : List Value) (hn : As.length = na) (hst : st0 = As.reverse ++ st) (hro : d + 1 ≤ d0 ∧ nL2 ≤ 41) (hcat : (st.map fun v => v.category).sum ≤ 8) (hf : crd f K = some rs) (hm : ∀ r, f = some r → ML sh w l0 y b2 nL2 d (As) S r S) (kk : ∀ r, K r = some rs → WX sh w x S n lo (.long r :: st)) : WX sh w x S pc lo st0 := by
  obtain ⟨p, l, e, R, s, m, args, below, meth, c, Q, A, nL⟩ := x
  obtain ⟨⟨hx, hb, hml, hown, hts⟩, rfl, hK, hA, hAk, hSX, hlk, hfr, hlo⟩ := C
  obtain ⟨hd, rfl⟩ := hd
  intro H lc ls hP hD hS hl2
  subst hst
  have hAB : ∀ q, AW sh w H.size q → A q := by
    rintro q (⟨k, hk, rfl⟩ | h)
    · exact hAk k hk
    · exact hA q (Nat.le_trans hS.1 h)
  have hroom : (rmD d).frames + 1 ≤ R.frames ∧ 8 + (nL2 + 11) + (rmD d).locals ≤ R.locals := by
    unfold rmD
    dsimp only
    omega
  obtain ⟨r0, hf0, hf⟩ := crd_in hf
  refine va_calll (va_runS (As := As) (rest := st) ⟨hx, hb, hml, hown, hts⟩ (hm r0 hf0 H.size) (va_cwS na hts (giS cm hl) rfl rfl rfl cm.2 hroom) ⟨preM_blind, fun U hU hW => ⟨rfl, preM_of hP hK hD hSX hS hU hW hAB⟩⟩ rfl hn hl2.1 rfl (lv_room hcat) hd ⟨Nat.zero_le _, Nat.zero_le _⟩) hS (fun q _ h => hAB q h) hAB (fun r1 u t H1 locs1 ht hvm hw hB hz hk hS1 => ?_)
  obtain ⟨rfl, rfl⟩ := hw
  obtain ⟨hP1, hD1⟩ := hB
  rw [ht] at hP1
  exact kk _ hf H1 locs1 ls hP1 (hD1.weaken (fun _ q _ h => hAB _ h)) hS1 hl2
theorem x_cxr (C : XC sh w own cc l0 d0 x) {y : MethodName} {b2 : ByteArray} {nL2 d na idx : Nat} {rt : FieldType} {bz : Int32 → Prop} {st0 : List Value} {α : Type} {rs : α} {j : Nat} {f : Option Int32} {K : Int32 → Option α} (hd : dc cc pc (.invokevirtual idx) 3 n) (hl : Cond.methodLink own idx y ∈ tw) (cm : cmV y "java/lang/String" b2 nL2 (some rt) na) (hj : j < 6) (As : List Value) (hn : As.length = na) (hst : st0 = As.reverse ++ .ref (w.2.2.2.1 j) :: st) (hro : d + 1 ≤ d0 ∧ nL2 ≤ 41) (hcat : (st.map fun v => v.category).sum ≤ 8) (hf : crd f K = some rs) (hm : ∀ r, f = some r → MI sh w l0 y b2 nL2 rt d (.ref (w.2.2.2.1 j) :: As) S r S bz) (kk : ∀ r, K r = some rs → bz r → WX sh w x S n lo (.int r :: st)) : WX sh w x S pc lo st0 := by
  obtain ⟨p, l, e, R, s, m, args, below, meth, c, Q, A, nL⟩ := x
  obtain ⟨⟨hx, hb, hml, hown, hts⟩, rfl, hK, hA, hAk, hSX, hlk, hfr, hlo⟩ := C
  obtain ⟨hd, rfl⟩ := hd
  intro H lc ls hP hD hS hl2
  subst hst
  have hAB : ∀ q, AW sh w H.size q → A q := by
    rintro q (⟨k, hk, rfl⟩ | h)
    · exact hAk k hk
    · exact hA q (Nat.le_trans hS.1 h)
  have hroom : (rmD d).frames + 1 ≤ R.frames ∧ 8 + (nL2 + 11) + (rmD d).locals ≤ R.locals := by
    unfold rmD
    dsimp only
    omega
  obtain ⟨r0, hf0, hf⟩ := crd_in hf
  refine va_calli (va_runV (As := As) (rest := st) ⟨hx, hb, hml, hown, hts⟩ (hm r0 hf0 H.size) (cwV na hts (giV cm hl) rfl rfl rfl cm.2 hroom) ⟨preM_blind, vk_recv hSX.1 hj hS, fun U hU hW => ⟨rfl, preM_of hP hK hD hSX hS hU hW hAB⟩⟩ rfl hn hl2.1 rfl (lv_room hcat) hd ⟨Nat.zero_le _, Nat.zero_le _⟩) hS (fun q _ h => hAB q h) hAB (fun r1 u t H1 locs1 ht hvm hw hB hz hk hS1 => ?_)
  obtain ⟨rfl, rfl, hbz⟩ := hw
  obtain ⟨hP1, hD1⟩ := hB
  rw [ht] at hP1
  exact kk _ hf hbz H1 locs1 ls hP1 (hD1.weaken (fun _ q _ h => hAB _ h)) hS1 hl2
theorem mkW_D {sh : List Sh} {w : Ww} {S : St} {sz : Nat} (h : va_D (fun _ => True) (mkW w S 0 sh)) : va_D (AW sh w sz) (mkW w S 0 sh) := by
  refine ⟨h.1, fun k q hk => ?_⟩
  obtain ⟨h1, h2⟩ := mkW_ex hk
  exact Or.inl ⟨k, h1, by rw [h2, Nat.zero_add]⟩
end ROWS
theorem MI.of {sh : List Sh} {w : Ww} {l : Launch} {y : MethodName} {cc : ByteArray} {nL d : Nat} {av : List Value} {S S' : St} {ret : FieldType} {r : Int32} {bz : Int32 → Prop} {lo0 : List (Nat × Value)} (hy : plainName y.cls = true) (hlen : (lg_sl av).length ≤ nL) (hlo : lv_args 0 av = lo0) (hrt : ∀ v, bz v → narrow ret (.int v) = .int v) (body : ∀ x : Cx, x.2.2.2.2.2.2.2.2.2.2.2.2 = nL → XC sh w y.cls cc l d x → RI sh w cc bz (r, S') x → WX sh w x S 0 lo0 []) : MI sh w l y cc nL ret d av S r S' bz := by
  intro sz
  refine Met.ofW (cc := cc) (maxL := nL) (ret := (some ret)) hy rfl ?_
  intro p e s m args below meth c s₁ B hml hv
  obtain ⟨rfl, hsz, hP, hK, hD0, hSX⟩ := hv
  have hts := atoms_spec (ws := .code y cc nL (some ret) :: tw) B.pre
  have hown : s.vm.findClass y.cls = some m.cls := findClass_of_methodNamed B.named
  have hx := B.exec
  have hb := B.bytes
  have hr := B.returns
  have hlocks := B.notSynchronized
  subst hsz
  rw [lg_entry_eq]
  have hl := lv_entry av (n := nL) hlen
  rw [hlo] at hl
  refine body (p, l, e, _, s, m, _, below, meth, c, _, AW sh w s.heap.size, nL) rfl ⟨⟨B.exec, B.bytes, hml, hown, fun w hw => hts w (List.mem_cons_of_mem _ hw)⟩, rfl, hK, fun q h => Or.inr h, fun k hk => Or.inl ⟨k, hk, rfl⟩, hSX, hlocks, Nat.le_refl _, Nat.le_refl _⟩ ?_ s.heap [] _ hP (mkW_D hD0) va_S.rf hl
  intro pc lo v S1 hd hrs hbz H lc ls hP hD hS hl
  cases hrs
  exact W.zret hx hb hr (hrt r hbz) (fun t ht hW => ⟨⟨r, S', rfl, ⟨rfl, rfl, hbz⟩, by rw [ht]; exact hP, hD⟩, hS.F ht⟩) hS.2.2 hd hlocks
theorem ML.of {sh : List Sh} {w : Ww} {l : Launch} {y : MethodName} {cc : ByteArray} {nL d : Nat} {av : List Value} {S S' : St} {r : Int64} {lo0 : List (Nat × Value)} (hy : plainName y.cls = true) (hlen : (lg_sl av).length ≤ nL) (hlo : lv_args 0 av = lo0) (body : ∀ x : Cx, x.2.2.2.2.2.2.2.2.2.2.2.2 = nL → XC sh w y.cls cc l d x → RL' sh w cc (r, S') x → WX sh w x S 0 lo0 []) : ML sh w l y cc nL d av S r S' := by
  intro sz
  refine Met.ofW (cc := cc) (maxL := nL) (ret := (some .long)) hy rfl ?_
  intro p e s m args below meth c s₁ B hml hv
  obtain ⟨rfl, hsz, hP, hK, hD0, hSX⟩ := hv
  have hts := atoms_spec (ws := .code y cc nL (some .long) :: tw) B.pre
  have hown : s.vm.findClass y.cls = some m.cls := findClass_of_methodNamed B.named
  have hx := B.exec
  have hb := B.bytes
  have hr := B.returns
  have hlocks := B.notSynchronized
  subst hsz
  rw [lg_entry_eq]
  have hl := lv_entry av (n := nL) hlen
  rw [hlo] at hl
  refine body (p, l, e, _, s, m, _, below, meth, c, _, AW sh w s.heap.size, nL) rfl ⟨⟨B.exec, B.bytes, hml, hown, fun w hw => hts w (List.mem_cons_of_mem _ hw)⟩, rfl, hK, fun q h => Or.inr h, fun k hk => Or.inl ⟨k, hk, rfl⟩, hSX, hlocks, Nat.le_refl _, Nat.le_refl _⟩ ?_ s.heap [] _ hP (mkW_D hD0) va_S.rf hl
  intro pc lo v S1 hd hrs H lc ls hP hD hS hl
  cases hrs
  exact W.lret hx hb hr (fun t ht hW => ⟨⟨r, S', rfl, ⟨rfl, rfl⟩, by rw [ht]; exact hP, hD⟩, hS.F ht⟩) hS.2.2 hd hlocks
theorem MV.of {sh : List Sh} {w : Ww} {l : Launch} {y : MethodName} {cc : ByteArray} {nL d : Nat} {av : List Value} {S S' : St}  {lo0 : List (Nat × Value)} (hy : plainName y.cls = true) (hlen : (lg_sl av).length ≤ nL) (hlo : lv_args 0 av = lo0) (body : ∀ x : Cx, x.2.2.2.2.2.2.2.2.2.2.2.2 = nL → XC sh w y.cls cc l d x → RV sh w cc S' x → WX sh w x S 0 lo0 []) : MV sh w l y cc nL d av S S' := by
  intro sz
  refine Met.ofW (cc := cc) (maxL := nL) (ret := none) hy rfl ?_
  intro p e s m args below meth c s₁ B hml hv
  obtain ⟨rfl, hsz, hP, hK, hD0, hSX⟩ := hv
  have hts := atoms_spec (ws := .code y cc nL none :: tw) B.pre
  have hown : s.vm.findClass y.cls = some m.cls := findClass_of_methodNamed B.named
  have hx := B.exec
  have hb := B.bytes
  have hr := B.returns
  have hlocks := B.notSynchronized
  subst hsz
  rw [lg_entry_eq]
  have hl := lv_entry av (n := nL) hlen
  rw [hlo] at hl
  refine body (p, l, e, _, s, m, _, below, meth, c, _, AW sh w s.heap.size, nL) rfl ⟨⟨B.exec, B.bytes, hml, hown, fun w hw => hts w (List.mem_cons_of_mem _ hw)⟩, rfl, hK, fun q h => Or.inr h, fun k hk => Or.inl ⟨k, hk, rfl⟩, hSX, hlocks, Nat.le_refl _, Nat.le_refl _⟩ ?_ s.heap [] _ hP (mkW_D hD0) va_S.rf hl
  intro pc lo S1 hd hrs H lc ls hP hD hS hl
  cases hrs
  exact W.vret hx hb hr (fun t ht hW => ⟨⟨S', rfl, rfl, by rw [ht]; exact hP, hD⟩, hS.F ht⟩) hS.2.2 hd hlocks
end
