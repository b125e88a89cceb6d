section
-- ===== PART A: goes FIRST, ahead of the names: the tables' words, and 'selects' of the private methods out of them =====
/-- a private method of a class that the tables say can be made, by its rows of tables_1 -/
def lw_okq (q : MethodName × Nat) : Prop := (q.1.cls ≠ "java/lang/invoke/MethodHandle" ∧ q.1.cls ≠ "java/lang/invoke/VarHandle") ∧ Cond.instantiable q.1.cls q.2 ∈ tables_1 ∧ Cond.privateMethod q.1 ∈ tables_1 ∧ Cond.instanceMethod q.1 ∈ tables_1
theorem lw_p0 : lw_okq (⟨"TripCalls", "found", "(I)I"⟩, 17) := ⟨⟨by decide +kernel, by decide +kernel⟩, List.mem_of_getElem? (i := 12) (by decide +kernel), List.mem_of_getElem? (i := 200) (by decide +kernel), List.mem_of_getElem? (i := 201) (by decide +kernel)⟩
theorem lw_p1 : lw_okq (⟨"TripCalls", "isCaller", "(I)Z"⟩, 17) := ⟨⟨by decide +kernel, by decide +kernel⟩, List.mem_of_getElem? (i := 12) (by decide +kernel), List.mem_of_getElem? (i := 299) (by decide +kernel), List.mem_of_getElem? (i := 300) (by decide +kernel)⟩
theorem lw_p2 : lw_okq (⟨"TripCalls", "isFullWith", "(I)Z"⟩, 17) := ⟨⟨by decide +kernel, by decide +kernel⟩, List.mem_of_getElem? (i := 12) (by decide +kernel), List.mem_of_getElem? (i := 342) (by decide +kernel), List.mem_of_getElem? (i := 343) (by decide +kernel)⟩
theorem lw_p3 : lw_okq (⟨"TripCalls", "doDeed", "(III)V"⟩, 17) := ⟨⟨by decide +kernel, by decide +kernel⟩, List.mem_of_getElem? (i := 12) (by decide +kernel), List.mem_of_getElem? (i := 346) (by decide +kernel), List.mem_of_getElem? (i := 347) (by decide +kernel)⟩
theorem lw_p4 : lw_okq (⟨"TripCalls$House", "isHushed", "(I)Z"⟩, 8) := ⟨⟨by decide +kernel, by decide +kernel⟩, List.mem_of_getElem? (i := 24) (by decide +kernel), List.mem_of_getElem? (i := 371) (by decide +kernel), List.mem_of_getElem? (i := 372) (by decide +kernel)⟩
theorem lw_p5 : lw_okq (⟨"TripCalls$Caller", "wake", "()V"⟩, 7) := ⟨⟨by decide +kernel, by decide +kernel⟩, List.mem_of_getElem? (i := 31) (by decide +kernel), List.mem_of_getElem? (i := 398) (by decide +kernel), List.mem_of_getElem? (i := 399) (by decide +kernel)⟩
theorem lw_p6 : lw_okq (⟨"TripCalls", "doAllAgain", "()V"⟩, 17) := ⟨⟨by decide +kernel, by decide +kernel⟩, List.mem_of_getElem? (i := 12) (by decide +kernel), List.mem_of_getElem? (i := 424) (by decide +kernel), List.mem_of_getElem? (i := 425) (by decide +kernel)⟩
theorem lw_p7 : lw_okq (⟨"TripCalls", "offerSetsOf", "(II)V"⟩, 17) := ⟨⟨by decide +kernel, by decide +kernel⟩, List.mem_of_getElem? (i := 12) (by decide +kernel), List.mem_of_getElem? (i := 503) (by decide +kernel), List.mem_of_getElem? (i := 504) (by decide +kernel)⟩
theorem lw_p8 : lw_okq (⟨"TripCalls", "findingOfSeen", "(I)I"⟩, 17) := ⟨⟨by decide +kernel, by decide +kernel⟩, List.mem_of_getElem? (i := 12) (by decide +kernel), List.mem_of_getElem? (i := 511) (by decide +kernel), List.mem_of_getElem? (i := 512) (by decide +kernel)⟩
theorem lw_p9 : lw_okq (⟨"TripCalls", "goesAsSeen", "(I)Z"⟩, 17) := ⟨⟨by decide +kernel, by decide +kernel⟩, List.mem_of_getElem? (i := 12) (by decide +kernel), List.mem_of_getElem? (i := 515) (by decide +kernel), List.mem_of_getElem? (i := 516) (by decide +kernel)⟩
theorem lw_p10 : lw_okq (⟨"TripCalls", "kindsAsSeen", "(II)I"⟩, 17) := ⟨⟨by decide +kernel, by decide +kernel⟩, List.mem_of_getElem? (i := 12) (by decide +kernel), List.mem_of_getElem? (i := 523) (by decide +kernel), List.mem_of_getElem? (i := 524) (by decide +kernel)⟩
theorem lw_p11 : lw_okq (⟨"TripCalls", "countAlike", "(II)V"⟩, 17) := ⟨⟨by decide +kernel, by decide +kernel⟩, List.mem_of_getElem? (i := 12) (by decide +kernel), List.mem_of_getElem? (i := 531) (by decide +kernel), List.mem_of_getElem? (i := 532) (by decide +kernel)⟩
theorem lw_p12 : lw_okq (⟨"TripCalls", "greatestPart", "(I)I"⟩, 17) := ⟨⟨by decide +kernel, by decide +kernel⟩, List.mem_of_getElem? (i := 12) (by decide +kernel), List.mem_of_getElem? (i := 535) (by decide +kernel), List.mem_of_getElem? (i := 536) (by decide +kernel)⟩
theorem lw_p13 : lw_okq (⟨"TripCalls", "playFrom", "(IIZ)I"⟩, 17) := ⟨⟨by decide +kernel, by decide +kernel⟩, List.mem_of_getElem? (i := 12) (by decide +kernel), List.mem_of_getElem? (i := 544) (by decide +kernel), List.mem_of_getElem? (i := 545) (by decide +kernel)⟩
theorem lw_p14 : lw_okq (⟨"TripCalls", "duelEnd", "(I)I"⟩, 17) := ⟨⟨by decide +kernel, by decide +kernel⟩, List.mem_of_getElem? (i := 12) (by decide +kernel), List.mem_of_getElem? (i := 548) (by decide +kernel), List.mem_of_getElem? (i := 549) (by decide +kernel)⟩
theorem lw_p15 : lw_okq (⟨"TripCalls", "answeredWithDowns", "(I)I"⟩, 17) := ⟨⟨by decide +kernel, by decide +kernel⟩, List.mem_of_getElem? (i := 12) (by decide +kernel), List.mem_of_getElem? (i := 560) (by decide +kernel), List.mem_of_getElem? (i := 561) (by decide +kernel)⟩
def lw_privs_1 : List (MethodName × Nat) := [(⟨"TripCalls", "found", "(I)I"⟩, 17), (⟨"TripCalls", "isCaller", "(I)Z"⟩, 17), (⟨"TripCalls", "isFullWith", "(I)Z"⟩, 17), (⟨"TripCalls", "doDeed", "(III)V"⟩, 17), (⟨"TripCalls$House", "isHushed", "(I)Z"⟩, 8), (⟨"TripCalls$Caller", "wake", "()V"⟩, 7), (⟨"TripCalls", "doAllAgain", "()V"⟩, 17), (⟨"TripCalls", "offerSetsOf", "(II)V"⟩, 17), (⟨"TripCalls", "findingOfSeen", "(I)I"⟩, 17), (⟨"TripCalls", "goesAsSeen", "(I)Z"⟩, 17), (⟨"TripCalls", "kindsAsSeen", "(II)I"⟩, 17), (⟨"TripCalls", "countAlike", "(II)V"⟩, 17), (⟨"TripCalls", "greatestPart", "(I)I"⟩, 17), (⟨"TripCalls", "playFrom", "(IIZ)I"⟩, 17), (⟨"TripCalls", "duelEnd", "(I)I"⟩, 17), (⟨"TripCalls", "answeredWithDowns", "(I)I"⟩, 17)]
theorem lw_r1 : ∀ q ∈ lw_privs_1, lw_okq q := List.forall_mem_cons.mpr ⟨lw_p0, List.forall_mem_cons.mpr ⟨lw_p1, List.forall_mem_cons.mpr ⟨lw_p2, List.forall_mem_cons.mpr ⟨lw_p3, List.forall_mem_cons.mpr ⟨lw_p4, List.forall_mem_cons.mpr ⟨lw_p5, List.forall_mem_cons.mpr ⟨lw_p6, List.forall_mem_cons.mpr ⟨lw_p7, List.forall_mem_cons.mpr ⟨lw_p8, List.forall_mem_cons.mpr ⟨lw_p9, List.forall_mem_cons.mpr ⟨lw_p10, List.forall_mem_cons.mpr ⟨lw_p11, List.forall_mem_cons.mpr ⟨lw_p12, List.forall_mem_cons.mpr ⟨lw_p13, List.forall_mem_cons.mpr ⟨lw_p14, List.forall_mem_cons.mpr ⟨lw_p15, fun _ h => absurd h List.not_mem_nil⟩⟩⟩⟩⟩⟩⟩⟩⟩⟩⟩⟩⟩⟩⟩⟩
theorem lw_p16 : lw_okq (⟨"TripCalls", "tellFraction", "(J)V"⟩, 17) := ⟨⟨by decide +kernel, by decide +kernel⟩, List.mem_of_getElem? (i := 12) (by decide +kernel), List.mem_of_getElem? (i := 567) (by decide +kernel), List.mem_of_getElem? (i := 568) (by decide +kernel)⟩
theorem lw_p17 : lw_okq (⟨"TripCalls", "doDeedOfLot", "(I)V"⟩, 17) := ⟨⟨by decide +kernel, by decide +kernel⟩, List.mem_of_getElem? (i := 12) (by decide +kernel), List.mem_of_getElem? (i := 588) (by decide +kernel), List.mem_of_getElem? (i := 589) (by decide +kernel)⟩
theorem lw_p18 : lw_okq (⟨"TripCalls", "countOf", "(I)I"⟩, 17) := ⟨⟨by decide +kernel, by decide +kernel⟩, List.mem_of_getElem? (i := 12) (by decide +kernel), List.mem_of_getElem? (i := 608) (by decide +kernel), List.mem_of_getElem? (i := 609) (by decide +kernel)⟩
theorem lw_p19 : lw_okq (⟨"TripCalls", "keptHouses", "()I"⟩, 17) := ⟨⟨by decide +kernel, by decide +kernel⟩, List.mem_of_getElem? (i := 12) (by decide +kernel), List.mem_of_getElem? (i := 616) (by decide +kernel), List.mem_of_getElem? (i := 617) (by decide +kernel)⟩
theorem lw_p20 : lw_okq (⟨"TripCalls", "digestRows", "(J)J"⟩, 17) := ⟨⟨by decide +kernel, by decide +kernel⟩, List.mem_of_getElem? (i := 12) (by decide +kernel), List.mem_of_getElem? (i := 639) (by decide +kernel), List.mem_of_getElem? (i := 640) (by decide +kernel)⟩
theorem lw_p21 : lw_okq (⟨"TripCalls", "digestTexts", "(J)J"⟩, 17) := ⟨⟨by decide +kernel, by decide +kernel⟩, List.mem_of_getElem? (i := 12) (by decide +kernel), List.mem_of_getElem? (i := 643) (by decide +kernel), List.mem_of_getElem? (i := 644) (by decide +kernel)⟩
theorem lw_p22 : lw_okq (⟨"TripCallsModel", "found", "(I)I"⟩, 27) := ⟨⟨by decide +kernel, by decide +kernel⟩, List.mem_of_getElem? (i := 647) (by decide +kernel), List.mem_of_getElem? (i := 747) (by decide +kernel), List.mem_of_getElem? (i := 748) (by decide +kernel)⟩
theorem lw_p23 : lw_okq (⟨"TripCallsModel", "tell", "(I)I"⟩, 27) := ⟨⟨by decide +kernel, by decide +kernel⟩, List.mem_of_getElem? (i := 647) (by decide +kernel), List.mem_of_getElem? (i := 755) (by decide +kernel), List.mem_of_getElem? (i := 756) (by decide +kernel)⟩
theorem lw_p24 : lw_okq (⟨"TripCallsModel", "reads", "(I)I"⟩, 27) := ⟨⟨by decide +kernel, by decide +kernel⟩, List.mem_of_getElem? (i := 647) (by decide +kernel), List.mem_of_getElem? (i := 791) (by decide +kernel), List.mem_of_getElem? (i := 792) (by decide +kernel)⟩
theorem lw_p25 : lw_okq (⟨"TripCallsModel", "isFigure", "(II)Z"⟩, 27) := ⟨⟨by decide +kernel, by decide +kernel⟩, List.mem_of_getElem? (i := 647) (by decide +kernel), List.mem_of_getElem? (i := 795) (by decide +kernel), List.mem_of_getElem? (i := 796) (by decide +kernel)⟩
theorem lw_p26 : lw_okq (⟨"TripCallsModel", "resets", "(I)V"⟩, 27) := ⟨⟨by decide +kernel, by decide +kernel⟩, List.mem_of_getElem? (i := 647) (by decide +kernel), List.mem_of_getElem? (i := 811) (by decide +kernel), List.mem_of_getElem? (i := 812) (by decide +kernel)⟩
theorem lw_p27 : lw_okq (⟨"TripCallsModel", "isCaller", "(I)Z"⟩, 27) := ⟨⟨by decide +kernel, by decide +kernel⟩, List.mem_of_getElem? (i := 647) (by decide +kernel), List.mem_of_getElem? (i := 819) (by decide +kernel), List.mem_of_getElem? (i := 820) (by decide +kernel)⟩
theorem lw_p28 : lw_okq (⟨"TripCallsModel", "remembers", "()V"⟩, 27) := ⟨⟨by decide +kernel, by decide +kernel⟩, List.mem_of_getElem? (i := 647) (by decide +kernel), List.mem_of_getElem? (i := 839) (by decide +kernel), List.mem_of_getElem? (i := 840) (by decide +kernel)⟩
theorem lw_p29 : lw_okq (⟨"TripCallsModel", "asKinds", "()V"⟩, 27) := ⟨⟨by decide +kernel, by decide +kernel⟩, List.mem_of_getElem? (i := 647) (by decide +kernel), List.mem_of_getElem? (i := 843) (by decide +kernel), List.mem_of_getElem? (i := 844) (by decide +kernel)⟩
theorem lw_p30 : lw_okq (⟨"TripCallsModel", "isUp", "([I)Z"⟩, 27) := ⟨⟨by decide +kernel, by decide +kernel⟩, List.mem_of_getElem? (i := 647) (by decide +kernel), List.mem_of_getElem? (i := 847) (by decide +kernel), List.mem_of_getElem? (i := 848) (by decide +kernel)⟩
theorem lw_p31 : lw_okq (⟨"TripCallsModel", "goes", "([IIZ)I"⟩, 27) := ⟨⟨by decide +kernel, by decide +kernel⟩, List.mem_of_getElem? (i := 647) (by decide +kernel), List.mem_of_getElem? (i := 851) (by decide +kernel), List.mem_of_getElem? (i := 852) (by decide +kernel)⟩
def lw_privs_2 : List (MethodName × Nat) := [(⟨"TripCalls", "tellFraction", "(J)V"⟩, 17), (⟨"TripCalls", "doDeedOfLot", "(I)V"⟩, 17), (⟨"TripCalls", "countOf", "(I)I"⟩, 17), (⟨"TripCalls", "keptHouses", "()I"⟩, 17), (⟨"TripCalls", "digestRows", "(J)J"⟩, 17), (⟨"TripCalls", "digestTexts", "(J)J"⟩, 17), (⟨"TripCallsModel", "found", "(I)I"⟩, 27), (⟨"TripCallsModel", "tell", "(I)I"⟩, 27), (⟨"TripCallsModel", "reads", "(I)I"⟩, 27), (⟨"TripCallsModel", "isFigure", "(II)Z"⟩, 27), (⟨"TripCallsModel", "resets", "(I)V"⟩, 27), (⟨"TripCallsModel", "isCaller", "(I)Z"⟩, 27), (⟨"TripCallsModel", "remembers", "()V"⟩, 27), (⟨"TripCallsModel", "asKinds", "()V"⟩, 27), (⟨"TripCallsModel", "isUp", "([I)Z"⟩, 27), (⟨"TripCallsModel", "goes", "([IIZ)I"⟩, 27)]
theorem lw_r2 : ∀ q ∈ lw_privs_2, lw_okq q := List.forall_mem_cons.mpr ⟨lw_p16, List.forall_mem_cons.mpr ⟨lw_p17, List.forall_mem_cons.mpr ⟨lw_p18, List.forall_mem_cons.mpr ⟨lw_p19, List.forall_mem_cons.mpr ⟨lw_p20, List.forall_mem_cons.mpr ⟨lw_p21, List.forall_mem_cons.mpr ⟨lw_p22, List.forall_mem_cons.mpr ⟨lw_p23, List.forall_mem_cons.mpr ⟨lw_p24, List.forall_mem_cons.mpr ⟨lw_p25, List.forall_mem_cons.mpr ⟨lw_p26, List.forall_mem_cons.mpr ⟨lw_p27, List.forall_mem_cons.mpr ⟨lw_p28, List.forall_mem_cons.mpr ⟨lw_p29, List.forall_mem_cons.mpr ⟨lw_p30, List.forall_mem_cons.mpr ⟨lw_p31, fun _ h => absurd h List.not_mem_nil⟩⟩⟩⟩⟩⟩⟩⟩⟩⟩⟩⟩⟩⟩⟩⟩
theorem lw_p32 : lw_okq (⟨"TripCallsModel", "whoCalls", "([II)I"⟩, 27) := ⟨⟨by decide +kernel, by decide +kernel⟩, List.mem_of_getElem? (i := 647) (by decide +kernel), List.mem_of_getElem? (i := 855) (by decide +kernel), List.mem_of_getElem? (i := 856) (by decide +kernel)⟩
theorem lw_p33 : lw_okq (⟨"TripCallsModel", "isAnswered", "([II)V"⟩, 27) := ⟨⟨by decide +kernel, by decide +kernel⟩, List.mem_of_getElem? (i := 647) (by decide +kernel), List.mem_of_getElem? (i := 862) (by decide +kernel), List.mem_of_getElem? (i := 863) (by decide +kernel)⟩
theorem lw_p34 : lw_okq (⟨"TripCallsModel", "hasFault", "([II)V"⟩, 27) := ⟨⟨by decide +kernel, by decide +kernel⟩, List.mem_of_getElem? (i := 647) (by decide +kernel), List.mem_of_getElem? (i := 866) (by decide +kernel), List.mem_of_getElem? (i := 867) (by decide +kernel)⟩
theorem lw_p35 : lw_okq (⟨"TripCallsModel", "tripsOn", "([II)V"⟩, 27) := ⟨⟨by decide +kernel, by decide +kernel⟩, List.mem_of_getElem? (i := 647) (by decide +kernel), List.mem_of_getElem? (i := 870) (by decide +kernel), List.mem_of_getElem? (i := 871) (by decide +kernel)⟩
theorem lw_p36 : lw_okq (⟨"TripCallsModel", "isAtRest", "([II)V"⟩, 27) := ⟨⟨by decide +kernel, by decide +kernel⟩, List.mem_of_getElem? (i := 647) (by decide +kernel), List.mem_of_getElem? (i := 874) (by decide +kernel), List.mem_of_getElem? (i := 875) (by decide +kernel)⟩
theorem lw_p37 : lw_okq (⟨"TripCallsModel", "answer", "(II)I"⟩, 27) := ⟨⟨by decide +kernel, by decide +kernel⟩, List.mem_of_getElem? (i := 647) (by decide +kernel), List.mem_of_getElem? (i := 919) (by decide +kernel), List.mem_of_getElem? (i := 920) (by decide +kernel)⟩
theorem lw_p38 : lw_okq (⟨"TripCallsModel", "laysAside", "()V"⟩, 27) := ⟨⟨by decide +kernel, by decide +kernel⟩, List.mem_of_getElem? (i := 647) (by decide +kernel), List.mem_of_getElem? (i := 928) (by decide +kernel), List.mem_of_getElem? (i := 929) (by decide +kernel)⟩
theorem lw_p39 : lw_okq (⟨"TripCallsModel", "goesOn", "(II)I"⟩, 27) := ⟨⟨by decide +kernel, by decide +kernel⟩, List.mem_of_getElem? (i := 647) (by decide +kernel), List.mem_of_getElem? (i := 932) (by decide +kernel), List.mem_of_getElem? (i := 933) (by decide +kernel)⟩
theorem lw_p40 : lw_okq (⟨"TripCallsModel", "bestOf", "(II)I"⟩, 27) := ⟨⟨by decide +kernel, by decide +kernel⟩, List.mem_of_getElem? (i := 647) (by decide +kernel), List.mem_of_getElem? (i := 949) (by decide +kernel), List.mem_of_getElem? (i := 950) (by decide +kernel)⟩
theorem lw_p41 : lw_okq (⟨"TripCallsModel", "seen", "(I)I"⟩, 27) := ⟨⟨by decide +kernel, by decide +kernel⟩, List.mem_of_getElem? (i := 647) (by decide +kernel), List.mem_of_getElem? (i := 970) (by decide +kernel), List.mem_of_getElem? (i := 971) (by decide +kernel)⟩
theorem lw_p42 : lw_okq (⟨"TripCallsModel", "comesSo", "(I)Z"⟩, 27) := ⟨⟨by decide +kernel, by decide +kernel⟩, List.mem_of_getElem? (i := 647) (by decide +kernel), List.mem_of_getElem? (i := 974) (by decide +kernel), List.mem_of_getElem? (i := 975) (by decide +kernel)⟩
theorem lw_p43 : lw_okq (⟨"TripCallsModel", "kindsBy", "(II)I"⟩, 27) := ⟨⟨by decide +kernel, by decide +kernel⟩, List.mem_of_getElem? (i := 647) (by decide +kernel), List.mem_of_getElem? (i := 982) (by decide +kernel), List.mem_of_getElem? (i := 983) (by decide +kernel)⟩
theorem lw_p44 : lw_okq (⟨"TripCallsModel", "patternBy", "(II)I"⟩, 27) := ⟨⟨by decide +kernel, by decide +kernel⟩, List.mem_of_getElem? (i := 647) (by decide +kernel), List.mem_of_getElem? (i := 995) (by decide +kernel), List.mem_of_getElem? (i := 996) (by decide +kernel)⟩
theorem lw_p45 : lw_okq (⟨"TripCallsModel", "chance", "(IIZ)I"⟩, 27) := ⟨⟨by decide +kernel, by decide +kernel⟩, List.mem_of_getElem? (i := 647) (by decide +kernel), List.mem_of_getElem? (i := 1003) (by decide +kernel), List.mem_of_getElem? (i := 1004) (by decide +kernel)⟩
theorem lw_p46 : lw_okq (⟨"TripCallsModel", "sixBy", "(I)I"⟩, 27) := ⟨⟨by decide +kernel, by decide +kernel⟩, List.mem_of_getElem? (i := 647) (by decide +kernel), List.mem_of_getElem? (i := 1009) (by decide +kernel), List.mem_of_getElem? (i := 1010) (by decide +kernel)⟩
theorem lw_p47 : lw_okq (⟨"TripCallsModel", "tellsPart", "(JJ)V"⟩, 27) := ⟨⟨by decide +kernel, by decide +kernel⟩, List.mem_of_getElem? (i := 647) (by decide +kernel), List.mem_of_getElem? (i := 1017) (by decide +kernel), List.mem_of_getElem? (i := 1018) (by decide +kernel)⟩
def lw_privs_3 : List (MethodName × Nat) := [(⟨"TripCallsModel", "whoCalls", "([II)I"⟩, 27), (⟨"TripCallsModel", "isAnswered", "([II)V"⟩, 27), (⟨"TripCallsModel", "hasFault", "([II)V"⟩, 27), (⟨"TripCallsModel", "tripsOn", "([II)V"⟩, 27), (⟨"TripCallsModel", "isAtRest", "([II)V"⟩, 27), (⟨"TripCallsModel", "answer", "(II)I"⟩, 27), (⟨"TripCallsModel", "laysAside", "()V"⟩, 27), (⟨"TripCallsModel", "goesOn", "(II)I"⟩, 27), (⟨"TripCallsModel", "bestOf", "(II)I"⟩, 27), (⟨"TripCallsModel", "seen", "(I)I"⟩, 27), (⟨"TripCallsModel", "comesSo", "(I)Z"⟩, 27), (⟨"TripCallsModel", "kindsBy", "(II)I"⟩, 27), (⟨"TripCallsModel", "patternBy", "(II)I"⟩, 27), (⟨"TripCallsModel", "chance", "(IIZ)I"⟩, 27), (⟨"TripCallsModel", "sixBy", "(I)I"⟩, 27), (⟨"TripCallsModel", "tellsPart", "(JJ)V"⟩, 27)]
theorem lw_r3 : ∀ q ∈ lw_privs_3, lw_okq q := List.forall_mem_cons.mpr ⟨lw_p32, List.forall_mem_cons.mpr ⟨lw_p33, List.forall_mem_cons.mpr ⟨lw_p34, List.forall_mem_cons.mpr ⟨lw_p35, List.forall_mem_cons.mpr ⟨lw_p36, List.forall_mem_cons.mpr ⟨lw_p37, List.forall_mem_cons.mpr ⟨lw_p38, List.forall_mem_cons.mpr ⟨lw_p39, List.forall_mem_cons.mpr ⟨lw_p40, List.forall_mem_cons.mpr ⟨lw_p41, List.forall_mem_cons.mpr ⟨lw_p42, List.forall_mem_cons.mpr ⟨lw_p43, List.forall_mem_cons.mpr ⟨lw_p44, List.forall_mem_cons.mpr ⟨lw_p45, List.forall_mem_cons.mpr ⟨lw_p46, List.forall_mem_cons.mpr ⟨lw_p47, fun _ h => absurd h List.not_mem_nil⟩⟩⟩⟩⟩⟩⟩⟩⟩⟩⟩⟩⟩⟩⟩⟩
theorem lw_p48 : lw_okq (⟨"TripCallsModel", "opens", "()I"⟩, 27) := ⟨⟨by decide +kernel, by decide +kernel⟩, List.mem_of_getElem? (i := 647) (by decide +kernel), List.mem_of_getElem? (i := 1049) (by decide +kernel), List.mem_of_getElem? (i := 1050) (by decide +kernel)⟩
theorem lw_p49 : lw_okq (⟨"TripCallsModel", "of", "(II)I"⟩, 27) := ⟨⟨by decide +kernel, by decide +kernel⟩, List.mem_of_getElem? (i := 647) (by decide +kernel), List.mem_of_getElem? (i := 1056) (by decide +kernel), List.mem_of_getElem? (i := 1057) (by decide +kernel)⟩
def lw_privs_4 : List (MethodName × Nat) := [(⟨"TripCallsModel", "opens", "()I"⟩, 27), (⟨"TripCallsModel", "of", "(II)I"⟩, 27)]
theorem lw_r4 : ∀ q ∈ lw_privs_4, lw_okq q := List.forall_mem_cons.mpr ⟨lw_p48, List.forall_mem_cons.mpr ⟨lw_p49, fun _ h => absurd h List.not_mem_nil⟩⟩
def lw_privs : List (MethodName × Nat) := lw_privs_1 ++ (lw_privs_2 ++ (lw_privs_3 ++ (lw_privs_4)))
def lw_tbl : List Cond := k2_sels lw_privs ++ tables_1
theorem lw_privs_ok : ∀ q ∈ lw_privs, lw_okq q := by
  show ∀ q ∈ lw_privs_1 ++ (lw_privs_2 ++ (lw_privs_3 ++ (lw_privs_4))), lw_okq q
  exact List.forall_mem_append.mpr ⟨lw_r1, List.forall_mem_append.mpr ⟨lw_r2, List.forall_mem_append.mpr ⟨lw_r3, lw_r4⟩⟩⟩
end
section
def RX0 : String := "TripCalls$Caller"
def TX0 : u_T := fun k => match k with
  | 0 => ("TripCalls$Caller", "kind", "I", false)
  | 1 => ("TripCalls$Caller", "limit", "I", false)
  | 2 => ("TripCalls$Caller", "rest", "I", false)
  | 3 => ("TripCalls$Caller", "state", "I", false)
  | 4 => ("TripCalls$Caller", "faults", "I", false)
  | 5 => ("TripCalls$Caller", "left", "I", false)
  | _ => ("TripCalls$Caller", "span", "I", false)
def tyX0 : Nat → FieldType := fun k => match k with
  | 0 => .int
  | 1 => .int
  | 2 => .int
  | 3 => .int
  | 4 => .int
  | 5 => .int
  | _ => .int
abbrev wsX00 : List Cond := u_ws RX0 TX0 7
theorem nmX0 : ∀ a, a < 7 → ∀ b, b < 7 → a ≠ b → (TX0 a).2.1 ≠ (TX0 b).2.1 := by decide +kernel
theorem tyX0_ok : ∀ k, k < 7 → parseFieldDescriptor (TX0 k).2.2.1 = some (tyX0 k) := by decide +kernel
abbrev cX0_init : ByteArray := prog_2_method_1_code
def yX0_init : MethodName := ⟨RX0, "<init>", "()V"⟩
abbrev cX0_begin : ByteArray := prog_2_method_2_code
def yX0_begin : MethodName := ⟨RX0, "begin", "(III)V"⟩
abbrev cX0_renew : ByteArray := prog_2_method_3_code
def yX0_renew : MethodName := ⟨RX0, "renew", "()V"⟩
abbrev cX0_become : ByteArray := prog_2_method_4_code
def yX0_become : MethodName := ⟨RX0, "become", "(LTripCalls$Caller;)V"⟩
abbrev cX0_isOf : ByteArray := prog_2_method_5_code
def yX0_isOf : MethodName := ⟨RX0, "isOf", "(I)Z"⟩
abbrev cX0_callsIn : ByteArray := prog_2_method_6_code
def yX0_callsIn : MethodName := ⟨RX0, "callsIn", "(I)Z"⟩
abbrev cX0_takeAnswer : ByteArray := prog_2_method_7_code
def yX0_takeAnswer : MethodName := ⟨RX0, "takeAnswer", "()V"⟩
abbrev cX0_takeFault : ByteArray := prog_2_method_8_code
def yX0_takeFault : MethodName := ⟨RX0, "takeFault", "(I)V"⟩
abbrev cX0_restOneStep : ByteArray := prog_2_method_9_code
def yX0_restOneStep : MethodName := ⟨RX0, "restOneStep", "()V"⟩
abbrev cX0_wake : ByteArray := prog_2_method_10_code
def yX0_wake : MethodName := ⟨RX0, "wake", "()V"⟩
abbrev cX0_tell : ByteArray := prog_2_method_11_code
def yX0_tell : MethodName := ⟨RX0, "tell", "(I)I"⟩
abbrev cX0_markOf : ByteArray := prog_2_method_12_code
def yX0_markOf : MethodName := ⟨RX0, "markOf", "(II)I"⟩
def RX1 : String := "TripCalls$Choice"
def TX1 : u_T := fun k => match k with
  | 0 => ("TripCalls$Choice", "most", "I", false)
  | _ => ("TripCalls$Choice", "which", "I", false)
def tyX1 : Nat → FieldType := fun k => match k with
  | 0 => .int
  | _ => .int
abbrev wsX10 : List Cond := u_ws RX1 TX1 2
theorem nmX1 : ∀ a, a < 2 → ∀ b, b < 2 → a ≠ b → (TX1 a).2.1 ≠ (TX1 b).2.1 := by decide +kernel
theorem tyX1_ok : ∀ k, k < 2 → parseFieldDescriptor (TX1 k).2.2.1 = some (tyX1 k) := by decide +kernel
abbrev cX1_init : ByteArray := prog_3_method_1_code
def yX1_init : MethodName := ⟨RX1, "<init>", "()V"⟩
abbrev cX1_begin : ByteArray := prog_3_method_2_code
def yX1_begin : MethodName := ⟨RX1, "begin", "(I)V"⟩
abbrev cX1_offer : ByteArray := prog_3_method_3_code
def yX1_offer : MethodName := ⟨RX1, "offer", "(II)V"⟩
def RX2 : String := "TripCalls$Deeds"
def TX2 : u_T := fun k => match k with
  | 0 => ("TripCalls$Deeds", "what", "[I", true)
  | 1 => ("TripCalls$Deeds", "whom", "[I", true)
  | 2 => ("TripCalls$Deeds", "number", "[I", true)
  | _ => ("TripCalls$Deeds", "size", "I", false)
def tyX2 : Nat → FieldType := fun k => match k with
  | 0 => .array .int
  | 1 => .array .int
  | 2 => .array .int
  | _ => .int
abbrev wsX20 : List Cond := u_ws RX2 TX2 4
theorem nmX2 : ∀ a, a < 4 → ∀ b, b < 4 → a ≠ b → (TX2 a).2.1 ≠ (TX2 b).2.1 := by decide +kernel
theorem tyX2_ok : ∀ k, k < 4 → parseFieldDescriptor (TX2 k).2.2.1 = some (tyX2 k) := by decide +kernel
abbrev cX2_init : ByteArray := prog_4_method_1_code
def yX2_init : MethodName := ⟨RX2, "<init>", "()V"⟩
abbrev cX2_add : ByteArray := prog_4_method_2_code
def yX2_add : MethodName := ⟨RX2, "add", "(III)V"⟩
abbrev cX2_become : ByteArray := prog_4_method_3_code
def yX2_become : MethodName := ⟨RX2, "become", "(LTripCalls$Deeds;)V"⟩
def RX3 : String := "TripCalls$House"
def TX3 : u_T := fun k => match k with
  | 0 => ("TripCalls$House", "callers", "[LTripCalls$Caller;", true)
  | 1 => ("TripCalls$House", "size", "I", false)
  | 2 => ("TripCalls$House", "room", "I", false)
  | 3 => ("TripCalls$House", "pattern", "I", false)
  | 4 => ("TripCalls$House", "step", "I", false)
  | 5 => ("TripCalls$House", "answered", "I", false)
  | 6 => ("TripCalls$House", "faulted", "I", false)
  | _ => ("TripCalls$House", "hushed", "I", false)
def tyX3 : Nat → FieldType := fun k => match k with
  | 0 => .array (.object "TripCalls$Caller")
  | 1 => .int
  | 2 => .int
  | 3 => .int
  | 4 => .int
  | 5 => .int
  | 6 => .int
  | _ => .int
abbrev wsX30 : List Cond := u_ws RX3 TX3 8
theorem nmX3 : ∀ a, a < 8 → ∀ b, b < 8 → a ≠ b → (TX3 a).2.1 ≠ (TX3 b).2.1 := by decide +kernel
theorem tyX3_ok : ∀ k, k < 8 → parseFieldDescriptor (TX3 k).2.2.1 = some (tyX3 k) := by decide +kernel
abbrev cX3_init : ByteArray := prog_5_method_1_code
def yX3_init : MethodName := ⟨RX3, "<init>", "()V"⟩
abbrev cX3_clear : ByteArray := prog_5_method_2_code
def yX3_clear : MethodName := ⟨RX3, "clear", "()V"⟩
abbrev cX3_become : ByteArray := prog_5_method_3_code
def yX3_become : MethodName := ⟨RX3, "become", "(LTripCalls$House;)V"⟩
abbrev cX3_isUpIn : ByteArray := prog_5_method_4_code
def yX3_isUpIn : MethodName := ⟨RX3, "isUpIn", "(I)Z"⟩
abbrev cX3_isUp : ByteArray := prog_5_method_5_code
def yX3_isUp : MethodName := ⟨RX3, "isUp", "()Z"⟩
abbrev cX3_calling : ByteArray := prog_5_method_6_code
def yX3_calling : MethodName := ⟨RX3, "calling", "()I"⟩
abbrev cX3_wouldAnswer : ByteArray := prog_5_method_7_code
def yX3_wouldAnswer : MethodName := ⟨RX3, "wouldAnswer", "()Z"⟩
abbrev cX3_open : ByteArray := prog_5_method_8_code
def yX3_open : MethodName := ⟨RX3, "open", "()I"⟩
abbrev cX3_notOpen : ByteArray := prog_5_method_9_code
def yX3_notOpen : MethodName := ⟨RX3, "notOpen", "()I"⟩
abbrev cX3_callersOf : ByteArray := prog_5_method_10_code
def yX3_callersOf : MethodName := ⟨RX3, "callersOf", "(I)I"⟩
abbrev cX3_isHushed : ByteArray := prog_5_method_11_code
def yX3_isHushed : MethodName := ⟨RX3, "isHushed", "(I)Z"⟩
abbrev cX3_pass : ByteArray := prog_5_method_12_code
def yX3_pass : MethodName := ⟨RX3, "pass", "(Z)I"⟩
abbrev cX3_answeredIn : ByteArray := prog_5_method_13_code
def yX3_answeredIn : MethodName := ⟨RX3, "answeredIn", "(I)I"⟩
abbrev cX3_carryOut : ByteArray := prog_5_method_14_code
def yX3_carryOut : MethodName := ⟨RX3, "carryOut", "(III)V"⟩
def RX4 : String := "TripCalls"
def TX4 : u_T := fun k => match k with
  | 0 => ("TripCalls", "rows", "[[I", true)
  | 1 => ("TripCalls", "rowSizes", "[I", true)
  | 2 => ("TripCalls", "texts", "[[B", true)
  | 3 => ("TripCalls", "textSizes", "[I", true)
  | 4 => ("TripCalls", "first", "LTripCalls$House;", true)
  | 5 => ("TripCalls", "now", "LTripCalls$House;", true)
  | 6 => ("TripCalls", "aside", "LTripCalls$House;", true)
  | 7 => ("TripCalls", "deeds", "LTripCalls$Deeds;", true)
  | 8 => ("TripCalls", "kept", "[LTripCalls$Deeds;", true)
  | 9 => ("TripCalls", "told", "I", false)
  | 10 => ("TripCalls", "toldUpper", "J", false)
  | 11 => ("TripCalls", "toldLower", "J", false)
  | 12 => ("TripCalls", "latestFinding", "I", false)
  | 13 => ("TripCalls", "findingCounts", "[I", true)
  | 14 => ("TripCalls", "choice", "LTripCalls$Choice;", true)
  | 15 => ("TripCalls", "byPattern", "[I", true)
  | _ => ("TripCalls", "alike", "[I", true)
def tyX4 : Nat → FieldType := fun k => match k with
  | 0 => .array (.array .int)
  | 1 => .array .int
  | 2 => .array (.array .byte)
  | 3 => .array .int
  | 4 => .object "TripCalls$House"
  | 5 => .object "TripCalls$House"
  | 6 => .object "TripCalls$House"
  | 7 => .object "TripCalls$Deeds"
  | 8 => .array (.object "TripCalls$Deeds")
  | 9 => .int
  | 10 => .long
  | 11 => .long
  | 12 => .int
  | 13 => .array .int
  | 14 => .object "TripCalls$Choice"
  | 15 => .array .int
  | _ => .array .int
abbrev wsX40 : List Cond := u_ws RX4 TX4 17
theorem nmX4 : ∀ a, a < 17 → ∀ b, b < 17 → a ≠ b → (TX4 a).2.1 ≠ (TX4 b).2.1 := by decide +kernel
theorem tyX4_ok : ∀ k, k < 17 → parseFieldDescriptor (TX4 k).2.2.1 = some (tyX4 k) := by decide +kernel
abbrev cX4_init : ByteArray := prog_1_method_1_code
def yX4_init : MethodName := ⟨RX4, "<init>", "()V"⟩
abbrev cX4_row : ByteArray := prog_1_method_2_code
def yX4_row : MethodName := ⟨RX4, "row", "(II)I"⟩
abbrev cX4_lay : ByteArray := prog_1_method_3_code
def yX4_lay : MethodName := ⟨RX4, "lay", "(III)I"⟩
abbrev cX4_at : ByteArray := prog_1_method_4_code
def yX4_at : MethodName := ⟨RX4, "at", "(II)I"⟩
abbrev cX4_tear : ByteArray := prog_1_method_5_code
def yX4_tear : MethodName := ⟨RX4, "tear", "(I)I"⟩
abbrev cX4_copy : ByteArray := prog_1_method_6_code
def yX4_copy : MethodName := ⟨RX4, "copy", "(IIIII)I"⟩
abbrev cX4_mean : ByteArray := prog_1_method_7_code
def yX4_mean : MethodName := ⟨RX4, "mean", "(I)I"⟩
abbrev cX4_text : ByteArray := prog_1_method_8_code
def yX4_text : MethodName := ⟨RX4, "text", "(II)I"⟩
abbrev cX4_put : ByteArray := prog_1_method_9_code
def yX4_put : MethodName := ⟨RX4, "put", "(III)I"⟩
abbrev cX4_fault : ByteArray := prog_1_method_10_code
def yX4_fault : MethodName := ⟨RX4, "fault", "(I)I"⟩
abbrev cX4_house : ByteArray := prog_1_method_11_code
def yX4_house : MethodName := ⟨RX4, "house", "(I)I"⟩
abbrev cX4_caller : ByteArray := prog_1_method_12_code
def yX4_caller : MethodName := ⟨RX4, "caller", "(II)I"⟩
abbrev cX4_mark : ByteArray := prog_1_method_13_code
def yX4_mark : MethodName := ⟨RX4, "mark", "(II)I"⟩
abbrev cX4_up : ByteArray := prog_1_method_14_code
def yX4_up : MethodName := ⟨RX4, "up", "(I)I"⟩
abbrev cX4_step : ByteArray := prog_1_method_15_code
def yX4_step : MethodName := ⟨RX4, "step", "()I"⟩
abbrev cX4_flip : ByteArray := prog_1_method_16_code
def yX4_flip : MethodName := ⟨RX4, "flip", "(I)I"⟩
abbrev cX4_room : ByteArray := prog_1_method_17_code
def yX4_room : MethodName := ⟨RX4, "room", "(I)I"⟩
abbrev cX4_limit : ByteArray := prog_1_method_18_code
def yX4_limit : MethodName := ⟨RX4, "limit", "(II)I"⟩
abbrev cX4_reset : ByteArray := prog_1_method_19_code
def yX4_reset : MethodName := ⟨RX4, "reset", "(I)I"⟩
abbrev cX4_undo : ByteArray := prog_1_method_20_code
def yX4_undo : MethodName := ⟨RX4, "undo", "(I)I"⟩
abbrev cX4_keep : ByteArray := prog_1_method_21_code
def yX4_keep : MethodName := ⟨RX4, "keep", "(I)I"⟩
abbrev cX4_on : ByteArray := prog_1_method_22_code
def yX4_on : MethodName := ⟨RX4, "on", "(I)I"⟩
abbrev cX4_calls : ByteArray := prog_1_method_23_code
def yX4_calls : MethodName := ⟨RX4, "calls", "()I"⟩
abbrev cX4_later : ByteArray := prog_1_method_24_code
def yX4_later : MethodName := ⟨RX4, "later", "(II)I"⟩
abbrev cX4_trips : ByteArray := prog_1_method_25_code
def yX4_trips : MethodName := ⟨RX4, "trips", "(I)I"⟩
abbrev cX4_worst : ByteArray := prog_1_method_26_code
def yX4_worst : MethodName := ⟨RX4, "worst", "()I"⟩
abbrev cX4_best : ByteArray := prog_1_method_27_code
def yX4_best : MethodName := ⟨RX4, "best", "(I)I"⟩
abbrev cX4_mend : ByteArray := prog_1_method_28_code
def yX4_mend : MethodName := ⟨RX4, "mend", "(I)I"⟩
abbrev cX4_tune : ByteArray := prog_1_method_29_code
def yX4_tune : MethodName := ⟨RX4, "tune", "(II)I"⟩
abbrev cX4_hush : ByteArray := prog_1_method_30_code
def yX4_hush : MethodName := ⟨RX4, "hush", "(I)I"⟩
abbrev cX4_patterns : ByteArray := prog_1_method_31_code
def yX4_patterns : MethodName := ⟨RX4, "patterns", "(I)I"⟩
abbrev cX4_kinds : ByteArray := prog_1_method_32_code
def yX4_kinds : MethodName := ⟨RX4, "kinds", "(II)I"⟩
abbrev cX4_test : ByteArray := prog_1_method_33_code
def yX4_test : MethodName := ⟨RX4, "test", "(II)I"⟩
abbrev cX4_duel : ByteArray := prog_1_method_34_code
def yX4_duel : MethodName := ⟨RX4, "duel", "(I)I"⟩
abbrev cX4_odds : ByteArray := prog_1_method_35_code
def yX4_odds : MethodName := ⟨RX4, "odds", "(II)I"⟩
abbrev cX4_mid : ByteArray := prog_1_method_36_code
def yX4_mid : MethodName := ⟨RX4, "mid", "(I)I"⟩
abbrev cX4_lots : ByteArray := prog_1_method_37_code
def yX4_lots : MethodName := ⟨RX4, "lots", "(II)I"⟩
abbrev cX4_asked : ByteArray := prog_1_method_38_code
def yX4_asked : MethodName := ⟨RX4, "asked", "()I"⟩
abbrev cX4_upper : ByteArray := prog_1_method_39_code
def yX4_upper : MethodName := ⟨RX4, "upper", "()J"⟩
abbrev cX4_lower : ByteArray := prog_1_method_40_code
def yX4_lower : MethodName := ⟨RX4, "lower", "()J"⟩
abbrev cX4_count : ByteArray := prog_1_method_41_code
def yX4_count : MethodName := ⟨RX4, "count", "(I)I"⟩
abbrev cX4_finding : ByteArray := prog_1_method_42_code
def yX4_finding : MethodName := ⟨RX4, "finding", "()I"⟩
abbrev cX4_findings : ByteArray := prog_1_method_43_code
def yX4_findings : MethodName := ⟨RX4, "findings", "(I)I"⟩
abbrev cX4_digest : ByteArray := prog_1_method_44_code
def yX4_digest : MethodName := ⟨RX4, "digest", "()J"⟩
abbrev cX4_isRow : ByteArray := prog_1_method_45_code
def yX4_isRow : MethodName := ⟨RX4, "isRow", "(I)Z"⟩
abbrev cX4_isText : ByteArray := prog_1_method_46_code
def yX4_isText : MethodName := ⟨RX4, "isText", "(I)Z"⟩
abbrev cX4_isFigure : ByteArray := prog_1_method_47_code
def yX4_isFigure : MethodName := ⟨RX4, "isFigure", "(I)Z"⟩
abbrev cX4_isKeptPlace : ByteArray := prog_1_method_48_code
def yX4_isKeptPlace : MethodName := ⟨RX4, "isKeptPlace", "(I)Z"⟩
abbrev cX4_isChance : ByteArray := prog_1_method_49_code
def yX4_isChance : MethodName := ⟨RX4, "isChance", "(I)Z"⟩
abbrev cX4_isCaller : ByteArray := prog_1_method_50_code
def yX4_isCaller : MethodName := ⟨RX4, "isCaller", "(I)Z"⟩
abbrev cX4_isFullWith : ByteArray := prog_1_method_51_code
def yX4_isFullWith : MethodName := ⟨RX4, "isFullWith", "(I)Z"⟩
abbrev cX4_found : ByteArray := prog_1_method_52_code
def yX4_found : MethodName := ⟨RX4, "found", "(I)I"⟩
abbrev cX4_findingOfPlace : ByteArray := prog_1_method_53_code
def yX4_findingOfPlace : MethodName := ⟨RX4, "findingOfPlace", "(II)I"⟩
abbrev cX4_hasPlaces : ByteArray := prog_1_method_54_code
def yX4_hasPlaces : MethodName := ⟨RX4, "hasPlaces", "(III)Z"⟩
abbrev cX4_findingOfSeen : ByteArray := prog_1_method_55_code
def yX4_findingOfSeen : MethodName := ⟨RX4, "findingOfSeen", "(I)I"⟩
abbrev cX4_doDeed : ByteArray := prog_1_method_56_code
def yX4_doDeed : MethodName := ⟨RX4, "doDeed", "(III)V"⟩
abbrev cX4_doDeedOfLot : ByteArray := prog_1_method_57_code
def yX4_doDeedOfLot : MethodName := ⟨RX4, "doDeedOfLot", "(I)V"⟩
abbrev cX4_doAllAgain : ByteArray := prog_1_method_58_code
def yX4_doAllAgain : MethodName := ⟨RX4, "doAllAgain", "()V"⟩
abbrev cX4_offerSetsOf : ByteArray := prog_1_method_59_code
def yX4_offerSetsOf : MethodName := ⟨RX4, "offerSetsOf", "(II)V"⟩
abbrev cX4_goesAsSeen : ByteArray := prog_1_method_60_code
def yX4_goesAsSeen : MethodName := ⟨RX4, "goesAsSeen", "(I)Z"⟩
abbrev cX4_kindsAsSeen : ByteArray := prog_1_method_61_code
def yX4_kindsAsSeen : MethodName := ⟨RX4, "kindsAsSeen", "(II)I"⟩
abbrev cX4_countAlike : ByteArray := prog_1_method_62_code
def yX4_countAlike : MethodName := ⟨RX4, "countAlike", "(II)V"⟩
abbrev cX4_greatestPart : ByteArray := prog_1_method_63_code
def yX4_greatestPart : MethodName := ⟨RX4, "greatestPart", "(I)I"⟩
abbrev cX4_playFrom : ByteArray := prog_1_method_64_code
def yX4_playFrom : MethodName := ⟨RX4, "playFrom", "(IIZ)I"⟩
abbrev cX4_duelEnd : ByteArray := prog_1_method_65_code
def yX4_duelEnd : MethodName := ⟨RX4, "duelEnd", "(I)I"⟩
abbrev cX4_answeredWithDowns : ByteArray := prog_1_method_66_code
def yX4_answeredWithDowns : MethodName := ⟨RX4, "answeredWithDowns", "(I)I"⟩
abbrev cX4_weightOfDowns : ByteArray := prog_1_method_67_code
def yX4_weightOfDowns : MethodName := ⟨RX4, "weightOfDowns", "(II)J"⟩
abbrev cX4_tellFraction : ByteArray := prog_1_method_68_code
def yX4_tellFraction : MethodName := ⟨RX4, "tellFraction", "(J)V"⟩
abbrev cX4_commonDivisor : ByteArray := prog_1_method_69_code
def yX4_commonDivisor : MethodName := ⟨RX4, "commonDivisor", "(JJ)J"⟩
abbrev cX4_countOf : ByteArray := prog_1_method_70_code
def yX4_countOf : MethodName := ⟨RX4, "countOf", "(I)I"⟩
abbrev cX4_thereOf : ByteArray := prog_1_method_71_code
def yX4_thereOf : MethodName := ⟨RX4, "thereOf", "([I)I"⟩
abbrev cX4_keptHouses : ByteArray := prog_1_method_72_code
def yX4_keptHouses : MethodName := ⟨RX4, "keptHouses", "()I"⟩
abbrev cX4_digestRows : ByteArray := prog_1_method_73_code
def yX4_digestRows : MethodName := ⟨RX4, "digestRows", "(J)J"⟩
abbrev cX4_digestTexts : ByteArray := prog_1_method_74_code
def yX4_digestTexts : MethodName := ⟨RX4, "digestTexts", "(J)J"⟩
abbrev cX4_readHouse : ByteArray := prog_1_method_75_code
def yX4_readHouse : MethodName := ⟨RX4, "readHouse", "([BILTripCalls$House;)I"⟩
abbrev cX4_readCaller : ByteArray := prog_1_method_76_code
def yX4_readCaller : MethodName := ⟨RX4, "readCaller", "([BIILTripCalls$House;)I"⟩
abbrev cX4_pastBlanks : ByteArray := prog_1_method_77_code
def yX4_pastBlanks : MethodName := ⟨RX4, "pastBlanks", "([BII)I"⟩
abbrev cX4_figureAt : ByteArray := prog_1_method_78_code
def yX4_figureAt : MethodName := ⟨RX4, "figureAt", "([BII)I"⟩
abbrev cX4_kindAt : ByteArray := prog_1_method_79_code
def yX4_kindAt : MethodName := ⟨RX4, "kindAt", "([BII)I"⟩
def RX5 : String := "TripCallsModel"
def TX5 : u_T := fun k => match k with
  | 0 => ("TripCallsModel", "rowSizes", "[I", true)
  | 1 => ("TripCallsModel", "rows", "[I", true)
  | 2 => ("TripCallsModel", "textSizes", "[I", true)
  | 3 => ("TripCallsModel", "texts", "[I", true)
  | 4 => ("TripCallsModel", "callers", "I", false)
  | 5 => ("TripCallsModel", "kinds", "[I", true)
  | 6 => ("TripCallsModel", "rests", "[I", true)
  | 7 => ("TripCallsModel", "now", "[I", true)
  | 8 => ("TripCallsModel", "aside", "[I", true)
  | 9 => ("TripCallsModel", "kindsAside", "[I", true)
  | 10 => ("TripCallsModel", "past", "[I", true)
  | 11 => ("TripCallsModel", "deeds", "I", false)
  | 12 => ("TripCallsModel", "kept", "[I", true)
  | 13 => ("TripCallsModel", "isKept", "[Z", true)
  | 14 => ("TripCallsModel", "asked", "I", false)
  | 15 => ("TripCallsModel", "upper", "J", false)
  | 16 => ("TripCallsModel", "lower", "J", false)
  | 17 => ("TripCallsModel", "finding", "I", false)
  | 18 => ("TripCallsModel", "findings", "[I", true)
  | 19 => ("TripCallsModel", "readRoom", "I", false)
  | 20 => ("TripCallsModel", "readCallers", "I", false)
  | 21 => ("TripCallsModel", "readKinds", "[I", true)
  | 22 => ("TripCallsModel", "readNumbers", "[I", true)
  | 23 => ("TripCallsModel", "answered", "I", false)
  | 24 => ("TripCallsModel", "tripped", "I", false)
  | 25 => ("TripCallsModel", "hows", "[I", true)
  | _ => ("TripCallsModel", "comes", "[I", true)
def tyX5 : Nat → FieldType := fun k => match k with
  | 0 => .array .int
  | 1 => .array .int
  | 2 => .array .int
  | 3 => .array .int
  | 4 => .int
  | 5 => .array .int
  | 6 => .array .int
  | 7 => .array .int
  | 8 => .array .int
  | 9 => .array .int
  | 10 => .array .int
  | 11 => .int
  | 12 => .array .int
  | 13 => .array .boolean
  | 14 => .int
  | 15 => .long
  | 16 => .long
  | 17 => .int
  | 18 => .array .int
  | 19 => .int
  | 20 => .int
  | 21 => .array .int
  | 22 => .array .int
  | 23 => .int
  | 24 => .int
  | 25 => .array .int
  | _ => .array .int
abbrev wsX50 : List Cond := u_ws RX5 TX5 27
theorem nmX5 : ∀ a, a < 27 → ∀ b, b < 27 → a ≠ b → (TX5 a).2.1 ≠ (TX5 b).2.1 := by decide +kernel
theorem tyX5_ok : ∀ k, k < 27 → parseFieldDescriptor (TX5 k).2.2.1 = some (tyX5 k) := by decide +kernel
abbrev cX5_init : ByteArray := prog_7_method_1_code
def yX5_init : MethodName := ⟨RX5, "<init>", "()V"⟩
abbrev cX5_in : ByteArray := prog_7_method_3_code
def yX5_in : MethodName := ⟨RX5, "in", "(JJJ)Z"⟩
abbrev cX5_has : ByteArray := prog_7_method_4_code
def yX5_has : MethodName := ⟨RX5, "has", "(II)Z"⟩
abbrev cX5_bits : ByteArray := prog_7_method_5_code
def yX5_bits : MethodName := ⟨RX5, "bits", "(I)I"⟩
abbrev cX5_found : ByteArray := prog_7_method_6_code
def yX5_found : MethodName := ⟨RX5, "found", "(I)I"⟩
abbrev cX5_tell : ByteArray := prog_7_method_7_code
def yX5_tell : MethodName := ⟨RX5, "tell", "(I)I"⟩
abbrev cX5_answer : ByteArray := prog_7_method_8_code
def yX5_answer : MethodName := ⟨RX5, "answer", "(II)I"⟩
abbrev cX5_isRow : ByteArray := prog_7_method_9_code
def yX5_isRow : MethodName := ⟨RX5, "isRow", "(I)Z"⟩
abbrev cX5_isText : ByteArray := prog_7_method_10_code
def yX5_isText : MethodName := ⟨RX5, "isText", "(I)Z"⟩
abbrev cX5_row : ByteArray := prog_7_method_11_code
def yX5_row : MethodName := ⟨RX5, "row", "(II)I"⟩
abbrev cX5_lay : ByteArray := prog_7_method_12_code
def yX5_lay : MethodName := ⟨RX5, "lay", "(III)I"⟩
abbrev cX5_at : ByteArray := prog_7_method_13_code
def yX5_at : MethodName := ⟨RX5, "at", "(II)I"⟩
abbrev cX5_tear : ByteArray := prog_7_method_14_code
def yX5_tear : MethodName := ⟨RX5, "tear", "(I)I"⟩
abbrev cX5_copy : ByteArray := prog_7_method_15_code
def yX5_copy : MethodName := ⟨RX5, "copy", "(IIIII)I"⟩
abbrev cX5_mean : ByteArray := prog_7_method_16_code
def yX5_mean : MethodName := ⟨RX5, "mean", "(I)I"⟩
abbrev cX5_text : ByteArray := prog_7_method_17_code
def yX5_text : MethodName := ⟨RX5, "text", "(II)I"⟩
abbrev cX5_put : ByteArray := prog_7_method_18_code
def yX5_put : MethodName := ⟨RX5, "put", "(III)I"⟩
abbrev cX5_copies : ByteArray := prog_7_method_19_code
def yX5_copies : MethodName := ⟨RX5, "copies", "([II[III)V"⟩
abbrev cX5_kindOf : ByteArray := prog_7_method_20_code
def yX5_kindOf : MethodName := ⟨RX5, "kindOf", "(I)I"⟩
abbrev cX5_isFigure : ByteArray := prog_7_method_21_code
def yX5_isFigure : MethodName := ⟨RX5, "isFigure", "(II)Z"⟩
abbrev cX5_reads : ByteArray := prog_7_method_22_code
def yX5_reads : MethodName := ⟨RX5, "reads", "(I)I"⟩
abbrev cX5_fault : ByteArray := prog_7_method_23_code
def yX5_fault : MethodName := ⟨RX5, "fault", "(I)I"⟩
abbrev cX5_resets : ByteArray := prog_7_method_24_code
def yX5_resets : MethodName := ⟨RX5, "resets", "(I)V"⟩
abbrev cX5_house : ByteArray := prog_7_method_25_code
def yX5_house : MethodName := ⟨RX5, "house", "(I)I"⟩
abbrev cX5_isCaller : ByteArray := prog_7_method_26_code
def yX5_isCaller : MethodName := ⟨RX5, "isCaller", "(I)Z"⟩
abbrev cX5_tripsOn : ByteArray := prog_7_method_27_code
def yX5_tripsOn : MethodName := ⟨RX5, "tripsOn", "([II)V"⟩
abbrev cX5_isAnswered : ByteArray := prog_7_method_28_code
def yX5_isAnswered : MethodName := ⟨RX5, "isAnswered", "([II)V"⟩
abbrev cX5_hasFault : ByteArray := prog_7_method_29_code
def yX5_hasFault : MethodName := ⟨RX5, "hasFault", "([II)V"⟩
abbrev cX5_isAtRest : ByteArray := prog_7_method_30_code
def yX5_isAtRest : MethodName := ⟨RX5, "isAtRest", "([II)V"⟩
abbrev cX5_isUp : ByteArray := prog_7_method_31_code
def yX5_isUp : MethodName := ⟨RX5, "isUp", "([I)Z"⟩
abbrev cX5_whoCalls : ByteArray := prog_7_method_32_code
def yX5_whoCalls : MethodName := ⟨RX5, "whoCalls", "([II)I"⟩
abbrev cX5_goes : ByteArray := prog_7_method_33_code
def yX5_goes : MethodName := ⟨RX5, "goes", "([IIZ)I"⟩
abbrev cX5_asKinds : ByteArray := prog_7_method_34_code
def yX5_asKinds : MethodName := ⟨RX5, "asKinds", "()V"⟩
abbrev cX5_laysAside : ByteArray := prog_7_method_35_code
def yX5_laysAside : MethodName := ⟨RX5, "laysAside", "()V"⟩
abbrev cX5_goesOn : ByteArray := prog_7_method_36_code
def yX5_goesOn : MethodName := ⟨RX5, "goesOn", "(II)I"⟩
abbrev cX5_caller : ByteArray := prog_7_method_37_code
def yX5_caller : MethodName := ⟨RX5, "caller", "(II)I"⟩
abbrev cX5_mark : ByteArray := prog_7_method_38_code
def yX5_mark : MethodName := ⟨RX5, "mark", "(II)I"⟩
abbrev cX5_up : ByteArray := prog_7_method_39_code
def yX5_up : MethodName := ⟨RX5, "up", "(I)I"⟩
abbrev cX5_remembers : ByteArray := prog_7_method_40_code
def yX5_remembers : MethodName := ⟨RX5, "remembers", "()V"⟩
abbrev cX5_step : ByteArray := prog_7_method_41_code
def yX5_step : MethodName := ⟨RX5, "step", "()I"⟩
abbrev cX5_flip : ByteArray := prog_7_method_42_code
def yX5_flip : MethodName := ⟨RX5, "flip", "(I)I"⟩
abbrev cX5_isNumber : ByteArray := prog_7_method_43_code
def yX5_isNumber : MethodName := ⟨RX5, "isNumber", "(I)Z"⟩
abbrev cX5_room : ByteArray := prog_7_method_44_code
def yX5_room : MethodName := ⟨RX5, "room", "(I)I"⟩
abbrev cX5_limit : ByteArray := prog_7_method_45_code
def yX5_limit : MethodName := ⟨RX5, "limit", "(II)I"⟩
abbrev cX5_reset : ByteArray := prog_7_method_46_code
def yX5_reset : MethodName := ⟨RX5, "reset", "(I)I"⟩
abbrev cX5_undo : ByteArray := prog_7_method_47_code
def yX5_undo : MethodName := ⟨RX5, "undo", "(I)I"⟩
abbrev cX5_isPlace : ByteArray := prog_7_method_48_code
def yX5_isPlace : MethodName := ⟨RX5, "isPlace", "(I)Z"⟩
abbrev cX5_keep : ByteArray := prog_7_method_49_code
def yX5_keep : MethodName := ⟨RX5, "keep", "(I)I"⟩
abbrev cX5_on : ByteArray := prog_7_method_50_code
def yX5_on : MethodName := ⟨RX5, "on", "(I)I"⟩
abbrev cX5_calls : ByteArray := prog_7_method_51_code
def yX5_calls : MethodName := ⟨RX5, "calls", "()I"⟩
abbrev cX5_later : ByteArray := prog_7_method_52_code
def yX5_later : MethodName := ⟨RX5, "later", "(II)I"⟩
abbrev cX5_trips : ByteArray := prog_7_method_53_code
def yX5_trips : MethodName := ⟨RX5, "trips", "(I)I"⟩
abbrev cX5_worst : ByteArray := prog_7_method_54_code
def yX5_worst : MethodName := ⟨RX5, "worst", "()I"⟩
abbrev cX5_bestOf : ByteArray := prog_7_method_55_code
def yX5_bestOf : MethodName := ⟨RX5, "bestOf", "(II)I"⟩
abbrev cX5_best : ByteArray := prog_7_method_56_code
def yX5_best : MethodName := ⟨RX5, "best", "(I)I"⟩
abbrev cX5_mend : ByteArray := prog_7_method_57_code
def yX5_mend : MethodName := ⟨RX5, "mend", "(I)I"⟩
abbrev cX5_tune : ByteArray := prog_7_method_58_code
def yX5_tune : MethodName := ⟨RX5, "tune", "(II)I"⟩
abbrev cX5_hush : ByteArray := prog_7_method_59_code
def yX5_hush : MethodName := ⟨RX5, "hush", "(I)I"⟩
abbrev cX5_seen : ByteArray := prog_7_method_60_code
def yX5_seen : MethodName := ⟨RX5, "seen", "(I)I"⟩
abbrev cX5_comesSo : ByteArray := prog_7_method_61_code
def yX5_comesSo : MethodName := ⟨RX5, "comesSo", "(I)Z"⟩
abbrev cX5_patterns : ByteArray := prog_7_method_62_code
def yX5_patterns : MethodName := ⟨RX5, "patterns", "(I)I"⟩
abbrev cX5_kindsBy : ByteArray := prog_7_method_63_code
def yX5_kindsBy : MethodName := ⟨RX5, "kindsBy", "(II)I"⟩
abbrev cX5_kinds : ByteArray := prog_7_method_64_code
def yX5_kinds : MethodName := ⟨RX5, "kinds", "(II)I"⟩
abbrev cX5_test : ByteArray := prog_7_method_65_code
def yX5_test : MethodName := ⟨RX5, "test", "(II)I"⟩
abbrev cX5_patternBy : ByteArray := prog_7_method_66_code
def yX5_patternBy : MethodName := ⟨RX5, "patternBy", "(II)I"⟩
abbrev cX5_duel : ByteArray := prog_7_method_67_code
def yX5_duel : MethodName := ⟨RX5, "duel", "(I)I"⟩
abbrev cX5_tellsPart : ByteArray := prog_7_method_68_code
def yX5_tellsPart : MethodName := ⟨RX5, "tellsPart", "(JJ)V"⟩
abbrev cX5_sixBy : ByteArray := prog_7_method_69_code
def yX5_sixBy : MethodName := ⟨RX5, "sixBy", "(I)I"⟩
abbrev cX5_weigh : ByteArray := prog_7_method_70_code
def yX5_weigh : MethodName := ⟨RX5, "weigh", "(II)J"⟩
abbrev cX5_chance : ByteArray := prog_7_method_71_code
def yX5_chance : MethodName := ⟨RX5, "chance", "(IIZ)I"⟩
abbrev cX5_odds : ByteArray := prog_7_method_72_code
def yX5_odds : MethodName := ⟨RX5, "odds", "(II)I"⟩
abbrev cX5_mid : ByteArray := prog_7_method_73_code
def yX5_mid : MethodName := ⟨RX5, "mid", "(I)I"⟩
abbrev cX5_lots : ByteArray := prog_7_method_74_code
def yX5_lots : MethodName := ⟨RX5, "lots", "(II)I"⟩
abbrev cX5_asked : ByteArray := prog_7_method_75_code
def yX5_asked : MethodName := ⟨RX5, "asked", "()I"⟩
abbrev cX5_upper : ByteArray := prog_7_method_76_code
def yX5_upper : MethodName := ⟨RX5, "upper", "()J"⟩
abbrev cX5_lower : ByteArray := prog_7_method_77_code
def yX5_lower : MethodName := ⟨RX5, "lower", "()J"⟩
abbrev cX5_opens : ByteArray := prog_7_method_78_code
def yX5_opens : MethodName := ⟨RX5, "opens", "()I"⟩
abbrev cX5_of : ByteArray := prog_7_method_79_code
def yX5_of : MethodName := ⟨RX5, "of", "(II)I"⟩
abbrev cX5_there : ByteArray := prog_7_method_80_code
def yX5_there : MethodName := ⟨RX5, "there", "([II)I"⟩
abbrev cX5_count : ByteArray := prog_7_method_81_code
def yX5_count : MethodName := ⟨RX5, "count", "(I)I"⟩
abbrev cX5_finding : ByteArray := prog_7_method_82_code
def yX5_finding : MethodName := ⟨RX5, "finding", "()I"⟩
abbrev cX5_findings : ByteArray := prog_7_method_83_code
def yX5_findings : MethodName := ⟨RX5, "findings", "(I)I"⟩
abbrev cX5_digest : ByteArray := prog_7_method_84_code
def yX5_digest : MethodName := ⟨RX5, "digest", "()J"⟩
def RJ6 : String := "java/lang/Integer"
def TJ6 : u_T := fun k => match k with
  | _ => ("", "", "", false)
def tyJ6 : Nat → FieldType := fun k => match k with
  | _ => .int
abbrev wsJ60 : List Cond := u_ws RJ6 TJ6 0
theorem nmJ6 : ∀ a, a < 0 → ∀ b, b < 0 → a ≠ b → (TJ6 a).2.1 ≠ (TJ6 b).2.1 := by decide +kernel
theorem tyJ6_ok : ∀ k, k < 0 → parseFieldDescriptor (TJ6 k).2.2.1 = some (tyJ6 k) := by decide +kernel
abbrev cJ6_bitCount_0f7a4 : ByteArray := prog_8_method_49_code
def yJ6_bitCount_0f7a4 : MethodName := ⟨RJ6, "bitCount", "(I)I"⟩
def RJ9 : String := "java/lang/Math"
def TJ9 : u_T := fun k => match k with
  | _ => ("", "", "", false)
def tyJ9 : Nat → FieldType := fun k => match k with
  | _ => .int
abbrev wsJ90 : List Cond := u_ws RJ9 TJ9 0
theorem nmJ9 : ∀ a, a < 0 → ∀ b, b < 0 → a ≠ b → (TJ9 a).2.1 ≠ (TJ9 b).2.1 := by decide +kernel
theorem tyJ9_ok : ∀ k, k < 0 → parseFieldDescriptor (TJ9 k).2.2.1 = some (tyJ9 k) := by decide +kernel
abbrev cJ9_floorMod_7cf53 : ByteArray := prog_9_method_50_code
def yJ9_floorMod_7cf53 : MethodName := ⟨RJ9, "floorMod", "(II)I"⟩
abbrev cJ9_max_7cf53 : ByteArray := prog_9_method_65_code
def yJ9_max_7cf53 : MethodName := ⟨RJ9, "max", "(II)I"⟩
abbrev cJ9_max_f86c9 : ByteArray := prog_9_method_66_code
def yJ9_max_f86c9 : MethodName := ⟨RJ9, "max", "(JJ)J"⟩
abbrev cJ9_min_7cf53 : ByteArray := prog_9_method_69_code
def yJ9_min_7cf53 : MethodName := ⟨RJ9, "min", "(II)I"⟩
def RJ10 : String := "java/lang/System"
def TJ10 : u_T := fun k => match k with
  | _ => ("", "", "", false)
def tyJ10 : Nat → FieldType := fun k => match k with
  | _ => .int
abbrev wsJ100 : List Cond := u_ws RJ10 TJ10 0
theorem nmJ10 : ∀ a, a < 0 → ∀ b, b < 0 → a ≠ b → (TJ10 a).2.1 ≠ (TJ10 b).2.1 := by decide +kernel
theorem tyJ10_ok : ∀ k, k < 0 → parseFieldDescriptor (TJ10 k).2.2.1 = some (tyJ10 k) := by decide +kernel
def RJ7 : String := "java/util/Arrays"
def TJ7 : u_T := fun k => match k with
  | _ => ("", "", "", false)
def tyJ7 : Nat → FieldType := fun k => match k with
  | _ => .int
abbrev wsJ70 : List Cond := u_ws RJ7 TJ7 0
theorem nmJ7 : ∀ a, a < 0 → ∀ b, b < 0 → a ≠ b → (TJ7 a).2.1 ≠ (TJ7 b).2.1 := by decide +kernel
theorem tyJ7_ok : ∀ k, k < 0 → parseFieldDescriptor (TJ7 k).2.2.1 = some (tyJ7 k) := by decide +kernel
abbrev cJ7_fill_53178 : ByteArray := prog_11_method_103_code
def yJ7_fill_53178 : MethodName := ⟨RJ7, "fill", "([II)V"⟩
abbrev cJ7_fill_031fb : ByteArray := prog_11_method_109_code
def yJ7_fill_031fb : MethodName := ⟨RJ7, "fill", "([BB)V"⟩
def RL : String := "TripCallsLaw"
abbrev cL_law : ByteArray := code
def yL_law : MethodName := ⟨RL, "law", "([I)Z"⟩
set_option maxRecDepth 100000 in
theorem inX0 : ∀ w ∈ wsX00, w ∈ lw_tbl := by decide +kernel
set_option maxRecDepth 100000 in
theorem inX1 : ∀ w ∈ wsX10, w ∈ lw_tbl := by decide +kernel
set_option maxRecDepth 100000 in
theorem inX2 : ∀ w ∈ wsX20, w ∈ lw_tbl := by decide +kernel
set_option maxRecDepth 100000 in
theorem inX3 : ∀ w ∈ wsX30, w ∈ lw_tbl := by decide +kernel
set_option maxRecDepth 100000 in
theorem inX4 : ∀ w ∈ wsX40, w ∈ lw_tbl := by decide +kernel
set_option maxRecDepth 100000 in
theorem inX5 : ∀ w ∈ wsX50, w ∈ lw_tbl := by decide +kernel
abbrev vwCl : List vw_C := [(RX0, TX0, 7), (RX1, TX1, 2), (RX2, TX2, 4), (RX3, TX3, 8), (RX4, TX4, 17), (RX5, TX5, 27)]
end
section
theorem dX0_init_0 : decode cX0_init 0 = .ok (.aload_n 0, 1) := by decide +kernel
theorem dX0_init_1 : decode cX0_init 1 = .ok (.invokespecial 3, 3) := by decide +kernel
theorem dX0_init_4 : decode cX0_init 4 = .ok (.return_, 1) := by decide +kernel
theorem dX0_begin_0 : decode cX0_begin 0 = .ok (.aload_n 0, 1) := by decide +kernel
theorem dX0_begin_1 : decode cX0_begin 1 = .ok (.iload_n 1, 1) := by decide +kernel
theorem dX0_begin_2 : decode cX0_begin 2 = .ok (.putfield 9, 3) := by decide +kernel
theorem dX0_begin_5 : decode cX0_begin 5 = .ok (.aload_n 0, 1) := by decide +kernel
theorem dX0_begin_6 : decode cX0_begin 6 = .ok (.iload_n 2, 1) := by decide +kernel
theorem dX0_begin_7 : decode cX0_begin 7 = .ok (.putfield 15, 3) := by decide +kernel
theorem dX0_begin_10 : decode cX0_begin 10 = .ok (.aload_n 0, 1) := by decide +kernel
theorem dX0_begin_11 : decode cX0_begin 11 = .ok (.iload_n 3, 1) := by decide +kernel
theorem dX0_begin_12 : decode cX0_begin 12 = .ok (.putfield 18, 3) := by decide +kernel
theorem dX0_begin_15 : decode cX0_begin 15 = .ok (.aload_n 0, 1) := by decide +kernel
theorem dX0_begin_16 : decode cX0_begin 16 = .ok (.invokevirtual 21, 3) := by decide +kernel
theorem dX0_begin_19 : decode cX0_begin 19 = .ok (.return_, 1) := by decide +kernel
theorem dX0_renew_0 : decode cX0_renew 0 = .ok (.aload_n 0, 1) := by decide +kernel
theorem dX0_renew_1 : decode cX0_renew 1 = .ok (.iconst 0, 1) := by decide +kernel
theorem dX0_renew_2 : decode cX0_renew 2 = .ok (.putfield 24, 3) := by decide +kernel
theorem dX0_renew_5 : decode cX0_renew 5 = .ok (.aload_n 0, 1) := by decide +kernel
theorem dX0_renew_6 : decode cX0_renew 6 = .ok (.iconst 0, 1) := by decide +kernel
theorem dX0_renew_7 : decode cX0_renew 7 = .ok (.putfield 27, 3) := by decide +kernel
theorem dX0_renew_10 : decode cX0_renew 10 = .ok (.aload_n 0, 1) := by decide +kernel
theorem dX0_renew_11 : decode cX0_renew 11 = .ok (.iconst 0, 1) := by decide +kernel
theorem dX0_renew_12 : decode cX0_renew 12 = .ok (.putfield 30, 3) := by decide +kernel
theorem dX0_renew_15 : decode cX0_renew 15 = .ok (.aload_n 0, 1) := by decide +kernel
theorem dX0_renew_16 : decode cX0_renew 16 = .ok (.aload_n 0, 1) := by decide +kernel
theorem dX0_renew_17 : decode cX0_renew 17 = .ok (.getfield 18, 3) := by decide +kernel
theorem dX0_renew_20 : decode cX0_renew 20 = .ok (.putfield 33, 3) := by decide +kernel
theorem dX0_renew_23 : decode cX0_renew 23 = .ok (.return_, 1) := by decide +kernel
theorem dX0_become_0 : decode cX0_become 0 = .ok (.aload_n 0, 1) := by decide +kernel
theorem dX0_become_1 : decode cX0_become 1 = .ok (.aload_n 1, 1) := by decide +kernel
theorem dX0_become_2 : decode cX0_become 2 = .ok (.getfield 9, 3) := by decide +kernel
theorem dX0_become_5 : decode cX0_become 5 = .ok (.putfield 9, 3) := by decide +kernel
theorem dX0_become_8 : decode cX0_become 8 = .ok (.aload_n 0, 1) := by decide +kernel
theorem dX0_become_9 : decode cX0_become 9 = .ok (.aload_n 1, 1) := by decide +kernel
theorem dX0_become_10 : decode cX0_become 10 = .ok (.getfield 15, 3) := by decide +kernel
theorem dX0_become_13 : decode cX0_become 13 = .ok (.putfield 15, 3) := by decide +kernel
theorem dX0_become_16 : decode cX0_become 16 = .ok (.aload_n 0, 1) := by decide +kernel
theorem dX0_become_17 : decode cX0_become 17 = .ok (.aload_n 1, 1) := by decide +kernel
theorem dX0_become_18 : decode cX0_become 18 = .ok (.getfield 18, 3) := by decide +kernel
theorem dX0_become_21 : decode cX0_become 21 = .ok (.putfield 18, 3) := by decide +kernel
theorem dX0_become_24 : decode cX0_become 24 = .ok (.aload_n 0, 1) := by decide +kernel
theorem dX0_become_25 : decode cX0_become 25 = .ok (.aload_n 1, 1) := by decide +kernel
theorem dX0_become_26 : decode cX0_become 26 = .ok (.getfield 24, 3) := by decide +kernel
theorem dX0_become_29 : decode cX0_become 29 = .ok (.putfield 24, 3) := by decide +kernel
theorem dX0_become_32 : decode cX0_become 32 = .ok (.aload_n 0, 1) := by decide +kernel
theorem dX0_become_33 : decode cX0_become 33 = .ok (.aload_n 1, 1) := by decide +kernel
theorem dX0_become_34 : decode cX0_become 34 = .ok (.getfield 27, 3) := by decide +kernel
theorem dX0_become_37 : decode cX0_become 37 = .ok (.putfield 27, 3) := by decide +kernel
theorem dX0_become_40 : decode cX0_become 40 = .ok (.aload_n 0, 1) := by decide +kernel
theorem dX0_become_41 : decode cX0_become 41 = .ok (.aload_n 1, 1) := by decide +kernel
theorem dX0_become_42 : decode cX0_become 42 = .ok (.getfield 30, 3) := by decide +kernel
theorem dX0_become_45 : decode cX0_become 45 = .ok (.putfield 30, 3) := by decide +kernel
theorem dX0_become_48 : decode cX0_become 48 = .ok (.aload_n 0, 1) := by decide +kernel
theorem dX0_become_49 : decode cX0_become 49 = .ok (.aload_n 1, 1) := by decide +kernel
theorem dX0_become_50 : decode cX0_become 50 = .ok (.getfield 33, 3) := by decide +kernel
theorem dX0_become_53 : decode cX0_become 53 = .ok (.putfield 33, 3) := by decide +kernel
theorem dX0_become_56 : decode cX0_become 56 = .ok (.return_, 1) := by decide +kernel
theorem dX0_isOf_0 : decode cX0_isOf 0 = .ok (.iload_n 1, 1) := by decide +kernel
theorem dX0_isOf_1 : decode cX0_isOf 1 = .ok (.tableswitch 73 0 2 #[27, 29, 51], 27) := by decide +kernel
theorem dX0_isOf_28 : decode cX0_isOf 28 = .ok (.iconst 1, 1) := by decide +kernel
theorem dX0_isOf_29 : decode cX0_isOf 29 = .ok (.ireturn, 1) := by decide +kernel
theorem dX0_isOf_30 : decode cX0_isOf 30 = .ok (.aload_n 0, 1) := by decide +kernel
theorem dX0_isOf_31 : decode cX0_isOf 31 = .ok (.getfield 9, 3) := by decide +kernel
theorem dX0_isOf_34 : decode cX0_isOf 34 = .ok (.iconst 1, 1) := by decide +kernel
theorem dX0_isOf_35 : decode cX0_isOf 35 = .ok (.if_icmp .eq 11, 3) := by decide +kernel
theorem dX0_isOf_38 : decode cX0_isOf 38 = .ok (.aload_n 0, 1) := by decide +kernel
theorem dX0_isOf_39 : decode cX0_isOf 39 = .ok (.getfield 9, 3) := by decide +kernel
theorem dX0_isOf_42 : decode cX0_isOf 42 = .ok (.iconst 4, 1) := by decide +kernel
theorem dX0_isOf_43 : decode cX0_isOf 43 = .ok (.if_icmp .ne 7, 3) := by decide +kernel
theorem dX0_isOf_46 : decode cX0_isOf 46 = .ok (.iconst 1, 1) := by decide +kernel
theorem dX0_isOf_47 : decode cX0_isOf 47 = .ok (.goto 4, 3) := by decide +kernel
theorem dX0_isOf_50 : decode cX0_isOf 50 = .ok (.iconst 0, 1) := by decide +kernel
theorem dX0_isOf_51 : decode cX0_isOf 51 = .ok (.ireturn, 1) := by decide +kernel
theorem dX0_isOf_52 : decode cX0_isOf 52 = .ok (.aload_n 0, 1) := by decide +kernel
theorem dX0_isOf_53 : decode cX0_isOf 53 = .ok (.getfield 9, 3) := by decide +kernel
theorem dX0_isOf_56 : decode cX0_isOf 56 = .ok (.iconst 2, 1) := by decide +kernel
theorem dX0_isOf_57 : decode cX0_isOf 57 = .ok (.if_icmp .eq 11, 3) := by decide +kernel
theorem dX0_isOf_60 : decode cX0_isOf 60 = .ok (.aload_n 0, 1) := by decide +kernel
theorem dX0_isOf_61 : decode cX0_isOf 61 = .ok (.getfield 9, 3) := by decide +kernel
theorem dX0_isOf_64 : decode cX0_isOf 64 = .ok (.iconst 5, 1) := by decide +kernel
theorem dX0_isOf_65 : decode cX0_isOf 65 = .ok (.if_icmp .ne 7, 3) := by decide +kernel
theorem dX0_isOf_68 : decode cX0_isOf 68 = .ok (.iconst 1, 1) := by decide +kernel
theorem dX0_isOf_69 : decode cX0_isOf 69 = .ok (.goto 4, 3) := by decide +kernel
theorem dX0_isOf_72 : decode cX0_isOf 72 = .ok (.iconst 0, 1) := by decide +kernel
theorem dX0_isOf_73 : decode cX0_isOf 73 = .ok (.ireturn, 1) := by decide +kernel
theorem dX0_isOf_74 : decode cX0_isOf 74 = .ok (.aload_n 0, 1) := by decide +kernel
theorem dX0_isOf_75 : decode cX0_isOf 75 = .ok (.getfield 9, 3) := by decide +kernel
theorem dX0_isOf_78 : decode cX0_isOf 78 = .ok (.iload_n 1, 1) := by decide +kernel
theorem dX0_isOf_79 : decode cX0_isOf 79 = .ok (.if_icmp .ne 7, 3) := by decide +kernel
theorem dX0_isOf_82 : decode cX0_isOf 82 = .ok (.iconst 1, 1) := by decide +kernel
theorem dX0_isOf_83 : decode cX0_isOf 83 = .ok (.goto 4, 3) := by decide +kernel
theorem dX0_isOf_86 : decode cX0_isOf 86 = .ok (.iconst 0, 1) := by decide +kernel
theorem dX0_isOf_87 : decode cX0_isOf 87 = .ok (.ireturn, 1) := by decide +kernel
theorem dX0_callsIn_0 : decode cX0_callsIn 0 = .ok (.aload_n 0, 1) := by decide +kernel
theorem dX0_callsIn_1 : decode cX0_callsIn 1 = .ok (.getfield 24, 3) := by decide +kernel
theorem dX0_callsIn_4 : decode cX0_callsIn 4 = .ok (.iconst 1, 1) := by decide +kernel
theorem dX0_callsIn_5 : decode cX0_callsIn 5 = .ok (.if_icmp .eq 21, 3) := by decide +kernel
theorem dX0_callsIn_8 : decode cX0_callsIn 8 = .ok (.aload_n 0, 1) := by decide +kernel
theorem dX0_callsIn_9 : decode cX0_callsIn 9 = .ok (.getfield 9, 3) := by decide +kernel
theorem dX0_callsIn_12 : decode cX0_callsIn 12 = .ok (.iconst 4, 1) := by decide +kernel
theorem dX0_callsIn_13 : decode cX0_callsIn 13 = .ok (.if_icmp .ne 9, 3) := by decide +kernel
theorem dX0_callsIn_16 : decode cX0_callsIn 16 = .ok (.iload_n 1, 1) := by decide +kernel
theorem dX0_callsIn_17 : decode cX0_callsIn 17 = .ok (.iconst 2, 1) := by decide +kernel
theorem dX0_callsIn_18 : decode cX0_callsIn 18 = .ok (.irem, 1) := by decide +kernel
theorem dX0_callsIn_19 : decode cX0_callsIn 19 = .ok (.ifCond .ne 7, 3) := by decide +kernel
theorem dX0_callsIn_22 : decode cX0_callsIn 22 = .ok (.iconst 1, 1) := by decide +kernel
theorem dX0_callsIn_23 : decode cX0_callsIn 23 = .ok (.goto 4, 3) := by decide +kernel
theorem dX0_callsIn_26 : decode cX0_callsIn 26 = .ok (.iconst 0, 1) := by decide +kernel
theorem dX0_callsIn_27 : decode cX0_callsIn 27 = .ok (.ireturn, 1) := by decide +kernel
theorem dX0_takeAnswer_0 : decode cX0_takeAnswer 0 = .ok (.aload_n 0, 1) := by decide +kernel
theorem dX0_takeAnswer_1 : decode cX0_takeAnswer 1 = .ok (.getfield 24, 3) := by decide +kernel
theorem dX0_takeAnswer_4 : decode cX0_takeAnswer 4 = .ok (.ifCond .ne 28, 3) := by decide +kernel
theorem dX0_takeAnswer_7 : decode cX0_takeAnswer 7 = .ok (.aload_n 0, 1) := by decide +kernel
theorem dX0_takeAnswer_8 : decode cX0_takeAnswer 8 = .ok (.iconst 1, 1) := by decide +kernel
theorem dX0_takeAnswer_9 : decode cX0_takeAnswer 9 = .ok (.invokevirtual 36, 3) := by decide +kernel
theorem dX0_takeAnswer_12 : decode cX0_takeAnswer 12 = .ok (.ifCond .eq 20, 3) := by decide +kernel
theorem dX0_takeAnswer_15 : decode cX0_takeAnswer 15 = .ok (.aload_n 0, 1) := by decide +kernel
theorem dX0_takeAnswer_16 : decode cX0_takeAnswer 16 = .ok (.iconst 0, 1) := by decide +kernel
theorem dX0_takeAnswer_17 : decode cX0_takeAnswer 17 = .ok (.aload_n 0, 1) := by decide +kernel
theorem dX0_takeAnswer_18 : decode cX0_takeAnswer 18 = .ok (.getfield 27, 3) := by decide +kernel
theorem dX0_takeAnswer_21 : decode cX0_takeAnswer 21 = .ok (.iconst 1, 1) := by decide +kernel
theorem dX0_takeAnswer_22 : decode cX0_takeAnswer 22 = .ok (.isub, 1) := by decide +kernel
theorem dX0_takeAnswer_23 : decode cX0_takeAnswer 23 = .ok (.invokestatic 40, 3) := by decide +kernel
theorem dX0_takeAnswer_26 : decode cX0_takeAnswer 26 = .ok (.putfield 27, 3) := by decide +kernel
theorem dX0_takeAnswer_29 : decode cX0_takeAnswer 29 = .ok (.goto 13, 3) := by decide +kernel
theorem dX0_takeAnswer_32 : decode cX0_takeAnswer 32 = .ok (.aload_n 0, 1) := by decide +kernel
theorem dX0_takeAnswer_33 : decode cX0_takeAnswer 33 = .ok (.iconst 0, 1) := by decide +kernel
theorem dX0_takeAnswer_34 : decode cX0_takeAnswer 34 = .ok (.putfield 24, 3) := by decide +kernel
theorem dX0_takeAnswer_37 : decode cX0_takeAnswer 37 = .ok (.aload_n 0, 1) := by decide +kernel
theorem dX0_takeAnswer_38 : decode cX0_takeAnswer 38 = .ok (.iconst 0, 1) := by decide +kernel
theorem dX0_takeAnswer_39 : decode cX0_takeAnswer 39 = .ok (.putfield 27, 3) := by decide +kernel
theorem dX0_takeAnswer_42 : decode cX0_takeAnswer 42 = .ok (.return_, 1) := by decide +kernel
theorem dX0_takeFault_0 : decode cX0_takeFault 0 = .ok (.aload_n 0, 1) := by decide +kernel
theorem dX0_takeFault_1 : decode cX0_takeFault 1 = .ok (.getfield 24, 3) := by decide +kernel
theorem dX0_takeFault_4 : decode cX0_takeFault 4 = .ok (.ifCond .ne 25, 3) := by decide +kernel
theorem dX0_takeFault_7 : decode cX0_takeFault 7 = .ok (.aload_n 0, 1) := by decide +kernel
theorem dX0_takeFault_8 : decode cX0_takeFault 8 = .ok (.dup, 1) := by decide +kernel
theorem dX0_takeFault_9 : decode cX0_takeFault 9 = .ok (.getfield 27, 3) := by decide +kernel
theorem dX0_takeFault_12 : decode cX0_takeFault 12 = .ok (.iconst 1, 1) := by decide +kernel
theorem dX0_takeFault_13 : decode cX0_takeFault 13 = .ok (.iadd, 1) := by decide +kernel
theorem dX0_takeFault_14 : decode cX0_takeFault 14 = .ok (.putfield 27, 3) := by decide +kernel
theorem dX0_takeFault_17 : decode cX0_takeFault 17 = .ok (.aload_n 0, 1) := by decide +kernel
theorem dX0_takeFault_18 : decode cX0_takeFault 18 = .ok (.getfield 27, 3) := by decide +kernel
theorem dX0_takeFault_21 : decode cX0_takeFault 21 = .ok (.aload_n 0, 1) := by decide +kernel
theorem dX0_takeFault_22 : decode cX0_takeFault 22 = .ok (.getfield 15, 3) := by decide +kernel
theorem dX0_takeFault_25 : decode cX0_takeFault 25 = .ok (.if_icmp .ge 4, 3) := by decide +kernel
theorem dX0_takeFault_28 : decode cX0_takeFault 28 = .ok (.return_, 1) := by decide +kernel
theorem dX0_takeFault_29 : decode cX0_takeFault 29 = .ok (.aload_n 0, 1) := by decide +kernel
theorem dX0_takeFault_30 : decode cX0_takeFault 30 = .ok (.getfield 9, 3) := by decide +kernel
theorem dX0_takeFault_33 : decode cX0_takeFault 33 = .ok (.iconst 5, 1) := by decide +kernel
theorem dX0_takeFault_34 : decode cX0_takeFault 34 = .ok (.if_icmp .ne 20, 3) := by decide +kernel
theorem dX0_takeFault_37 : decode cX0_takeFault 37 = .ok (.iload_n 1, 1) := by decide +kernel
theorem dX0_takeFault_38 : decode cX0_takeFault 38 = .ok (.iconst 4, 1) := by decide +kernel
theorem dX0_takeFault_39 : decode cX0_takeFault 39 = .ok (.irem, 1) := by decide +kernel
theorem dX0_takeFault_40 : decode cX0_takeFault 40 = .ok (.ifCond .ne 14, 3) := by decide +kernel
theorem dX0_takeFault_43 : decode cX0_takeFault 43 = .ok (.aload_n 0, 1) := by decide +kernel
theorem dX0_takeFault_44 : decode cX0_takeFault 44 = .ok (.aload_n 0, 1) := by decide +kernel
theorem dX0_takeFault_45 : decode cX0_takeFault 45 = .ok (.getfield 15, 3) := by decide +kernel
theorem dX0_takeFault_48 : decode cX0_takeFault 48 = .ok (.iconst 1, 1) := by decide +kernel
theorem dX0_takeFault_49 : decode cX0_takeFault 49 = .ok (.isub, 1) := by decide +kernel
theorem dX0_takeFault_50 : decode cX0_takeFault 50 = .ok (.putfield 27, 3) := by decide +kernel
theorem dX0_takeFault_53 : decode cX0_takeFault 53 = .ok (.return_, 1) := by decide +kernel
theorem dX0_takeFault_54 : decode cX0_takeFault 54 = .ok (.aload_n 0, 1) := by decide +kernel
theorem dX0_takeFault_55 : decode cX0_takeFault 55 = .ok (.iconst 1, 1) := by decide +kernel
theorem dX0_takeFault_56 : decode cX0_takeFault 56 = .ok (.putfield 24, 3) := by decide +kernel
theorem dX0_takeFault_59 : decode cX0_takeFault 59 = .ok (.aload_n 0, 1) := by decide +kernel
theorem dX0_takeFault_60 : decode cX0_takeFault 60 = .ok (.aload_n 0, 1) := by decide +kernel
theorem dX0_takeFault_61 : decode cX0_takeFault 61 = .ok (.getfield 33, 3) := by decide +kernel
theorem dX0_takeFault_64 : decode cX0_takeFault 64 = .ok (.putfield 30, 3) := by decide +kernel
theorem dX0_takeFault_67 : decode cX0_takeFault 67 = .ok (.aload_n 0, 1) := by decide +kernel
theorem dX0_takeFault_68 : decode cX0_takeFault 68 = .ok (.iconst 0, 1) := by decide +kernel
theorem dX0_takeFault_69 : decode cX0_takeFault 69 = .ok (.putfield 27, 3) := by decide +kernel
theorem dX0_takeFault_72 : decode cX0_takeFault 72 = .ok (.aload_n 0, 1) := by decide +kernel
theorem dX0_takeFault_73 : decode cX0_takeFault 73 = .ok (.iconst 2, 1) := by decide +kernel
theorem dX0_takeFault_74 : decode cX0_takeFault 74 = .ok (.invokevirtual 36, 3) := by decide +kernel
theorem dX0_takeFault_77 : decode cX0_takeFault 77 = .ok (.ifCond .eq 18, 3) := by decide +kernel
theorem dX0_takeFault_80 : decode cX0_takeFault 80 = .ok (.aload_n 0, 1) := by decide +kernel
theorem dX0_takeFault_81 : decode cX0_takeFault 81 = .ok (.bipush 40, 2) := by decide +kernel
theorem dX0_takeFault_83 : decode cX0_takeFault 83 = .ok (.iconst 2, 1) := by decide +kernel
theorem dX0_takeFault_84 : decode cX0_takeFault 84 = .ok (.aload_n 0, 1) := by decide +kernel
theorem dX0_takeFault_85 : decode cX0_takeFault 85 = .ok (.getfield 33, 3) := by decide +kernel
theorem dX0_takeFault_88 : decode cX0_takeFault 88 = .ok (.imul, 1) := by decide +kernel
theorem dX0_takeFault_89 : decode cX0_takeFault 89 = .ok (.invokestatic 46, 3) := by decide +kernel
theorem dX0_takeFault_92 : decode cX0_takeFault 92 = .ok (.putfield 33, 3) := by decide +kernel
theorem dX0_takeFault_95 : decode cX0_takeFault 95 = .ok (.return_, 1) := by decide +kernel
theorem dX0_restOneStep_0 : decode cX0_restOneStep 0 = .ok (.aload_n 0, 1) := by decide +kernel
theorem dX0_restOneStep_1 : decode cX0_restOneStep 1 = .ok (.dup, 1) := by decide +kernel
theorem dX0_restOneStep_2 : decode cX0_restOneStep 2 = .ok (.getfield 30, 3) := by decide +kernel
theorem dX0_restOneStep_5 : decode cX0_restOneStep 5 = .ok (.iconst 1, 1) := by decide +kernel
theorem dX0_restOneStep_6 : decode cX0_restOneStep 6 = .ok (.isub, 1) := by decide +kernel
theorem dX0_restOneStep_7 : decode cX0_restOneStep 7 = .ok (.putfield 30, 3) := by decide +kernel
theorem dX0_restOneStep_10 : decode cX0_restOneStep 10 = .ok (.aload_n 0, 1) := by decide +kernel
theorem dX0_restOneStep_11 : decode cX0_restOneStep 11 = .ok (.getfield 30, 3) := by decide +kernel
theorem dX0_restOneStep_14 : decode cX0_restOneStep 14 = .ok (.ifCond .gt 7, 3) := by decide +kernel
theorem dX0_restOneStep_17 : decode cX0_restOneStep 17 = .ok (.aload_n 0, 1) := by decide +kernel
theorem dX0_restOneStep_18 : decode cX0_restOneStep 18 = .ok (.invokevirtual 49, 3) := by decide +kernel
theorem dX0_restOneStep_21 : decode cX0_restOneStep 21 = .ok (.return_, 1) := by decide +kernel
theorem dX0_wake_0 : decode cX0_wake 0 = .ok (.aload_n 0, 1) := by decide +kernel
theorem dX0_wake_1 : decode cX0_wake 1 = .ok (.iconst 0, 1) := by decide +kernel
theorem dX0_wake_2 : decode cX0_wake 2 = .ok (.putfield 30, 3) := by decide +kernel
theorem dX0_wake_5 : decode cX0_wake 5 = .ok (.aload_n 0, 1) := by decide +kernel
theorem dX0_wake_6 : decode cX0_wake 6 = .ok (.getfield 9, 3) := by decide +kernel
theorem dX0_wake_9 : decode cX0_wake 9 = .ok (.iconst 3, 1) := by decide +kernel
theorem dX0_wake_10 : decode cX0_wake 10 = .ok (.if_icmp .ne 21, 3) := by decide +kernel
theorem dX0_wake_13 : decode cX0_wake 13 = .ok (.aload_n 0, 1) := by decide +kernel
theorem dX0_wake_14 : decode cX0_wake 14 = .ok (.iconst 0, 1) := by decide +kernel
theorem dX0_wake_15 : decode cX0_wake 15 = .ok (.putfield 24, 3) := by decide +kernel
theorem dX0_wake_18 : decode cX0_wake 18 = .ok (.aload_n 0, 1) := by decide +kernel
theorem dX0_wake_19 : decode cX0_wake 19 = .ok (.aload_n 0, 1) := by decide +kernel
theorem dX0_wake_20 : decode cX0_wake 20 = .ok (.getfield 15, 3) := by decide +kernel
theorem dX0_wake_23 : decode cX0_wake 23 = .ok (.iconst 1, 1) := by decide +kernel
theorem dX0_wake_24 : decode cX0_wake 24 = .ok (.isub, 1) := by decide +kernel
theorem dX0_wake_25 : decode cX0_wake 25 = .ok (.putfield 27, 3) := by decide +kernel
theorem dX0_wake_28 : decode cX0_wake 28 = .ok (.goto 8, 3) := by decide +kernel
theorem dX0_wake_31 : decode cX0_wake 31 = .ok (.aload_n 0, 1) := by decide +kernel
theorem dX0_wake_32 : decode cX0_wake 32 = .ok (.iconst 2, 1) := by decide +kernel
theorem dX0_wake_33 : decode cX0_wake 33 = .ok (.putfield 24, 3) := by decide +kernel
theorem dX0_wake_36 : decode cX0_wake 36 = .ok (.return_, 1) := by decide +kernel
theorem dX0_tell_0 : decode cX0_tell 0 = .ok (.iload_n 1, 1) := by decide +kernel
theorem dX0_tell_1 : decode cX0_tell 1 = .ok (.tableswitch 78 0 6 #[43, 48, 53, 58, 63, 68, 73], 43) := by decide +kernel
theorem dX0_tell_44 : decode cX0_tell 44 = .ok (.aload_n 0, 1) := by decide +kernel
theorem dX0_tell_45 : decode cX0_tell 45 = .ok (.getfield 9, 3) := by decide +kernel
theorem dX0_tell_48 : decode cX0_tell 48 = .ok (.ireturn, 1) := by decide +kernel
theorem dX0_tell_49 : decode cX0_tell 49 = .ok (.aload_n 0, 1) := by decide +kernel
theorem dX0_tell_50 : decode cX0_tell 50 = .ok (.getfield 15, 3) := by decide +kernel
theorem dX0_tell_53 : decode cX0_tell 53 = .ok (.ireturn, 1) := by decide +kernel
theorem dX0_tell_54 : decode cX0_tell 54 = .ok (.aload_n 0, 1) := by decide +kernel
theorem dX0_tell_55 : decode cX0_tell 55 = .ok (.getfield 18, 3) := by decide +kernel
theorem dX0_tell_58 : decode cX0_tell 58 = .ok (.ireturn, 1) := by decide +kernel
theorem dX0_tell_59 : decode cX0_tell 59 = .ok (.aload_n 0, 1) := by decide +kernel
theorem dX0_tell_60 : decode cX0_tell 60 = .ok (.getfield 24, 3) := by decide +kernel
theorem dX0_tell_63 : decode cX0_tell 63 = .ok (.ireturn, 1) := by decide +kernel
theorem dX0_tell_64 : decode cX0_tell 64 = .ok (.aload_n 0, 1) := by decide +kernel
theorem dX0_tell_65 : decode cX0_tell 65 = .ok (.getfield 27, 3) := by decide +kernel
theorem dX0_tell_68 : decode cX0_tell 68 = .ok (.ireturn, 1) := by decide +kernel
theorem dX0_tell_69 : decode cX0_tell 69 = .ok (.aload_n 0, 1) := by decide +kernel
theorem dX0_tell_70 : decode cX0_tell 70 = .ok (.getfield 30, 3) := by decide +kernel
theorem dX0_tell_73 : decode cX0_tell 73 = .ok (.ireturn, 1) := by decide +kernel
theorem dX0_tell_74 : decode cX0_tell 74 = .ok (.aload_n 0, 1) := by decide +kernel
theorem dX0_tell_75 : decode cX0_tell 75 = .ok (.getfield 33, 3) := by decide +kernel
theorem dX0_tell_78 : decode cX0_tell 78 = .ok (.ireturn, 1) := by decide +kernel
theorem dX0_tell_79 : decode cX0_tell 79 = .ok (.iconst 0, 1) := by decide +kernel
theorem dX0_tell_80 : decode cX0_tell 80 = .ok (.ireturn, 1) := by decide +kernel
theorem dX0_markOf_0 : decode cX0_markOf 0 = .ok (.iload_n 1, 1) := by decide +kernel
theorem dX0_markOf_1 : decode cX0_markOf 1 = .ok (.tableswitch 84 1 5 #[35, 46, 56, 63, 77], 35) := by decide +kernel
theorem dX0_markOf_36 : decode cX0_markOf 36 = .ok (.iconst 0, 1) := by decide +kernel
theorem dX0_markOf_37 : decode cX0_markOf 37 = .ok (.aload_n 0, 1) := by decide +kernel
theorem dX0_markOf_38 : decode cX0_markOf 38 = .ok (.getfield 27, 3) := by decide +kernel
theorem dX0_markOf_41 : decode cX0_markOf 41 = .ok (.iconst 1, 1) := by decide +kernel
theorem dX0_markOf_42 : decode cX0_markOf 42 = .ok (.isub, 1) := by decide +kernel
theorem dX0_markOf_43 : decode cX0_markOf 43 = .ok (.invokestatic 40, 3) := by decide +kernel
theorem dX0_markOf_46 : decode cX0_markOf 46 = .ok (.ireturn, 1) := by decide +kernel
theorem dX0_markOf_47 : decode cX0_markOf 47 = .ok (.aload_n 0, 1) := by decide +kernel
theorem dX0_markOf_48 : decode cX0_markOf 48 = .ok (.getfield 33, 3) := by decide +kernel
theorem dX0_markOf_51 : decode cX0_markOf 51 = .ok (.aload_n 0, 1) := by decide +kernel
theorem dX0_markOf_52 : decode cX0_markOf 52 = .ok (.getfield 18, 3) := by decide +kernel
theorem dX0_markOf_55 : decode cX0_markOf 55 = .ok (.isub, 1) := by decide +kernel
theorem dX0_markOf_56 : decode cX0_markOf 56 = .ok (.ireturn, 1) := by decide +kernel
theorem dX0_markOf_57 : decode cX0_markOf 57 = .ok (.aload_n 0, 1) := by decide +kernel
theorem dX0_markOf_58 : decode cX0_markOf 58 = .ok (.getfield 15, 3) := by decide +kernel
theorem dX0_markOf_61 : decode cX0_markOf 61 = .ok (.iconst 1, 1) := by decide +kernel
theorem dX0_markOf_62 : decode cX0_markOf 62 = .ok (.isub, 1) := by decide +kernel
theorem dX0_markOf_63 : decode cX0_markOf 63 = .ok (.ireturn, 1) := by decide +kernel
theorem dX0_markOf_64 : decode cX0_markOf 64 = .ok (.aload_n 0, 1) := by decide +kernel
theorem dX0_markOf_65 : decode cX0_markOf 65 = .ok (.iload_n 2, 1) := by decide +kernel
theorem dX0_markOf_66 : decode cX0_markOf 66 = .ok (.invokevirtual 52, 3) := by decide +kernel
theorem dX0_markOf_69 : decode cX0_markOf 69 = .ok (.ifCond .eq 7, 3) := by decide +kernel
theorem dX0_markOf_72 : decode cX0_markOf 72 = .ok (.iconst 1, 1) := by decide +kernel
theorem dX0_markOf_73 : decode cX0_markOf 73 = .ok (.goto 4, 3) := by decide +kernel
theorem dX0_markOf_76 : decode cX0_markOf 76 = .ok (.iconst 0, 1) := by decide +kernel
theorem dX0_markOf_77 : decode cX0_markOf 77 = .ok (.ireturn, 1) := by decide +kernel
theorem dX0_markOf_78 : decode cX0_markOf 78 = .ok (.iload_n 2, 1) := by decide +kernel
theorem dX0_markOf_79 : decode cX0_markOf 79 = .ok (.ineg, 1) := by decide +kernel
theorem dX0_markOf_80 : decode cX0_markOf 80 = .ok (.iconst 4, 1) := by decide +kernel
theorem dX0_markOf_81 : decode cX0_markOf 81 = .ok (.invokestatic 55, 3) := by decide +kernel
theorem dX0_markOf_84 : decode cX0_markOf 84 = .ok (.ireturn, 1) := by decide +kernel
theorem dX0_markOf_85 : decode cX0_markOf 85 = .ok (.iconst 0, 1) := by decide +kernel
theorem dX0_markOf_86 : decode cX0_markOf 86 = .ok (.ireturn, 1) := by decide +kernel
theorem dX1_init_0 : decode cX1_init 0 = .ok (.aload_n 0, 1) := by decide +kernel
theorem dX1_init_1 : decode cX1_init 1 = .ok (.invokespecial 3, 3) := by decide +kernel
theorem dX1_init_4 : decode cX1_init 4 = .ok (.return_, 1) := by decide +kernel
theorem dX1_begin_0 : decode cX1_begin 0 = .ok (.aload_n 0, 1) := by decide +kernel
theorem dX1_begin_1 : decode cX1_begin 1 = .ok (.iload_n 1, 1) := by decide +kernel
theorem dX1_begin_2 : decode cX1_begin 2 = .ok (.putfield 9, 3) := by decide +kernel
theorem dX1_begin_5 : decode cX1_begin 5 = .ok (.aload_n 0, 1) := by decide +kernel
theorem dX1_begin_6 : decode cX1_begin 6 = .ok (.bipush (-9), 2) := by decide +kernel
theorem dX1_begin_8 : decode cX1_begin 8 = .ok (.putfield 15, 3) := by decide +kernel
theorem dX1_begin_11 : decode cX1_begin 11 = .ok (.return_, 1) := by decide +kernel
theorem dX1_offer_0 : decode cX1_offer 0 = .ok (.iload_n 2, 1) := by decide +kernel
theorem dX1_offer_1 : decode cX1_offer 1 = .ok (.aload_n 0, 1) := by decide +kernel
theorem dX1_offer_2 : decode cX1_offer 2 = .ok (.getfield 9, 3) := by decide +kernel
theorem dX1_offer_5 : decode cX1_offer 5 = .ok (.if_icmp .le 13, 3) := by decide +kernel
theorem dX1_offer_8 : decode cX1_offer 8 = .ok (.aload_n 0, 1) := by decide +kernel
theorem dX1_offer_9 : decode cX1_offer 9 = .ok (.iload_n 2, 1) := by decide +kernel
theorem dX1_offer_10 : decode cX1_offer 10 = .ok (.putfield 9, 3) := by decide +kernel
theorem dX1_offer_13 : decode cX1_offer 13 = .ok (.aload_n 0, 1) := by decide +kernel
theorem dX1_offer_14 : decode cX1_offer 14 = .ok (.iload_n 1, 1) := by decide +kernel
theorem dX1_offer_15 : decode cX1_offer 15 = .ok (.putfield 15, 3) := by decide +kernel
theorem dX1_offer_18 : decode cX1_offer 18 = .ok (.return_, 1) := by decide +kernel
theorem dX2_init_0 : decode cX2_init 0 = .ok (.aload_n 0, 1) := by decide +kernel
theorem dX2_init_1 : decode cX2_init 1 = .ok (.invokespecial 3, 3) := by decide +kernel
theorem dX2_init_4 : decode cX2_init 4 = .ok (.aload_n 0, 1) := by decide +kernel
theorem dX2_init_5 : decode cX2_init 5 = .ok (.bipush 40, 2) := by decide +kernel
theorem dX2_init_7 : decode cX2_init 7 = .ok (.newarray .int, 2) := by decide +kernel
theorem dX2_init_9 : decode cX2_init 9 = .ok (.putfield 9, 3) := by decide +kernel
theorem dX2_init_12 : decode cX2_init 12 = .ok (.aload_n 0, 1) := by decide +kernel
theorem dX2_init_13 : decode cX2_init 13 = .ok (.bipush 40, 2) := by decide +kernel
theorem dX2_init_15 : decode cX2_init 15 = .ok (.newarray .int, 2) := by decide +kernel
theorem dX2_init_17 : decode cX2_init 17 = .ok (.putfield 15, 3) := by decide +kernel
theorem dX2_init_20 : decode cX2_init 20 = .ok (.aload_n 0, 1) := by decide +kernel
theorem dX2_init_21 : decode cX2_init 21 = .ok (.bipush 40, 2) := by decide +kernel
theorem dX2_init_23 : decode cX2_init 23 = .ok (.newarray .int, 2) := by decide +kernel
theorem dX2_init_25 : decode cX2_init 25 = .ok (.putfield 18, 3) := by decide +kernel
theorem dX2_init_28 : decode cX2_init 28 = .ok (.return_, 1) := by decide +kernel
theorem dX2_add_0 : decode cX2_add 0 = .ok (.aload_n 0, 1) := by decide +kernel
theorem dX2_add_1 : decode cX2_add 1 = .ok (.getfield 21, 3) := by decide +kernel
theorem dX2_add_4 : decode cX2_add 4 = .ok (.ifCond .lt 12, 3) := by decide +kernel
theorem dX2_add_7 : decode cX2_add 7 = .ok (.aload_n 0, 1) := by decide +kernel
theorem dX2_add_8 : decode cX2_add 8 = .ok (.getfield 21, 3) := by decide +kernel
theorem dX2_add_11 : decode cX2_add 11 = .ok (.bipush 40, 2) := by decide +kernel
theorem dX2_add_13 : decode cX2_add 13 = .ok (.if_icmp .lt 4, 3) := by decide +kernel
theorem dX2_add_16 : decode cX2_add 16 = .ok (.return_, 1) := by decide +kernel
theorem dX2_add_17 : decode cX2_add 17 = .ok (.aload_n 0, 1) := by decide +kernel
theorem dX2_add_18 : decode cX2_add 18 = .ok (.getfield 9, 3) := by decide +kernel
theorem dX2_add_21 : decode cX2_add 21 = .ok (.aload_n 0, 1) := by decide +kernel
theorem dX2_add_22 : decode cX2_add 22 = .ok (.getfield 21, 3) := by decide +kernel
theorem dX2_add_25 : decode cX2_add 25 = .ok (.iload_n 1, 1) := by decide +kernel
theorem dX2_add_26 : decode cX2_add 26 = .ok (.iastore, 1) := by decide +kernel
theorem dX2_add_27 : decode cX2_add 27 = .ok (.aload_n 0, 1) := by decide +kernel
theorem dX2_add_28 : decode cX2_add 28 = .ok (.getfield 15, 3) := by decide +kernel
theorem dX2_add_31 : decode cX2_add 31 = .ok (.aload_n 0, 1) := by decide +kernel
theorem dX2_add_32 : decode cX2_add 32 = .ok (.getfield 21, 3) := by decide +kernel
theorem dX2_add_35 : decode cX2_add 35 = .ok (.iload_n 2, 1) := by decide +kernel
theorem dX2_add_36 : decode cX2_add 36 = .ok (.iastore, 1) := by decide +kernel
theorem dX2_add_37 : decode cX2_add 37 = .ok (.aload_n 0, 1) := by decide +kernel
theorem dX2_add_38 : decode cX2_add 38 = .ok (.getfield 18, 3) := by decide +kernel
theorem dX2_add_41 : decode cX2_add 41 = .ok (.aload_n 0, 1) := by decide +kernel
theorem dX2_add_42 : decode cX2_add 42 = .ok (.getfield 21, 3) := by decide +kernel
theorem dX2_add_45 : decode cX2_add 45 = .ok (.iload_n 3, 1) := by decide +kernel
theorem dX2_add_46 : decode cX2_add 46 = .ok (.iastore, 1) := by decide +kernel
theorem dX2_add_47 : decode cX2_add 47 = .ok (.aload_n 0, 1) := by decide +kernel
theorem dX2_add_48 : decode cX2_add 48 = .ok (.dup, 1) := by decide +kernel
theorem dX2_add_49 : decode cX2_add 49 = .ok (.getfield 21, 3) := by decide +kernel
theorem dX2_add_52 : decode cX2_add 52 = .ok (.iconst 1, 1) := by decide +kernel
theorem dX2_add_53 : decode cX2_add 53 = .ok (.iadd, 1) := by decide +kernel
theorem dX2_add_54 : decode cX2_add 54 = .ok (.putfield 21, 3) := by decide +kernel
theorem dX2_add_57 : decode cX2_add 57 = .ok (.return_, 1) := by decide +kernel
theorem dX2_become_0 : decode cX2_become 0 = .ok (.aload_n 0, 1) := by decide +kernel
theorem dX2_become_1 : decode cX2_become 1 = .ok (.aload_n 1, 1) := by decide +kernel
theorem dX2_become_2 : decode cX2_become 2 = .ok (.getfield 21, 3) := by decide +kernel
theorem dX2_become_5 : decode cX2_become 5 = .ok (.putfield 21, 3) := by decide +kernel
theorem dX2_become_8 : decode cX2_become 8 = .ok (.iconst 0, 1) := by decide +kernel
theorem dX2_become_9 : decode cX2_become 9 = .ok (.istore_n 2, 1) := by decide +kernel
theorem dX2_become_10 : decode cX2_become 10 = .ok (.iload_n 2, 1) := by decide +kernel
theorem dX2_become_11 : decode cX2_become 11 = .ok (.aload_n 0, 1) := by decide +kernel
theorem dX2_become_12 : decode cX2_become 12 = .ok (.getfield 21, 3) := by decide +kernel
theorem dX2_become_15 : decode cX2_become 15 = .ok (.if_icmp .ge 45, 3) := by decide +kernel
theorem dX2_become_18 : decode cX2_become 18 = .ok (.aload_n 0, 1) := by decide +kernel
theorem dX2_become_19 : decode cX2_become 19 = .ok (.getfield 9, 3) := by decide +kernel
theorem dX2_become_22 : decode cX2_become 22 = .ok (.iload_n 2, 1) := by decide +kernel
theorem dX2_become_23 : decode cX2_become 23 = .ok (.aload_n 1, 1) := by decide +kernel
theorem dX2_become_24 : decode cX2_become 24 = .ok (.getfield 9, 3) := by decide +kernel
theorem dX2_become_27 : decode cX2_become 27 = .ok (.iload_n 2, 1) := by decide +kernel
theorem dX2_become_28 : decode cX2_become 28 = .ok (.iaload, 1) := by decide +kernel
theorem dX2_become_29 : decode cX2_become 29 = .ok (.iastore, 1) := by decide +kernel
theorem dX2_become_30 : decode cX2_become 30 = .ok (.aload_n 0, 1) := by decide +kernel
theorem dX2_become_31 : decode cX2_become 31 = .ok (.getfield 15, 3) := by decide +kernel
theorem dX2_become_34 : decode cX2_become 34 = .ok (.iload_n 2, 1) := by decide +kernel
theorem dX2_become_35 : decode cX2_become 35 = .ok (.aload_n 1, 1) := by decide +kernel
theorem dX2_become_36 : decode cX2_become 36 = .ok (.getfield 15, 3) := by decide +kernel
theorem dX2_become_39 : decode cX2_become 39 = .ok (.iload_n 2, 1) := by decide +kernel
theorem dX2_become_40 : decode cX2_become 40 = .ok (.iaload, 1) := by decide +kernel
theorem dX2_become_41 : decode cX2_become 41 = .ok (.iastore, 1) := by decide +kernel
theorem dX2_become_42 : decode cX2_become 42 = .ok (.aload_n 0, 1) := by decide +kernel
theorem dX2_become_43 : decode cX2_become 43 = .ok (.getfield 18, 3) := by decide +kernel
theorem dX2_become_46 : decode cX2_become 46 = .ok (.iload_n 2, 1) := by decide +kernel
theorem dX2_become_47 : decode cX2_become 47 = .ok (.aload_n 1, 1) := by decide +kernel
theorem dX2_become_48 : decode cX2_become 48 = .ok (.getfield 18, 3) := by decide +kernel
theorem dX2_become_51 : decode cX2_become 51 = .ok (.iload_n 2, 1) := by decide +kernel
theorem dX2_become_52 : decode cX2_become 52 = .ok (.iaload, 1) := by decide +kernel
theorem dX2_become_53 : decode cX2_become 53 = .ok (.iastore, 1) := by decide +kernel
theorem dX2_become_54 : decode cX2_become 54 = .ok (.iinc 2 1, 3) := by decide +kernel
theorem dX2_become_57 : decode cX2_become 57 = .ok (.goto (-47), 3) := by decide +kernel
theorem dX2_become_60 : decode cX2_become 60 = .ok (.return_, 1) := by decide +kernel
theorem dX3_init_0 : decode cX3_init 0 = .ok (.aload_n 0, 1) := by decide +kernel
theorem dX3_init_1 : decode cX3_init 1 = .ok (.invokespecial 3, 3) := by decide +kernel
theorem dX3_init_4 : decode cX3_init 4 = .ok (.aload_n 0, 1) := by decide +kernel
theorem dX3_init_5 : decode cX3_init 5 = .ok (.bipush 7, 2) := by decide +kernel
theorem dX3_init_7 : decode cX3_init 7 = .ok (.anewarray 9, 3) := by decide +kernel
theorem dX3_init_10 : decode cX3_init 10 = .ok (.putfield 11, 3) := by decide +kernel
theorem dX3_init_13 : decode cX3_init 13 = .ok (.iconst 0, 1) := by decide +kernel
theorem dX3_init_14 : decode cX3_init 14 = .ok (.istore_n 1, 1) := by decide +kernel
theorem dX3_init_15 : decode cX3_init 15 = .ok (.iload_n 1, 1) := by decide +kernel
theorem dX3_init_16 : decode cX3_init 16 = .ok (.bipush 7, 2) := by decide +kernel
theorem dX3_init_18 : decode cX3_init 18 = .ok (.if_icmp .ge 22, 3) := by decide +kernel
theorem dX3_init_21 : decode cX3_init 21 = .ok (.aload_n 0, 1) := by decide +kernel
theorem dX3_init_22 : decode cX3_init 22 = .ok (.getfield 11, 3) := by decide +kernel
theorem dX3_init_25 : decode cX3_init 25 = .ok (.iload_n 1, 1) := by decide +kernel
theorem dX3_init_26 : decode cX3_init 26 = .ok (.new 9, 3) := by decide +kernel
theorem dX3_init_29 : decode cX3_init 29 = .ok (.dup, 1) := by decide +kernel
theorem dX3_init_30 : decode cX3_init 30 = .ok (.invokespecial 17, 3) := by decide +kernel
theorem dX3_init_33 : decode cX3_init 33 = .ok (.aastore, 1) := by decide +kernel
theorem dX3_init_34 : decode cX3_init 34 = .ok (.iinc 1 1, 3) := by decide +kernel
theorem dX3_init_37 : decode cX3_init 37 = .ok (.goto (-22), 3) := by decide +kernel
theorem dX3_init_40 : decode cX3_init 40 = .ok (.return_, 1) := by decide +kernel
theorem dX3_clear_0 : decode cX3_clear 0 = .ok (.aload_n 0, 1) := by decide +kernel
theorem dX3_clear_1 : decode cX3_clear 1 = .ok (.iconst 0, 1) := by decide +kernel
theorem dX3_clear_2 : decode cX3_clear 2 = .ok (.putfield 18, 3) := by decide +kernel
theorem dX3_clear_5 : decode cX3_clear 5 = .ok (.aload_n 0, 1) := by decide +kernel
theorem dX3_clear_6 : decode cX3_clear 6 = .ok (.iconst 0, 1) := by decide +kernel
theorem dX3_clear_7 : decode cX3_clear 7 = .ok (.putfield 22, 3) := by decide +kernel
theorem dX3_clear_10 : decode cX3_clear 10 = .ok (.aload_n 0, 1) := by decide +kernel
theorem dX3_clear_11 : decode cX3_clear 11 = .ok (.sipush 255, 3) := by decide +kernel
theorem dX3_clear_14 : decode cX3_clear 14 = .ok (.putfield 25, 3) := by decide +kernel
theorem dX3_clear_17 : decode cX3_clear 17 = .ok (.aload_n 0, 1) := by decide +kernel
theorem dX3_clear_18 : decode cX3_clear 18 = .ok (.iconst 0, 1) := by decide +kernel
theorem dX3_clear_19 : decode cX3_clear 19 = .ok (.putfield 28, 3) := by decide +kernel
theorem dX3_clear_22 : decode cX3_clear 22 = .ok (.aload_n 0, 1) := by decide +kernel
theorem dX3_clear_23 : decode cX3_clear 23 = .ok (.iconst 0, 1) := by decide +kernel
theorem dX3_clear_24 : decode cX3_clear 24 = .ok (.putfield 31, 3) := by decide +kernel
theorem dX3_clear_27 : decode cX3_clear 27 = .ok (.aload_n 0, 1) := by decide +kernel
theorem dX3_clear_28 : decode cX3_clear 28 = .ok (.iconst 0, 1) := by decide +kernel
theorem dX3_clear_29 : decode cX3_clear 29 = .ok (.putfield 34, 3) := by decide +kernel
theorem dX3_clear_32 : decode cX3_clear 32 = .ok (.aload_n 0, 1) := by decide +kernel
theorem dX3_clear_33 : decode cX3_clear 33 = .ok (.iconst 0, 1) := by decide +kernel
theorem dX3_clear_34 : decode cX3_clear 34 = .ok (.putfield 37, 3) := by decide +kernel
theorem dX3_clear_37 : decode cX3_clear 37 = .ok (.return_, 1) := by decide +kernel
theorem dX3_become_0 : decode cX3_become 0 = .ok (.aload_n 0, 1) := by decide +kernel
theorem dX3_become_1 : decode cX3_become 1 = .ok (.aload_n 1, 1) := by decide +kernel
theorem dX3_become_2 : decode cX3_become 2 = .ok (.getfield 18, 3) := by decide +kernel
theorem dX3_become_5 : decode cX3_become 5 = .ok (.putfield 18, 3) := by decide +kernel
theorem dX3_become_8 : decode cX3_become 8 = .ok (.aload_n 0, 1) := by decide +kernel
theorem dX3_become_9 : decode cX3_become 9 = .ok (.aload_n 1, 1) := by decide +kernel
theorem dX3_become_10 : decode cX3_become 10 = .ok (.getfield 22, 3) := by decide +kernel
theorem dX3_become_13 : decode cX3_become 13 = .ok (.putfield 22, 3) := by decide +kernel
theorem dX3_become_16 : decode cX3_become 16 = .ok (.aload_n 0, 1) := by decide +kernel
theorem dX3_become_17 : decode cX3_become 17 = .ok (.aload_n 1, 1) := by decide +kernel
theorem dX3_become_18 : decode cX3_become 18 = .ok (.getfield 25, 3) := by decide +kernel
theorem dX3_become_21 : decode cX3_become 21 = .ok (.putfield 25, 3) := by decide +kernel
theorem dX3_become_24 : decode cX3_become 24 = .ok (.aload_n 0, 1) := by decide +kernel
theorem dX3_become_25 : decode cX3_become 25 = .ok (.aload_n 1, 1) := by decide +kernel
theorem dX3_become_26 : decode cX3_become 26 = .ok (.getfield 28, 3) := by decide +kernel
theorem dX3_become_29 : decode cX3_become 29 = .ok (.putfield 28, 3) := by decide +kernel
theorem dX3_become_32 : decode cX3_become 32 = .ok (.aload_n 0, 1) := by decide +kernel
theorem dX3_become_33 : decode cX3_become 33 = .ok (.aload_n 1, 1) := by decide +kernel
theorem dX3_become_34 : decode cX3_become 34 = .ok (.getfield 31, 3) := by decide +kernel
theorem dX3_become_37 : decode cX3_become 37 = .ok (.putfield 31, 3) := by decide +kernel
theorem dX3_become_40 : decode cX3_become 40 = .ok (.aload_n 0, 1) := by decide +kernel
theorem dX3_become_41 : decode cX3_become 41 = .ok (.aload_n 1, 1) := by decide +kernel
theorem dX3_become_42 : decode cX3_become 42 = .ok (.getfield 34, 3) := by decide +kernel
theorem dX3_become_45 : decode cX3_become 45 = .ok (.putfield 34, 3) := by decide +kernel
theorem dX3_become_48 : decode cX3_become 48 = .ok (.aload_n 0, 1) := by decide +kernel
theorem dX3_become_49 : decode cX3_become 49 = .ok (.aload_n 1, 1) := by decide +kernel
theorem dX3_become_50 : decode cX3_become 50 = .ok (.getfield 37, 3) := by decide +kernel
theorem dX3_become_53 : decode cX3_become 53 = .ok (.putfield 37, 3) := by decide +kernel
theorem dX3_become_56 : decode cX3_become 56 = .ok (.iconst 0, 1) := by decide +kernel
theorem dX3_become_57 : decode cX3_become 57 = .ok (.istore_n 2, 1) := by decide +kernel
theorem dX3_become_58 : decode cX3_become 58 = .ok (.iload_n 2, 1) := by decide +kernel
theorem dX3_become_59 : decode cX3_become 59 = .ok (.aload_n 0, 1) := by decide +kernel
theorem dX3_become_60 : decode cX3_become 60 = .ok (.getfield 18, 3) := by decide +kernel
theorem dX3_become_63 : decode cX3_become 63 = .ok (.if_icmp .ge 24, 3) := by decide +kernel
theorem dX3_become_66 : decode cX3_become 66 = .ok (.aload_n 0, 1) := by decide +kernel
theorem dX3_become_67 : decode cX3_become 67 = .ok (.getfield 11, 3) := by decide +kernel
theorem dX3_become_70 : decode cX3_become 70 = .ok (.iload_n 2, 1) := by decide +kernel
theorem dX3_become_71 : decode cX3_become 71 = .ok (.aaload, 1) := by decide +kernel
theorem dX3_become_72 : decode cX3_become 72 = .ok (.aload_n 1, 1) := by decide +kernel
theorem dX3_become_73 : decode cX3_become 73 = .ok (.getfield 11, 3) := by decide +kernel
theorem dX3_become_76 : decode cX3_become 76 = .ok (.iload_n 2, 1) := by decide +kernel
theorem dX3_become_77 : decode cX3_become 77 = .ok (.aaload, 1) := by decide +kernel
theorem dX3_become_78 : decode cX3_become 78 = .ok (.invokevirtual 40, 3) := by decide +kernel
theorem dX3_become_81 : decode cX3_become 81 = .ok (.iinc 2 1, 3) := by decide +kernel
theorem dX3_become_84 : decode cX3_become 84 = .ok (.goto (-26), 3) := by decide +kernel
theorem dX3_become_87 : decode cX3_become 87 = .ok (.return_, 1) := by decide +kernel
theorem dX3_isUpIn_0 : decode cX3_isUpIn 0 = .ok (.aload_n 0, 1) := by decide +kernel
theorem dX3_isUpIn_1 : decode cX3_isUpIn 1 = .ok (.getfield 25, 3) := by decide +kernel
theorem dX3_isUpIn_4 : decode cX3_isUpIn 4 = .ok (.iload_n 1, 1) := by decide +kernel
theorem dX3_isUpIn_5 : decode cX3_isUpIn 5 = .ok (.bipush 8, 2) := by decide +kernel
theorem dX3_isUpIn_7 : decode cX3_isUpIn 7 = .ok (.invokestatic 44, 3) := by decide +kernel
theorem dX3_isUpIn_10 : decode cX3_isUpIn 10 = .ok (.ishr, 1) := by decide +kernel
theorem dX3_isUpIn_11 : decode cX3_isUpIn 11 = .ok (.iconst 1, 1) := by decide +kernel
theorem dX3_isUpIn_12 : decode cX3_isUpIn 12 = .ok (.iand, 1) := by decide +kernel
theorem dX3_isUpIn_13 : decode cX3_isUpIn 13 = .ok (.iconst 1, 1) := by decide +kernel
theorem dX3_isUpIn_14 : decode cX3_isUpIn 14 = .ok (.if_icmp .ne 7, 3) := by decide +kernel
theorem dX3_isUpIn_17 : decode cX3_isUpIn 17 = .ok (.iconst 1, 1) := by decide +kernel
theorem dX3_isUpIn_18 : decode cX3_isUpIn 18 = .ok (.goto 4, 3) := by decide +kernel
theorem dX3_isUpIn_21 : decode cX3_isUpIn 21 = .ok (.iconst 0, 1) := by decide +kernel
theorem dX3_isUpIn_22 : decode cX3_isUpIn 22 = .ok (.ireturn, 1) := by decide +kernel
theorem dX3_isUp_0 : decode cX3_isUp 0 = .ok (.aload_n 0, 1) := by decide +kernel
theorem dX3_isUp_1 : decode cX3_isUp 1 = .ok (.aload_n 0, 1) := by decide +kernel
theorem dX3_isUp_2 : decode cX3_isUp 2 = .ok (.getfield 28, 3) := by decide +kernel
theorem dX3_isUp_5 : decode cX3_isUp 5 = .ok (.invokevirtual 50, 3) := by decide +kernel
theorem dX3_isUp_8 : decode cX3_isUp 8 = .ok (.ireturn, 1) := by decide +kernel
theorem dX3_calling_0 : decode cX3_calling 0 = .ok (.iconst 0, 1) := by decide +kernel
theorem dX3_calling_1 : decode cX3_calling 1 = .ok (.istore_n 1, 1) := by decide +kernel
theorem dX3_calling_2 : decode cX3_calling 2 = .ok (.iconst 0, 1) := by decide +kernel
theorem dX3_calling_3 : decode cX3_calling 3 = .ok (.istore_n 2, 1) := by decide +kernel
theorem dX3_calling_4 : decode cX3_calling 4 = .ok (.iload_n 2, 1) := by decide +kernel
theorem dX3_calling_5 : decode cX3_calling 5 = .ok (.aload_n 0, 1) := by decide +kernel
theorem dX3_calling_6 : decode cX3_calling 6 = .ok (.getfield 18, 3) := by decide +kernel
theorem dX3_calling_9 : decode cX3_calling 9 = .ok (.if_icmp .ge 39, 3) := by decide +kernel
theorem dX3_calling_12 : decode cX3_calling 12 = .ok (.aload_n 0, 1) := by decide +kernel
theorem dX3_calling_13 : decode cX3_calling 13 = .ok (.iload_n 2, 1) := by decide +kernel
theorem dX3_calling_14 : decode cX3_calling 14 = .ok (.invokevirtual 54, 3) := by decide +kernel
theorem dX3_calling_17 : decode cX3_calling 17 = .ok (.ifCond .ne 25, 3) := by decide +kernel
theorem dX3_calling_20 : decode cX3_calling 20 = .ok (.aload_n 0, 1) := by decide +kernel
theorem dX3_calling_21 : decode cX3_calling 21 = .ok (.getfield 11, 3) := by decide +kernel
theorem dX3_calling_24 : decode cX3_calling 24 = .ok (.iload_n 2, 1) := by decide +kernel
theorem dX3_calling_25 : decode cX3_calling 25 = .ok (.aaload, 1) := by decide +kernel
theorem dX3_calling_26 : decode cX3_calling 26 = .ok (.aload_n 0, 1) := by decide +kernel
theorem dX3_calling_27 : decode cX3_calling 27 = .ok (.getfield 28, 3) := by decide +kernel
theorem dX3_calling_30 : decode cX3_calling 30 = .ok (.invokevirtual 57, 3) := by decide +kernel
theorem dX3_calling_33 : decode cX3_calling 33 = .ok (.ifCond .eq 9, 3) := by decide +kernel
theorem dX3_calling_36 : decode cX3_calling 36 = .ok (.iload_n 1, 1) := by decide +kernel
theorem dX3_calling_37 : decode cX3_calling 37 = .ok (.iconst 1, 1) := by decide +kernel
theorem dX3_calling_38 : decode cX3_calling 38 = .ok (.iload_n 2, 1) := by decide +kernel
theorem dX3_calling_39 : decode cX3_calling 39 = .ok (.ishl, 1) := by decide +kernel
theorem dX3_calling_40 : decode cX3_calling 40 = .ok (.ior, 1) := by decide +kernel
theorem dX3_calling_41 : decode cX3_calling 41 = .ok (.istore_n 1, 1) := by decide +kernel
theorem dX3_calling_42 : decode cX3_calling 42 = .ok (.iinc 2 1, 3) := by decide +kernel
theorem dX3_calling_45 : decode cX3_calling 45 = .ok (.goto (-41), 3) := by decide +kernel
theorem dX3_calling_48 : decode cX3_calling 48 = .ok (.iload_n 1, 1) := by decide +kernel
theorem dX3_calling_49 : decode cX3_calling 49 = .ok (.ireturn, 1) := by decide +kernel
theorem dX3_wouldAnswer_0 : decode cX3_wouldAnswer 0 = .ok (.aload_n 0, 1) := by decide +kernel
theorem dX3_wouldAnswer_1 : decode cX3_wouldAnswer 1 = .ok (.invokevirtual 60, 3) := by decide +kernel
theorem dX3_wouldAnswer_4 : decode cX3_wouldAnswer 4 = .ok (.ifCond .eq 21, 3) := by decide +kernel
theorem dX3_wouldAnswer_7 : decode cX3_wouldAnswer 7 = .ok (.aload_n 0, 1) := by decide +kernel
theorem dX3_wouldAnswer_8 : decode cX3_wouldAnswer 8 = .ok (.invokevirtual 64, 3) := by decide +kernel
theorem dX3_wouldAnswer_11 : decode cX3_wouldAnswer 11 = .ok (.invokestatic 68, 3) := by decide +kernel
theorem dX3_wouldAnswer_14 : decode cX3_wouldAnswer 14 = .ok (.aload_n 0, 1) := by decide +kernel
theorem dX3_wouldAnswer_15 : decode cX3_wouldAnswer 15 = .ok (.getfield 22, 3) := by decide +kernel
theorem dX3_wouldAnswer_18 : decode cX3_wouldAnswer 18 = .ok (.if_icmp .gt 7, 3) := by decide +kernel
theorem dX3_wouldAnswer_21 : decode cX3_wouldAnswer 21 = .ok (.iconst 1, 1) := by decide +kernel
theorem dX3_wouldAnswer_22 : decode cX3_wouldAnswer 22 = .ok (.goto 4, 3) := by decide +kernel
theorem dX3_wouldAnswer_25 : decode cX3_wouldAnswer 25 = .ok (.iconst 0, 1) := by decide +kernel
theorem dX3_wouldAnswer_26 : decode cX3_wouldAnswer 26 = .ok (.ireturn, 1) := by decide +kernel
theorem dX3_open_0 : decode cX3_open 0 = .ok (.iconst 0, 1) := by decide +kernel
theorem dX3_open_1 : decode cX3_open 1 = .ok (.istore_n 1, 1) := by decide +kernel
theorem dX3_open_2 : decode cX3_open 2 = .ok (.iconst 0, 1) := by decide +kernel
theorem dX3_open_3 : decode cX3_open 3 = .ok (.istore_n 2, 1) := by decide +kernel
theorem dX3_open_4 : decode cX3_open 4 = .ok (.iload_n 2, 1) := by decide +kernel
theorem dX3_open_5 : decode cX3_open 5 = .ok (.aload_n 0, 1) := by decide +kernel
theorem dX3_open_6 : decode cX3_open 6 = .ok (.getfield 18, 3) := by decide +kernel
theorem dX3_open_9 : decode cX3_open 9 = .ok (.if_icmp .ge 28, 3) := by decide +kernel
theorem dX3_open_12 : decode cX3_open 12 = .ok (.aload_n 0, 1) := by decide +kernel
theorem dX3_open_13 : decode cX3_open 13 = .ok (.getfield 11, 3) := by decide +kernel
theorem dX3_open_16 : decode cX3_open 16 = .ok (.iload_n 2, 1) := by decide +kernel
theorem dX3_open_17 : decode cX3_open 17 = .ok (.aaload, 1) := by decide +kernel
theorem dX3_open_18 : decode cX3_open 18 = .ok (.getfield 74, 3) := by decide +kernel
theorem dX3_open_21 : decode cX3_open 21 = .ok (.iconst 1, 1) := by decide +kernel
theorem dX3_open_22 : decode cX3_open 22 = .ok (.if_icmp .ne 9, 3) := by decide +kernel
theorem dX3_open_25 : decode cX3_open 25 = .ok (.iload_n 1, 1) := by decide +kernel
theorem dX3_open_26 : decode cX3_open 26 = .ok (.iconst 1, 1) := by decide +kernel
theorem dX3_open_27 : decode cX3_open 27 = .ok (.iload_n 2, 1) := by decide +kernel
theorem dX3_open_28 : decode cX3_open 28 = .ok (.ishl, 1) := by decide +kernel
theorem dX3_open_29 : decode cX3_open 29 = .ok (.ior, 1) := by decide +kernel
theorem dX3_open_30 : decode cX3_open 30 = .ok (.istore_n 1, 1) := by decide +kernel
theorem dX3_open_31 : decode cX3_open 31 = .ok (.iinc 2 1, 3) := by decide +kernel
theorem dX3_open_34 : decode cX3_open 34 = .ok (.goto (-30), 3) := by decide +kernel
theorem dX3_open_37 : decode cX3_open 37 = .ok (.iload_n 1, 1) := by decide +kernel
theorem dX3_open_38 : decode cX3_open 38 = .ok (.ireturn, 1) := by decide +kernel
theorem dX3_notOpen_0 : decode cX3_notOpen 0 = .ok (.aload_n 0, 1) := by decide +kernel
theorem dX3_notOpen_1 : decode cX3_notOpen 1 = .ok (.getfield 18, 3) := by decide +kernel
theorem dX3_notOpen_4 : decode cX3_notOpen 4 = .ok (.aload_n 0, 1) := by decide +kernel
theorem dX3_notOpen_5 : decode cX3_notOpen 5 = .ok (.invokevirtual 77, 3) := by decide +kernel
theorem dX3_notOpen_8 : decode cX3_notOpen 8 = .ok (.invokestatic 68, 3) := by decide +kernel
theorem dX3_notOpen_11 : decode cX3_notOpen 11 = .ok (.isub, 1) := by decide +kernel
theorem dX3_notOpen_12 : decode cX3_notOpen 12 = .ok (.ireturn, 1) := by decide +kernel
theorem dX3_callersOf_0 : decode cX3_callersOf 0 = .ok (.iconst 0, 1) := by decide +kernel
theorem dX3_callersOf_1 : decode cX3_callersOf 1 = .ok (.istore_n 2, 1) := by decide +kernel
theorem dX3_callersOf_2 : decode cX3_callersOf 2 = .ok (.iconst 0, 1) := by decide +kernel
theorem dX3_callersOf_3 : decode cX3_callersOf 3 = .ok (.istore_n 3, 1) := by decide +kernel
theorem dX3_callersOf_4 : decode cX3_callersOf 4 = .ok (.iload_n 3, 1) := by decide +kernel
theorem dX3_callersOf_5 : decode cX3_callersOf 5 = .ok (.aload_n 0, 1) := by decide +kernel
theorem dX3_callersOf_6 : decode cX3_callersOf 6 = .ok (.getfield 18, 3) := by decide +kernel
theorem dX3_callersOf_9 : decode cX3_callersOf 9 = .ok (.if_icmp .ge 25, 3) := by decide +kernel
theorem dX3_callersOf_12 : decode cX3_callersOf 12 = .ok (.aload_n 0, 1) := by decide +kernel
theorem dX3_callersOf_13 : decode cX3_callersOf 13 = .ok (.getfield 11, 3) := by decide +kernel
theorem dX3_callersOf_16 : decode cX3_callersOf 16 = .ok (.iload_n 3, 1) := by decide +kernel
theorem dX3_callersOf_17 : decode cX3_callersOf 17 = .ok (.aaload, 1) := by decide +kernel
theorem dX3_callersOf_18 : decode cX3_callersOf 18 = .ok (.iload_n 1, 1) := by decide +kernel
theorem dX3_callersOf_19 : decode cX3_callersOf 19 = .ok (.invokevirtual 80, 3) := by decide +kernel
theorem dX3_callersOf_22 : decode cX3_callersOf 22 = .ok (.ifCond .eq 6, 3) := by decide +kernel
theorem dX3_callersOf_25 : decode cX3_callersOf 25 = .ok (.iinc 2 1, 3) := by decide +kernel
theorem dX3_callersOf_28 : decode cX3_callersOf 28 = .ok (.iinc 3 1, 3) := by decide +kernel
theorem dX3_callersOf_31 : decode cX3_callersOf 31 = .ok (.goto (-27), 3) := by decide +kernel
theorem dX3_callersOf_34 : decode cX3_callersOf 34 = .ok (.iload_n 2, 1) := by decide +kernel
theorem dX3_callersOf_35 : decode cX3_callersOf 35 = .ok (.ireturn, 1) := by decide +kernel
theorem dX3_isHushed_0 : decode cX3_isHushed 0 = .ok (.aload_n 0, 1) := by decide +kernel
theorem dX3_isHushed_1 : decode cX3_isHushed 1 = .ok (.getfield 37, 3) := by decide +kernel
theorem dX3_isHushed_4 : decode cX3_isHushed 4 = .ok (.iload_n 1, 1) := by decide +kernel
theorem dX3_isHushed_5 : decode cX3_isHushed 5 = .ok (.ishr, 1) := by decide +kernel
theorem dX3_isHushed_6 : decode cX3_isHushed 6 = .ok (.iconst 1, 1) := by decide +kernel
theorem dX3_isHushed_7 : decode cX3_isHushed 7 = .ok (.iand, 1) := by decide +kernel
theorem dX3_isHushed_8 : decode cX3_isHushed 8 = .ok (.iconst 1, 1) := by decide +kernel
theorem dX3_isHushed_9 : decode cX3_isHushed 9 = .ok (.if_icmp .ne 7, 3) := by decide +kernel
theorem dX3_isHushed_12 : decode cX3_isHushed 12 = .ok (.iconst 1, 1) := by decide +kernel
theorem dX3_isHushed_13 : decode cX3_isHushed 13 = .ok (.goto 4, 3) := by decide +kernel
theorem dX3_isHushed_16 : decode cX3_isHushed 16 = .ok (.iconst 0, 1) := by decide +kernel
theorem dX3_isHushed_17 : decode cX3_isHushed 17 = .ok (.ireturn, 1) := by decide +kernel
theorem dX3_pass_0 : decode cX3_pass 0 = .ok (.aload_n 0, 1) := by decide +kernel
theorem dX3_pass_1 : decode cX3_pass 1 = .ok (.invokevirtual 64, 3) := by decide +kernel
theorem dX3_pass_4 : decode cX3_pass 4 = .ok (.istore_n 2, 1) := by decide +kernel
theorem dX3_pass_5 : decode cX3_pass 5 = .ok (.iload_n 2, 1) := by decide +kernel
theorem dX3_pass_6 : decode cX3_pass 6 = .ok (.invokestatic 68, 3) := by decide +kernel
theorem dX3_pass_9 : decode cX3_pass 9 = .ok (.istore_n 3, 1) := by decide +kernel
theorem dX3_pass_10 : decode cX3_pass 10 = .ok (.iload_n 1, 1) := by decide +kernel
theorem dX3_pass_11 : decode cX3_pass 11 = .ok (.ifCond .eq 15, 3) := by decide +kernel
theorem dX3_pass_14 : decode cX3_pass 14 = .ok (.iload_n 3, 1) := by decide +kernel
theorem dX3_pass_15 : decode cX3_pass 15 = .ok (.aload_n 0, 1) := by decide +kernel
theorem dX3_pass_16 : decode cX3_pass 16 = .ok (.getfield 22, 3) := by decide +kernel
theorem dX3_pass_19 : decode cX3_pass 19 = .ok (.if_icmp .gt 7, 3) := by decide +kernel
theorem dX3_pass_22 : decode cX3_pass 22 = .ok (.iconst 1, 1) := by decide +kernel
theorem dX3_pass_23 : decode cX3_pass 23 = .ok (.goto 4, 3) := by decide +kernel
theorem dX3_pass_26 : decode cX3_pass 26 = .ok (.iconst 0, 1) := by decide +kernel
theorem dX3_pass_27 : decode cX3_pass 27 = .ok (.istore 4, 2) := by decide +kernel
theorem dX3_pass_29 : decode cX3_pass 29 = .ok (.iconst 0, 1) := by decide +kernel
theorem dX3_pass_30 : decode cX3_pass 30 = .ok (.istore 5, 2) := by decide +kernel
theorem dX3_pass_32 : decode cX3_pass 32 = .ok (.iload 5, 2) := by decide +kernel
theorem dX3_pass_34 : decode cX3_pass 34 = .ok (.aload_n 0, 1) := by decide +kernel
theorem dX3_pass_35 : decode cX3_pass 35 = .ok (.getfield 18, 3) := by decide +kernel
theorem dX3_pass_38 : decode cX3_pass 38 = .ok (.if_icmp .ge 104, 3) := by decide +kernel
theorem dX3_pass_41 : decode cX3_pass 41 = .ok (.iload_n 2, 1) := by decide +kernel
theorem dX3_pass_42 : decode cX3_pass 42 = .ok (.iload 5, 2) := by decide +kernel
theorem dX3_pass_44 : decode cX3_pass 44 = .ok (.ishr, 1) := by decide +kernel
theorem dX3_pass_45 : decode cX3_pass 45 = .ok (.iconst 1, 1) := by decide +kernel
theorem dX3_pass_46 : decode cX3_pass 46 = .ok (.iand, 1) := by decide +kernel
theorem dX3_pass_47 : decode cX3_pass 47 = .ok (.iconst 1, 1) := by decide +kernel
theorem dX3_pass_48 : decode cX3_pass 48 = .ok (.if_icmp .ne 7, 3) := by decide +kernel
theorem dX3_pass_51 : decode cX3_pass 51 = .ok (.iconst 1, 1) := by decide +kernel
theorem dX3_pass_52 : decode cX3_pass 52 = .ok (.goto 4, 3) := by decide +kernel
theorem dX3_pass_55 : decode cX3_pass 55 = .ok (.iconst 0, 1) := by decide +kernel
theorem dX3_pass_56 : decode cX3_pass 56 = .ok (.istore 6, 2) := by decide +kernel
theorem dX3_pass_58 : decode cX3_pass 58 = .ok (.iload 6, 2) := by decide +kernel
theorem dX3_pass_60 : decode cX3_pass 60 = .ok (.ifCond .eq 21, 3) := by decide +kernel
theorem dX3_pass_63 : decode cX3_pass 63 = .ok (.iload 4, 2) := by decide +kernel
theorem dX3_pass_65 : decode cX3_pass 65 = .ok (.ifCond .eq 16, 3) := by decide +kernel
theorem dX3_pass_68 : decode cX3_pass 68 = .ok (.aload_n 0, 1) := by decide +kernel
theorem dX3_pass_69 : decode cX3_pass 69 = .ok (.getfield 11, 3) := by decide +kernel
theorem dX3_pass_72 : decode cX3_pass 72 = .ok (.iload 5, 2) := by decide +kernel
theorem dX3_pass_74 : decode cX3_pass 74 = .ok (.aaload, 1) := by decide +kernel
theorem dX3_pass_75 : decode cX3_pass 75 = .ok (.invokevirtual 83, 3) := by decide +kernel
theorem dX3_pass_78 : decode cX3_pass 78 = .ok (.goto 58, 3) := by decide +kernel
theorem dX3_pass_81 : decode cX3_pass 81 = .ok (.iload 6, 2) := by decide +kernel
theorem dX3_pass_83 : decode cX3_pass 83 = .ok (.ifCond .eq 20, 3) := by decide +kernel
theorem dX3_pass_86 : decode cX3_pass 86 = .ok (.aload_n 0, 1) := by decide +kernel
theorem dX3_pass_87 : decode cX3_pass 87 = .ok (.getfield 11, 3) := by decide +kernel
theorem dX3_pass_90 : decode cX3_pass 90 = .ok (.iload 5, 2) := by decide +kernel
theorem dX3_pass_92 : decode cX3_pass 92 = .ok (.aaload, 1) := by decide +kernel
theorem dX3_pass_93 : decode cX3_pass 93 = .ok (.aload_n 0, 1) := by decide +kernel
theorem dX3_pass_94 : decode cX3_pass 94 = .ok (.getfield 28, 3) := by decide +kernel
theorem dX3_pass_97 : decode cX3_pass 97 = .ok (.invokevirtual 86, 3) := by decide +kernel
theorem dX3_pass_100 : decode cX3_pass 100 = .ok (.goto 36, 3) := by decide +kernel
theorem dX3_pass_103 : decode cX3_pass 103 = .ok (.aload_n 0, 1) := by decide +kernel
theorem dX3_pass_104 : decode cX3_pass 104 = .ok (.iload 5, 2) := by decide +kernel
theorem dX3_pass_106 : decode cX3_pass 106 = .ok (.invokevirtual 54, 3) := by decide +kernel
theorem dX3_pass_109 : decode cX3_pass 109 = .ok (.ifCond .ne 27, 3) := by decide +kernel
theorem dX3_pass_112 : decode cX3_pass 112 = .ok (.aload_n 0, 1) := by decide +kernel
theorem dX3_pass_113 : decode cX3_pass 113 = .ok (.getfield 11, 3) := by decide +kernel
theorem dX3_pass_116 : decode cX3_pass 116 = .ok (.iload 5, 2) := by decide +kernel
theorem dX3_pass_118 : decode cX3_pass 118 = .ok (.aaload, 1) := by decide +kernel
theorem dX3_pass_119 : decode cX3_pass 119 = .ok (.getfield 74, 3) := by decide +kernel
theorem dX3_pass_122 : decode cX3_pass 122 = .ok (.iconst 1, 1) := by decide +kernel
theorem dX3_pass_123 : decode cX3_pass 123 = .ok (.if_icmp .ne 13, 3) := by decide +kernel
theorem dX3_pass_126 : decode cX3_pass 126 = .ok (.aload_n 0, 1) := by decide +kernel
theorem dX3_pass_127 : decode cX3_pass 127 = .ok (.getfield 11, 3) := by decide +kernel
theorem dX3_pass_130 : decode cX3_pass 130 = .ok (.iload 5, 2) := by decide +kernel
theorem dX3_pass_132 : decode cX3_pass 132 = .ok (.aaload, 1) := by decide +kernel
theorem dX3_pass_133 : decode cX3_pass 133 = .ok (.invokevirtual 90, 3) := by decide +kernel
theorem dX3_pass_136 : decode cX3_pass 136 = .ok (.iinc 5 1, 3) := by decide +kernel
theorem dX3_pass_139 : decode cX3_pass 139 = .ok (.goto (-107), 3) := by decide +kernel
theorem dX3_pass_142 : decode cX3_pass 142 = .ok (.aload_n 0, 1) := by decide +kernel
theorem dX3_pass_143 : decode cX3_pass 143 = .ok (.dup, 1) := by decide +kernel
theorem dX3_pass_144 : decode cX3_pass 144 = .ok (.getfield 28, 3) := by decide +kernel
theorem dX3_pass_147 : decode cX3_pass 147 = .ok (.iconst 1, 1) := by decide +kernel
theorem dX3_pass_148 : decode cX3_pass 148 = .ok (.iadd, 1) := by decide +kernel
theorem dX3_pass_149 : decode cX3_pass 149 = .ok (.putfield 28, 3) := by decide +kernel
theorem dX3_pass_152 : decode cX3_pass 152 = .ok (.iload 4, 2) := by decide +kernel
theorem dX3_pass_154 : decode cX3_pass 154 = .ok (.ifCond .ne 15, 3) := by decide +kernel
theorem dX3_pass_157 : decode cX3_pass 157 = .ok (.aload_n 0, 1) := by decide +kernel
theorem dX3_pass_158 : decode cX3_pass 158 = .ok (.dup, 1) := by decide +kernel
theorem dX3_pass_159 : decode cX3_pass 159 = .ok (.getfield 34, 3) := by decide +kernel
theorem dX3_pass_162 : decode cX3_pass 162 = .ok (.iload_n 3, 1) := by decide +kernel
theorem dX3_pass_163 : decode cX3_pass 163 = .ok (.iadd, 1) := by decide +kernel
theorem dX3_pass_164 : decode cX3_pass 164 = .ok (.putfield 34, 3) := by decide +kernel
theorem dX3_pass_167 : decode cX3_pass 167 = .ok (.iconst 0, 1) := by decide +kernel
theorem dX3_pass_168 : decode cX3_pass 168 = .ok (.ireturn, 1) := by decide +kernel
theorem dX3_pass_169 : decode cX3_pass 169 = .ok (.aload_n 0, 1) := by decide +kernel
theorem dX3_pass_170 : decode cX3_pass 170 = .ok (.dup, 1) := by decide +kernel
theorem dX3_pass_171 : decode cX3_pass 171 = .ok (.getfield 31, 3) := by decide +kernel
theorem dX3_pass_174 : decode cX3_pass 174 = .ok (.iload_n 3, 1) := by decide +kernel
theorem dX3_pass_175 : decode cX3_pass 175 = .ok (.iadd, 1) := by decide +kernel
theorem dX3_pass_176 : decode cX3_pass 176 = .ok (.putfield 31, 3) := by decide +kernel
theorem dX3_pass_179 : decode cX3_pass 179 = .ok (.iload_n 3, 1) := by decide +kernel
theorem dX3_pass_180 : decode cX3_pass 180 = .ok (.ireturn, 1) := by decide +kernel
theorem dX3_answeredIn_0 : decode cX3_answeredIn 0 = .ok (.iconst 0, 1) := by decide +kernel
theorem dX3_answeredIn_1 : decode cX3_answeredIn 1 = .ok (.istore_n 2, 1) := by decide +kernel
theorem dX3_answeredIn_2 : decode cX3_answeredIn 2 = .ok (.iconst 0, 1) := by decide +kernel
theorem dX3_answeredIn_3 : decode cX3_answeredIn 3 = .ok (.istore_n 3, 1) := by decide +kernel
theorem dX3_answeredIn_4 : decode cX3_answeredIn 4 = .ok (.iload_n 3, 1) := by decide +kernel
theorem dX3_answeredIn_5 : decode cX3_answeredIn 5 = .ok (.iload_n 1, 1) := by decide +kernel
theorem dX3_answeredIn_6 : decode cX3_answeredIn 6 = .ok (.if_icmp .ge 20, 3) := by decide +kernel
theorem dX3_answeredIn_9 : decode cX3_answeredIn 9 = .ok (.iload_n 2, 1) := by decide +kernel
theorem dX3_answeredIn_10 : decode cX3_answeredIn 10 = .ok (.aload_n 0, 1) := by decide +kernel
theorem dX3_answeredIn_11 : decode cX3_answeredIn 11 = .ok (.aload_n 0, 1) := by decide +kernel
theorem dX3_answeredIn_12 : decode cX3_answeredIn 12 = .ok (.invokevirtual 60, 3) := by decide +kernel
theorem dX3_answeredIn_15 : decode cX3_answeredIn 15 = .ok (.invokevirtual 93, 3) := by decide +kernel
theorem dX3_answeredIn_18 : decode cX3_answeredIn 18 = .ok (.iadd, 1) := by decide +kernel
theorem dX3_answeredIn_19 : decode cX3_answeredIn 19 = .ok (.istore_n 2, 1) := by decide +kernel
theorem dX3_answeredIn_20 : decode cX3_answeredIn 20 = .ok (.iinc 3 1, 3) := by decide +kernel
theorem dX3_answeredIn_23 : decode cX3_answeredIn 23 = .ok (.goto (-19), 3) := by decide +kernel
theorem dX3_answeredIn_26 : decode cX3_answeredIn 26 = .ok (.iload_n 2, 1) := by decide +kernel
theorem dX3_answeredIn_27 : decode cX3_answeredIn 27 = .ok (.ireturn, 1) := by decide +kernel
theorem dX3_carryOut_0 : decode cX3_carryOut 0 = .ok (.iload_n 1, 1) := by decide +kernel
theorem dX3_carryOut_1 : decode cX3_carryOut 1 = .ok (.tableswitch 95 1 5 #[35, 47, 62, 70, 83], 35) := by decide +kernel
theorem dX3_carryOut_36 : decode cX3_carryOut 36 = .ok (.aload_n 0, 1) := by decide +kernel
theorem dX3_carryOut_37 : decode cX3_carryOut 37 = .ok (.aload_n 0, 1) := by decide +kernel
theorem dX3_carryOut_38 : decode cX3_carryOut 38 = .ok (.invokevirtual 60, 3) := by decide +kernel
theorem dX3_carryOut_41 : decode cX3_carryOut 41 = .ok (.invokevirtual 93, 3) := by decide +kernel
theorem dX3_carryOut_44 : decode cX3_carryOut 44 = .ok (.pop, 1) := by decide +kernel
theorem dX3_carryOut_45 : decode cX3_carryOut 45 = .ok (.goto 51, 3) := by decide +kernel
theorem dX3_carryOut_48 : decode cX3_carryOut 48 = .ok (.aload_n 0, 1) := by decide +kernel
theorem dX3_carryOut_49 : decode cX3_carryOut 49 = .ok (.dup, 1) := by decide +kernel
theorem dX3_carryOut_50 : decode cX3_carryOut 50 = .ok (.getfield 25, 3) := by decide +kernel
theorem dX3_carryOut_53 : decode cX3_carryOut 53 = .ok (.iconst 1, 1) := by decide +kernel
theorem dX3_carryOut_54 : decode cX3_carryOut 54 = .ok (.iload_n 2, 1) := by decide +kernel
theorem dX3_carryOut_55 : decode cX3_carryOut 55 = .ok (.ishl, 1) := by decide +kernel
theorem dX3_carryOut_56 : decode cX3_carryOut 56 = .ok (.ixor, 1) := by decide +kernel
theorem dX3_carryOut_57 : decode cX3_carryOut 57 = .ok (.putfield 25, 3) := by decide +kernel
theorem dX3_carryOut_60 : decode cX3_carryOut 60 = .ok (.goto 36, 3) := by decide +kernel
theorem dX3_carryOut_63 : decode cX3_carryOut 63 = .ok (.aload_n 0, 1) := by decide +kernel
theorem dX3_carryOut_64 : decode cX3_carryOut 64 = .ok (.iload_n 3, 1) := by decide +kernel
theorem dX3_carryOut_65 : decode cX3_carryOut 65 = .ok (.putfield 22, 3) := by decide +kernel
theorem dX3_carryOut_68 : decode cX3_carryOut 68 = .ok (.goto 28, 3) := by decide +kernel
theorem dX3_carryOut_71 : decode cX3_carryOut 71 = .ok (.aload_n 0, 1) := by decide +kernel
theorem dX3_carryOut_72 : decode cX3_carryOut 72 = .ok (.getfield 11, 3) := by decide +kernel
theorem dX3_carryOut_75 : decode cX3_carryOut 75 = .ok (.iload_n 2, 1) := by decide +kernel
theorem dX3_carryOut_76 : decode cX3_carryOut 76 = .ok (.aaload, 1) := by decide +kernel
theorem dX3_carryOut_77 : decode cX3_carryOut 77 = .ok (.iload_n 3, 1) := by decide +kernel
theorem dX3_carryOut_78 : decode cX3_carryOut 78 = .ok (.putfield 97, 3) := by decide +kernel
theorem dX3_carryOut_81 : decode cX3_carryOut 81 = .ok (.goto 15, 3) := by decide +kernel
theorem dX3_carryOut_84 : decode cX3_carryOut 84 = .ok (.aload_n 0, 1) := by decide +kernel
theorem dX3_carryOut_85 : decode cX3_carryOut 85 = .ok (.getfield 11, 3) := by decide +kernel
theorem dX3_carryOut_88 : decode cX3_carryOut 88 = .ok (.iload_n 2, 1) := by decide +kernel
theorem dX3_carryOut_89 : decode cX3_carryOut 89 = .ok (.aaload, 1) := by decide +kernel
theorem dX3_carryOut_90 : decode cX3_carryOut 90 = .ok (.invokevirtual 100, 3) := by decide +kernel
theorem dX3_carryOut_93 : decode cX3_carryOut 93 = .ok (.goto 3, 3) := by decide +kernel
theorem dX3_carryOut_96 : decode cX3_carryOut 96 = .ok (.return_, 1) := by decide +kernel
theorem dX4_init_0 : decode cX4_init 0 = .ok (.aload_n 0, 1) := by decide +kernel
theorem dX4_init_1 : decode cX4_init 1 = .ok (.invokespecial 1, 3) := by decide +kernel
theorem dX4_init_4 : decode cX4_init 4 = .ok (.aload_n 0, 1) := by decide +kernel
theorem dX4_init_5 : decode cX4_init 5 = .ok (.bipush 6, 2) := by decide +kernel
theorem dX4_init_7 : decode cX4_init 7 = .ok (.bipush 40, 2) := by decide +kernel
theorem dX4_init_9 : decode cX4_init 9 = .ok (.multianewarray 9 2, 4) := by decide +kernel
theorem dX4_init_13 : decode cX4_init 13 = .ok (.putfield 11, 3) := by decide +kernel
theorem dX4_init_16 : decode cX4_init 16 = .ok (.aload_n 0, 1) := by decide +kernel
theorem dX4_init_17 : decode cX4_init 17 = .ok (.bipush 6, 2) := by decide +kernel
theorem dX4_init_19 : decode cX4_init 19 = .ok (.newarray .int, 2) := by decide +kernel
theorem dX4_init_21 : decode cX4_init 21 = .ok (.putfield 14, 3) := by decide +kernel
theorem dX4_init_24 : decode cX4_init 24 = .ok (.aload_n 0, 1) := by decide +kernel
theorem dX4_init_25 : decode cX4_init 25 = .ok (.iconst 4, 1) := by decide +kernel
theorem dX4_init_26 : decode cX4_init 26 = .ok (.bipush 60, 2) := by decide +kernel
theorem dX4_init_28 : decode cX4_init 28 = .ok (.multianewarray 18 2, 4) := by decide +kernel
theorem dX4_init_32 : decode cX4_init 32 = .ok (.putfield 20, 3) := by decide +kernel
theorem dX4_init_35 : decode cX4_init 35 = .ok (.aload_n 0, 1) := by decide +kernel
theorem dX4_init_36 : decode cX4_init 36 = .ok (.iconst 4, 1) := by decide +kernel
theorem dX4_init_37 : decode cX4_init 37 = .ok (.newarray .int, 2) := by decide +kernel
theorem dX4_init_39 : decode cX4_init 39 = .ok (.putfield 23, 3) := by decide +kernel
theorem dX4_init_42 : decode cX4_init 42 = .ok (.aload_n 0, 1) := by decide +kernel
theorem dX4_init_43 : decode cX4_init 43 = .ok (.new 26, 3) := by decide +kernel
theorem dX4_init_46 : decode cX4_init 46 = .ok (.dup, 1) := by decide +kernel
theorem dX4_init_47 : decode cX4_init 47 = .ok (.invokespecial 28, 3) := by decide +kernel
theorem dX4_init_50 : decode cX4_init 50 = .ok (.putfield 29, 3) := by decide +kernel
theorem dX4_init_53 : decode cX4_init 53 = .ok (.aload_n 0, 1) := by decide +kernel
theorem dX4_init_54 : decode cX4_init 54 = .ok (.new 26, 3) := by decide +kernel
theorem dX4_init_57 : decode cX4_init 57 = .ok (.dup, 1) := by decide +kernel
theorem dX4_init_58 : decode cX4_init 58 = .ok (.invokespecial 28, 3) := by decide +kernel
theorem dX4_init_61 : decode cX4_init 61 = .ok (.putfield 33, 3) := by decide +kernel
theorem dX4_init_64 : decode cX4_init 64 = .ok (.aload_n 0, 1) := by decide +kernel
theorem dX4_init_65 : decode cX4_init 65 = .ok (.new 26, 3) := by decide +kernel
theorem dX4_init_68 : decode cX4_init 68 = .ok (.dup, 1) := by decide +kernel
theorem dX4_init_69 : decode cX4_init 69 = .ok (.invokespecial 28, 3) := by decide +kernel
theorem dX4_init_72 : decode cX4_init 72 = .ok (.putfield 36, 3) := by decide +kernel
theorem dX4_init_75 : decode cX4_init 75 = .ok (.aload_n 0, 1) := by decide +kernel
theorem dX4_init_76 : decode cX4_init 76 = .ok (.new 39, 3) := by decide +kernel
theorem dX4_init_79 : decode cX4_init 79 = .ok (.dup, 1) := by decide +kernel
theorem dX4_init_80 : decode cX4_init 80 = .ok (.invokespecial 41, 3) := by decide +kernel
theorem dX4_init_83 : decode cX4_init 83 = .ok (.putfield 42, 3) := by decide +kernel
theorem dX4_init_86 : decode cX4_init 86 = .ok (.aload_n 0, 1) := by decide +kernel
theorem dX4_init_87 : decode cX4_init 87 = .ok (.iconst 3, 1) := by decide +kernel
theorem dX4_init_88 : decode cX4_init 88 = .ok (.anewarray 39, 3) := by decide +kernel
theorem dX4_init_91 : decode cX4_init 91 = .ok (.putfield 46, 3) := by decide +kernel
theorem dX4_init_94 : decode cX4_init 94 = .ok (.aload_n 0, 1) := by decide +kernel
theorem dX4_init_95 : decode cX4_init 95 = .ok (.iconst 0, 1) := by decide +kernel
theorem dX4_init_96 : decode cX4_init 96 = .ok (.putfield 50, 3) := by decide +kernel
theorem dX4_init_99 : decode cX4_init 99 = .ok (.aload_n 0, 1) := by decide +kernel
theorem dX4_init_100 : decode cX4_init 100 = .ok (.lconst 0, 1) := by decide +kernel
theorem dX4_init_101 : decode cX4_init 101 = .ok (.putfield 54, 3) := by decide +kernel
theorem dX4_init_104 : decode cX4_init 104 = .ok (.aload_n 0, 1) := by decide +kernel
theorem dX4_init_105 : decode cX4_init 105 = .ok (.lconst 1, 1) := by decide +kernel
theorem dX4_init_106 : decode cX4_init 106 = .ok (.putfield 58, 3) := by decide +kernel
theorem dX4_init_109 : decode cX4_init 109 = .ok (.aload_n 0, 1) := by decide +kernel
theorem dX4_init_110 : decode cX4_init 110 = .ok (.iconst 0, 1) := by decide +kernel
theorem dX4_init_111 : decode cX4_init 111 = .ok (.putfield 61, 3) := by decide +kernel
theorem dX4_init_114 : decode cX4_init 114 = .ok (.aload_n 0, 1) := by decide +kernel
theorem dX4_init_115 : decode cX4_init 115 = .ok (.bipush 6, 2) := by decide +kernel
theorem dX4_init_117 : decode cX4_init 117 = .ok (.newarray .int, 2) := by decide +kernel
theorem dX4_init_119 : decode cX4_init 119 = .ok (.putfield 64, 3) := by decide +kernel
theorem dX4_init_122 : decode cX4_init 122 = .ok (.aload_n 0, 1) := by decide +kernel
theorem dX4_init_123 : decode cX4_init 123 = .ok (.new 67, 3) := by decide +kernel
theorem dX4_init_126 : decode cX4_init 126 = .ok (.dup, 1) := by decide +kernel
theorem dX4_init_127 : decode cX4_init 127 = .ok (.invokespecial 69, 3) := by decide +kernel
theorem dX4_init_130 : decode cX4_init 130 = .ok (.putfield 70, 3) := by decide +kernel
theorem dX4_init_133 : decode cX4_init 133 = .ok (.aload_n 0, 1) := by decide +kernel
theorem dX4_init_134 : decode cX4_init 134 = .ok (.sipush 256, 3) := by decide +kernel
theorem dX4_init_137 : decode cX4_init 137 = .ok (.newarray .int, 2) := by decide +kernel
theorem dX4_init_139 : decode cX4_init 139 = .ok (.putfield 74, 3) := by decide +kernel
theorem dX4_init_142 : decode cX4_init 142 = .ok (.aload_n 0, 1) := by decide +kernel
theorem dX4_init_143 : decode cX4_init 143 = .ok (.bipush 60, 2) := by decide +kernel
theorem dX4_init_145 : decode cX4_init 145 = .ok (.newarray .int, 2) := by decide +kernel
theorem dX4_init_147 : decode cX4_init 147 = .ok (.putfield 77, 3) := by decide +kernel
theorem dX4_init_150 : decode cX4_init 150 = .ok (.aload_n 0, 1) := by decide +kernel
theorem dX4_init_151 : decode cX4_init 151 = .ok (.getfield 14, 3) := by decide +kernel
theorem dX4_init_154 : decode cX4_init 154 = .ok (.iconst (-1), 1) := by decide +kernel
theorem dX4_init_155 : decode cX4_init 155 = .ok (.invokestatic 80, 3) := by decide +kernel
theorem dX4_init_158 : decode cX4_init 158 = .ok (.aload_n 0, 1) := by decide +kernel
theorem dX4_init_159 : decode cX4_init 159 = .ok (.getfield 23, 3) := by decide +kernel
theorem dX4_init_162 : decode cX4_init 162 = .ok (.iconst (-1), 1) := by decide +kernel
theorem dX4_init_163 : decode cX4_init 163 = .ok (.invokestatic 80, 3) := by decide +kernel
theorem dX4_init_166 : decode cX4_init 166 = .ok (.iconst 0, 1) := by decide +kernel
theorem dX4_init_167 : decode cX4_init 167 = .ok (.istore_n 1, 1) := by decide +kernel
theorem dX4_init_168 : decode cX4_init 168 = .ok (.iload_n 1, 1) := by decide +kernel
theorem dX4_init_169 : decode cX4_init 169 = .ok (.iconst 3, 1) := by decide +kernel
theorem dX4_init_170 : decode cX4_init 170 = .ok (.if_icmp .ge 32, 3) := by decide +kernel
theorem dX4_init_173 : decode cX4_init 173 = .ok (.aload_n 0, 1) := by decide +kernel
theorem dX4_init_174 : decode cX4_init 174 = .ok (.getfield 46, 3) := by decide +kernel
theorem dX4_init_177 : decode cX4_init 177 = .ok (.iload_n 1, 1) := by decide +kernel
theorem dX4_init_178 : decode cX4_init 178 = .ok (.new 39, 3) := by decide +kernel
theorem dX4_init_181 : decode cX4_init 181 = .ok (.dup, 1) := by decide +kernel
theorem dX4_init_182 : decode cX4_init 182 = .ok (.invokespecial 41, 3) := by decide +kernel
theorem dX4_init_185 : decode cX4_init 185 = .ok (.aastore, 1) := by decide +kernel
theorem dX4_init_186 : decode cX4_init 186 = .ok (.aload_n 0, 1) := by decide +kernel
theorem dX4_init_187 : decode cX4_init 187 = .ok (.getfield 46, 3) := by decide +kernel
theorem dX4_init_190 : decode cX4_init 190 = .ok (.iload_n 1, 1) := by decide +kernel
theorem dX4_init_191 : decode cX4_init 191 = .ok (.aaload, 1) := by decide +kernel
theorem dX4_init_192 : decode cX4_init 192 = .ok (.iconst (-1), 1) := by decide +kernel
theorem dX4_init_193 : decode cX4_init 193 = .ok (.putfield 86, 3) := by decide +kernel
theorem dX4_init_196 : decode cX4_init 196 = .ok (.iinc 1 1, 3) := by decide +kernel
theorem dX4_init_199 : decode cX4_init 199 = .ok (.goto (-31), 3) := by decide +kernel
theorem dX4_init_202 : decode cX4_init 202 = .ok (.return_, 1) := by decide +kernel
theorem dX4_row_0 : decode cX4_row 0 = .ok (.iload_n 1, 1) := by decide +kernel
theorem dX4_row_1 : decode cX4_row 1 = .ok (.invokestatic 89, 3) := by decide +kernel
theorem dX4_row_4 : decode cX4_row 4 = .ok (.ifCond .eq 9, 3) := by decide +kernel
theorem dX4_row_7 : decode cX4_row 7 = .ok (.iload_n 2, 1) := by decide +kernel
theorem dX4_row_8 : decode cX4_row 8 = .ok (.bipush 40, 2) := by decide +kernel
theorem dX4_row_10 : decode cX4_row 10 = .ok (.if_icmp .le 5, 3) := by decide +kernel
theorem dX4_row_13 : decode cX4_row 13 = .ok (.iconst (-1), 1) := by decide +kernel
theorem dX4_row_14 : decode cX4_row 14 = .ok (.ireturn, 1) := by decide +kernel
theorem dX4_row_15 : decode cX4_row 15 = .ok (.iload_n 2, 1) := by decide +kernel
theorem dX4_row_16 : decode cX4_row 16 = .ok (.ifCond .ge 9, 3) := by decide +kernel
theorem dX4_row_19 : decode cX4_row 19 = .ok (.aload_n 0, 1) := by decide +kernel
theorem dX4_row_20 : decode cX4_row 20 = .ok (.iconst 5, 1) := by decide +kernel
theorem dX4_row_21 : decode cX4_row 21 = .ok (.invokevirtual 93, 3) := by decide +kernel
theorem dX4_row_24 : decode cX4_row 24 = .ok (.ireturn, 1) := by decide +kernel
theorem dX4_row_25 : decode cX4_row 25 = .ok (.aload_n 0, 1) := by decide +kernel
theorem dX4_row_26 : decode cX4_row 26 = .ok (.getfield 11, 3) := by decide +kernel
theorem dX4_row_29 : decode cX4_row 29 = .ok (.iload_n 1, 1) := by decide +kernel
theorem dX4_row_30 : decode cX4_row 30 = .ok (.aaload, 1) := by decide +kernel
theorem dX4_row_31 : decode cX4_row 31 = .ok (.iconst 0, 1) := by decide +kernel
theorem dX4_row_32 : decode cX4_row 32 = .ok (.invokestatic 80, 3) := by decide +kernel
theorem dX4_row_35 : decode cX4_row 35 = .ok (.aload_n 0, 1) := by decide +kernel
theorem dX4_row_36 : decode cX4_row 36 = .ok (.getfield 14, 3) := by decide +kernel
theorem dX4_row_39 : decode cX4_row 39 = .ok (.iload_n 1, 1) := by decide +kernel
theorem dX4_row_40 : decode cX4_row 40 = .ok (.iload_n 2, 1) := by decide +kernel
theorem dX4_row_41 : decode cX4_row 41 = .ok (.iastore, 1) := by decide +kernel
theorem dX4_row_42 : decode cX4_row 42 = .ok (.iload_n 2, 1) := by decide +kernel
theorem dX4_row_43 : decode cX4_row 43 = .ok (.ireturn, 1) := by decide +kernel
theorem dX4_lay_0 : decode cX4_lay 0 = .ok (.iload_n 1, 1) := by decide +kernel
theorem dX4_lay_1 : decode cX4_lay 1 = .ok (.invokestatic 89, 3) := by decide +kernel
theorem dX4_lay_4 : decode cX4_lay 4 = .ok (.ifCond .ne 5, 3) := by decide +kernel
theorem dX4_lay_7 : decode cX4_lay 7 = .ok (.iconst (-1), 1) := by decide +kernel
theorem dX4_lay_8 : decode cX4_lay 8 = .ok (.ireturn, 1) := by decide +kernel
theorem dX4_lay_9 : decode cX4_lay 9 = .ok (.aload_n 0, 1) := by decide +kernel
theorem dX4_lay_10 : decode cX4_lay 10 = .ok (.getfield 14, 3) := by decide +kernel
theorem dX4_lay_13 : decode cX4_lay 13 = .ok (.iload_n 1, 1) := by decide +kernel
theorem dX4_lay_14 : decode cX4_lay 14 = .ok (.iaload, 1) := by decide +kernel
theorem dX4_lay_15 : decode cX4_lay 15 = .ok (.iload_n 2, 1) := by decide +kernel
theorem dX4_lay_16 : decode cX4_lay 16 = .ok (.invokestatic 97, 3) := by decide +kernel
theorem dX4_lay_19 : decode cX4_lay 19 = .ok (.istore 4, 2) := by decide +kernel
theorem dX4_lay_21 : decode cX4_lay 21 = .ok (.iload 4, 2) := by decide +kernel
theorem dX4_lay_23 : decode cX4_lay 23 = .ok (.ifCond .eq 10, 3) := by decide +kernel
theorem dX4_lay_26 : decode cX4_lay 26 = .ok (.aload_n 0, 1) := by decide +kernel
theorem dX4_lay_27 : decode cX4_lay 27 = .ok (.iload 4, 2) := by decide +kernel
theorem dX4_lay_29 : decode cX4_lay 29 = .ok (.invokevirtual 93, 3) := by decide +kernel
theorem dX4_lay_32 : decode cX4_lay 32 = .ok (.ireturn, 1) := by decide +kernel
theorem dX4_lay_33 : decode cX4_lay 33 = .ok (.aload_n 0, 1) := by decide +kernel
theorem dX4_lay_34 : decode cX4_lay 34 = .ok (.aload_n 0, 1) := by decide +kernel
theorem dX4_lay_35 : decode cX4_lay 35 = .ok (.getfield 11, 3) := by decide +kernel
theorem dX4_lay_38 : decode cX4_lay 38 = .ok (.iload_n 1, 1) := by decide +kernel
theorem dX4_lay_39 : decode cX4_lay 39 = .ok (.aaload, 1) := by decide +kernel
theorem dX4_lay_40 : decode cX4_lay 40 = .ok (.iload_n 2, 1) := by decide +kernel
theorem dX4_lay_41 : decode cX4_lay 41 = .ok (.iaload, 1) := by decide +kernel
theorem dX4_lay_42 : decode cX4_lay 42 = .ok (.putfield 50, 3) := by decide +kernel
theorem dX4_lay_45 : decode cX4_lay 45 = .ok (.aload_n 0, 1) := by decide +kernel
theorem dX4_lay_46 : decode cX4_lay 46 = .ok (.getfield 11, 3) := by decide +kernel
theorem dX4_lay_49 : decode cX4_lay 49 = .ok (.iload_n 1, 1) := by decide +kernel
theorem dX4_lay_50 : decode cX4_lay 50 = .ok (.aaload, 1) := by decide +kernel
theorem dX4_lay_51 : decode cX4_lay 51 = .ok (.iload_n 2, 1) := by decide +kernel
theorem dX4_lay_52 : decode cX4_lay 52 = .ok (.iload_n 3, 1) := by decide +kernel
theorem dX4_lay_53 : decode cX4_lay 53 = .ok (.iastore, 1) := by decide +kernel
theorem dX4_lay_54 : decode cX4_lay 54 = .ok (.iconst 1, 1) := by decide +kernel
theorem dX4_lay_55 : decode cX4_lay 55 = .ok (.ireturn, 1) := by decide +kernel
theorem dX4_at_0 : decode cX4_at 0 = .ok (.iload_n 1, 1) := by decide +kernel
theorem dX4_at_1 : decode cX4_at 1 = .ok (.invokestatic 89, 3) := by decide +kernel
theorem dX4_at_4 : decode cX4_at 4 = .ok (.ifCond .ne 5, 3) := by decide +kernel
theorem dX4_at_7 : decode cX4_at 7 = .ok (.iconst (-1), 1) := by decide +kernel
theorem dX4_at_8 : decode cX4_at 8 = .ok (.ireturn, 1) := by decide +kernel
theorem dX4_at_9 : decode cX4_at 9 = .ok (.aload_n 0, 1) := by decide +kernel
theorem dX4_at_10 : decode cX4_at 10 = .ok (.getfield 14, 3) := by decide +kernel
theorem dX4_at_13 : decode cX4_at 13 = .ok (.iload_n 1, 1) := by decide +kernel
theorem dX4_at_14 : decode cX4_at 14 = .ok (.iaload, 1) := by decide +kernel
theorem dX4_at_15 : decode cX4_at 15 = .ok (.iload_n 2, 1) := by decide +kernel
theorem dX4_at_16 : decode cX4_at 16 = .ok (.invokestatic 97, 3) := by decide +kernel
theorem dX4_at_19 : decode cX4_at 19 = .ok (.istore_n 3, 1) := by decide +kernel
theorem dX4_at_20 : decode cX4_at 20 = .ok (.iload_n 3, 1) := by decide +kernel
theorem dX4_at_21 : decode cX4_at 21 = .ok (.ifCond .eq 9, 3) := by decide +kernel
theorem dX4_at_24 : decode cX4_at 24 = .ok (.aload_n 0, 1) := by decide +kernel
theorem dX4_at_25 : decode cX4_at 25 = .ok (.iload_n 3, 1) := by decide +kernel
theorem dX4_at_26 : decode cX4_at 26 = .ok (.invokevirtual 93, 3) := by decide +kernel
theorem dX4_at_29 : decode cX4_at 29 = .ok (.ireturn, 1) := by decide +kernel
theorem dX4_at_30 : decode cX4_at 30 = .ok (.aload_n 0, 1) := by decide +kernel
theorem dX4_at_31 : decode cX4_at 31 = .ok (.aload_n 0, 1) := by decide +kernel
theorem dX4_at_32 : decode cX4_at 32 = .ok (.getfield 11, 3) := by decide +kernel
theorem dX4_at_35 : decode cX4_at 35 = .ok (.iload_n 1, 1) := by decide +kernel
theorem dX4_at_36 : decode cX4_at 36 = .ok (.aaload, 1) := by decide +kernel
theorem dX4_at_37 : decode cX4_at 37 = .ok (.iload_n 2, 1) := by decide +kernel
theorem dX4_at_38 : decode cX4_at 38 = .ok (.iaload, 1) := by decide +kernel
theorem dX4_at_39 : decode cX4_at 39 = .ok (.putfield 50, 3) := by decide +kernel
theorem dX4_at_42 : decode cX4_at 42 = .ok (.iconst 1, 1) := by decide +kernel
theorem dX4_at_43 : decode cX4_at 43 = .ok (.ireturn, 1) := by decide +kernel
theorem dX4_tear_0 : decode cX4_tear 0 = .ok (.iload_n 1, 1) := by decide +kernel
theorem dX4_tear_1 : decode cX4_tear 1 = .ok (.invokestatic 89, 3) := by decide +kernel
theorem dX4_tear_4 : decode cX4_tear 4 = .ok (.ifCond .ne 5, 3) := by decide +kernel
theorem dX4_tear_7 : decode cX4_tear 7 = .ok (.iconst (-1), 1) := by decide +kernel
theorem dX4_tear_8 : decode cX4_tear 8 = .ok (.ireturn, 1) := by decide +kernel
theorem dX4_tear_9 : decode cX4_tear 9 = .ok (.aload_n 0, 1) := by decide +kernel
theorem dX4_tear_10 : decode cX4_tear 10 = .ok (.getfield 14, 3) := by decide +kernel
theorem dX4_tear_13 : decode cX4_tear 13 = .ok (.iload_n 1, 1) := by decide +kernel
theorem dX4_tear_14 : decode cX4_tear 14 = .ok (.iaload, 1) := by decide +kernel
theorem dX4_tear_15 : decode cX4_tear 15 = .ok (.iconst (-1), 1) := by decide +kernel
theorem dX4_tear_16 : decode cX4_tear 16 = .ok (.if_icmp .ne 9, 3) := by decide +kernel
theorem dX4_tear_19 : decode cX4_tear 19 = .ok (.aload_n 0, 1) := by decide +kernel
theorem dX4_tear_20 : decode cX4_tear 20 = .ok (.iconst 1, 1) := by decide +kernel
theorem dX4_tear_21 : decode cX4_tear 21 = .ok (.invokevirtual 93, 3) := by decide +kernel
theorem dX4_tear_24 : decode cX4_tear 24 = .ok (.ireturn, 1) := by decide +kernel
theorem dX4_tear_25 : decode cX4_tear 25 = .ok (.aload_n 0, 1) := by decide +kernel
theorem dX4_tear_26 : decode cX4_tear 26 = .ok (.getfield 14, 3) := by decide +kernel
theorem dX4_tear_29 : decode cX4_tear 29 = .ok (.iload_n 1, 1) := by decide +kernel
theorem dX4_tear_30 : decode cX4_tear 30 = .ok (.iconst (-1), 1) := by decide +kernel
theorem dX4_tear_31 : decode cX4_tear 31 = .ok (.iastore, 1) := by decide +kernel
theorem dX4_tear_32 : decode cX4_tear 32 = .ok (.iconst 1, 1) := by decide +kernel
theorem dX4_tear_33 : decode cX4_tear 33 = .ok (.ireturn, 1) := by decide +kernel
theorem dX4_copy_0 : decode cX4_copy 0 = .ok (.iload_n 1, 1) := by decide +kernel
theorem dX4_copy_1 : decode cX4_copy 1 = .ok (.invokestatic 89, 3) := by decide +kernel
theorem dX4_copy_4 : decode cX4_copy 4 = .ok (.ifCond .eq 10, 3) := by decide +kernel
theorem dX4_copy_7 : decode cX4_copy 7 = .ok (.iload_n 3, 1) := by decide +kernel
theorem dX4_copy_8 : decode cX4_copy 8 = .ok (.invokestatic 89, 3) := by decide +kernel
theorem dX4_copy_11 : decode cX4_copy 11 = .ok (.ifCond .ne 5, 3) := by decide +kernel
theorem dX4_copy_14 : decode cX4_copy 14 = .ok (.iconst (-1), 1) := by decide +kernel
theorem dX4_copy_15 : decode cX4_copy 15 = .ok (.ireturn, 1) := by decide +kernel
theorem dX4_copy_16 : decode cX4_copy 16 = .ok (.iload 5, 2) := by decide +kernel
theorem dX4_copy_18 : decode cX4_copy 18 = .ok (.ifCond .ge 9, 3) := by decide +kernel
theorem dX4_copy_21 : decode cX4_copy 21 = .ok (.aload_n 0, 1) := by decide +kernel
theorem dX4_copy_22 : decode cX4_copy 22 = .ok (.iconst 5, 1) := by decide +kernel
theorem dX4_copy_23 : decode cX4_copy 23 = .ok (.invokevirtual 93, 3) := by decide +kernel
theorem dX4_copy_26 : decode cX4_copy 26 = .ok (.ireturn, 1) := by decide +kernel
theorem dX4_copy_27 : decode cX4_copy 27 = .ok (.aload_n 0, 1) := by decide +kernel
theorem dX4_copy_28 : decode cX4_copy 28 = .ok (.getfield 14, 3) := by decide +kernel
theorem dX4_copy_31 : decode cX4_copy 31 = .ok (.iload_n 1, 1) := by decide +kernel
theorem dX4_copy_32 : decode cX4_copy 32 = .ok (.iaload, 1) := by decide +kernel
theorem dX4_copy_33 : decode cX4_copy 33 = .ok (.iconst (-1), 1) := by decide +kernel
theorem dX4_copy_34 : decode cX4_copy 34 = .ok (.if_icmp .eq 13, 3) := by decide +kernel
theorem dX4_copy_37 : decode cX4_copy 37 = .ok (.aload_n 0, 1) := by decide +kernel
theorem dX4_copy_38 : decode cX4_copy 38 = .ok (.getfield 14, 3) := by decide +kernel
theorem dX4_copy_41 : decode cX4_copy 41 = .ok (.iload_n 3, 1) := by decide +kernel
theorem dX4_copy_42 : decode cX4_copy 42 = .ok (.iaload, 1) := by decide +kernel
theorem dX4_copy_43 : decode cX4_copy 43 = .ok (.iconst (-1), 1) := by decide +kernel
theorem dX4_copy_44 : decode cX4_copy 44 = .ok (.if_icmp .ne 9, 3) := by decide +kernel
theorem dX4_copy_47 : decode cX4_copy 47 = .ok (.aload_n 0, 1) := by decide +kernel
theorem dX4_copy_48 : decode cX4_copy 48 = .ok (.iconst 1, 1) := by decide +kernel
theorem dX4_copy_49 : decode cX4_copy 49 = .ok (.invokevirtual 93, 3) := by decide +kernel
theorem dX4_copy_52 : decode cX4_copy 52 = .ok (.ireturn, 1) := by decide +kernel
theorem dX4_copy_53 : decode cX4_copy 53 = .ok (.aload_n 0, 1) := by decide +kernel
theorem dX4_copy_54 : decode cX4_copy 54 = .ok (.getfield 14, 3) := by decide +kernel
theorem dX4_copy_57 : decode cX4_copy 57 = .ok (.iload_n 1, 1) := by decide +kernel
theorem dX4_copy_58 : decode cX4_copy 58 = .ok (.iaload, 1) := by decide +kernel
theorem dX4_copy_59 : decode cX4_copy 59 = .ok (.iload_n 2, 1) := by decide +kernel
theorem dX4_copy_60 : decode cX4_copy 60 = .ok (.iload 5, 2) := by decide +kernel
theorem dX4_copy_62 : decode cX4_copy 62 = .ok (.invokestatic 101, 3) := by decide +kernel
theorem dX4_copy_65 : decode cX4_copy 65 = .ok (.ifCond .eq 19, 3) := by decide +kernel
theorem dX4_copy_68 : decode cX4_copy 68 = .ok (.aload_n 0, 1) := by decide +kernel
theorem dX4_copy_69 : decode cX4_copy 69 = .ok (.getfield 14, 3) := by decide +kernel
theorem dX4_copy_72 : decode cX4_copy 72 = .ok (.iload_n 3, 1) := by decide +kernel
theorem dX4_copy_73 : decode cX4_copy 73 = .ok (.iaload, 1) := by decide +kernel
theorem dX4_copy_74 : decode cX4_copy 74 = .ok (.iload 4, 2) := by decide +kernel
theorem dX4_copy_76 : decode cX4_copy 76 = .ok (.iload 5, 2) := by decide +kernel
theorem dX4_copy_78 : decode cX4_copy 78 = .ok (.invokestatic 101, 3) := by decide +kernel
theorem dX4_copy_81 : decode cX4_copy 81 = .ok (.ifCond .ne 9, 3) := by decide +kernel
theorem dX4_copy_84 : decode cX4_copy 84 = .ok (.aload_n 0, 1) := by decide +kernel
theorem dX4_copy_85 : decode cX4_copy 85 = .ok (.iconst 2, 1) := by decide +kernel
theorem dX4_copy_86 : decode cX4_copy 86 = .ok (.invokevirtual 93, 3) := by decide +kernel
theorem dX4_copy_89 : decode cX4_copy 89 = .ok (.ireturn, 1) := by decide +kernel
theorem dX4_copy_90 : decode cX4_copy 90 = .ok (.aload_n 0, 1) := by decide +kernel
theorem dX4_copy_91 : decode cX4_copy 91 = .ok (.getfield 11, 3) := by decide +kernel
theorem dX4_copy_94 : decode cX4_copy 94 = .ok (.iload_n 1, 1) := by decide +kernel
theorem dX4_copy_95 : decode cX4_copy 95 = .ok (.aaload, 1) := by decide +kernel
theorem dX4_copy_96 : decode cX4_copy 96 = .ok (.iload_n 2, 1) := by decide +kernel
theorem dX4_copy_97 : decode cX4_copy 97 = .ok (.aload_n 0, 1) := by decide +kernel
theorem dX4_copy_98 : decode cX4_copy 98 = .ok (.getfield 11, 3) := by decide +kernel
theorem dX4_copy_101 : decode cX4_copy 101 = .ok (.iload_n 3, 1) := by decide +kernel
theorem dX4_copy_102 : decode cX4_copy 102 = .ok (.aaload, 1) := by decide +kernel
theorem dX4_copy_103 : decode cX4_copy 103 = .ok (.iload 4, 2) := by decide +kernel
theorem dX4_copy_105 : decode cX4_copy 105 = .ok (.iload 5, 2) := by decide +kernel
theorem dX4_copy_107 : decode cX4_copy 107 = .ok (.invokestatic 105, 3) := by decide +kernel
theorem dX4_copy_110 : decode cX4_copy 110 = .ok (.iconst 1, 1) := by decide +kernel
theorem dX4_copy_111 : decode cX4_copy 111 = .ok (.ireturn, 1) := by decide +kernel
theorem dX4_mean_0 : decode cX4_mean 0 = .ok (.iload_n 1, 1) := by decide +kernel
theorem dX4_mean_1 : decode cX4_mean 1 = .ok (.invokestatic 89, 3) := by decide +kernel
theorem dX4_mean_4 : decode cX4_mean 4 = .ok (.ifCond .ne 5, 3) := by decide +kernel
theorem dX4_mean_7 : decode cX4_mean 7 = .ok (.iconst (-1), 1) := by decide +kernel
theorem dX4_mean_8 : decode cX4_mean 8 = .ok (.ireturn, 1) := by decide +kernel
theorem dX4_mean_9 : decode cX4_mean 9 = .ok (.aload_n 0, 1) := by decide +kernel
theorem dX4_mean_10 : decode cX4_mean 10 = .ok (.getfield 14, 3) := by decide +kernel
theorem dX4_mean_13 : decode cX4_mean 13 = .ok (.iload_n 1, 1) := by decide +kernel
theorem dX4_mean_14 : decode cX4_mean 14 = .ok (.iaload, 1) := by decide +kernel
theorem dX4_mean_15 : decode cX4_mean 15 = .ok (.istore_n 2, 1) := by decide +kernel
theorem dX4_mean_16 : decode cX4_mean 16 = .ok (.iload_n 2, 1) := by decide +kernel
theorem dX4_mean_17 : decode cX4_mean 17 = .ok (.iconst (-1), 1) := by decide +kernel
theorem dX4_mean_18 : decode cX4_mean 18 = .ok (.if_icmp .ne 9, 3) := by decide +kernel
theorem dX4_mean_21 : decode cX4_mean 21 = .ok (.aload_n 0, 1) := by decide +kernel
theorem dX4_mean_22 : decode cX4_mean 22 = .ok (.iconst 1, 1) := by decide +kernel
theorem dX4_mean_23 : decode cX4_mean 23 = .ok (.invokevirtual 93, 3) := by decide +kernel
theorem dX4_mean_26 : decode cX4_mean 26 = .ok (.ireturn, 1) := by decide +kernel
theorem dX4_mean_27 : decode cX4_mean 27 = .ok (.iload_n 2, 1) := by decide +kernel
theorem dX4_mean_28 : decode cX4_mean 28 = .ok (.ifCond .gt 9, 3) := by decide +kernel
theorem dX4_mean_31 : decode cX4_mean 31 = .ok (.aload_n 0, 1) := by decide +kernel
theorem dX4_mean_32 : decode cX4_mean 32 = .ok (.iconst 4, 1) := by decide +kernel
theorem dX4_mean_33 : decode cX4_mean 33 = .ok (.invokevirtual 93, 3) := by decide +kernel
theorem dX4_mean_36 : decode cX4_mean 36 = .ok (.ireturn, 1) := by decide +kernel
theorem dX4_mean_37 : decode cX4_mean 37 = .ok (.lconst 0, 1) := by decide +kernel
theorem dX4_mean_38 : decode cX4_mean 38 = .ok (.lstore_n 3, 1) := by decide +kernel
theorem dX4_mean_39 : decode cX4_mean 39 = .ok (.iconst 0, 1) := by decide +kernel
theorem dX4_mean_40 : decode cX4_mean 40 = .ok (.istore 5, 2) := by decide +kernel
theorem dX4_mean_42 : decode cX4_mean 42 = .ok (.iload 5, 2) := by decide +kernel
theorem dX4_mean_44 : decode cX4_mean 44 = .ok (.iload_n 2, 1) := by decide +kernel
theorem dX4_mean_45 : decode cX4_mean 45 = .ok (.if_icmp .ge 22, 3) := by decide +kernel
theorem dX4_mean_48 : decode cX4_mean 48 = .ok (.lload_n 3, 1) := by decide +kernel
theorem dX4_mean_49 : decode cX4_mean 49 = .ok (.aload_n 0, 1) := by decide +kernel
theorem dX4_mean_50 : decode cX4_mean 50 = .ok (.getfield 11, 3) := by decide +kernel
theorem dX4_mean_53 : decode cX4_mean 53 = .ok (.iload_n 1, 1) := by decide +kernel
theorem dX4_mean_54 : decode cX4_mean 54 = .ok (.aaload, 1) := by decide +kernel
theorem dX4_mean_55 : decode cX4_mean 55 = .ok (.iload 5, 2) := by decide +kernel
theorem dX4_mean_57 : decode cX4_mean 57 = .ok (.iaload, 1) := by decide +kernel
theorem dX4_mean_58 : decode cX4_mean 58 = .ok (.i2l, 1) := by decide +kernel
theorem dX4_mean_59 : decode cX4_mean 59 = .ok (.ladd, 1) := by decide +kernel
theorem dX4_mean_60 : decode cX4_mean 60 = .ok (.lstore_n 3, 1) := by decide +kernel
theorem dX4_mean_61 : decode cX4_mean 61 = .ok (.iinc 5 1, 3) := by decide +kernel
theorem dX4_mean_64 : decode cX4_mean 64 = .ok (.goto (-22), 3) := by decide +kernel
theorem dX4_mean_67 : decode cX4_mean 67 = .ok (.aload_n 0, 1) := by decide +kernel
theorem dX4_mean_68 : decode cX4_mean 68 = .ok (.lload_n 3, 1) := by decide +kernel
theorem dX4_mean_69 : decode cX4_mean 69 = .ok (.iload_n 2, 1) := by decide +kernel
theorem dX4_mean_70 : decode cX4_mean 70 = .ok (.i2l, 1) := by decide +kernel
theorem dX4_mean_71 : decode cX4_mean 71 = .ok (.ldiv, 1) := by decide +kernel
theorem dX4_mean_72 : decode cX4_mean 72 = .ok (.l2i, 1) := by decide +kernel
theorem dX4_mean_73 : decode cX4_mean 73 = .ok (.putfield 50, 3) := by decide +kernel
theorem dX4_mean_76 : decode cX4_mean 76 = .ok (.iconst 1, 1) := by decide +kernel
theorem dX4_mean_77 : decode cX4_mean 77 = .ok (.ireturn, 1) := by decide +kernel
theorem dX4_text_0 : decode cX4_text 0 = .ok (.iload_n 1, 1) := by decide +kernel
theorem dX4_text_1 : decode cX4_text 1 = .ok (.invokestatic 111, 3) := by decide +kernel
theorem dX4_text_4 : decode cX4_text 4 = .ok (.ifCond .eq 9, 3) := by decide +kernel
theorem dX4_text_7 : decode cX4_text 7 = .ok (.iload_n 2, 1) := by decide +kernel
theorem dX4_text_8 : decode cX4_text 8 = .ok (.bipush 60, 2) := by decide +kernel
theorem dX4_text_10 : decode cX4_text 10 = .ok (.if_icmp .le 5, 3) := by decide +kernel
theorem dX4_text_13 : decode cX4_text 13 = .ok (.iconst (-1), 1) := by decide +kernel
theorem dX4_text_14 : decode cX4_text 14 = .ok (.ireturn, 1) := by decide +kernel
theorem dX4_text_15 : decode cX4_text 15 = .ok (.iload_n 2, 1) := by decide +kernel
theorem dX4_text_16 : decode cX4_text 16 = .ok (.ifCond .ge 9, 3) := by decide +kernel
theorem dX4_text_19 : decode cX4_text 19 = .ok (.aload_n 0, 1) := by decide +kernel
theorem dX4_text_20 : decode cX4_text 20 = .ok (.iconst 5, 1) := by decide +kernel
theorem dX4_text_21 : decode cX4_text 21 = .ok (.invokevirtual 93, 3) := by decide +kernel
theorem dX4_text_24 : decode cX4_text 24 = .ok (.ireturn, 1) := by decide +kernel
theorem dX4_text_25 : decode cX4_text 25 = .ok (.aload_n 0, 1) := by decide +kernel
theorem dX4_text_26 : decode cX4_text 26 = .ok (.getfield 20, 3) := by decide +kernel
theorem dX4_text_29 : decode cX4_text 29 = .ok (.iload_n 1, 1) := by decide +kernel
theorem dX4_text_30 : decode cX4_text 30 = .ok (.aaload, 1) := by decide +kernel
theorem dX4_text_31 : decode cX4_text 31 = .ok (.bipush 32, 2) := by decide +kernel
theorem dX4_text_33 : decode cX4_text 33 = .ok (.invokestatic 114, 3) := by decide +kernel
theorem dX4_text_36 : decode cX4_text 36 = .ok (.aload_n 0, 1) := by decide +kernel
theorem dX4_text_37 : decode cX4_text 37 = .ok (.getfield 23, 3) := by decide +kernel
theorem dX4_text_40 : decode cX4_text 40 = .ok (.iload_n 1, 1) := by decide +kernel
theorem dX4_text_41 : decode cX4_text 41 = .ok (.iload_n 2, 1) := by decide +kernel
theorem dX4_text_42 : decode cX4_text 42 = .ok (.iastore, 1) := by decide +kernel
theorem dX4_text_43 : decode cX4_text 43 = .ok (.iload_n 2, 1) := by decide +kernel
theorem dX4_text_44 : decode cX4_text 44 = .ok (.ireturn, 1) := by decide +kernel
theorem dX4_put_0 : decode cX4_put 0 = .ok (.iload_n 1, 1) := by decide +kernel
theorem dX4_put_1 : decode cX4_put 1 = .ok (.invokestatic 111, 3) := by decide +kernel
theorem dX4_put_4 : decode cX4_put 4 = .ok (.ifCond .ne 5, 3) := by decide +kernel
theorem dX4_put_7 : decode cX4_put 7 = .ok (.iconst (-1), 1) := by decide +kernel
theorem dX4_put_8 : decode cX4_put 8 = .ok (.ireturn, 1) := by decide +kernel
theorem dX4_put_9 : decode cX4_put 9 = .ok (.aload_n 0, 1) := by decide +kernel
theorem dX4_put_10 : decode cX4_put 10 = .ok (.getfield 23, 3) := by decide +kernel
theorem dX4_put_13 : decode cX4_put 13 = .ok (.iload_n 1, 1) := by decide +kernel
theorem dX4_put_14 : decode cX4_put 14 = .ok (.iaload, 1) := by decide +kernel
theorem dX4_put_15 : decode cX4_put 15 = .ok (.iload_n 2, 1) := by decide +kernel
theorem dX4_put_16 : decode cX4_put 16 = .ok (.invokestatic 97, 3) := by decide +kernel
theorem dX4_put_19 : decode cX4_put 19 = .ok (.istore 4, 2) := by decide +kernel
theorem dX4_put_21 : decode cX4_put 21 = .ok (.iload 4, 2) := by decide +kernel
theorem dX4_put_23 : decode cX4_put 23 = .ok (.ifCond .eq 10, 3) := by decide +kernel
theorem dX4_put_26 : decode cX4_put 26 = .ok (.aload_n 0, 1) := by decide +kernel
theorem dX4_put_27 : decode cX4_put 27 = .ok (.iload 4, 2) := by decide +kernel
theorem dX4_put_29 : decode cX4_put 29 = .ok (.invokevirtual 93, 3) := by decide +kernel
theorem dX4_put_32 : decode cX4_put 32 = .ok (.ireturn, 1) := by decide +kernel
theorem dX4_put_33 : decode cX4_put 33 = .ok (.aload_n 0, 1) := by decide +kernel
theorem dX4_put_34 : decode cX4_put 34 = .ok (.getfield 20, 3) := by decide +kernel
theorem dX4_put_37 : decode cX4_put 37 = .ok (.iload_n 1, 1) := by decide +kernel
theorem dX4_put_38 : decode cX4_put 38 = .ok (.aaload, 1) := by decide +kernel
theorem dX4_put_39 : decode cX4_put 39 = .ok (.iload_n 2, 1) := by decide +kernel
theorem dX4_put_40 : decode cX4_put 40 = .ok (.baload, 1) := by decide +kernel
theorem dX4_put_41 : decode cX4_put 41 = .ok (.istore 5, 2) := by decide +kernel
theorem dX4_put_43 : decode cX4_put 43 = .ok (.aload_n 0, 1) := by decide +kernel
theorem dX4_put_44 : decode cX4_put 44 = .ok (.getfield 20, 3) := by decide +kernel
theorem dX4_put_47 : decode cX4_put 47 = .ok (.iload_n 1, 1) := by decide +kernel
theorem dX4_put_48 : decode cX4_put 48 = .ok (.aaload, 1) := by decide +kernel
theorem dX4_put_49 : decode cX4_put 49 = .ok (.iload_n 2, 1) := by decide +kernel
theorem dX4_put_50 : decode cX4_put 50 = .ok (.iload_n 3, 1) := by decide +kernel
theorem dX4_put_51 : decode cX4_put 51 = .ok (.i2b, 1) := by decide +kernel
theorem dX4_put_52 : decode cX4_put 52 = .ok (.bastore, 1) := by decide +kernel
theorem dX4_put_53 : decode cX4_put 53 = .ok (.iload 5, 2) := by decide +kernel
theorem dX4_put_55 : decode cX4_put 55 = .ok (.sipush 1000, 3) := by decide +kernel
theorem dX4_put_58 : decode cX4_put 58 = .ok (.iadd, 1) := by decide +kernel
theorem dX4_put_59 : decode cX4_put 59 = .ok (.ireturn, 1) := by decide +kernel
theorem dX4_fault_0 : decode cX4_fault 0 = .ok (.iload_n 1, 1) := by decide +kernel
theorem dX4_fault_1 : decode cX4_fault 1 = .ok (.invokestatic 111, 3) := by decide +kernel
theorem dX4_fault_4 : decode cX4_fault 4 = .ok (.ifCond .ne 5, 3) := by decide +kernel
theorem dX4_fault_7 : decode cX4_fault 7 = .ok (.iconst (-1), 1) := by decide +kernel
theorem dX4_fault_8 : decode cX4_fault 8 = .ok (.ireturn, 1) := by decide +kernel
theorem dX4_fault_9 : decode cX4_fault 9 = .ok (.aload_n 0, 1) := by decide +kernel
theorem dX4_fault_10 : decode cX4_fault 10 = .ok (.getfield 23, 3) := by decide +kernel
theorem dX4_fault_13 : decode cX4_fault 13 = .ok (.iload_n 1, 1) := by decide +kernel
theorem dX4_fault_14 : decode cX4_fault 14 = .ok (.iaload, 1) := by decide +kernel
theorem dX4_fault_15 : decode cX4_fault 15 = .ok (.iconst (-1), 1) := by decide +kernel
theorem dX4_fault_16 : decode cX4_fault 16 = .ok (.if_icmp .ne 9, 3) := by decide +kernel
theorem dX4_fault_19 : decode cX4_fault 19 = .ok (.aload_n 0, 1) := by decide +kernel
theorem dX4_fault_20 : decode cX4_fault 20 = .ok (.iconst 1, 1) := by decide +kernel
theorem dX4_fault_21 : decode cX4_fault 21 = .ok (.invokevirtual 93, 3) := by decide +kernel
theorem dX4_fault_24 : decode cX4_fault 24 = .ok (.ireturn, 1) := by decide +kernel
theorem dX4_fault_25 : decode cX4_fault 25 = .ok (.aload_n 0, 1) := by decide +kernel
theorem dX4_fault_26 : decode cX4_fault 26 = .ok (.getfield 20, 3) := by decide +kernel
theorem dX4_fault_29 : decode cX4_fault 29 = .ok (.iload_n 1, 1) := by decide +kernel
theorem dX4_fault_30 : decode cX4_fault 30 = .ok (.aaload, 1) := by decide +kernel
theorem dX4_fault_31 : decode cX4_fault 31 = .ok (.aload_n 0, 1) := by decide +kernel
theorem dX4_fault_32 : decode cX4_fault 32 = .ok (.getfield 23, 3) := by decide +kernel
theorem dX4_fault_35 : decode cX4_fault 35 = .ok (.iload_n 1, 1) := by decide +kernel
theorem dX4_fault_36 : decode cX4_fault 36 = .ok (.iaload, 1) := by decide +kernel
theorem dX4_fault_37 : decode cX4_fault 37 = .ok (.aload_n 0, 1) := by decide +kernel
theorem dX4_fault_38 : decode cX4_fault 38 = .ok (.getfield 36, 3) := by decide +kernel
theorem dX4_fault_41 : decode cX4_fault 41 = .ok (.invokestatic 117, 3) := by decide +kernel
theorem dX4_fault_44 : decode cX4_fault 44 = .ok (.ireturn, 1) := by decide +kernel
theorem dX4_house_0 : decode cX4_house 0 = .ok (.iload_n 1, 1) := by decide +kernel
theorem dX4_house_1 : decode cX4_house 1 = .ok (.invokestatic 111, 3) := by decide +kernel
theorem dX4_house_4 : decode cX4_house 4 = .ok (.ifCond .ne 5, 3) := by decide +kernel
theorem dX4_house_7 : decode cX4_house 7 = .ok (.iconst (-1), 1) := by decide +kernel
theorem dX4_house_8 : decode cX4_house 8 = .ok (.ireturn, 1) := by decide +kernel
theorem dX4_house_9 : decode cX4_house 9 = .ok (.aload_n 0, 1) := by decide +kernel
theorem dX4_house_10 : decode cX4_house 10 = .ok (.getfield 23, 3) := by decide +kernel
theorem dX4_house_13 : decode cX4_house 13 = .ok (.iload_n 1, 1) := by decide +kernel
theorem dX4_house_14 : decode cX4_house 14 = .ok (.iaload, 1) := by decide +kernel
theorem dX4_house_15 : decode cX4_house 15 = .ok (.iconst (-1), 1) := by decide +kernel
theorem dX4_house_16 : decode cX4_house 16 = .ok (.if_icmp .ne 9, 3) := by decide +kernel
theorem dX4_house_19 : decode cX4_house 19 = .ok (.aload_n 0, 1) := by decide +kernel
theorem dX4_house_20 : decode cX4_house 20 = .ok (.iconst 1, 1) := by decide +kernel
theorem dX4_house_21 : decode cX4_house 21 = .ok (.invokevirtual 93, 3) := by decide +kernel
theorem dX4_house_24 : decode cX4_house 24 = .ok (.ireturn, 1) := by decide +kernel
theorem dX4_house_25 : decode cX4_house 25 = .ok (.aload_n 0, 1) := by decide +kernel
theorem dX4_house_26 : decode cX4_house 26 = .ok (.getfield 20, 3) := by decide +kernel
theorem dX4_house_29 : decode cX4_house 29 = .ok (.iload_n 1, 1) := by decide +kernel
theorem dX4_house_30 : decode cX4_house 30 = .ok (.aaload, 1) := by decide +kernel
theorem dX4_house_31 : decode cX4_house 31 = .ok (.aload_n 0, 1) := by decide +kernel
theorem dX4_house_32 : decode cX4_house 32 = .ok (.getfield 23, 3) := by decide +kernel
theorem dX4_house_35 : decode cX4_house 35 = .ok (.iload_n 1, 1) := by decide +kernel
theorem dX4_house_36 : decode cX4_house 36 = .ok (.iaload, 1) := by decide +kernel
theorem dX4_house_37 : decode cX4_house 37 = .ok (.aload_n 0, 1) := by decide +kernel
theorem dX4_house_38 : decode cX4_house 38 = .ok (.getfield 36, 3) := by decide +kernel
theorem dX4_house_41 : decode cX4_house 41 = .ok (.invokestatic 117, 3) := by decide +kernel
theorem dX4_house_44 : decode cX4_house 44 = .ok (.bipush (-9), 2) := by decide +kernel
theorem dX4_house_46 : decode cX4_house 46 = .ok (.if_icmp .eq 6, 3) := by decide +kernel
theorem dX4_house_49 : decode cX4_house 49 = .ok (.bipush (-4), 2) := by decide +kernel
theorem dX4_house_51 : decode cX4_house 51 = .ok (.ireturn, 1) := by decide +kernel
theorem dX4_house_52 : decode cX4_house 52 = .ok (.aload_n 0, 1) := by decide +kernel
theorem dX4_house_53 : decode cX4_house 53 = .ok (.getfield 29, 3) := by decide +kernel
theorem dX4_house_56 : decode cX4_house 56 = .ok (.aload_n 0, 1) := by decide +kernel
theorem dX4_house_57 : decode cX4_house 57 = .ok (.getfield 36, 3) := by decide +kernel
theorem dX4_house_60 : decode cX4_house 60 = .ok (.invokevirtual 121, 3) := by decide +kernel
theorem dX4_house_63 : decode cX4_house 63 = .ok (.aload_n 0, 1) := by decide +kernel
theorem dX4_house_64 : decode cX4_house 64 = .ok (.getfield 33, 3) := by decide +kernel
theorem dX4_house_67 : decode cX4_house 67 = .ok (.aload_n 0, 1) := by decide +kernel
theorem dX4_house_68 : decode cX4_house 68 = .ok (.getfield 36, 3) := by decide +kernel
theorem dX4_house_71 : decode cX4_house 71 = .ok (.invokevirtual 121, 3) := by decide +kernel
theorem dX4_house_74 : decode cX4_house 74 = .ok (.aload_n 0, 1) := by decide +kernel
theorem dX4_house_75 : decode cX4_house 75 = .ok (.getfield 42, 3) := by decide +kernel
theorem dX4_house_78 : decode cX4_house 78 = .ok (.iconst 0, 1) := by decide +kernel
theorem dX4_house_79 : decode cX4_house 79 = .ok (.putfield 86, 3) := by decide +kernel
theorem dX4_house_82 : decode cX4_house 82 = .ok (.iconst 0, 1) := by decide +kernel
theorem dX4_house_83 : decode cX4_house 83 = .ok (.istore_n 2, 1) := by decide +kernel
theorem dX4_house_84 : decode cX4_house 84 = .ok (.iload_n 2, 1) := by decide +kernel
theorem dX4_house_85 : decode cX4_house 85 = .ok (.iconst 3, 1) := by decide +kernel
theorem dX4_house_86 : decode cX4_house 86 = .ok (.if_icmp .ge 19, 3) := by decide +kernel
theorem dX4_house_89 : decode cX4_house 89 = .ok (.aload_n 0, 1) := by decide +kernel
theorem dX4_house_90 : decode cX4_house 90 = .ok (.getfield 46, 3) := by decide +kernel
theorem dX4_house_93 : decode cX4_house 93 = .ok (.iload_n 2, 1) := by decide +kernel
theorem dX4_house_94 : decode cX4_house 94 = .ok (.aaload, 1) := by decide +kernel
theorem dX4_house_95 : decode cX4_house 95 = .ok (.iconst (-1), 1) := by decide +kernel
theorem dX4_house_96 : decode cX4_house 96 = .ok (.putfield 86, 3) := by decide +kernel
theorem dX4_house_99 : decode cX4_house 99 = .ok (.iinc 2 1, 3) := by decide +kernel
theorem dX4_house_102 : decode cX4_house 102 = .ok (.goto (-18), 3) := by decide +kernel
theorem dX4_house_105 : decode cX4_house 105 = .ok (.aload_n 0, 1) := by decide +kernel
theorem dX4_house_106 : decode cX4_house 106 = .ok (.getfield 33, 3) := by decide +kernel
theorem dX4_house_109 : decode cX4_house 109 = .ok (.getfield 125, 3) := by decide +kernel
theorem dX4_house_112 : decode cX4_house 112 = .ok (.ireturn, 1) := by decide +kernel
theorem dX4_caller_0 : decode cX4_caller 0 = .ok (.aload_n 0, 1) := by decide +kernel
theorem dX4_caller_1 : decode cX4_caller 1 = .ok (.iload_n 1, 1) := by decide +kernel
theorem dX4_caller_2 : decode cX4_caller 2 = .ok (.invokevirtual 126, 3) := by decide +kernel
theorem dX4_caller_5 : decode cX4_caller 5 = .ok (.ifCond .eq 13, 3) := by decide +kernel
theorem dX4_caller_8 : decode cX4_caller 8 = .ok (.iload_n 2, 1) := by decide +kernel
theorem dX4_caller_9 : decode cX4_caller 9 = .ok (.ifCond .lt 9, 3) := by decide +kernel
theorem dX4_caller_12 : decode cX4_caller 12 = .ok (.iload_n 2, 1) := by decide +kernel
theorem dX4_caller_13 : decode cX4_caller 13 = .ok (.bipush 7, 2) := by decide +kernel
theorem dX4_caller_15 : decode cX4_caller 15 = .ok (.if_icmp .lt 5, 3) := by decide +kernel
theorem dX4_caller_18 : decode cX4_caller 18 = .ok (.iconst (-1), 1) := by decide +kernel
theorem dX4_caller_19 : decode cX4_caller 19 = .ok (.ireturn, 1) := by decide +kernel
theorem dX4_caller_20 : decode cX4_caller 20 = .ok (.aload_n 0, 1) := by decide +kernel
theorem dX4_caller_21 : decode cX4_caller 21 = .ok (.aload_n 0, 1) := by decide +kernel
theorem dX4_caller_22 : decode cX4_caller 22 = .ok (.getfield 33, 3) := by decide +kernel
theorem dX4_caller_25 : decode cX4_caller 25 = .ok (.getfield 129, 3) := by decide +kernel
theorem dX4_caller_28 : decode cX4_caller 28 = .ok (.iload_n 1, 1) := by decide +kernel
theorem dX4_caller_29 : decode cX4_caller 29 = .ok (.aaload, 1) := by decide +kernel
theorem dX4_caller_30 : decode cX4_caller 30 = .ok (.iload_n 2, 1) := by decide +kernel
theorem dX4_caller_31 : decode cX4_caller 31 = .ok (.invokevirtual 133, 3) := by decide +kernel
theorem dX4_caller_34 : decode cX4_caller 34 = .ok (.putfield 50, 3) := by decide +kernel
theorem dX4_caller_37 : decode cX4_caller 37 = .ok (.iconst 1, 1) := by decide +kernel
theorem dX4_caller_38 : decode cX4_caller 38 = .ok (.ireturn, 1) := by decide +kernel
theorem dX4_mark_0 : decode cX4_mark 0 = .ok (.aload_n 0, 1) := by decide +kernel
theorem dX4_mark_1 : decode cX4_mark 1 = .ok (.iload_n 1, 1) := by decide +kernel
theorem dX4_mark_2 : decode cX4_mark 2 = .ok (.invokevirtual 126, 3) := by decide +kernel
theorem dX4_mark_5 : decode cX4_mark 5 = .ok (.ifCond .eq 13, 3) := by decide +kernel
theorem dX4_mark_8 : decode cX4_mark 8 = .ok (.iload_n 2, 1) := by decide +kernel
theorem dX4_mark_9 : decode cX4_mark 9 = .ok (.ifCond .le 9, 3) := by decide +kernel
theorem dX4_mark_12 : decode cX4_mark 12 = .ok (.iload_n 2, 1) := by decide +kernel
theorem dX4_mark_13 : decode cX4_mark 13 = .ok (.bipush 6, 2) := by decide +kernel
theorem dX4_mark_15 : decode cX4_mark 15 = .ok (.if_icmp .lt 5, 3) := by decide +kernel
theorem dX4_mark_18 : decode cX4_mark 18 = .ok (.iconst (-1), 1) := by decide +kernel
theorem dX4_mark_19 : decode cX4_mark 19 = .ok (.ireturn, 1) := by decide +kernel
theorem dX4_mark_20 : decode cX4_mark 20 = .ok (.aload_n 0, 1) := by decide +kernel
theorem dX4_mark_21 : decode cX4_mark 21 = .ok (.getfield 33, 3) := by decide +kernel
theorem dX4_mark_24 : decode cX4_mark 24 = .ok (.getfield 129, 3) := by decide +kernel
theorem dX4_mark_27 : decode cX4_mark 27 = .ok (.iload_n 1, 1) := by decide +kernel
theorem dX4_mark_28 : decode cX4_mark 28 = .ok (.aaload, 1) := by decide +kernel
theorem dX4_mark_29 : decode cX4_mark 29 = .ok (.astore_n 3, 1) := by decide +kernel
theorem dX4_mark_30 : decode cX4_mark 30 = .ok (.aload_n 3, 1) := by decide +kernel
theorem dX4_mark_31 : decode cX4_mark 31 = .ok (.iload_n 2, 1) := by decide +kernel
theorem dX4_mark_32 : decode cX4_mark 32 = .ok (.invokevirtual 138, 3) := by decide +kernel
theorem dX4_mark_35 : decode cX4_mark 35 = .ok (.ifCond .ne 9, 3) := by decide +kernel
theorem dX4_mark_38 : decode cX4_mark 38 = .ok (.aload_n 0, 1) := by decide +kernel
theorem dX4_mark_39 : decode cX4_mark 39 = .ok (.iconst 3, 1) := by decide +kernel
theorem dX4_mark_40 : decode cX4_mark 40 = .ok (.invokevirtual 93, 3) := by decide +kernel
theorem dX4_mark_43 : decode cX4_mark 43 = .ok (.ireturn, 1) := by decide +kernel
theorem dX4_mark_44 : decode cX4_mark 44 = .ok (.aload_n 3, 1) := by decide +kernel
theorem dX4_mark_45 : decode cX4_mark 45 = .ok (.iload_n 2, 1) := by decide +kernel
theorem dX4_mark_46 : decode cX4_mark 46 = .ok (.aload_n 0, 1) := by decide +kernel
theorem dX4_mark_47 : decode cX4_mark 47 = .ok (.getfield 33, 3) := by decide +kernel
theorem dX4_mark_50 : decode cX4_mark 50 = .ok (.getfield 141, 3) := by decide +kernel
theorem dX4_mark_53 : decode cX4_mark 53 = .ok (.invokevirtual 144, 3) := by decide +kernel
theorem dX4_mark_56 : decode cX4_mark 56 = .ok (.ireturn, 1) := by decide +kernel
theorem dX4_up_0 : decode cX4_up 0 = .ok (.iload_n 1, 1) := by decide +kernel
theorem dX4_up_1 : decode cX4_up 1 = .ok (.ifCond .lt 10, 3) := by decide +kernel
theorem dX4_up_4 : decode cX4_up 4 = .ok (.iload_n 1, 1) := by decide +kernel
theorem dX4_up_5 : decode cX4_up 5 = .ok (.sipush 199, 3) := by decide +kernel
theorem dX4_up_8 : decode cX4_up 8 = .ok (.if_icmp .le 5, 3) := by decide +kernel
theorem dX4_up_11 : decode cX4_up 11 = .ok (.iconst (-1), 1) := by decide +kernel
theorem dX4_up_12 : decode cX4_up 12 = .ok (.ireturn, 1) := by decide +kernel
theorem dX4_up_13 : decode cX4_up 13 = .ok (.aload_n 0, 1) := by decide +kernel
theorem dX4_up_14 : decode cX4_up 14 = .ok (.getfield 33, 3) := by decide +kernel
theorem dX4_up_17 : decode cX4_up 17 = .ok (.iload_n 1, 1) := by decide +kernel
theorem dX4_up_18 : decode cX4_up 18 = .ok (.invokevirtual 147, 3) := by decide +kernel
theorem dX4_up_21 : decode cX4_up 21 = .ok (.ifCond .eq 7, 3) := by decide +kernel
theorem dX4_up_24 : decode cX4_up 24 = .ok (.iconst 1, 1) := by decide +kernel
theorem dX4_up_25 : decode cX4_up 25 = .ok (.goto 4, 3) := by decide +kernel
theorem dX4_up_28 : decode cX4_up 28 = .ok (.iconst 0, 1) := by decide +kernel
theorem dX4_up_29 : decode cX4_up 29 = .ok (.ireturn, 1) := by decide +kernel
theorem dX4_step_0 : decode cX4_step 0 = .ok (.aload_n 0, 1) := by decide +kernel
theorem dX4_step_1 : decode cX4_step 1 = .ok (.getfield 33, 3) := by decide +kernel
theorem dX4_step_4 : decode cX4_step 4 = .ok (.getfield 125, 3) := by decide +kernel
theorem dX4_step_7 : decode cX4_step 7 = .ok (.ifCond .eq 15, 3) := by decide +kernel
theorem dX4_step_10 : decode cX4_step 10 = .ok (.aload_n 0, 1) := by decide +kernel
theorem dX4_step_11 : decode cX4_step 11 = .ok (.getfield 33, 3) := by decide +kernel
theorem dX4_step_14 : decode cX4_step 14 = .ok (.getfield 141, 3) := by decide +kernel
theorem dX4_step_17 : decode cX4_step 17 = .ok (.bipush 99, 2) := by decide +kernel
theorem dX4_step_19 : decode cX4_step 19 = .ok (.if_icmp .lt 6, 3) := by decide +kernel
theorem dX4_step_22 : decode cX4_step 22 = .ok (.bipush (-4), 2) := by decide +kernel
theorem dX4_step_24 : decode cX4_step 24 = .ok (.ireturn, 1) := by decide +kernel
theorem dX4_step_25 : decode cX4_step 25 = .ok (.aload_n 0, 1) := by decide +kernel
theorem dX4_step_26 : decode cX4_step 26 = .ok (.iconst 1, 1) := by decide +kernel
theorem dX4_step_27 : decode cX4_step 27 = .ok (.invokevirtual 150, 3) := by decide +kernel
theorem dX4_step_30 : decode cX4_step 30 = .ok (.ifCond .eq 6, 3) := by decide +kernel
theorem dX4_step_33 : decode cX4_step 33 = .ok (.bipush (-2), 2) := by decide +kernel
theorem dX4_step_35 : decode cX4_step 35 = .ok (.ireturn, 1) := by decide +kernel
theorem dX4_step_36 : decode cX4_step 36 = .ok (.aload_n 0, 1) := by decide +kernel
theorem dX4_step_37 : decode cX4_step 37 = .ok (.getfield 33, 3) := by decide +kernel
theorem dX4_step_40 : decode cX4_step 40 = .ok (.getfield 153, 3) := by decide +kernel
theorem dX4_step_43 : decode cX4_step 43 = .ok (.istore_n 1, 1) := by decide +kernel
theorem dX4_step_44 : decode cX4_step 44 = .ok (.aload_n 0, 1) := by decide +kernel
theorem dX4_step_45 : decode cX4_step 45 = .ok (.iconst 1, 1) := by decide +kernel
theorem dX4_step_46 : decode cX4_step 46 = .ok (.iconst 0, 1) := by decide +kernel
theorem dX4_step_47 : decode cX4_step 47 = .ok (.iconst 0, 1) := by decide +kernel
theorem dX4_step_48 : decode cX4_step 48 = .ok (.invokevirtual 156, 3) := by decide +kernel
theorem dX4_step_51 : decode cX4_step 51 = .ok (.aload_n 0, 1) := by decide +kernel
theorem dX4_step_52 : decode cX4_step 52 = .ok (.getfield 33, 3) := by decide +kernel
theorem dX4_step_55 : decode cX4_step 55 = .ok (.getfield 153, 3) := by decide +kernel
theorem dX4_step_58 : decode cX4_step 58 = .ok (.iload_n 1, 1) := by decide +kernel
theorem dX4_step_59 : decode cX4_step 59 = .ok (.isub, 1) := by decide +kernel
theorem dX4_step_60 : decode cX4_step 60 = .ok (.ireturn, 1) := by decide +kernel
theorem dX4_flip_0 : decode cX4_flip 0 = .ok (.iload_n 1, 1) := by decide +kernel
theorem dX4_flip_1 : decode cX4_flip 1 = .ok (.ifCond .lt 9, 3) := by decide +kernel
theorem dX4_flip_4 : decode cX4_flip 4 = .ok (.iload_n 1, 1) := by decide +kernel
theorem dX4_flip_5 : decode cX4_flip 5 = .ok (.bipush 8, 2) := by decide +kernel
theorem dX4_flip_7 : decode cX4_flip 7 = .ok (.if_icmp .lt 5, 3) := by decide +kernel
theorem dX4_flip_10 : decode cX4_flip 10 = .ok (.iconst (-1), 1) := by decide +kernel
theorem dX4_flip_11 : decode cX4_flip 11 = .ok (.ireturn, 1) := by decide +kernel
theorem dX4_flip_12 : decode cX4_flip 12 = .ok (.aload_n 0, 1) := by decide +kernel
theorem dX4_flip_13 : decode cX4_flip 13 = .ok (.getfield 33, 3) := by decide +kernel
theorem dX4_flip_16 : decode cX4_flip 16 = .ok (.getfield 125, 3) := by decide +kernel
theorem dX4_flip_19 : decode cX4_flip 19 = .ok (.ifCond .ne 6, 3) := by decide +kernel
theorem dX4_flip_22 : decode cX4_flip 22 = .ok (.bipush (-4), 2) := by decide +kernel
theorem dX4_flip_24 : decode cX4_flip 24 = .ok (.ireturn, 1) := by decide +kernel
theorem dX4_flip_25 : decode cX4_flip 25 = .ok (.aload_n 0, 1) := by decide +kernel
theorem dX4_flip_26 : decode cX4_flip 26 = .ok (.iconst 1, 1) := by decide +kernel
theorem dX4_flip_27 : decode cX4_flip 27 = .ok (.invokevirtual 150, 3) := by decide +kernel
theorem dX4_flip_30 : decode cX4_flip 30 = .ok (.ifCond .eq 6, 3) := by decide +kernel
theorem dX4_flip_33 : decode cX4_flip 33 = .ok (.bipush (-2), 2) := by decide +kernel
theorem dX4_flip_35 : decode cX4_flip 35 = .ok (.ireturn, 1) := by decide +kernel
theorem dX4_flip_36 : decode cX4_flip 36 = .ok (.aload_n 0, 1) := by decide +kernel
theorem dX4_flip_37 : decode cX4_flip 37 = .ok (.iconst 2, 1) := by decide +kernel
theorem dX4_flip_38 : decode cX4_flip 38 = .ok (.iload_n 1, 1) := by decide +kernel
theorem dX4_flip_39 : decode cX4_flip 39 = .ok (.iconst 0, 1) := by decide +kernel
theorem dX4_flip_40 : decode cX4_flip 40 = .ok (.invokevirtual 156, 3) := by decide +kernel
theorem dX4_flip_43 : decode cX4_flip 43 = .ok (.aload_n 0, 1) := by decide +kernel
theorem dX4_flip_44 : decode cX4_flip 44 = .ok (.getfield 33, 3) := by decide +kernel
theorem dX4_flip_47 : decode cX4_flip 47 = .ok (.getfield 160, 3) := by decide +kernel
theorem dX4_flip_50 : decode cX4_flip 50 = .ok (.invokestatic 163, 3) := by decide +kernel
theorem dX4_flip_53 : decode cX4_flip 53 = .ok (.ireturn, 1) := by decide +kernel
theorem dX4_room_0 : decode cX4_room 0 = .ok (.iload_n 1, 1) := by decide +kernel
theorem dX4_room_1 : decode cX4_room 1 = .ok (.invokestatic 168, 3) := by decide +kernel
theorem dX4_room_4 : decode cX4_room 4 = .ok (.ifCond .ne 5, 3) := by decide +kernel
theorem dX4_room_7 : decode cX4_room 7 = .ok (.iconst (-1), 1) := by decide +kernel
theorem dX4_room_8 : decode cX4_room 8 = .ok (.ireturn, 1) := by decide +kernel
theorem dX4_room_9 : decode cX4_room 9 = .ok (.aload_n 0, 1) := by decide +kernel
theorem dX4_room_10 : decode cX4_room 10 = .ok (.getfield 33, 3) := by decide +kernel
theorem dX4_room_13 : decode cX4_room 13 = .ok (.getfield 125, 3) := by decide +kernel
theorem dX4_room_16 : decode cX4_room 16 = .ok (.ifCond .eq 14, 3) := by decide +kernel
theorem dX4_room_19 : decode cX4_room 19 = .ok (.aload_n 0, 1) := by decide +kernel
theorem dX4_room_20 : decode cX4_room 20 = .ok (.getfield 33, 3) := by decide +kernel
theorem dX4_room_23 : decode cX4_room 23 = .ok (.getfield 171, 3) := by decide +kernel
theorem dX4_room_26 : decode cX4_room 26 = .ok (.iload_n 1, 1) := by decide +kernel
theorem dX4_room_27 : decode cX4_room 27 = .ok (.if_icmp .ne 6, 3) := by decide +kernel
theorem dX4_room_30 : decode cX4_room 30 = .ok (.bipush (-4), 2) := by decide +kernel
theorem dX4_room_32 : decode cX4_room 32 = .ok (.ireturn, 1) := by decide +kernel
theorem dX4_room_33 : decode cX4_room 33 = .ok (.aload_n 0, 1) := by decide +kernel
theorem dX4_room_34 : decode cX4_room 34 = .ok (.iconst 1, 1) := by decide +kernel
theorem dX4_room_35 : decode cX4_room 35 = .ok (.invokevirtual 150, 3) := by decide +kernel
theorem dX4_room_38 : decode cX4_room 38 = .ok (.ifCond .eq 6, 3) := by decide +kernel
theorem dX4_room_41 : decode cX4_room 41 = .ok (.bipush (-2), 2) := by decide +kernel
theorem dX4_room_43 : decode cX4_room 43 = .ok (.ireturn, 1) := by decide +kernel
theorem dX4_room_44 : decode cX4_room 44 = .ok (.aload_n 0, 1) := by decide +kernel
theorem dX4_room_45 : decode cX4_room 45 = .ok (.getfield 33, 3) := by decide +kernel
theorem dX4_room_48 : decode cX4_room 48 = .ok (.getfield 171, 3) := by decide +kernel
theorem dX4_room_51 : decode cX4_room 51 = .ok (.istore_n 2, 1) := by decide +kernel
theorem dX4_room_52 : decode cX4_room 52 = .ok (.aload_n 0, 1) := by decide +kernel
theorem dX4_room_53 : decode cX4_room 53 = .ok (.iconst 3, 1) := by decide +kernel
theorem dX4_room_54 : decode cX4_room 54 = .ok (.iconst 0, 1) := by decide +kernel
theorem dX4_room_55 : decode cX4_room 55 = .ok (.iload_n 1, 1) := by decide +kernel
theorem dX4_room_56 : decode cX4_room 56 = .ok (.invokevirtual 156, 3) := by decide +kernel
theorem dX4_room_59 : decode cX4_room 59 = .ok (.iload_n 2, 1) := by decide +kernel
theorem dX4_room_60 : decode cX4_room 60 = .ok (.ireturn, 1) := by decide +kernel
theorem dX4_limit_0 : decode cX4_limit 0 = .ok (.aload_n 0, 1) := by decide +kernel
theorem dX4_limit_1 : decode cX4_limit 1 = .ok (.iload_n 1, 1) := by decide +kernel
theorem dX4_limit_2 : decode cX4_limit 2 = .ok (.invokevirtual 126, 3) := by decide +kernel
theorem dX4_limit_5 : decode cX4_limit 5 = .ok (.ifCond .eq 10, 3) := by decide +kernel
theorem dX4_limit_8 : decode cX4_limit 8 = .ok (.iload_n 2, 1) := by decide +kernel
theorem dX4_limit_9 : decode cX4_limit 9 = .ok (.invokestatic 168, 3) := by decide +kernel
theorem dX4_limit_12 : decode cX4_limit 12 = .ok (.ifCond .ne 5, 3) := by decide +kernel
theorem dX4_limit_15 : decode cX4_limit 15 = .ok (.iconst (-1), 1) := by decide +kernel
theorem dX4_limit_16 : decode cX4_limit 16 = .ok (.ireturn, 1) := by decide +kernel
theorem dX4_limit_17 : decode cX4_limit 17 = .ok (.aload_n 0, 1) := by decide +kernel
theorem dX4_limit_18 : decode cX4_limit 18 = .ok (.getfield 33, 3) := by decide +kernel
theorem dX4_limit_21 : decode cX4_limit 21 = .ok (.getfield 129, 3) := by decide +kernel
theorem dX4_limit_24 : decode cX4_limit 24 = .ok (.iload_n 1, 1) := by decide +kernel
theorem dX4_limit_25 : decode cX4_limit 25 = .ok (.aaload, 1) := by decide +kernel
theorem dX4_limit_26 : decode cX4_limit 26 = .ok (.getfield 174, 3) := by decide +kernel
theorem dX4_limit_29 : decode cX4_limit 29 = .ok (.istore_n 3, 1) := by decide +kernel
theorem dX4_limit_30 : decode cX4_limit 30 = .ok (.iload_n 3, 1) := by decide +kernel
theorem dX4_limit_31 : decode cX4_limit 31 = .ok (.iload_n 2, 1) := by decide +kernel
theorem dX4_limit_32 : decode cX4_limit 32 = .ok (.if_icmp .ne 6, 3) := by decide +kernel
theorem dX4_limit_35 : decode cX4_limit 35 = .ok (.bipush (-4), 2) := by decide +kernel
theorem dX4_limit_37 : decode cX4_limit 37 = .ok (.ireturn, 1) := by decide +kernel
theorem dX4_limit_38 : decode cX4_limit 38 = .ok (.aload_n 0, 1) := by decide +kernel
theorem dX4_limit_39 : decode cX4_limit 39 = .ok (.iconst 1, 1) := by decide +kernel
theorem dX4_limit_40 : decode cX4_limit 40 = .ok (.invokevirtual 150, 3) := by decide +kernel
theorem dX4_limit_43 : decode cX4_limit 43 = .ok (.ifCond .eq 6, 3) := by decide +kernel
theorem dX4_limit_46 : decode cX4_limit 46 = .ok (.bipush (-2), 2) := by decide +kernel
theorem dX4_limit_48 : decode cX4_limit 48 = .ok (.ireturn, 1) := by decide +kernel
theorem dX4_limit_49 : decode cX4_limit 49 = .ok (.aload_n 0, 1) := by decide +kernel
theorem dX4_limit_50 : decode cX4_limit 50 = .ok (.iconst 4, 1) := by decide +kernel
theorem dX4_limit_51 : decode cX4_limit 51 = .ok (.iload_n 1, 1) := by decide +kernel
theorem dX4_limit_52 : decode cX4_limit 52 = .ok (.iload_n 2, 1) := by decide +kernel
theorem dX4_limit_53 : decode cX4_limit 53 = .ok (.invokevirtual 156, 3) := by decide +kernel
theorem dX4_limit_56 : decode cX4_limit 56 = .ok (.iload_n 3, 1) := by decide +kernel
theorem dX4_limit_57 : decode cX4_limit 57 = .ok (.ireturn, 1) := by decide +kernel
theorem dX4_reset_0 : decode cX4_reset 0 = .ok (.aload_n 0, 1) := by decide +kernel
theorem dX4_reset_1 : decode cX4_reset 1 = .ok (.iload_n 1, 1) := by decide +kernel
theorem dX4_reset_2 : decode cX4_reset 2 = .ok (.invokevirtual 126, 3) := by decide +kernel
theorem dX4_reset_5 : decode cX4_reset 5 = .ok (.ifCond .ne 5, 3) := by decide +kernel
theorem dX4_reset_8 : decode cX4_reset 8 = .ok (.iconst (-1), 1) := by decide +kernel
theorem dX4_reset_9 : decode cX4_reset 9 = .ok (.ireturn, 1) := by decide +kernel
theorem dX4_reset_10 : decode cX4_reset 10 = .ok (.aload_n 0, 1) := by decide +kernel
theorem dX4_reset_11 : decode cX4_reset 11 = .ok (.iconst 1, 1) := by decide +kernel
theorem dX4_reset_12 : decode cX4_reset 12 = .ok (.invokevirtual 150, 3) := by decide +kernel
theorem dX4_reset_15 : decode cX4_reset 15 = .ok (.ifCond .eq 6, 3) := by decide +kernel
theorem dX4_reset_18 : decode cX4_reset 18 = .ok (.bipush (-2), 2) := by decide +kernel
theorem dX4_reset_20 : decode cX4_reset 20 = .ok (.ireturn, 1) := by decide +kernel
theorem dX4_reset_21 : decode cX4_reset 21 = .ok (.aload_n 0, 1) := by decide +kernel
theorem dX4_reset_22 : decode cX4_reset 22 = .ok (.getfield 33, 3) := by decide +kernel
theorem dX4_reset_25 : decode cX4_reset 25 = .ok (.getfield 129, 3) := by decide +kernel
theorem dX4_reset_28 : decode cX4_reset 28 = .ok (.iload_n 1, 1) := by decide +kernel
theorem dX4_reset_29 : decode cX4_reset 29 = .ok (.aaload, 1) := by decide +kernel
theorem dX4_reset_30 : decode cX4_reset 30 = .ok (.getfield 177, 3) := by decide +kernel
theorem dX4_reset_33 : decode cX4_reset 33 = .ok (.istore_n 2, 1) := by decide +kernel
theorem dX4_reset_34 : decode cX4_reset 34 = .ok (.aload_n 0, 1) := by decide +kernel
theorem dX4_reset_35 : decode cX4_reset 35 = .ok (.iconst 5, 1) := by decide +kernel
theorem dX4_reset_36 : decode cX4_reset 36 = .ok (.iload_n 1, 1) := by decide +kernel
theorem dX4_reset_37 : decode cX4_reset 37 = .ok (.iconst 0, 1) := by decide +kernel
theorem dX4_reset_38 : decode cX4_reset 38 = .ok (.invokevirtual 156, 3) := by decide +kernel
theorem dX4_reset_41 : decode cX4_reset 41 = .ok (.iload_n 2, 1) := by decide +kernel
theorem dX4_reset_42 : decode cX4_reset 42 = .ok (.ireturn, 1) := by decide +kernel
theorem dX4_undo_0 : decode cX4_undo 0 = .ok (.iload_n 1, 1) := by decide +kernel
theorem dX4_undo_1 : decode cX4_undo 1 = .ok (.ifCond .lt 14, 3) := by decide +kernel
theorem dX4_undo_4 : decode cX4_undo 4 = .ok (.iload_n 1, 1) := by decide +kernel
theorem dX4_undo_5 : decode cX4_undo 5 = .ok (.aload_n 0, 1) := by decide +kernel
theorem dX4_undo_6 : decode cX4_undo 6 = .ok (.getfield 42, 3) := by decide +kernel
theorem dX4_undo_9 : decode cX4_undo 9 = .ok (.getfield 86, 3) := by decide +kernel
theorem dX4_undo_12 : decode cX4_undo 12 = .ok (.if_icmp .le 5, 3) := by decide +kernel
theorem dX4_undo_15 : decode cX4_undo 15 = .ok (.iconst (-1), 1) := by decide +kernel
theorem dX4_undo_16 : decode cX4_undo 16 = .ok (.ireturn, 1) := by decide +kernel
theorem dX4_undo_17 : decode cX4_undo 17 = .ok (.aload_n 0, 1) := by decide +kernel
theorem dX4_undo_18 : decode cX4_undo 18 = .ok (.getfield 42, 3) := by decide +kernel
theorem dX4_undo_21 : decode cX4_undo 21 = .ok (.getfield 86, 3) := by decide +kernel
theorem dX4_undo_24 : decode cX4_undo 24 = .ok (.iload_n 1, 1) := by decide +kernel
theorem dX4_undo_25 : decode cX4_undo 25 = .ok (.isub, 1) := by decide +kernel
theorem dX4_undo_26 : decode cX4_undo 26 = .ok (.istore_n 2, 1) := by decide +kernel
theorem dX4_undo_27 : decode cX4_undo 27 = .ok (.aload_n 0, 1) := by decide +kernel
theorem dX4_undo_28 : decode cX4_undo 28 = .ok (.getfield 42, 3) := by decide +kernel
theorem dX4_undo_31 : decode cX4_undo 31 = .ok (.iload_n 1, 1) := by decide +kernel
theorem dX4_undo_32 : decode cX4_undo 32 = .ok (.putfield 86, 3) := by decide +kernel
theorem dX4_undo_35 : decode cX4_undo 35 = .ok (.aload_n 0, 1) := by decide +kernel
theorem dX4_undo_36 : decode cX4_undo 36 = .ok (.invokevirtual 180, 3) := by decide +kernel
theorem dX4_undo_39 : decode cX4_undo 39 = .ok (.iload_n 2, 1) := by decide +kernel
theorem dX4_undo_40 : decode cX4_undo 40 = .ok (.ireturn, 1) := by decide +kernel
theorem dX4_keep_0 : decode cX4_keep 0 = .ok (.iload_n 1, 1) := by decide +kernel
theorem dX4_keep_1 : decode cX4_keep 1 = .ok (.invokestatic 183, 3) := by decide +kernel
theorem dX4_keep_4 : decode cX4_keep 4 = .ok (.ifCond .ne 5, 3) := by decide +kernel
theorem dX4_keep_7 : decode cX4_keep 7 = .ok (.iconst (-1), 1) := by decide +kernel
theorem dX4_keep_8 : decode cX4_keep 8 = .ok (.ireturn, 1) := by decide +kernel
theorem dX4_keep_9 : decode cX4_keep 9 = .ok (.aload_n 0, 1) := by decide +kernel
theorem dX4_keep_10 : decode cX4_keep 10 = .ok (.getfield 33, 3) := by decide +kernel
theorem dX4_keep_13 : decode cX4_keep 13 = .ok (.getfield 125, 3) := by decide +kernel
theorem dX4_keep_16 : decode cX4_keep 16 = .ok (.ifCond .ne 6, 3) := by decide +kernel
theorem dX4_keep_19 : decode cX4_keep 19 = .ok (.bipush (-4), 2) := by decide +kernel
theorem dX4_keep_21 : decode cX4_keep 21 = .ok (.ireturn, 1) := by decide +kernel
theorem dX4_keep_22 : decode cX4_keep 22 = .ok (.aload_n 0, 1) := by decide +kernel
theorem dX4_keep_23 : decode cX4_keep 23 = .ok (.getfield 46, 3) := by decide +kernel
theorem dX4_keep_26 : decode cX4_keep 26 = .ok (.iload_n 1, 1) := by decide +kernel
theorem dX4_keep_27 : decode cX4_keep 27 = .ok (.aaload, 1) := by decide +kernel
theorem dX4_keep_28 : decode cX4_keep 28 = .ok (.aload_n 0, 1) := by decide +kernel
theorem dX4_keep_29 : decode cX4_keep 29 = .ok (.getfield 42, 3) := by decide +kernel
theorem dX4_keep_32 : decode cX4_keep 32 = .ok (.invokevirtual 186, 3) := by decide +kernel
theorem dX4_keep_35 : decode cX4_keep 35 = .ok (.aload_n 0, 1) := by decide +kernel
theorem dX4_keep_36 : decode cX4_keep 36 = .ok (.getfield 42, 3) := by decide +kernel
theorem dX4_keep_39 : decode cX4_keep 39 = .ok (.getfield 86, 3) := by decide +kernel
theorem dX4_keep_42 : decode cX4_keep 42 = .ok (.ireturn, 1) := by decide +kernel
theorem dX4_on_0 : decode cX4_on 0 = .ok (.iload_n 1, 1) := by decide +kernel
theorem dX4_on_1 : decode cX4_on 1 = .ok (.invokestatic 183, 3) := by decide +kernel
theorem dX4_on_4 : decode cX4_on 4 = .ok (.ifCond .ne 5, 3) := by decide +kernel
theorem dX4_on_7 : decode cX4_on 7 = .ok (.iconst (-1), 1) := by decide +kernel
theorem dX4_on_8 : decode cX4_on 8 = .ok (.ireturn, 1) := by decide +kernel
theorem dX4_on_9 : decode cX4_on 9 = .ok (.aload_n 0, 1) := by decide +kernel
theorem dX4_on_10 : decode cX4_on 10 = .ok (.getfield 46, 3) := by decide +kernel
theorem dX4_on_13 : decode cX4_on 13 = .ok (.iload_n 1, 1) := by decide +kernel
theorem dX4_on_14 : decode cX4_on 14 = .ok (.aaload, 1) := by decide +kernel
theorem dX4_on_15 : decode cX4_on 15 = .ok (.getfield 86, 3) := by decide +kernel
theorem dX4_on_18 : decode cX4_on 18 = .ok (.iconst (-1), 1) := by decide +kernel
theorem dX4_on_19 : decode cX4_on 19 = .ok (.if_icmp .ne 9, 3) := by decide +kernel
theorem dX4_on_22 : decode cX4_on 22 = .ok (.aload_n 0, 1) := by decide +kernel
theorem dX4_on_23 : decode cX4_on 23 = .ok (.iconst 1, 1) := by decide +kernel
theorem dX4_on_24 : decode cX4_on 24 = .ok (.invokevirtual 93, 3) := by decide +kernel
theorem dX4_on_27 : decode cX4_on 27 = .ok (.ireturn, 1) := by decide +kernel
theorem dX4_on_28 : decode cX4_on 28 = .ok (.aload_n 0, 1) := by decide +kernel
theorem dX4_on_29 : decode cX4_on 29 = .ok (.getfield 42, 3) := by decide +kernel
theorem dX4_on_32 : decode cX4_on 32 = .ok (.aload_n 0, 1) := by decide +kernel
theorem dX4_on_33 : decode cX4_on 33 = .ok (.getfield 46, 3) := by decide +kernel
theorem dX4_on_36 : decode cX4_on 36 = .ok (.iload_n 1, 1) := by decide +kernel
theorem dX4_on_37 : decode cX4_on 37 = .ok (.aaload, 1) := by decide +kernel
theorem dX4_on_38 : decode cX4_on 38 = .ok (.invokevirtual 186, 3) := by decide +kernel
theorem dX4_on_41 : decode cX4_on 41 = .ok (.aload_n 0, 1) := by decide +kernel
theorem dX4_on_42 : decode cX4_on 42 = .ok (.invokevirtual 180, 3) := by decide +kernel
theorem dX4_on_45 : decode cX4_on 45 = .ok (.aload_n 0, 1) := by decide +kernel
theorem dX4_on_46 : decode cX4_on 46 = .ok (.getfield 42, 3) := by decide +kernel
theorem dX4_on_49 : decode cX4_on 49 = .ok (.getfield 86, 3) := by decide +kernel
theorem dX4_on_52 : decode cX4_on 52 = .ok (.ireturn, 1) := by decide +kernel
theorem dX4_calls_0 : decode cX4_calls 0 = .ok (.aload_n 0, 1) := by decide +kernel
theorem dX4_calls_1 : decode cX4_calls 1 = .ok (.aload_n 0, 1) := by decide +kernel
theorem dX4_calls_2 : decode cX4_calls 2 = .ok (.getfield 33, 3) := by decide +kernel
theorem dX4_calls_5 : decode cX4_calls 5 = .ok (.invokevirtual 189, 3) := by decide +kernel
theorem dX4_calls_8 : decode cX4_calls 8 = .ok (.ifCond .eq 7, 3) := by decide +kernel
theorem dX4_calls_11 : decode cX4_calls 11 = .ok (.iconst 1, 1) := by decide +kernel
theorem dX4_calls_12 : decode cX4_calls 12 = .ok (.goto 4, 3) := by decide +kernel
theorem dX4_calls_15 : decode cX4_calls 15 = .ok (.iconst 0, 1) := by decide +kernel
theorem dX4_calls_16 : decode cX4_calls 16 = .ok (.putfield 50, 3) := by decide +kernel
theorem dX4_calls_19 : decode cX4_calls 19 = .ok (.aload_n 0, 1) := by decide +kernel
theorem dX4_calls_20 : decode cX4_calls 20 = .ok (.getfield 33, 3) := by decide +kernel
theorem dX4_calls_23 : decode cX4_calls 23 = .ok (.invokevirtual 193, 3) := by decide +kernel
theorem dX4_calls_26 : decode cX4_calls 26 = .ok (.ireturn, 1) := by decide +kernel
theorem dX4_later_0 : decode cX4_later 0 = .ok (.aload_n 0, 1) := by decide +kernel
theorem dX4_later_1 : decode cX4_later 1 = .ok (.iload_n 1, 1) := by decide +kernel
theorem dX4_later_2 : decode cX4_later 2 = .ok (.invokevirtual 126, 3) := by decide +kernel
theorem dX4_later_5 : decode cX4_later 5 = .ok (.ifCond .eq 13, 3) := by decide +kernel
theorem dX4_later_8 : decode cX4_later 8 = .ok (.iload_n 2, 1) := by decide +kernel
theorem dX4_later_9 : decode cX4_later 9 = .ok (.ifCond .lt 9, 3) := by decide +kernel
theorem dX4_later_12 : decode cX4_later 12 = .ok (.iload_n 2, 1) := by decide +kernel
theorem dX4_later_13 : decode cX4_later 13 = .ok (.bipush 60, 2) := by decide +kernel
theorem dX4_later_15 : decode cX4_later 15 = .ok (.if_icmp .le 5, 3) := by decide +kernel
theorem dX4_later_18 : decode cX4_later 18 = .ok (.iconst (-1), 1) := by decide +kernel
theorem dX4_later_19 : decode cX4_later 19 = .ok (.ireturn, 1) := by decide +kernel
theorem dX4_later_20 : decode cX4_later 20 = .ok (.aload_n 0, 1) := by decide +kernel
theorem dX4_later_21 : decode cX4_later 21 = .ok (.getfield 36, 3) := by decide +kernel
theorem dX4_later_24 : decode cX4_later 24 = .ok (.aload_n 0, 1) := by decide +kernel
theorem dX4_later_25 : decode cX4_later 25 = .ok (.getfield 33, 3) := by decide +kernel
theorem dX4_later_28 : decode cX4_later 28 = .ok (.invokevirtual 121, 3) := by decide +kernel
theorem dX4_later_31 : decode cX4_later 31 = .ok (.aload_n 0, 1) := by decide +kernel
theorem dX4_later_32 : decode cX4_later 32 = .ok (.aload_n 0, 1) := by decide +kernel
theorem dX4_later_33 : decode cX4_later 33 = .ok (.getfield 36, 3) := by decide +kernel
theorem dX4_later_36 : decode cX4_later 36 = .ok (.iload_n 2, 1) := by decide +kernel
theorem dX4_later_37 : decode cX4_later 37 = .ok (.invokevirtual 197, 3) := by decide +kernel
theorem dX4_later_40 : decode cX4_later 40 = .ok (.putfield 50, 3) := by decide +kernel
theorem dX4_later_43 : decode cX4_later 43 = .ok (.aload_n 0, 1) := by decide +kernel
theorem dX4_later_44 : decode cX4_later 44 = .ok (.getfield 36, 3) := by decide +kernel
theorem dX4_later_47 : decode cX4_later 47 = .ok (.getfield 129, 3) := by decide +kernel
theorem dX4_later_50 : decode cX4_later 50 = .ok (.iload_n 1, 1) := by decide +kernel
theorem dX4_later_51 : decode cX4_later 51 = .ok (.aaload, 1) := by decide +kernel
theorem dX4_later_52 : decode cX4_later 52 = .ok (.getfield 177, 3) := by decide +kernel
theorem dX4_later_55 : decode cX4_later 55 = .ok (.ireturn, 1) := by decide +kernel
theorem dX4_trips_0 : decode cX4_trips 0 = .ok (.aload_n 0, 1) := by decide +kernel
theorem dX4_trips_1 : decode cX4_trips 1 = .ok (.iload_n 1, 1) := by decide +kernel
theorem dX4_trips_2 : decode cX4_trips 2 = .ok (.invokevirtual 126, 3) := by decide +kernel
theorem dX4_trips_5 : decode cX4_trips 5 = .ok (.ifCond .ne 5, 3) := by decide +kernel
theorem dX4_trips_8 : decode cX4_trips 8 = .ok (.iconst (-1), 1) := by decide +kernel
theorem dX4_trips_9 : decode cX4_trips 9 = .ok (.ireturn, 1) := by decide +kernel
theorem dX4_trips_10 : decode cX4_trips 10 = .ok (.aload_n 0, 1) := by decide +kernel
theorem dX4_trips_11 : decode cX4_trips 11 = .ok (.getfield 36, 3) := by decide +kernel
theorem dX4_trips_14 : decode cX4_trips 14 = .ok (.aload_n 0, 1) := by decide +kernel
theorem dX4_trips_15 : decode cX4_trips 15 = .ok (.getfield 33, 3) := by decide +kernel
theorem dX4_trips_18 : decode cX4_trips 18 = .ok (.invokevirtual 121, 3) := by decide +kernel
theorem dX4_trips_21 : decode cX4_trips 21 = .ok (.aload_n 0, 1) := by decide +kernel
theorem dX4_trips_22 : decode cX4_trips 22 = .ok (.getfield 36, 3) := by decide +kernel
theorem dX4_trips_25 : decode cX4_trips 25 = .ok (.getfield 129, 3) := by decide +kernel
theorem dX4_trips_28 : decode cX4_trips 28 = .ok (.iload_n 1, 1) := by decide +kernel
theorem dX4_trips_29 : decode cX4_trips 29 = .ok (.aaload, 1) := by decide +kernel
theorem dX4_trips_30 : decode cX4_trips 30 = .ok (.astore_n 2, 1) := by decide +kernel
theorem dX4_trips_31 : decode cX4_trips 31 = .ok (.iconst 0, 1) := by decide +kernel
theorem dX4_trips_32 : decode cX4_trips 32 = .ok (.istore_n 3, 1) := by decide +kernel
theorem dX4_trips_33 : decode cX4_trips 33 = .ok (.iconst 1, 1) := by decide +kernel
theorem dX4_trips_34 : decode cX4_trips 34 = .ok (.istore 4, 2) := by decide +kernel
theorem dX4_trips_36 : decode cX4_trips 36 = .ok (.iload 4, 2) := by decide +kernel
theorem dX4_trips_38 : decode cX4_trips 38 = .ok (.bipush 60, 2) := by decide +kernel
theorem dX4_trips_40 : decode cX4_trips 40 = .ok (.if_icmp .gt 80, 3) := by decide +kernel
theorem dX4_trips_43 : decode cX4_trips 43 = .ok (.aload_n 2, 1) := by decide +kernel
theorem dX4_trips_44 : decode cX4_trips 44 = .ok (.aload_n 0, 1) := by decide +kernel
theorem dX4_trips_45 : decode cX4_trips 45 = .ok (.getfield 36, 3) := by decide +kernel
theorem dX4_trips_48 : decode cX4_trips 48 = .ok (.getfield 141, 3) := by decide +kernel
theorem dX4_trips_51 : decode cX4_trips 51 = .ok (.invokevirtual 200, 3) := by decide +kernel
theorem dX4_trips_54 : decode cX4_trips 54 = .ok (.istore 5, 2) := by decide +kernel
theorem dX4_trips_56 : decode cX4_trips 56 = .ok (.aload_n 0, 1) := by decide +kernel
theorem dX4_trips_57 : decode cX4_trips 57 = .ok (.getfield 36, 3) := by decide +kernel
theorem dX4_trips_60 : decode cX4_trips 60 = .ok (.aload_n 0, 1) := by decide +kernel
theorem dX4_trips_61 : decode cX4_trips 61 = .ok (.getfield 36, 3) := by decide +kernel
theorem dX4_trips_64 : decode cX4_trips 64 = .ok (.invokevirtual 203, 3) := by decide +kernel
theorem dX4_trips_67 : decode cX4_trips 67 = .ok (.invokevirtual 206, 3) := by decide +kernel
theorem dX4_trips_70 : decode cX4_trips 70 = .ok (.ifCond .le 7, 3) := by decide +kernel
theorem dX4_trips_73 : decode cX4_trips 73 = .ok (.iconst 1, 1) := by decide +kernel
theorem dX4_trips_74 : decode cX4_trips 74 = .ok (.goto 4, 3) := by decide +kernel
theorem dX4_trips_77 : decode cX4_trips 77 = .ok (.iconst 0, 1) := by decide +kernel
theorem dX4_trips_78 : decode cX4_trips 78 = .ok (.istore 6, 2) := by decide +kernel
theorem dX4_trips_80 : decode cX4_trips 80 = .ok (.iload 5, 2) := by decide +kernel
theorem dX4_trips_82 : decode cX4_trips 82 = .ok (.ifCond .eq 19, 3) := by decide +kernel
theorem dX4_trips_85 : decode cX4_trips 85 = .ok (.aload_n 2, 1) := by decide +kernel
theorem dX4_trips_86 : decode cX4_trips 86 = .ok (.getfield 177, 3) := by decide +kernel
theorem dX4_trips_89 : decode cX4_trips 89 = .ok (.iconst 1, 1) := by decide +kernel
theorem dX4_trips_90 : decode cX4_trips 90 = .ok (.if_icmp .ne 11, 3) := by decide +kernel
theorem dX4_trips_93 : decode cX4_trips 93 = .ok (.aload_n 0, 1) := by decide +kernel
theorem dX4_trips_94 : decode cX4_trips 94 = .ok (.iload_n 3, 1) := by decide +kernel
theorem dX4_trips_95 : decode cX4_trips 95 = .ok (.putfield 50, 3) := by decide +kernel
theorem dX4_trips_98 : decode cX4_trips 98 = .ok (.iload 4, 2) := by decide +kernel
theorem dX4_trips_100 : decode cX4_trips 100 = .ok (.ireturn, 1) := by decide +kernel
theorem dX4_trips_101 : decode cX4_trips 101 = .ok (.iload 5, 2) := by decide +kernel
theorem dX4_trips_103 : decode cX4_trips 103 = .ok (.ifCond .eq 11, 3) := by decide +kernel
theorem dX4_trips_106 : decode cX4_trips 106 = .ok (.iload 6, 2) := by decide +kernel
theorem dX4_trips_108 : decode cX4_trips 108 = .ok (.ifCond .eq 6, 3) := by decide +kernel
theorem dX4_trips_111 : decode cX4_trips 111 = .ok (.iinc 3 1, 3) := by decide +kernel
theorem dX4_trips_114 : decode cX4_trips 114 = .ok (.iinc 4 1, 3) := by decide +kernel
theorem dX4_trips_117 : decode cX4_trips 117 = .ok (.goto (-81), 3) := by decide +kernel
theorem dX4_trips_120 : decode cX4_trips 120 = .ok (.bipush (-9), 2) := by decide +kernel
theorem dX4_trips_122 : decode cX4_trips 122 = .ok (.ireturn, 1) := by decide +kernel
theorem dX4_worst_0 : decode cX4_worst 0 = .ok (.aload_n 0, 1) := by decide +kernel
theorem dX4_worst_1 : decode cX4_worst 1 = .ok (.getfield 33, 3) := by decide +kernel
theorem dX4_worst_4 : decode cX4_worst 4 = .ok (.getfield 125, 3) := by decide +kernel
theorem dX4_worst_7 : decode cX4_worst 7 = .ok (.ifCond .ne 6, 3) := by decide +kernel
theorem dX4_worst_10 : decode cX4_worst 10 = .ok (.bipush (-4), 2) := by decide +kernel
theorem dX4_worst_12 : decode cX4_worst 12 = .ok (.ireturn, 1) := by decide +kernel
theorem dX4_worst_13 : decode cX4_worst 13 = .ok (.aload_n 0, 1) := by decide +kernel
theorem dX4_worst_14 : decode cX4_worst 14 = .ok (.getfield 36, 3) := by decide +kernel
theorem dX4_worst_17 : decode cX4_worst 17 = .ok (.aload_n 0, 1) := by decide +kernel
theorem dX4_worst_18 : decode cX4_worst 18 = .ok (.getfield 33, 3) := by decide +kernel
theorem dX4_worst_21 : decode cX4_worst 21 = .ok (.invokevirtual 121, 3) := by decide +kernel
theorem dX4_worst_24 : decode cX4_worst 24 = .ok (.aload_n 0, 1) := by decide +kernel
theorem dX4_worst_25 : decode cX4_worst 25 = .ok (.getfield 36, 3) := by decide +kernel
theorem dX4_worst_28 : decode cX4_worst 28 = .ok (.invokevirtual 210, 3) := by decide +kernel
theorem dX4_worst_31 : decode cX4_worst 31 = .ok (.istore_n 1, 1) := by decide +kernel
theorem dX4_worst_32 : decode cX4_worst 32 = .ok (.iconst 0, 1) := by decide +kernel
theorem dX4_worst_33 : decode cX4_worst 33 = .ok (.istore_n 2, 1) := by decide +kernel
theorem dX4_worst_34 : decode cX4_worst 34 = .ok (.iconst 1, 1) := by decide +kernel
theorem dX4_worst_35 : decode cX4_worst 35 = .ok (.istore_n 3, 1) := by decide +kernel
theorem dX4_worst_36 : decode cX4_worst 36 = .ok (.iload_n 3, 1) := by decide +kernel
theorem dX4_worst_37 : decode cX4_worst 37 = .ok (.bipush 60, 2) := by decide +kernel
theorem dX4_worst_39 : decode cX4_worst 39 = .ok (.if_icmp .gt 45, 3) := by decide +kernel
theorem dX4_worst_42 : decode cX4_worst 42 = .ok (.aload_n 0, 1) := by decide +kernel
theorem dX4_worst_43 : decode cX4_worst 43 = .ok (.getfield 36, 3) := by decide +kernel
theorem dX4_worst_46 : decode cX4_worst 46 = .ok (.aload_n 0, 1) := by decide +kernel
theorem dX4_worst_47 : decode cX4_worst 47 = .ok (.getfield 36, 3) := by decide +kernel
theorem dX4_worst_50 : decode cX4_worst 50 = .ok (.invokevirtual 203, 3) := by decide +kernel
theorem dX4_worst_53 : decode cX4_worst 53 = .ok (.invokevirtual 206, 3) := by decide +kernel
theorem dX4_worst_56 : decode cX4_worst 56 = .ok (.pop, 1) := by decide +kernel
theorem dX4_worst_57 : decode cX4_worst 57 = .ok (.aload_n 0, 1) := by decide +kernel
theorem dX4_worst_58 : decode cX4_worst 58 = .ok (.getfield 36, 3) := by decide +kernel
theorem dX4_worst_61 : decode cX4_worst 61 = .ok (.invokevirtual 210, 3) := by decide +kernel
theorem dX4_worst_64 : decode cX4_worst 64 = .ok (.iload_n 1, 1) := by decide +kernel
theorem dX4_worst_65 : decode cX4_worst 65 = .ok (.if_icmp .ge 13, 3) := by decide +kernel
theorem dX4_worst_68 : decode cX4_worst 68 = .ok (.aload_n 0, 1) := by decide +kernel
theorem dX4_worst_69 : decode cX4_worst 69 = .ok (.getfield 36, 3) := by decide +kernel
theorem dX4_worst_72 : decode cX4_worst 72 = .ok (.invokevirtual 210, 3) := by decide +kernel
theorem dX4_worst_75 : decode cX4_worst 75 = .ok (.istore_n 1, 1) := by decide +kernel
theorem dX4_worst_76 : decode cX4_worst 76 = .ok (.iload_n 3, 1) := by decide +kernel
theorem dX4_worst_77 : decode cX4_worst 77 = .ok (.istore_n 2, 1) := by decide +kernel
theorem dX4_worst_78 : decode cX4_worst 78 = .ok (.iinc 3 1, 3) := by decide +kernel
theorem dX4_worst_81 : decode cX4_worst 81 = .ok (.goto (-45), 3) := by decide +kernel
theorem dX4_worst_84 : decode cX4_worst 84 = .ok (.aload_n 0, 1) := by decide +kernel
theorem dX4_worst_85 : decode cX4_worst 85 = .ok (.iload_n 1, 1) := by decide +kernel
theorem dX4_worst_86 : decode cX4_worst 86 = .ok (.putfield 50, 3) := by decide +kernel
theorem dX4_worst_89 : decode cX4_worst 89 = .ok (.iload_n 2, 1) := by decide +kernel
theorem dX4_worst_90 : decode cX4_worst 90 = .ok (.ireturn, 1) := by decide +kernel
theorem dX4_best_0 : decode cX4_best 0 = .ok (.iload_n 1, 1) := by decide +kernel
theorem dX4_best_1 : decode cX4_best 1 = .ok (.iconst 1, 1) := by decide +kernel
theorem dX4_best_2 : decode cX4_best 2 = .ok (.if_icmp .lt 9, 3) := by decide +kernel
theorem dX4_best_5 : decode cX4_best 5 = .ok (.iload_n 1, 1) := by decide +kernel
theorem dX4_best_6 : decode cX4_best 6 = .ok (.bipush 40, 2) := by decide +kernel
theorem dX4_best_8 : decode cX4_best 8 = .ok (.if_icmp .le 5, 3) := by decide +kernel
theorem dX4_best_11 : decode cX4_best 11 = .ok (.iconst (-1), 1) := by decide +kernel
theorem dX4_best_12 : decode cX4_best 12 = .ok (.ireturn, 1) := by decide +kernel
theorem dX4_best_13 : decode cX4_best 13 = .ok (.aload_n 0, 1) := by decide +kernel
theorem dX4_best_14 : decode cX4_best 14 = .ok (.getfield 33, 3) := by decide +kernel
theorem dX4_best_17 : decode cX4_best 17 = .ok (.getfield 125, 3) := by decide +kernel
theorem dX4_best_20 : decode cX4_best 20 = .ok (.ifCond .ne 6, 3) := by decide +kernel
theorem dX4_best_23 : decode cX4_best 23 = .ok (.bipush (-4), 2) := by decide +kernel
theorem dX4_best_25 : decode cX4_best 25 = .ok (.ireturn, 1) := by decide +kernel
theorem dX4_best_26 : decode cX4_best 26 = .ok (.aload_n 0, 1) := by decide +kernel
theorem dX4_best_27 : decode cX4_best 27 = .ok (.getfield 70, 3) := by decide +kernel
theorem dX4_best_30 : decode cX4_best 30 = .ok (.iconst (-1), 1) := by decide +kernel
theorem dX4_best_31 : decode cX4_best 31 = .ok (.invokevirtual 213, 3) := by decide +kernel
theorem dX4_best_34 : decode cX4_best 34 = .ok (.iconst 1, 1) := by decide +kernel
theorem dX4_best_35 : decode cX4_best 35 = .ok (.istore_n 2, 1) := by decide +kernel
theorem dX4_best_36 : decode cX4_best 36 = .ok (.iload_n 2, 1) := by decide +kernel
theorem dX4_best_37 : decode cX4_best 37 = .ok (.bipush 9, 2) := by decide +kernel
theorem dX4_best_39 : decode cX4_best 39 = .ok (.if_icmp .gt 44, 3) := by decide +kernel
theorem dX4_best_42 : decode cX4_best 42 = .ok (.aload_n 0, 1) := by decide +kernel
theorem dX4_best_43 : decode cX4_best 43 = .ok (.getfield 36, 3) := by decide +kernel
theorem dX4_best_46 : decode cX4_best 46 = .ok (.aload_n 0, 1) := by decide +kernel
theorem dX4_best_47 : decode cX4_best 47 = .ok (.getfield 33, 3) := by decide +kernel
theorem dX4_best_50 : decode cX4_best 50 = .ok (.invokevirtual 121, 3) := by decide +kernel
theorem dX4_best_53 : decode cX4_best 53 = .ok (.aload_n 0, 1) := by decide +kernel
theorem dX4_best_54 : decode cX4_best 54 = .ok (.getfield 36, 3) := by decide +kernel
theorem dX4_best_57 : decode cX4_best 57 = .ok (.iload_n 2, 1) := by decide +kernel
theorem dX4_best_58 : decode cX4_best 58 = .ok (.putfield 171, 3) := by decide +kernel
theorem dX4_best_61 : decode cX4_best 61 = .ok (.aload_n 0, 1) := by decide +kernel
theorem dX4_best_62 : decode cX4_best 62 = .ok (.getfield 70, 3) := by decide +kernel
theorem dX4_best_65 : decode cX4_best 65 = .ok (.iload_n 2, 1) := by decide +kernel
theorem dX4_best_66 : decode cX4_best 66 = .ok (.aload_n 0, 1) := by decide +kernel
theorem dX4_best_67 : decode cX4_best 67 = .ok (.getfield 36, 3) := by decide +kernel
theorem dX4_best_70 : decode cX4_best 70 = .ok (.iload_n 1, 1) := by decide +kernel
theorem dX4_best_71 : decode cX4_best 71 = .ok (.invokevirtual 197, 3) := by decide +kernel
theorem dX4_best_74 : decode cX4_best 74 = .ok (.invokevirtual 217, 3) := by decide +kernel
theorem dX4_best_77 : decode cX4_best 77 = .ok (.iinc 2 1, 3) := by decide +kernel
theorem dX4_best_80 : decode cX4_best 80 = .ok (.goto (-44), 3) := by decide +kernel
theorem dX4_best_83 : decode cX4_best 83 = .ok (.aload_n 0, 1) := by decide +kernel
theorem dX4_best_84 : decode cX4_best 84 = .ok (.aload_n 0, 1) := by decide +kernel
theorem dX4_best_85 : decode cX4_best 85 = .ok (.getfield 70, 3) := by decide +kernel
theorem dX4_best_88 : decode cX4_best 88 = .ok (.getfield 221, 3) := by decide +kernel
theorem dX4_best_91 : decode cX4_best 91 = .ok (.putfield 50, 3) := by decide +kernel
theorem dX4_best_94 : decode cX4_best 94 = .ok (.aload_n 0, 1) := by decide +kernel
theorem dX4_best_95 : decode cX4_best 95 = .ok (.getfield 70, 3) := by decide +kernel
theorem dX4_best_98 : decode cX4_best 98 = .ok (.getfield 224, 3) := by decide +kernel
theorem dX4_best_101 : decode cX4_best 101 = .ok (.ireturn, 1) := by decide +kernel
theorem dX4_mend_0 : decode cX4_mend 0 = .ok (.iload_n 1, 1) := by decide +kernel
theorem dX4_mend_1 : decode cX4_mend 1 = .ok (.iconst 1, 1) := by decide +kernel
theorem dX4_mend_2 : decode cX4_mend 2 = .ok (.if_icmp .lt 9, 3) := by decide +kernel
theorem dX4_mend_5 : decode cX4_mend 5 = .ok (.iload_n 1, 1) := by decide +kernel
theorem dX4_mend_6 : decode cX4_mend 6 = .ok (.bipush 40, 2) := by decide +kernel
theorem dX4_mend_8 : decode cX4_mend 8 = .ok (.if_icmp .le 5, 3) := by decide +kernel
theorem dX4_mend_11 : decode cX4_mend 11 = .ok (.iconst (-1), 1) := by decide +kernel
theorem dX4_mend_12 : decode cX4_mend 12 = .ok (.ireturn, 1) := by decide +kernel
theorem dX4_mend_13 : decode cX4_mend 13 = .ok (.aload_n 0, 1) := by decide +kernel
theorem dX4_mend_14 : decode cX4_mend 14 = .ok (.getfield 33, 3) := by decide +kernel
theorem dX4_mend_17 : decode cX4_mend 17 = .ok (.getfield 125, 3) := by decide +kernel
theorem dX4_mend_20 : decode cX4_mend 20 = .ok (.ifCond .ne 6, 3) := by decide +kernel
theorem dX4_mend_23 : decode cX4_mend 23 = .ok (.bipush (-4), 2) := by decide +kernel
theorem dX4_mend_25 : decode cX4_mend 25 = .ok (.ireturn, 1) := by decide +kernel
theorem dX4_mend_26 : decode cX4_mend 26 = .ok (.aload_n 0, 1) := by decide +kernel
theorem dX4_mend_27 : decode cX4_mend 27 = .ok (.getfield 36, 3) := by decide +kernel
theorem dX4_mend_30 : decode cX4_mend 30 = .ok (.aload_n 0, 1) := by decide +kernel
theorem dX4_mend_31 : decode cX4_mend 31 = .ok (.getfield 33, 3) := by decide +kernel
theorem dX4_mend_34 : decode cX4_mend 34 = .ok (.invokevirtual 121, 3) := by decide +kernel
theorem dX4_mend_37 : decode cX4_mend 37 = .ok (.aload_n 0, 1) := by decide +kernel
theorem dX4_mend_38 : decode cX4_mend 38 = .ok (.getfield 70, 3) := by decide +kernel
theorem dX4_mend_41 : decode cX4_mend 41 = .ok (.aload_n 0, 1) := by decide +kernel
theorem dX4_mend_42 : decode cX4_mend 42 = .ok (.getfield 36, 3) := by decide +kernel
theorem dX4_mend_45 : decode cX4_mend 45 = .ok (.iload_n 1, 1) := by decide +kernel
theorem dX4_mend_46 : decode cX4_mend 46 = .ok (.invokevirtual 197, 3) := by decide +kernel
theorem dX4_mend_49 : decode cX4_mend 49 = .ok (.invokevirtual 213, 3) := by decide +kernel
theorem dX4_mend_52 : decode cX4_mend 52 = .ok (.iconst 0, 1) := by decide +kernel
theorem dX4_mend_53 : decode cX4_mend 53 = .ok (.istore_n 2, 1) := by decide +kernel
theorem dX4_mend_54 : decode cX4_mend 54 = .ok (.iload_n 2, 1) := by decide +kernel
theorem dX4_mend_55 : decode cX4_mend 55 = .ok (.bipush 8, 2) := by decide +kernel
theorem dX4_mend_57 : decode cX4_mend 57 = .ok (.if_icmp .ge 51, 3) := by decide +kernel
theorem dX4_mend_60 : decode cX4_mend 60 = .ok (.aload_n 0, 1) := by decide +kernel
theorem dX4_mend_61 : decode cX4_mend 61 = .ok (.getfield 36, 3) := by decide +kernel
theorem dX4_mend_64 : decode cX4_mend 64 = .ok (.aload_n 0, 1) := by decide +kernel
theorem dX4_mend_65 : decode cX4_mend 65 = .ok (.getfield 33, 3) := by decide +kernel
theorem dX4_mend_68 : decode cX4_mend 68 = .ok (.invokevirtual 121, 3) := by decide +kernel
theorem dX4_mend_71 : decode cX4_mend 71 = .ok (.aload_n 0, 1) := by decide +kernel
theorem dX4_mend_72 : decode cX4_mend 72 = .ok (.getfield 36, 3) := by decide +kernel
theorem dX4_mend_75 : decode cX4_mend 75 = .ok (.dup, 1) := by decide +kernel
theorem dX4_mend_76 : decode cX4_mend 76 = .ok (.getfield 160, 3) := by decide +kernel
theorem dX4_mend_79 : decode cX4_mend 79 = .ok (.iconst 1, 1) := by decide +kernel
theorem dX4_mend_80 : decode cX4_mend 80 = .ok (.iload_n 2, 1) := by decide +kernel
theorem dX4_mend_81 : decode cX4_mend 81 = .ok (.ishl, 1) := by decide +kernel
theorem dX4_mend_82 : decode cX4_mend 82 = .ok (.ixor, 1) := by decide +kernel
theorem dX4_mend_83 : decode cX4_mend 83 = .ok (.putfield 160, 3) := by decide +kernel
theorem dX4_mend_86 : decode cX4_mend 86 = .ok (.aload_n 0, 1) := by decide +kernel
theorem dX4_mend_87 : decode cX4_mend 87 = .ok (.getfield 70, 3) := by decide +kernel
theorem dX4_mend_90 : decode cX4_mend 90 = .ok (.iload_n 2, 1) := by decide +kernel
theorem dX4_mend_91 : decode cX4_mend 91 = .ok (.aload_n 0, 1) := by decide +kernel
theorem dX4_mend_92 : decode cX4_mend 92 = .ok (.getfield 36, 3) := by decide +kernel
theorem dX4_mend_95 : decode cX4_mend 95 = .ok (.iload_n 1, 1) := by decide +kernel
theorem dX4_mend_96 : decode cX4_mend 96 = .ok (.invokevirtual 197, 3) := by decide +kernel
theorem dX4_mend_99 : decode cX4_mend 99 = .ok (.invokevirtual 217, 3) := by decide +kernel
theorem dX4_mend_102 : decode cX4_mend 102 = .ok (.iinc 2 1, 3) := by decide +kernel
theorem dX4_mend_105 : decode cX4_mend 105 = .ok (.goto (-51), 3) := by decide +kernel
theorem dX4_mend_108 : decode cX4_mend 108 = .ok (.aload_n 0, 1) := by decide +kernel
theorem dX4_mend_109 : decode cX4_mend 109 = .ok (.getfield 70, 3) := by decide +kernel
theorem dX4_mend_112 : decode cX4_mend 112 = .ok (.getfield 224, 3) := by decide +kernel
theorem dX4_mend_115 : decode cX4_mend 115 = .ok (.bipush (-9), 2) := by decide +kernel
theorem dX4_mend_117 : decode cX4_mend 117 = .ok (.if_icmp .eq 14, 3) := by decide +kernel
theorem dX4_mend_120 : decode cX4_mend 120 = .ok (.aload_n 0, 1) := by decide +kernel
theorem dX4_mend_121 : decode cX4_mend 121 = .ok (.aload_n 0, 1) := by decide +kernel
theorem dX4_mend_122 : decode cX4_mend 122 = .ok (.getfield 70, 3) := by decide +kernel
theorem dX4_mend_125 : decode cX4_mend 125 = .ok (.getfield 221, 3) := by decide +kernel
theorem dX4_mend_128 : decode cX4_mend 128 = .ok (.putfield 50, 3) := by decide +kernel
theorem dX4_mend_131 : decode cX4_mend 131 = .ok (.aload_n 0, 1) := by decide +kernel
theorem dX4_mend_132 : decode cX4_mend 132 = .ok (.getfield 70, 3) := by decide +kernel
theorem dX4_mend_135 : decode cX4_mend 135 = .ok (.getfield 224, 3) := by decide +kernel
theorem dX4_mend_138 : decode cX4_mend 138 = .ok (.ireturn, 1) := by decide +kernel
theorem dX4_tune_0 : decode cX4_tune 0 = .ok (.aload_n 0, 1) := by decide +kernel
theorem dX4_tune_1 : decode cX4_tune 1 = .ok (.iload_n 1, 1) := by decide +kernel
theorem dX4_tune_2 : decode cX4_tune 2 = .ok (.invokevirtual 126, 3) := by decide +kernel
theorem dX4_tune_5 : decode cX4_tune 5 = .ok (.ifCond .eq 14, 3) := by decide +kernel
theorem dX4_tune_8 : decode cX4_tune 8 = .ok (.iload_n 2, 1) := by decide +kernel
theorem dX4_tune_9 : decode cX4_tune 9 = .ok (.iconst 1, 1) := by decide +kernel
theorem dX4_tune_10 : decode cX4_tune 10 = .ok (.if_icmp .lt 9, 3) := by decide +kernel
theorem dX4_tune_13 : decode cX4_tune 13 = .ok (.iload_n 2, 1) := by decide +kernel
theorem dX4_tune_14 : decode cX4_tune 14 = .ok (.bipush 40, 2) := by decide +kernel
theorem dX4_tune_16 : decode cX4_tune 16 = .ok (.if_icmp .le 5, 3) := by decide +kernel
theorem dX4_tune_19 : decode cX4_tune 19 = .ok (.iconst (-1), 1) := by decide +kernel
theorem dX4_tune_20 : decode cX4_tune 20 = .ok (.ireturn, 1) := by decide +kernel
theorem dX4_tune_21 : decode cX4_tune 21 = .ok (.aload_n 0, 1) := by decide +kernel
theorem dX4_tune_22 : decode cX4_tune 22 = .ok (.getfield 70, 3) := by decide +kernel
theorem dX4_tune_25 : decode cX4_tune 25 = .ok (.iconst (-1), 1) := by decide +kernel
theorem dX4_tune_26 : decode cX4_tune 26 = .ok (.invokevirtual 213, 3) := by decide +kernel
theorem dX4_tune_29 : decode cX4_tune 29 = .ok (.iconst 1, 1) := by decide +kernel
theorem dX4_tune_30 : decode cX4_tune 30 = .ok (.istore_n 3, 1) := by decide +kernel
theorem dX4_tune_31 : decode cX4_tune 31 = .ok (.iload_n 3, 1) := by decide +kernel
theorem dX4_tune_32 : decode cX4_tune 32 = .ok (.bipush 9, 2) := by decide +kernel
theorem dX4_tune_34 : decode cX4_tune 34 = .ok (.if_icmp .gt 49, 3) := by decide +kernel
theorem dX4_tune_37 : decode cX4_tune 37 = .ok (.aload_n 0, 1) := by decide +kernel
theorem dX4_tune_38 : decode cX4_tune 38 = .ok (.getfield 36, 3) := by decide +kernel
theorem dX4_tune_41 : decode cX4_tune 41 = .ok (.aload_n 0, 1) := by decide +kernel
theorem dX4_tune_42 : decode cX4_tune 42 = .ok (.getfield 33, 3) := by decide +kernel
theorem dX4_tune_45 : decode cX4_tune 45 = .ok (.invokevirtual 121, 3) := by decide +kernel
theorem dX4_tune_48 : decode cX4_tune 48 = .ok (.aload_n 0, 1) := by decide +kernel
theorem dX4_tune_49 : decode cX4_tune 49 = .ok (.getfield 36, 3) := by decide +kernel
theorem dX4_tune_52 : decode cX4_tune 52 = .ok (.getfield 129, 3) := by decide +kernel
theorem dX4_tune_55 : decode cX4_tune 55 = .ok (.iload_n 1, 1) := by decide +kernel
theorem dX4_tune_56 : decode cX4_tune 56 = .ok (.aaload, 1) := by decide +kernel
theorem dX4_tune_57 : decode cX4_tune 57 = .ok (.iload_n 3, 1) := by decide +kernel
theorem dX4_tune_58 : decode cX4_tune 58 = .ok (.putfield 174, 3) := by decide +kernel
theorem dX4_tune_61 : decode cX4_tune 61 = .ok (.aload_n 0, 1) := by decide +kernel
theorem dX4_tune_62 : decode cX4_tune 62 = .ok (.getfield 70, 3) := by decide +kernel
theorem dX4_tune_65 : decode cX4_tune 65 = .ok (.iload_n 3, 1) := by decide +kernel
theorem dX4_tune_66 : decode cX4_tune 66 = .ok (.aload_n 0, 1) := by decide +kernel
theorem dX4_tune_67 : decode cX4_tune 67 = .ok (.getfield 36, 3) := by decide +kernel
theorem dX4_tune_70 : decode cX4_tune 70 = .ok (.iload_n 2, 1) := by decide +kernel
theorem dX4_tune_71 : decode cX4_tune 71 = .ok (.invokevirtual 197, 3) := by decide +kernel
theorem dX4_tune_74 : decode cX4_tune 74 = .ok (.invokevirtual 217, 3) := by decide +kernel
theorem dX4_tune_77 : decode cX4_tune 77 = .ok (.iinc 3 1, 3) := by decide +kernel
theorem dX4_tune_80 : decode cX4_tune 80 = .ok (.goto (-49), 3) := by decide +kernel
theorem dX4_tune_83 : decode cX4_tune 83 = .ok (.aload_n 0, 1) := by decide +kernel
theorem dX4_tune_84 : decode cX4_tune 84 = .ok (.aload_n 0, 1) := by decide +kernel
theorem dX4_tune_85 : decode cX4_tune 85 = .ok (.getfield 70, 3) := by decide +kernel
theorem dX4_tune_88 : decode cX4_tune 88 = .ok (.getfield 221, 3) := by decide +kernel
theorem dX4_tune_91 : decode cX4_tune 91 = .ok (.putfield 50, 3) := by decide +kernel
theorem dX4_tune_94 : decode cX4_tune 94 = .ok (.aload_n 0, 1) := by decide +kernel
theorem dX4_tune_95 : decode cX4_tune 95 = .ok (.getfield 70, 3) := by decide +kernel
theorem dX4_tune_98 : decode cX4_tune 98 = .ok (.getfield 224, 3) := by decide +kernel
theorem dX4_tune_101 : decode cX4_tune 101 = .ok (.ireturn, 1) := by decide +kernel
theorem dX4_hush_0 : decode cX4_hush 0 = .ok (.iload_n 1, 1) := by decide +kernel
theorem dX4_hush_1 : decode cX4_hush 1 = .ok (.iconst 1, 1) := by decide +kernel
theorem dX4_hush_2 : decode cX4_hush 2 = .ok (.if_icmp .lt 9, 3) := by decide +kernel
theorem dX4_hush_5 : decode cX4_hush 5 = .ok (.iload_n 1, 1) := by decide +kernel
theorem dX4_hush_6 : decode cX4_hush 6 = .ok (.bipush 20, 2) := by decide +kernel
theorem dX4_hush_8 : decode cX4_hush 8 = .ok (.if_icmp .le 5, 3) := by decide +kernel
theorem dX4_hush_11 : decode cX4_hush 11 = .ok (.iconst (-1), 1) := by decide +kernel
theorem dX4_hush_12 : decode cX4_hush 12 = .ok (.ireturn, 1) := by decide +kernel
theorem dX4_hush_13 : decode cX4_hush 13 = .ok (.aload_n 0, 1) := by decide +kernel
theorem dX4_hush_14 : decode cX4_hush 14 = .ok (.getfield 33, 3) := by decide +kernel
theorem dX4_hush_17 : decode cX4_hush 17 = .ok (.getfield 125, 3) := by decide +kernel
theorem dX4_hush_20 : decode cX4_hush 20 = .ok (.ifCond .ne 6, 3) := by decide +kernel
theorem dX4_hush_23 : decode cX4_hush 23 = .ok (.bipush (-4), 2) := by decide +kernel
theorem dX4_hush_25 : decode cX4_hush 25 = .ok (.ireturn, 1) := by decide +kernel
theorem dX4_hush_26 : decode cX4_hush 26 = .ok (.aload_n 0, 1) := by decide +kernel
theorem dX4_hush_27 : decode cX4_hush 27 = .ok (.getfield 70, 3) := by decide +kernel
theorem dX4_hush_30 : decode cX4_hush 30 = .ok (.iconst (-1), 1) := by decide +kernel
theorem dX4_hush_31 : decode cX4_hush 31 = .ok (.invokevirtual 213, 3) := by decide +kernel
theorem dX4_hush_34 : decode cX4_hush 34 = .ok (.iconst 0, 1) := by decide +kernel
theorem dX4_hush_35 : decode cX4_hush 35 = .ok (.istore_n 2, 1) := by decide +kernel
theorem dX4_hush_36 : decode cX4_hush 36 = .ok (.iload_n 2, 1) := by decide +kernel
theorem dX4_hush_37 : decode cX4_hush 37 = .ok (.aload_n 0, 1) := by decide +kernel
theorem dX4_hush_38 : decode cX4_hush 38 = .ok (.getfield 33, 3) := by decide +kernel
theorem dX4_hush_41 : decode cX4_hush 41 = .ok (.getfield 125, 3) := by decide +kernel
theorem dX4_hush_44 : decode cX4_hush 44 = .ok (.if_icmp .gt 15, 3) := by decide +kernel
theorem dX4_hush_47 : decode cX4_hush 47 = .ok (.aload_n 0, 1) := by decide +kernel
theorem dX4_hush_48 : decode cX4_hush 48 = .ok (.iload_n 2, 1) := by decide +kernel
theorem dX4_hush_49 : decode cX4_hush 49 = .ok (.iload_n 1, 1) := by decide +kernel
theorem dX4_hush_50 : decode cX4_hush 50 = .ok (.invokevirtual 227, 3) := by decide +kernel
theorem dX4_hush_53 : decode cX4_hush 53 = .ok (.iinc 2 1, 3) := by decide +kernel
theorem dX4_hush_56 : decode cX4_hush 56 = .ok (.goto (-20), 3) := by decide +kernel
theorem dX4_hush_59 : decode cX4_hush 59 = .ok (.aload_n 0, 1) := by decide +kernel
theorem dX4_hush_60 : decode cX4_hush 60 = .ok (.aload_n 0, 1) := by decide +kernel
theorem dX4_hush_61 : decode cX4_hush 61 = .ok (.getfield 70, 3) := by decide +kernel
theorem dX4_hush_64 : decode cX4_hush 64 = .ok (.getfield 221, 3) := by decide +kernel
theorem dX4_hush_67 : decode cX4_hush 67 = .ok (.putfield 50, 3) := by decide +kernel
theorem dX4_hush_70 : decode cX4_hush 70 = .ok (.aload_n 0, 1) := by decide +kernel
theorem dX4_hush_71 : decode cX4_hush 71 = .ok (.getfield 70, 3) := by decide +kernel
theorem dX4_hush_74 : decode cX4_hush 74 = .ok (.getfield 224, 3) := by decide +kernel
theorem dX4_hush_77 : decode cX4_hush 77 = .ok (.ireturn, 1) := by decide +kernel
theorem dX4_patterns_0 : decode cX4_patterns 0 = .ok (.iload_n 1, 1) := by decide +kernel
theorem dX4_patterns_1 : decode cX4_patterns 1 = .ok (.invokestatic 89, 3) := by decide +kernel
theorem dX4_patterns_4 : decode cX4_patterns 4 = .ok (.ifCond .ne 5, 3) := by decide +kernel
theorem dX4_patterns_7 : decode cX4_patterns 7 = .ok (.iconst (-1), 1) := by decide +kernel
theorem dX4_patterns_8 : decode cX4_patterns 8 = .ok (.ireturn, 1) := by decide +kernel
theorem dX4_patterns_9 : decode cX4_patterns 9 = .ok (.aload_n 0, 1) := by decide +kernel
theorem dX4_patterns_10 : decode cX4_patterns 10 = .ok (.getfield 33, 3) := by decide +kernel
theorem dX4_patterns_13 : decode cX4_patterns 13 = .ok (.getfield 125, 3) := by decide +kernel
theorem dX4_patterns_16 : decode cX4_patterns 16 = .ok (.ifCond .ne 6, 3) := by decide +kernel
theorem dX4_patterns_19 : decode cX4_patterns 19 = .ok (.bipush (-4), 2) := by decide +kernel
theorem dX4_patterns_21 : decode cX4_patterns 21 = .ok (.ireturn, 1) := by decide +kernel
theorem dX4_patterns_22 : decode cX4_patterns 22 = .ok (.aload_n 0, 1) := by decide +kernel
theorem dX4_patterns_23 : decode cX4_patterns 23 = .ok (.iload_n 1, 1) := by decide +kernel
theorem dX4_patterns_24 : decode cX4_patterns 24 = .ok (.invokevirtual 230, 3) := by decide +kernel
theorem dX4_patterns_27 : decode cX4_patterns 27 = .ok (.istore_n 2, 1) := by decide +kernel
theorem dX4_patterns_28 : decode cX4_patterns 28 = .ok (.iload_n 2, 1) := by decide +kernel
theorem dX4_patterns_29 : decode cX4_patterns 29 = .ok (.ifCond .eq 9, 3) := by decide +kernel
theorem dX4_patterns_32 : decode cX4_patterns 32 = .ok (.aload_n 0, 1) := by decide +kernel
theorem dX4_patterns_33 : decode cX4_patterns 33 = .ok (.iload_n 2, 1) := by decide +kernel
theorem dX4_patterns_34 : decode cX4_patterns 34 = .ok (.invokevirtual 93, 3) := by decide +kernel
theorem dX4_patterns_37 : decode cX4_patterns 37 = .ok (.ireturn, 1) := by decide +kernel
theorem dX4_patterns_38 : decode cX4_patterns 38 = .ok (.iconst 0, 1) := by decide +kernel
theorem dX4_patterns_39 : decode cX4_patterns 39 = .ok (.istore_n 3, 1) := by decide +kernel
theorem dX4_patterns_40 : decode cX4_patterns 40 = .ok (.iconst 0, 1) := by decide +kernel
theorem dX4_patterns_41 : decode cX4_patterns 41 = .ok (.istore 4, 2) := by decide +kernel
theorem dX4_patterns_43 : decode cX4_patterns 43 = .ok (.sipush 255, 3) := by decide +kernel
theorem dX4_patterns_46 : decode cX4_patterns 46 = .ok (.istore 5, 2) := by decide +kernel
theorem dX4_patterns_48 : decode cX4_patterns 48 = .ok (.iload 5, 2) := by decide +kernel
theorem dX4_patterns_50 : decode cX4_patterns 50 = .ok (.ifCond .lt 44, 3) := by decide +kernel
theorem dX4_patterns_53 : decode cX4_patterns 53 = .ok (.aload_n 0, 1) := by decide +kernel
theorem dX4_patterns_54 : decode cX4_patterns 54 = .ok (.getfield 36, 3) := by decide +kernel
theorem dX4_patterns_57 : decode cX4_patterns 57 = .ok (.aload_n 0, 1) := by decide +kernel
theorem dX4_patterns_58 : decode cX4_patterns 58 = .ok (.getfield 33, 3) := by decide +kernel
theorem dX4_patterns_61 : decode cX4_patterns 61 = .ok (.invokevirtual 121, 3) := by decide +kernel
theorem dX4_patterns_64 : decode cX4_patterns 64 = .ok (.aload_n 0, 1) := by decide +kernel
theorem dX4_patterns_65 : decode cX4_patterns 65 = .ok (.getfield 36, 3) := by decide +kernel
theorem dX4_patterns_68 : decode cX4_patterns 68 = .ok (.iload 5, 2) := by decide +kernel
theorem dX4_patterns_70 : decode cX4_patterns 70 = .ok (.putfield 160, 3) := by decide +kernel
theorem dX4_patterns_73 : decode cX4_patterns 73 = .ok (.aload_n 0, 1) := by decide +kernel
theorem dX4_patterns_74 : decode cX4_patterns 74 = .ok (.iload_n 1, 1) := by decide +kernel
theorem dX4_patterns_75 : decode cX4_patterns 75 = .ok (.invokevirtual 233, 3) := by decide +kernel
theorem dX4_patterns_78 : decode cX4_patterns 78 = .ok (.ifCond .eq 10, 3) := by decide +kernel
theorem dX4_patterns_81 : decode cX4_patterns 81 = .ok (.iinc 3 1, 3) := by decide +kernel
theorem dX4_patterns_84 : decode cX4_patterns 84 = .ok (.iload 5, 2) := by decide +kernel
end
section
theorem dX4_patterns_86 : decode cX4_patterns 86 = .ok (.istore 4, 2) := by decide +kernel
theorem dX4_patterns_88 : decode cX4_patterns 88 = .ok (.iinc 5 (-1), 3) := by decide +kernel
theorem dX4_patterns_91 : decode cX4_patterns 91 = .ok (.goto (-43), 3) := by decide +kernel
theorem dX4_patterns_94 : decode cX4_patterns 94 = .ok (.iload_n 3, 1) := by decide +kernel
theorem dX4_patterns_95 : decode cX4_patterns 95 = .ok (.ifCond .ne 6, 3) := by decide +kernel
theorem dX4_patterns_98 : decode cX4_patterns 98 = .ok (.bipush (-9), 2) := by decide +kernel
theorem dX4_patterns_100 : decode cX4_patterns 100 = .ok (.ireturn, 1) := by decide +kernel
theorem dX4_patterns_101 : decode cX4_patterns 101 = .ok (.aload_n 0, 1) := by decide +kernel
theorem dX4_patterns_102 : decode cX4_patterns 102 = .ok (.iload 4, 2) := by decide +kernel
theorem dX4_patterns_104 : decode cX4_patterns 104 = .ok (.putfield 50, 3) := by decide +kernel
theorem dX4_patterns_107 : decode cX4_patterns 107 = .ok (.iload_n 3, 1) := by decide +kernel
theorem dX4_patterns_108 : decode cX4_patterns 108 = .ok (.ireturn, 1) := by decide +kernel
theorem dX4_kinds_0 : decode cX4_kinds 0 = .ok (.aload_n 0, 1) := by decide +kernel
theorem dX4_kinds_1 : decode cX4_kinds 1 = .ok (.iload_n 1, 1) := by decide +kernel
theorem dX4_kinds_2 : decode cX4_kinds 2 = .ok (.invokevirtual 126, 3) := by decide +kernel
theorem dX4_kinds_5 : decode cX4_kinds 5 = .ok (.ifCond .eq 10, 3) := by decide +kernel
theorem dX4_kinds_8 : decode cX4_kinds 8 = .ok (.iload_n 2, 1) := by decide +kernel
theorem dX4_kinds_9 : decode cX4_kinds 9 = .ok (.invokestatic 89, 3) := by decide +kernel
theorem dX4_kinds_12 : decode cX4_kinds 12 = .ok (.ifCond .ne 5, 3) := by decide +kernel
theorem dX4_kinds_15 : decode cX4_kinds 15 = .ok (.iconst (-1), 1) := by decide +kernel
theorem dX4_kinds_16 : decode cX4_kinds 16 = .ok (.ireturn, 1) := by decide +kernel
theorem dX4_kinds_17 : decode cX4_kinds 17 = .ok (.aload_n 0, 1) := by decide +kernel
theorem dX4_kinds_18 : decode cX4_kinds 18 = .ok (.iload_n 2, 1) := by decide +kernel
theorem dX4_kinds_19 : decode cX4_kinds 19 = .ok (.invokevirtual 230, 3) := by decide +kernel
theorem dX4_kinds_22 : decode cX4_kinds 22 = .ok (.istore_n 3, 1) := by decide +kernel
theorem dX4_kinds_23 : decode cX4_kinds 23 = .ok (.iload_n 3, 1) := by decide +kernel
theorem dX4_kinds_24 : decode cX4_kinds 24 = .ok (.ifCond .eq 9, 3) := by decide +kernel
theorem dX4_kinds_27 : decode cX4_kinds 27 = .ok (.aload_n 0, 1) := by decide +kernel
theorem dX4_kinds_28 : decode cX4_kinds 28 = .ok (.iload_n 3, 1) := by decide +kernel
theorem dX4_kinds_29 : decode cX4_kinds 29 = .ok (.invokevirtual 93, 3) := by decide +kernel
theorem dX4_kinds_32 : decode cX4_kinds 32 = .ok (.ireturn, 1) := by decide +kernel
theorem dX4_kinds_33 : decode cX4_kinds 33 = .ok (.aload_n 0, 1) := by decide +kernel
theorem dX4_kinds_34 : decode cX4_kinds 34 = .ok (.iload_n 1, 1) := by decide +kernel
theorem dX4_kinds_35 : decode cX4_kinds 35 = .ok (.iload_n 2, 1) := by decide +kernel
theorem dX4_kinds_36 : decode cX4_kinds 36 = .ok (.invokevirtual 236, 3) := by decide +kernel
theorem dX4_kinds_39 : decode cX4_kinds 39 = .ok (.ireturn, 1) := by decide +kernel
theorem dX4_test_0 : decode cX4_test 0 = .ok (.aload_n 0, 1) := by decide +kernel
theorem dX4_test_1 : decode cX4_test 1 = .ok (.iload_n 1, 1) := by decide +kernel
theorem dX4_test_2 : decode cX4_test 2 = .ok (.invokevirtual 126, 3) := by decide +kernel
theorem dX4_test_5 : decode cX4_test 5 = .ok (.ifCond .eq 10, 3) := by decide +kernel
theorem dX4_test_8 : decode cX4_test 8 = .ok (.iload_n 2, 1) := by decide +kernel
theorem dX4_test_9 : decode cX4_test 9 = .ok (.invokestatic 89, 3) := by decide +kernel
theorem dX4_test_12 : decode cX4_test 12 = .ok (.ifCond .ne 5, 3) := by decide +kernel
theorem dX4_test_15 : decode cX4_test 15 = .ok (.iconst (-1), 1) := by decide +kernel
theorem dX4_test_16 : decode cX4_test 16 = .ok (.ireturn, 1) := by decide +kernel
theorem dX4_test_17 : decode cX4_test 17 = .ok (.aload_n 0, 1) := by decide +kernel
theorem dX4_test_18 : decode cX4_test 18 = .ok (.iload_n 2, 1) := by decide +kernel
theorem dX4_test_19 : decode cX4_test 19 = .ok (.invokevirtual 230, 3) := by decide +kernel
theorem dX4_test_22 : decode cX4_test 22 = .ok (.istore_n 3, 1) := by decide +kernel
theorem dX4_test_23 : decode cX4_test 23 = .ok (.iload_n 3, 1) := by decide +kernel
theorem dX4_test_24 : decode cX4_test 24 = .ok (.ifCond .eq 9, 3) := by decide +kernel
theorem dX4_test_27 : decode cX4_test 27 = .ok (.aload_n 0, 1) := by decide +kernel
theorem dX4_test_28 : decode cX4_test 28 = .ok (.iload_n 3, 1) := by decide +kernel
theorem dX4_test_29 : decode cX4_test 29 = .ok (.invokevirtual 93, 3) := by decide +kernel
theorem dX4_test_32 : decode cX4_test 32 = .ok (.ireturn, 1) := by decide +kernel
theorem dX4_test_33 : decode cX4_test 33 = .ok (.aload_n 0, 1) := by decide +kernel
theorem dX4_test_34 : decode cX4_test 34 = .ok (.iload_n 1, 1) := by decide +kernel
theorem dX4_test_35 : decode cX4_test 35 = .ok (.iload_n 2, 1) := by decide +kernel
theorem dX4_test_36 : decode cX4_test 36 = .ok (.invokevirtual 236, 3) := by decide +kernel
theorem dX4_test_39 : decode cX4_test 39 = .ok (.istore 4, 2) := by decide +kernel
theorem dX4_test_41 : decode cX4_test 41 = .ok (.iload 4, 2) := by decide +kernel
theorem dX4_test_43 : decode cX4_test 43 = .ok (.ifCond .ne 6, 3) := by decide +kernel
theorem dX4_test_46 : decode cX4_test 46 = .ok (.bipush (-9), 2) := by decide +kernel
theorem dX4_test_48 : decode cX4_test 48 = .ok (.ireturn, 1) := by decide +kernel
theorem dX4_test_49 : decode cX4_test 49 = .ok (.aload_n 0, 1) := by decide +kernel
theorem dX4_test_50 : decode cX4_test 50 = .ok (.iload_n 1, 1) := by decide +kernel
theorem dX4_test_51 : decode cX4_test 51 = .ok (.iload 4, 2) := by decide +kernel
theorem dX4_test_53 : decode cX4_test 53 = .ok (.invokevirtual 239, 3) := by decide +kernel
theorem dX4_test_56 : decode cX4_test 56 = .ok (.bipush 7, 2) := by decide +kernel
theorem dX4_test_58 : decode cX4_test 58 = .ok (.istore 5, 2) := by decide +kernel
theorem dX4_test_60 : decode cX4_test 60 = .ok (.bipush (-9), 2) := by decide +kernel
theorem dX4_test_62 : decode cX4_test 62 = .ok (.istore 6, 2) := by decide +kernel
theorem dX4_test_64 : decode cX4_test 64 = .ok (.iconst 1, 1) := by decide +kernel
theorem dX4_test_65 : decode cX4_test 65 = .ok (.istore 7, 2) := by decide +kernel
theorem dX4_test_67 : decode cX4_test 67 = .ok (.iload 7, 2) := by decide +kernel
theorem dX4_test_69 : decode cX4_test 69 = .ok (.bipush 20, 2) := by decide +kernel
theorem dX4_test_71 : decode cX4_test 71 = .ok (.if_icmp .gt 32, 3) := by decide +kernel
theorem dX4_test_74 : decode cX4_test 74 = .ok (.aload_n 0, 1) := by decide +kernel
theorem dX4_test_75 : decode cX4_test 75 = .ok (.iload 7, 2) := by decide +kernel
theorem dX4_test_77 : decode cX4_test 77 = .ok (.invokevirtual 242, 3) := by decide +kernel
theorem dX4_test_80 : decode cX4_test 80 = .ok (.istore 8, 2) := by decide +kernel
theorem dX4_test_82 : decode cX4_test 82 = .ok (.iload 8, 2) := by decide +kernel
theorem dX4_test_84 : decode cX4_test 84 = .ok (.iload 5, 2) := by decide +kernel
theorem dX4_test_86 : decode cX4_test 86 = .ok (.if_icmp .ge 11, 3) := by decide +kernel
theorem dX4_test_89 : decode cX4_test 89 = .ok (.iload 8, 2) := by decide +kernel
theorem dX4_test_91 : decode cX4_test 91 = .ok (.istore 5, 2) := by decide +kernel
theorem dX4_test_93 : decode cX4_test 93 = .ok (.iload 7, 2) := by decide +kernel
theorem dX4_test_95 : decode cX4_test 95 = .ok (.istore 6, 2) := by decide +kernel
theorem dX4_test_97 : decode cX4_test 97 = .ok (.iinc 7 1, 3) := by decide +kernel
theorem dX4_test_100 : decode cX4_test 100 = .ok (.goto (-33), 3) := by decide +kernel
theorem dX4_test_103 : decode cX4_test 103 = .ok (.aload_n 0, 1) := by decide +kernel
theorem dX4_test_104 : decode cX4_test 104 = .ok (.iload 5, 2) := by decide +kernel
theorem dX4_test_106 : decode cX4_test 106 = .ok (.putfield 50, 3) := by decide +kernel
theorem dX4_test_109 : decode cX4_test 109 = .ok (.iload 6, 2) := by decide +kernel
theorem dX4_test_111 : decode cX4_test 111 = .ok (.ireturn, 1) := by decide +kernel
theorem dX4_duel_0 : decode cX4_duel 0 = .ok (.iload_n 1, 1) := by decide +kernel
theorem dX4_duel_1 : decode cX4_duel 1 = .ok (.ifCond .lt 8, 3) := by decide +kernel
theorem dX4_duel_4 : decode cX4_duel 4 = .ok (.iload_n 1, 1) := by decide +kernel
theorem dX4_duel_5 : decode cX4_duel 5 = .ok (.iconst 4, 1) := by decide +kernel
theorem dX4_duel_6 : decode cX4_duel 6 = .ok (.if_icmp .le 5, 3) := by decide +kernel
theorem dX4_duel_9 : decode cX4_duel 9 = .ok (.iconst (-1), 1) := by decide +kernel
theorem dX4_duel_10 : decode cX4_duel 10 = .ok (.ireturn, 1) := by decide +kernel
theorem dX4_duel_11 : decode cX4_duel 11 = .ok (.aload_n 0, 1) := by decide +kernel
theorem dX4_duel_12 : decode cX4_duel 12 = .ok (.getfield 33, 3) := by decide +kernel
theorem dX4_duel_15 : decode cX4_duel 15 = .ok (.getfield 125, 3) := by decide +kernel
theorem dX4_duel_18 : decode cX4_duel 18 = .ok (.ifCond .ne 6, 3) := by decide +kernel
theorem dX4_duel_21 : decode cX4_duel 21 = .ok (.bipush (-4), 2) := by decide +kernel
theorem dX4_duel_23 : decode cX4_duel 23 = .ok (.ireturn, 1) := by decide +kernel
theorem dX4_duel_24 : decode cX4_duel 24 = .ok (.aload_n 0, 1) := by decide +kernel
theorem dX4_duel_25 : decode cX4_duel 25 = .ok (.getfield 74, 3) := by decide +kernel
theorem dX4_duel_28 : decode cX4_duel 28 = .ok (.iconst (-1), 1) := by decide +kernel
theorem dX4_duel_29 : decode cX4_duel 29 = .ok (.invokestatic 80, 3) := by decide +kernel
theorem dX4_duel_32 : decode cX4_duel 32 = .ok (.aload_n 0, 1) := by decide +kernel
theorem dX4_duel_33 : decode cX4_duel 33 = .ok (.aload_n 0, 1) := by decide +kernel
theorem dX4_duel_34 : decode cX4_duel 34 = .ok (.getfield 33, 3) := by decide +kernel
theorem dX4_duel_37 : decode cX4_duel 37 = .ok (.getfield 160, 3) := by decide +kernel
theorem dX4_duel_40 : decode cX4_duel 40 = .ok (.iload_n 1, 1) := by decide +kernel
theorem dX4_duel_41 : decode cX4_duel 41 = .ok (.iconst 1, 1) := by decide +kernel
theorem dX4_duel_42 : decode cX4_duel 42 = .ok (.invokevirtual 245, 3) := by decide +kernel
theorem dX4_duel_45 : decode cX4_duel 45 = .ok (.ireturn, 1) := by decide +kernel
theorem dX4_odds_0 : decode cX4_odds 0 = .ok (.iload_n 1, 1) := by decide +kernel
theorem dX4_odds_1 : decode cX4_odds 1 = .ok (.ifCond .lt 16, 3) := by decide +kernel
theorem dX4_odds_4 : decode cX4_odds 4 = .ok (.iload_n 1, 1) := by decide +kernel
theorem dX4_odds_5 : decode cX4_odds 5 = .ok (.bipush 42, 2) := by decide +kernel
theorem dX4_odds_7 : decode cX4_odds 7 = .ok (.if_icmp .gt 10, 3) := by decide +kernel
theorem dX4_odds_10 : decode cX4_odds 10 = .ok (.iload_n 2, 1) := by decide +kernel
theorem dX4_odds_11 : decode cX4_odds 11 = .ok (.invokestatic 249, 3) := by decide +kernel
theorem dX4_odds_14 : decode cX4_odds 14 = .ok (.ifCond .ne 5, 3) := by decide +kernel
theorem dX4_odds_17 : decode cX4_odds 17 = .ok (.iconst (-1), 1) := by decide +kernel
theorem dX4_odds_18 : decode cX4_odds 18 = .ok (.ireturn, 1) := by decide +kernel
theorem dX4_odds_19 : decode cX4_odds 19 = .ok (.aload_n 0, 1) := by decide +kernel
theorem dX4_odds_20 : decode cX4_odds 20 = .ok (.getfield 33, 3) := by decide +kernel
theorem dX4_odds_23 : decode cX4_odds 23 = .ok (.getfield 125, 3) := by decide +kernel
theorem dX4_odds_26 : decode cX4_odds 26 = .ok (.ifCond .ne 6, 3) := by decide +kernel
theorem dX4_odds_29 : decode cX4_odds 29 = .ok (.bipush (-4), 2) := by decide +kernel
theorem dX4_odds_31 : decode cX4_odds 31 = .ok (.ireturn, 1) := by decide +kernel
theorem dX4_odds_32 : decode cX4_odds 32 = .ok (.lconst 0, 1) := by decide +kernel
theorem dX4_odds_33 : decode cX4_odds 33 = .ok (.lstore_n 3, 1) := by decide +kernel
theorem dX4_odds_34 : decode cX4_odds 34 = .ok (.iconst 0, 1) := by decide +kernel
theorem dX4_odds_35 : decode cX4_odds 35 = .ok (.istore 5, 2) := by decide +kernel
theorem dX4_odds_37 : decode cX4_odds 37 = .ok (.iload 5, 2) := by decide +kernel
theorem dX4_odds_39 : decode cX4_odds 39 = .ok (.bipush 64, 2) := by decide +kernel
theorem dX4_odds_41 : decode cX4_odds 41 = .ok (.if_icmp .ge 28, 3) := by decide +kernel
theorem dX4_odds_44 : decode cX4_odds 44 = .ok (.aload_n 0, 1) := by decide +kernel
theorem dX4_odds_45 : decode cX4_odds 45 = .ok (.iload 5, 2) := by decide +kernel
theorem dX4_odds_47 : decode cX4_odds 47 = .ok (.invokevirtual 252, 3) := by decide +kernel
theorem dX4_odds_50 : decode cX4_odds 50 = .ok (.iload_n 1, 1) := by decide +kernel
theorem dX4_odds_51 : decode cX4_odds 51 = .ok (.if_icmp .lt 12, 3) := by decide +kernel
theorem dX4_odds_54 : decode cX4_odds 54 = .ok (.lload_n 3, 1) := by decide +kernel
theorem dX4_odds_55 : decode cX4_odds 55 = .ok (.iload 5, 2) := by decide +kernel
theorem dX4_odds_57 : decode cX4_odds 57 = .ok (.iload_n 2, 1) := by decide +kernel
theorem dX4_odds_58 : decode cX4_odds 58 = .ok (.invokestatic 255, 3) := by decide +kernel
theorem dX4_odds_61 : decode cX4_odds 61 = .ok (.ladd, 1) := by decide +kernel
theorem dX4_odds_62 : decode cX4_odds 62 = .ok (.lstore_n 3, 1) := by decide +kernel
theorem dX4_odds_63 : decode cX4_odds 63 = .ok (.iinc 5 1, 3) := by decide +kernel
theorem dX4_odds_66 : decode cX4_odds 66 = .ok (.goto (-29), 3) := by decide +kernel
theorem dX4_odds_69 : decode cX4_odds 69 = .ok (.aload_n 0, 1) := by decide +kernel
theorem dX4_odds_70 : decode cX4_odds 70 = .ok (.lload_n 3, 1) := by decide +kernel
theorem dX4_odds_71 : decode cX4_odds 71 = .ok (.invokevirtual 259, 3) := by decide +kernel
theorem dX4_odds_74 : decode cX4_odds 74 = .ok (.iconst 1, 1) := by decide +kernel
theorem dX4_odds_75 : decode cX4_odds 75 = .ok (.ireturn, 1) := by decide +kernel
theorem dX4_mid_0 : decode cX4_mid 0 = .ok (.iload_n 1, 1) := by decide +kernel
theorem dX4_mid_1 : decode cX4_mid 1 = .ok (.invokestatic 249, 3) := by decide +kernel
theorem dX4_mid_4 : decode cX4_mid 4 = .ok (.ifCond .ne 5, 3) := by decide +kernel
theorem dX4_mid_7 : decode cX4_mid 7 = .ok (.iconst (-1), 1) := by decide +kernel
theorem dX4_mid_8 : decode cX4_mid 8 = .ok (.ireturn, 1) := by decide +kernel
theorem dX4_mid_9 : decode cX4_mid 9 = .ok (.aload_n 0, 1) := by decide +kernel
theorem dX4_mid_10 : decode cX4_mid 10 = .ok (.getfield 33, 3) := by decide +kernel
theorem dX4_mid_13 : decode cX4_mid 13 = .ok (.getfield 125, 3) := by decide +kernel
theorem dX4_mid_16 : decode cX4_mid 16 = .ok (.ifCond .ne 6, 3) := by decide +kernel
theorem dX4_mid_19 : decode cX4_mid 19 = .ok (.bipush (-4), 2) := by decide +kernel
theorem dX4_mid_21 : decode cX4_mid 21 = .ok (.ireturn, 1) := by decide +kernel
theorem dX4_mid_22 : decode cX4_mid 22 = .ok (.lconst 0, 1) := by decide +kernel
theorem dX4_mid_23 : decode cX4_mid 23 = .ok (.lstore_n 2, 1) := by decide +kernel
theorem dX4_mid_24 : decode cX4_mid 24 = .ok (.iconst 0, 1) := by decide +kernel
theorem dX4_mid_25 : decode cX4_mid 25 = .ok (.istore 4, 2) := by decide +kernel
theorem dX4_mid_27 : decode cX4_mid 27 = .ok (.iload 4, 2) := by decide +kernel
theorem dX4_mid_29 : decode cX4_mid 29 = .ok (.bipush 64, 2) := by decide +kernel
theorem dX4_mid_31 : decode cX4_mid 31 = .ok (.if_icmp .ge 26, 3) := by decide +kernel
theorem dX4_mid_34 : decode cX4_mid 34 = .ok (.lload_n 2, 1) := by decide +kernel
theorem dX4_mid_35 : decode cX4_mid 35 = .ok (.aload_n 0, 1) := by decide +kernel
theorem dX4_mid_36 : decode cX4_mid 36 = .ok (.iload 4, 2) := by decide +kernel
theorem dX4_mid_38 : decode cX4_mid 38 = .ok (.invokevirtual 252, 3) := by decide +kernel
theorem dX4_mid_41 : decode cX4_mid 41 = .ok (.i2l, 1) := by decide +kernel
theorem dX4_mid_42 : decode cX4_mid 42 = .ok (.iload 4, 2) := by decide +kernel
theorem dX4_mid_44 : decode cX4_mid 44 = .ok (.iload_n 1, 1) := by decide +kernel
theorem dX4_mid_45 : decode cX4_mid 45 = .ok (.invokestatic 255, 3) := by decide +kernel
theorem dX4_mid_48 : decode cX4_mid 48 = .ok (.lmul, 1) := by decide +kernel
theorem dX4_mid_49 : decode cX4_mid 49 = .ok (.ladd, 1) := by decide +kernel
theorem dX4_mid_50 : decode cX4_mid 50 = .ok (.lstore_n 2, 1) := by decide +kernel
theorem dX4_mid_51 : decode cX4_mid 51 = .ok (.iinc 4 1, 3) := by decide +kernel
theorem dX4_mid_54 : decode cX4_mid 54 = .ok (.goto (-27), 3) := by decide +kernel
theorem dX4_mid_57 : decode cX4_mid 57 = .ok (.aload_n 0, 1) := by decide +kernel
theorem dX4_mid_58 : decode cX4_mid 58 = .ok (.lload_n 2, 1) := by decide +kernel
theorem dX4_mid_59 : decode cX4_mid 59 = .ok (.invokevirtual 259, 3) := by decide +kernel
theorem dX4_mid_62 : decode cX4_mid 62 = .ok (.iconst 1, 1) := by decide +kernel
theorem dX4_mid_63 : decode cX4_mid 63 = .ok (.ireturn, 1) := by decide +kernel
theorem dX4_lots_0 : decode cX4_lots 0 = .ok (.iload_n 1, 1) := by decide +kernel
theorem dX4_lots_1 : decode cX4_lots 1 = .ok (.iconst 1, 1) := by decide +kernel
theorem dX4_lots_2 : decode cX4_lots 2 = .ok (.if_icmp .lt 23, 3) := by decide +kernel
theorem dX4_lots_5 : decode cX4_lots 5 = .ok (.iload_n 1, 1) := by decide +kernel
theorem dX4_lots_6 : decode cX4_lots 6 = .ok (.bipush 20, 2) := by decide +kernel
theorem dX4_lots_8 : decode cX4_lots 8 = .ok (.if_icmp .gt 17, 3) := by decide +kernel
theorem dX4_lots_11 : decode cX4_lots 11 = .ok (.iload_n 2, 1) := by decide +kernel
theorem dX4_lots_12 : decode cX4_lots 12 = .ok (.iconst 1, 1) := by decide +kernel
theorem dX4_lots_13 : decode cX4_lots 13 = .ok (.if_icmp .lt 12, 3) := by decide +kernel
theorem dX4_lots_16 : decode cX4_lots 16 = .ok (.iload_n 2, 1) := by decide +kernel
theorem dX4_lots_17 : decode cX4_lots 17 = .ok (.i2l, 1) := by decide +kernel
theorem dX4_lots_18 : decode cX4_lots 18 = .ok (.ldc2_w 263, 3) := by decide +kernel
theorem dX4_lots_21 : decode cX4_lots 21 = .ok (.lcmp, 1) := by decide +kernel
theorem dX4_lots_22 : decode cX4_lots 22 = .ok (.ifCond .lt 5, 3) := by decide +kernel
theorem dX4_lots_25 : decode cX4_lots 25 = .ok (.iconst (-1), 1) := by decide +kernel
theorem dX4_lots_26 : decode cX4_lots 26 = .ok (.ireturn, 1) := by decide +kernel
theorem dX4_lots_27 : decode cX4_lots 27 = .ok (.aload_n 0, 1) := by decide +kernel
theorem dX4_lots_28 : decode cX4_lots 28 = .ok (.getfield 33, 3) := by decide +kernel
theorem dX4_lots_31 : decode cX4_lots 31 = .ok (.getfield 125, 3) := by decide +kernel
theorem dX4_lots_34 : decode cX4_lots 34 = .ok (.ifCond .ne 6, 3) := by decide +kernel
theorem dX4_lots_37 : decode cX4_lots 37 = .ok (.bipush (-4), 2) := by decide +kernel
theorem dX4_lots_39 : decode cX4_lots 39 = .ok (.ireturn, 1) := by decide +kernel
theorem dX4_lots_40 : decode cX4_lots 40 = .ok (.aload_n 0, 1) := by decide +kernel
theorem dX4_lots_41 : decode cX4_lots 41 = .ok (.iload_n 1, 1) := by decide +kernel
theorem dX4_lots_42 : decode cX4_lots 42 = .ok (.invokevirtual 150, 3) := by decide +kernel
theorem dX4_lots_45 : decode cX4_lots 45 = .ok (.ifCond .eq 6, 3) := by decide +kernel
theorem dX4_lots_48 : decode cX4_lots 48 = .ok (.bipush (-2), 2) := by decide +kernel
theorem dX4_lots_50 : decode cX4_lots 50 = .ok (.ireturn, 1) := by decide +kernel
theorem dX4_lots_51 : decode cX4_lots 51 = .ok (.iload_n 2, 1) := by decide +kernel
theorem dX4_lots_52 : decode cX4_lots 52 = .ok (.i2l, 1) := by decide +kernel
theorem dX4_lots_53 : decode cX4_lots 53 = .ok (.lstore_n 3, 1) := by decide +kernel
theorem dX4_lots_54 : decode cX4_lots 54 = .ok (.iconst 0, 1) := by decide +kernel
theorem dX4_lots_55 : decode cX4_lots 55 = .ok (.istore 5, 2) := by decide +kernel
theorem dX4_lots_57 : decode cX4_lots 57 = .ok (.iload 5, 2) := by decide +kernel
theorem dX4_lots_59 : decode cX4_lots 59 = .ok (.iload_n 1, 1) := by decide +kernel
theorem dX4_lots_60 : decode cX4_lots 60 = .ok (.if_icmp .ge 25, 3) := by decide +kernel
theorem dX4_lots_63 : decode cX4_lots 63 = .ok (.ldc2_w 265, 3) := by decide +kernel
theorem dX4_lots_66 : decode cX4_lots 66 = .ok (.lload_n 3, 1) := by decide +kernel
theorem dX4_lots_67 : decode cX4_lots 67 = .ok (.lmul, 1) := by decide +kernel
theorem dX4_lots_68 : decode cX4_lots 68 = .ok (.ldc2_w 263, 3) := by decide +kernel
theorem dX4_lots_71 : decode cX4_lots 71 = .ok (.lrem, 1) := by decide +kernel
theorem dX4_lots_72 : decode cX4_lots 72 = .ok (.lstore_n 3, 1) := by decide +kernel
theorem dX4_lots_73 : decode cX4_lots 73 = .ok (.aload_n 0, 1) := by decide +kernel
theorem dX4_lots_74 : decode cX4_lots 74 = .ok (.lload_n 3, 1) := by decide +kernel
theorem dX4_lots_75 : decode cX4_lots 75 = .ok (.l2i, 1) := by decide +kernel
theorem dX4_lots_76 : decode cX4_lots 76 = .ok (.invokevirtual 267, 3) := by decide +kernel
theorem dX4_lots_79 : decode cX4_lots 79 = .ok (.iinc 5 1, 3) := by decide +kernel
theorem dX4_lots_82 : decode cX4_lots 82 = .ok (.goto (-25), 3) := by decide +kernel
theorem dX4_lots_85 : decode cX4_lots 85 = .ok (.aload_n 0, 1) := by decide +kernel
theorem dX4_lots_86 : decode cX4_lots 86 = .ok (.getfield 33, 3) := by decide +kernel
theorem dX4_lots_89 : decode cX4_lots 89 = .ok (.getfield 153, 3) := by decide +kernel
theorem dX4_lots_92 : decode cX4_lots 92 = .ok (.ireturn, 1) := by decide +kernel
theorem dX4_asked_0 : decode cX4_asked 0 = .ok (.aload_n 0, 1) := by decide +kernel
theorem dX4_asked_1 : decode cX4_asked 1 = .ok (.getfield 50, 3) := by decide +kernel
theorem dX4_asked_4 : decode cX4_asked 4 = .ok (.ireturn, 1) := by decide +kernel
theorem dX4_upper_0 : decode cX4_upper 0 = .ok (.aload_n 0, 1) := by decide +kernel
theorem dX4_upper_1 : decode cX4_upper 1 = .ok (.getfield 54, 3) := by decide +kernel
theorem dX4_upper_4 : decode cX4_upper 4 = .ok (.lreturn, 1) := by decide +kernel
theorem dX4_lower_0 : decode cX4_lower 0 = .ok (.aload_n 0, 1) := by decide +kernel
theorem dX4_lower_1 : decode cX4_lower 1 = .ok (.getfield 58, 3) := by decide +kernel
theorem dX4_lower_4 : decode cX4_lower 4 = .ok (.lreturn, 1) := by decide +kernel
theorem dX4_count_0 : decode cX4_count 0 = .ok (.iload_n 1, 1) := by decide +kernel
theorem dX4_count_1 : decode cX4_count 1 = .ok (.ifCond .lt 9, 3) := by decide +kernel
theorem dX4_count_4 : decode cX4_count 4 = .ok (.iload_n 1, 1) := by decide +kernel
theorem dX4_count_5 : decode cX4_count 5 = .ok (.bipush 13, 2) := by decide +kernel
theorem dX4_count_7 : decode cX4_count 7 = .ok (.if_icmp .lt 5, 3) := by decide +kernel
theorem dX4_count_10 : decode cX4_count 10 = .ok (.iconst (-1), 1) := by decide +kernel
theorem dX4_count_11 : decode cX4_count 11 = .ok (.ireturn, 1) := by decide +kernel
theorem dX4_count_12 : decode cX4_count 12 = .ok (.aload_n 0, 1) := by decide +kernel
theorem dX4_count_13 : decode cX4_count 13 = .ok (.iload_n 1, 1) := by decide +kernel
theorem dX4_count_14 : decode cX4_count 14 = .ok (.invokevirtual 270, 3) := by decide +kernel
theorem dX4_count_17 : decode cX4_count 17 = .ok (.ireturn, 1) := by decide +kernel
theorem dX4_finding_0 : decode cX4_finding 0 = .ok (.aload_n 0, 1) := by decide +kernel
theorem dX4_finding_1 : decode cX4_finding 1 = .ok (.getfield 61, 3) := by decide +kernel
theorem dX4_finding_4 : decode cX4_finding 4 = .ok (.ireturn, 1) := by decide +kernel
theorem dX4_findings_0 : decode cX4_findings 0 = .ok (.iload_n 1, 1) := by decide +kernel
theorem dX4_findings_1 : decode cX4_findings 1 = .ok (.iconst 1, 1) := by decide +kernel
theorem dX4_findings_2 : decode cX4_findings 2 = .ok (.if_icmp .lt 8, 3) := by decide +kernel
theorem dX4_findings_5 : decode cX4_findings 5 = .ok (.iload_n 1, 1) := by decide +kernel
theorem dX4_findings_6 : decode cX4_findings 6 = .ok (.iconst 5, 1) := by decide +kernel
theorem dX4_findings_7 : decode cX4_findings 7 = .ok (.if_icmp .le 5, 3) := by decide +kernel
theorem dX4_findings_10 : decode cX4_findings 10 = .ok (.iconst (-1), 1) := by decide +kernel
theorem dX4_findings_11 : decode cX4_findings 11 = .ok (.ireturn, 1) := by decide +kernel
theorem dX4_findings_12 : decode cX4_findings 12 = .ok (.aload_n 0, 1) := by decide +kernel
theorem dX4_findings_13 : decode cX4_findings 13 = .ok (.getfield 64, 3) := by decide +kernel
theorem dX4_findings_16 : decode cX4_findings 16 = .ok (.iload_n 1, 1) := by decide +kernel
theorem dX4_findings_17 : decode cX4_findings 17 = .ok (.iaload, 1) := by decide +kernel
theorem dX4_findings_18 : decode cX4_findings 18 = .ok (.ireturn, 1) := by decide +kernel
theorem dX4_digest_0 : decode cX4_digest 0 = .ok (.ldc2_w 273, 3) := by decide +kernel
theorem dX4_digest_3 : decode cX4_digest 3 = .ok (.lstore_n 1, 1) := by decide +kernel
theorem dX4_digest_4 : decode cX4_digest 4 = .ok (.iconst 0, 1) := by decide +kernel
theorem dX4_digest_5 : decode cX4_digest 5 = .ok (.istore_n 3, 1) := by decide +kernel
theorem dX4_digest_6 : decode cX4_digest 6 = .ok (.iload_n 3, 1) := by decide +kernel
theorem dX4_digest_7 : decode cX4_digest 7 = .ok (.bipush 13, 2) := by decide +kernel
theorem dX4_digest_9 : decode cX4_digest 9 = .ok (.if_icmp .ge 22, 3) := by decide +kernel
theorem dX4_digest_12 : decode cX4_digest 12 = .ok (.ldc2_w 275, 3) := by decide +kernel
theorem dX4_digest_15 : decode cX4_digest 15 = .ok (.lload_n 1, 1) := by decide +kernel
theorem dX4_digest_16 : decode cX4_digest 16 = .ok (.lmul, 1) := by decide +kernel
theorem dX4_digest_17 : decode cX4_digest 17 = .ok (.aload_n 0, 1) := by decide +kernel
theorem dX4_digest_18 : decode cX4_digest 18 = .ok (.iload_n 3, 1) := by decide +kernel
theorem dX4_digest_19 : decode cX4_digest 19 = .ok (.invokevirtual 270, 3) := by decide +kernel
theorem dX4_digest_22 : decode cX4_digest 22 = .ok (.i2l, 1) := by decide +kernel
theorem dX4_digest_23 : decode cX4_digest 23 = .ok (.ladd, 1) := by decide +kernel
theorem dX4_digest_24 : decode cX4_digest 24 = .ok (.lstore_n 1, 1) := by decide +kernel
theorem dX4_digest_25 : decode cX4_digest 25 = .ok (.iinc 3 1, 3) := by decide +kernel
theorem dX4_digest_28 : decode cX4_digest 28 = .ok (.goto (-22), 3) := by decide +kernel
theorem dX4_digest_31 : decode cX4_digest 31 = .ok (.iconst 0, 1) := by decide +kernel
theorem dX4_digest_32 : decode cX4_digest 32 = .ok (.istore_n 3, 1) := by decide +kernel
theorem dX4_digest_33 : decode cX4_digest 33 = .ok (.iload_n 3, 1) := by decide +kernel
theorem dX4_digest_34 : decode cX4_digest 34 = .ok (.aload_n 0, 1) := by decide +kernel
theorem dX4_digest_35 : decode cX4_digest 35 = .ok (.getfield 33, 3) := by decide +kernel
theorem dX4_digest_38 : decode cX4_digest 38 = .ok (.getfield 125, 3) := by decide +kernel
theorem dX4_digest_41 : decode cX4_digest 41 = .ok (.if_icmp .ge 47, 3) := by decide +kernel
theorem dX4_digest_44 : decode cX4_digest 44 = .ok (.iconst 0, 1) := by decide +kernel
theorem dX4_digest_45 : decode cX4_digest 45 = .ok (.istore 4, 2) := by decide +kernel
theorem dX4_digest_47 : decode cX4_digest 47 = .ok (.iload 4, 2) := by decide +kernel
theorem dX4_digest_49 : decode cX4_digest 49 = .ok (.bipush 7, 2) := by decide +kernel
theorem dX4_digest_51 : decode cX4_digest 51 = .ok (.if_icmp .ge 31, 3) := by decide +kernel
theorem dX4_digest_54 : decode cX4_digest 54 = .ok (.ldc2_w 275, 3) := by decide +kernel
theorem dX4_digest_57 : decode cX4_digest 57 = .ok (.lload_n 1, 1) := by decide +kernel
theorem dX4_digest_58 : decode cX4_digest 58 = .ok (.lmul, 1) := by decide +kernel
theorem dX4_digest_59 : decode cX4_digest 59 = .ok (.aload_n 0, 1) := by decide +kernel
theorem dX4_digest_60 : decode cX4_digest 60 = .ok (.getfield 33, 3) := by decide +kernel
theorem dX4_digest_63 : decode cX4_digest 63 = .ok (.getfield 129, 3) := by decide +kernel
theorem dX4_digest_66 : decode cX4_digest 66 = .ok (.iload_n 3, 1) := by decide +kernel
theorem dX4_digest_67 : decode cX4_digest 67 = .ok (.aaload, 1) := by decide +kernel
theorem dX4_digest_68 : decode cX4_digest 68 = .ok (.iload 4, 2) := by decide +kernel
theorem dX4_digest_70 : decode cX4_digest 70 = .ok (.invokevirtual 133, 3) := by decide +kernel
theorem dX4_digest_73 : decode cX4_digest 73 = .ok (.i2l, 1) := by decide +kernel
theorem dX4_digest_74 : decode cX4_digest 74 = .ok (.ladd, 1) := by decide +kernel
theorem dX4_digest_75 : decode cX4_digest 75 = .ok (.lstore_n 1, 1) := by decide +kernel
theorem dX4_digest_76 : decode cX4_digest 76 = .ok (.iinc 4 1, 3) := by decide +kernel
theorem dX4_digest_79 : decode cX4_digest 79 = .ok (.goto (-32), 3) := by decide +kernel
theorem dX4_digest_82 : decode cX4_digest 82 = .ok (.iinc 3 1, 3) := by decide +kernel
theorem dX4_digest_85 : decode cX4_digest 85 = .ok (.goto (-52), 3) := by decide +kernel
theorem dX4_digest_88 : decode cX4_digest 88 = .ok (.iconst 0, 1) := by decide +kernel
theorem dX4_digest_89 : decode cX4_digest 89 = .ok (.istore_n 3, 1) := by decide +kernel
theorem dX4_digest_90 : decode cX4_digest 90 = .ok (.iload_n 3, 1) := by decide +kernel
theorem dX4_digest_91 : decode cX4_digest 91 = .ok (.iconst 3, 1) := by decide +kernel
theorem dX4_digest_92 : decode cX4_digest 92 = .ok (.if_icmp .ge 26, 3) := by decide +kernel
theorem dX4_digest_95 : decode cX4_digest 95 = .ok (.ldc2_w 275, 3) := by decide +kernel
theorem dX4_digest_98 : decode cX4_digest 98 = .ok (.lload_n 1, 1) := by decide +kernel
theorem dX4_digest_99 : decode cX4_digest 99 = .ok (.lmul, 1) := by decide +kernel
theorem dX4_digest_100 : decode cX4_digest 100 = .ok (.aload_n 0, 1) := by decide +kernel
theorem dX4_digest_101 : decode cX4_digest 101 = .ok (.getfield 46, 3) := by decide +kernel
theorem dX4_digest_104 : decode cX4_digest 104 = .ok (.iload_n 3, 1) := by decide +kernel
theorem dX4_digest_105 : decode cX4_digest 105 = .ok (.aaload, 1) := by decide +kernel
theorem dX4_digest_106 : decode cX4_digest 106 = .ok (.getfield 86, 3) := by decide +kernel
theorem dX4_digest_109 : decode cX4_digest 109 = .ok (.i2l, 1) := by decide +kernel
theorem dX4_digest_110 : decode cX4_digest 110 = .ok (.ladd, 1) := by decide +kernel
theorem dX4_digest_111 : decode cX4_digest 111 = .ok (.lstore_n 1, 1) := by decide +kernel
theorem dX4_digest_112 : decode cX4_digest 112 = .ok (.iinc 3 1, 3) := by decide +kernel
theorem dX4_digest_115 : decode cX4_digest 115 = .ok (.goto (-25), 3) := by decide +kernel
theorem dX4_digest_118 : decode cX4_digest 118 = .ok (.aload_n 0, 1) := by decide +kernel
theorem dX4_digest_119 : decode cX4_digest 119 = .ok (.aload_n 0, 1) := by decide +kernel
theorem dX4_digest_120 : decode cX4_digest 120 = .ok (.lload_n 1, 1) := by decide +kernel
theorem dX4_digest_121 : decode cX4_digest 121 = .ok (.invokevirtual 277, 3) := by decide +kernel
theorem dX4_digest_124 : decode cX4_digest 124 = .ok (.invokevirtual 281, 3) := by decide +kernel
theorem dX4_digest_127 : decode cX4_digest 127 = .ok (.lreturn, 1) := by decide +kernel
theorem dX4_isRow_0 : decode cX4_isRow 0 = .ok (.iload_n 0, 1) := by decide +kernel
theorem dX4_isRow_1 : decode cX4_isRow 1 = .ok (.ifCond .lt 13, 3) := by decide +kernel
theorem dX4_isRow_4 : decode cX4_isRow 4 = .ok (.iload_n 0, 1) := by decide +kernel
theorem dX4_isRow_5 : decode cX4_isRow 5 = .ok (.bipush 6, 2) := by decide +kernel
theorem dX4_isRow_7 : decode cX4_isRow 7 = .ok (.if_icmp .ge 7, 3) := by decide +kernel
theorem dX4_isRow_10 : decode cX4_isRow 10 = .ok (.iconst 1, 1) := by decide +kernel
theorem dX4_isRow_11 : decode cX4_isRow 11 = .ok (.goto 4, 3) := by decide +kernel
theorem dX4_isRow_14 : decode cX4_isRow 14 = .ok (.iconst 0, 1) := by decide +kernel
theorem dX4_isRow_15 : decode cX4_isRow 15 = .ok (.ireturn, 1) := by decide +kernel
theorem dX4_isText_0 : decode cX4_isText 0 = .ok (.iload_n 0, 1) := by decide +kernel
theorem dX4_isText_1 : decode cX4_isText 1 = .ok (.ifCond .lt 12, 3) := by decide +kernel
theorem dX4_isText_4 : decode cX4_isText 4 = .ok (.iload_n 0, 1) := by decide +kernel
theorem dX4_isText_5 : decode cX4_isText 5 = .ok (.iconst 4, 1) := by decide +kernel
theorem dX4_isText_6 : decode cX4_isText 6 = .ok (.if_icmp .ge 7, 3) := by decide +kernel
theorem dX4_isText_9 : decode cX4_isText 9 = .ok (.iconst 1, 1) := by decide +kernel
theorem dX4_isText_10 : decode cX4_isText 10 = .ok (.goto 4, 3) := by decide +kernel
theorem dX4_isText_13 : decode cX4_isText 13 = .ok (.iconst 0, 1) := by decide +kernel
theorem dX4_isText_14 : decode cX4_isText 14 = .ok (.ireturn, 1) := by decide +kernel
theorem dX4_isFigure_0 : decode cX4_isFigure 0 = .ok (.iload_n 0, 1) := by decide +kernel
theorem dX4_isFigure_1 : decode cX4_isFigure 1 = .ok (.iconst 1, 1) := by decide +kernel
theorem dX4_isFigure_2 : decode cX4_isFigure 2 = .ok (.if_icmp .lt 13, 3) := by decide +kernel
theorem dX4_isFigure_5 : decode cX4_isFigure 5 = .ok (.iload_n 0, 1) := by decide +kernel
theorem dX4_isFigure_6 : decode cX4_isFigure 6 = .ok (.bipush 9, 2) := by decide +kernel
theorem dX4_isFigure_8 : decode cX4_isFigure 8 = .ok (.if_icmp .gt 7, 3) := by decide +kernel
theorem dX4_isFigure_11 : decode cX4_isFigure 11 = .ok (.iconst 1, 1) := by decide +kernel
theorem dX4_isFigure_12 : decode cX4_isFigure 12 = .ok (.goto 4, 3) := by decide +kernel
theorem dX4_isFigure_15 : decode cX4_isFigure 15 = .ok (.iconst 0, 1) := by decide +kernel
theorem dX4_isFigure_16 : decode cX4_isFigure 16 = .ok (.ireturn, 1) := by decide +kernel
theorem dX4_isKeptPlace_0 : decode cX4_isKeptPlace 0 = .ok (.iload_n 0, 1) := by decide +kernel
theorem dX4_isKeptPlace_1 : decode cX4_isKeptPlace 1 = .ok (.ifCond .lt 12, 3) := by decide +kernel
theorem dX4_isKeptPlace_4 : decode cX4_isKeptPlace 4 = .ok (.iload_n 0, 1) := by decide +kernel
theorem dX4_isKeptPlace_5 : decode cX4_isKeptPlace 5 = .ok (.iconst 3, 1) := by decide +kernel
theorem dX4_isKeptPlace_6 : decode cX4_isKeptPlace 6 = .ok (.if_icmp .ge 7, 3) := by decide +kernel
theorem dX4_isKeptPlace_9 : decode cX4_isKeptPlace 9 = .ok (.iconst 1, 1) := by decide +kernel
theorem dX4_isKeptPlace_10 : decode cX4_isKeptPlace 10 = .ok (.goto 4, 3) := by decide +kernel
theorem dX4_isKeptPlace_13 : decode cX4_isKeptPlace 13 = .ok (.iconst 0, 1) := by decide +kernel
theorem dX4_isKeptPlace_14 : decode cX4_isKeptPlace 14 = .ok (.ireturn, 1) := by decide +kernel
theorem dX4_isChance_0 : decode cX4_isChance 0 = .ok (.iload_n 0, 1) := by decide +kernel
theorem dX4_isChance_1 : decode cX4_isChance 1 = .ok (.ifCond .lt 13, 3) := by decide +kernel
theorem dX4_isChance_4 : decode cX4_isChance 4 = .ok (.iload_n 0, 1) := by decide +kernel
theorem dX4_isChance_5 : decode cX4_isChance 5 = .ok (.bipush 12, 2) := by decide +kernel
theorem dX4_isChance_7 : decode cX4_isChance 7 = .ok (.if_icmp .gt 7, 3) := by decide +kernel
theorem dX4_isChance_10 : decode cX4_isChance 10 = .ok (.iconst 1, 1) := by decide +kernel
theorem dX4_isChance_11 : decode cX4_isChance 11 = .ok (.goto 4, 3) := by decide +kernel
theorem dX4_isChance_14 : decode cX4_isChance 14 = .ok (.iconst 0, 1) := by decide +kernel
theorem dX4_isChance_15 : decode cX4_isChance 15 = .ok (.ireturn, 1) := by decide +kernel
theorem dX4_isCaller_0 : decode cX4_isCaller 0 = .ok (.iload_n 1, 1) := by decide +kernel
theorem dX4_isCaller_1 : decode cX4_isCaller 1 = .ok (.ifCond .lt 18, 3) := by decide +kernel
theorem dX4_isCaller_4 : decode cX4_isCaller 4 = .ok (.iload_n 1, 1) := by decide +kernel
theorem dX4_isCaller_5 : decode cX4_isCaller 5 = .ok (.aload_n 0, 1) := by decide +kernel
theorem dX4_isCaller_6 : decode cX4_isCaller 6 = .ok (.getfield 33, 3) := by decide +kernel
theorem dX4_isCaller_9 : decode cX4_isCaller 9 = .ok (.getfield 125, 3) := by decide +kernel
theorem dX4_isCaller_12 : decode cX4_isCaller 12 = .ok (.if_icmp .ge 7, 3) := by decide +kernel
theorem dX4_isCaller_15 : decode cX4_isCaller 15 = .ok (.iconst 1, 1) := by decide +kernel
theorem dX4_isCaller_16 : decode cX4_isCaller 16 = .ok (.goto 4, 3) := by decide +kernel
theorem dX4_isCaller_19 : decode cX4_isCaller 19 = .ok (.iconst 0, 1) := by decide +kernel
theorem dX4_isCaller_20 : decode cX4_isCaller 20 = .ok (.ireturn, 1) := by decide +kernel
theorem dX4_isFullWith_0 : decode cX4_isFullWith 0 = .ok (.aload_n 0, 1) := by decide +kernel
theorem dX4_isFullWith_1 : decode cX4_isFullWith 1 = .ok (.getfield 42, 3) := by decide +kernel
theorem dX4_isFullWith_4 : decode cX4_isFullWith 4 = .ok (.getfield 86, 3) := by decide +kernel
theorem dX4_isFullWith_7 : decode cX4_isFullWith 7 = .ok (.iload_n 1, 1) := by decide +kernel
theorem dX4_isFullWith_8 : decode cX4_isFullWith 8 = .ok (.iadd, 1) := by decide +kernel
theorem dX4_isFullWith_9 : decode cX4_isFullWith 9 = .ok (.bipush 40, 2) := by decide +kernel
theorem dX4_isFullWith_11 : decode cX4_isFullWith 11 = .ok (.if_icmp .le 7, 3) := by decide +kernel
theorem dX4_isFullWith_14 : decode cX4_isFullWith 14 = .ok (.iconst 1, 1) := by decide +kernel
theorem dX4_isFullWith_15 : decode cX4_isFullWith 15 = .ok (.goto 4, 3) := by decide +kernel
theorem dX4_isFullWith_18 : decode cX4_isFullWith 18 = .ok (.iconst 0, 1) := by decide +kernel
theorem dX4_isFullWith_19 : decode cX4_isFullWith 19 = .ok (.ireturn, 1) := by decide +kernel
theorem dX4_found_0 : decode cX4_found 0 = .ok (.aload_n 0, 1) := by decide +kernel
theorem dX4_found_1 : decode cX4_found 1 = .ok (.iload_n 1, 1) := by decide +kernel
theorem dX4_found_2 : decode cX4_found 2 = .ok (.putfield 61, 3) := by decide +kernel
theorem dX4_found_5 : decode cX4_found 5 = .ok (.aload_n 0, 1) := by decide +kernel
theorem dX4_found_6 : decode cX4_found 6 = .ok (.getfield 64, 3) := by decide +kernel
theorem dX4_found_9 : decode cX4_found 9 = .ok (.iload_n 1, 1) := by decide +kernel
theorem dX4_found_10 : decode cX4_found 10 = .ok (.dup2, 1) := by decide +kernel
theorem dX4_found_11 : decode cX4_found 11 = .ok (.iaload, 1) := by decide +kernel
theorem dX4_found_12 : decode cX4_found 12 = .ok (.iconst 1, 1) := by decide +kernel
theorem dX4_found_13 : decode cX4_found 13 = .ok (.iadd, 1) := by decide +kernel
theorem dX4_found_14 : decode cX4_found 14 = .ok (.iastore, 1) := by decide +kernel
theorem dX4_found_15 : decode cX4_found 15 = .ok (.bipush (-3), 2) := by decide +kernel
theorem dX4_found_17 : decode cX4_found 17 = .ok (.ireturn, 1) := by decide +kernel
theorem dX4_findingOfPlace_0 : decode cX4_findingOfPlace 0 = .ok (.iload_n 0, 1) := by decide +kernel
theorem dX4_findingOfPlace_1 : decode cX4_findingOfPlace 1 = .ok (.iconst (-1), 1) := by decide +kernel
theorem dX4_findingOfPlace_2 : decode cX4_findingOfPlace 2 = .ok (.if_icmp .ne 5, 3) := by decide +kernel
theorem dX4_findingOfPlace_5 : decode cX4_findingOfPlace 5 = .ok (.iconst 1, 1) := by decide +kernel
theorem dX4_findingOfPlace_6 : decode cX4_findingOfPlace 6 = .ok (.ireturn, 1) := by decide +kernel
theorem dX4_findingOfPlace_7 : decode cX4_findingOfPlace 7 = .ok (.iload_n 1, 1) := by decide +kernel
theorem dX4_findingOfPlace_8 : decode cX4_findingOfPlace 8 = .ok (.ifCond .lt 8, 3) := by decide +kernel
theorem dX4_findingOfPlace_11 : decode cX4_findingOfPlace 11 = .ok (.iload_n 1, 1) := by decide +kernel
theorem dX4_findingOfPlace_12 : decode cX4_findingOfPlace 12 = .ok (.iload_n 0, 1) := by decide +kernel
theorem dX4_findingOfPlace_13 : decode cX4_findingOfPlace 13 = .ok (.if_icmp .lt 7, 3) := by decide +kernel
theorem dX4_findingOfPlace_16 : decode cX4_findingOfPlace 16 = .ok (.iconst 2, 1) := by decide +kernel
theorem dX4_findingOfPlace_17 : decode cX4_findingOfPlace 17 = .ok (.goto 4, 3) := by decide +kernel
theorem dX4_findingOfPlace_20 : decode cX4_findingOfPlace 20 = .ok (.iconst 0, 1) := by decide +kernel
theorem dX4_findingOfPlace_21 : decode cX4_findingOfPlace 21 = .ok (.ireturn, 1) := by decide +kernel
theorem dX4_hasPlaces_0 : decode cX4_hasPlaces 0 = .ok (.iload_n 1, 1) := by decide +kernel
theorem dX4_hasPlaces_1 : decode cX4_hasPlaces 1 = .ok (.ifCond .lt 19, 3) := by decide +kernel
theorem dX4_hasPlaces_4 : decode cX4_hasPlaces 4 = .ok (.iload_n 1, 1) := by decide +kernel
theorem dX4_hasPlaces_5 : decode cX4_hasPlaces 5 = .ok (.iload_n 0, 1) := by decide +kernel
theorem dX4_hasPlaces_6 : decode cX4_hasPlaces 6 = .ok (.if_icmp .gt 14, 3) := by decide +kernel
theorem dX4_hasPlaces_9 : decode cX4_hasPlaces 9 = .ok (.iload_n 2, 1) := by decide +kernel
theorem dX4_hasPlaces_10 : decode cX4_hasPlaces 10 = .ok (.iload_n 0, 1) := by decide +kernel
theorem dX4_hasPlaces_11 : decode cX4_hasPlaces 11 = .ok (.iload_n 1, 1) := by decide +kernel
theorem dX4_hasPlaces_12 : decode cX4_hasPlaces 12 = .ok (.isub, 1) := by decide +kernel
theorem dX4_hasPlaces_13 : decode cX4_hasPlaces 13 = .ok (.if_icmp .gt 7, 3) := by decide +kernel
theorem dX4_hasPlaces_16 : decode cX4_hasPlaces 16 = .ok (.iconst 1, 1) := by decide +kernel
theorem dX4_hasPlaces_17 : decode cX4_hasPlaces 17 = .ok (.goto 4, 3) := by decide +kernel
theorem dX4_hasPlaces_20 : decode cX4_hasPlaces 20 = .ok (.iconst 0, 1) := by decide +kernel
theorem dX4_hasPlaces_21 : decode cX4_hasPlaces 21 = .ok (.ireturn, 1) := by decide +kernel
theorem dX4_findingOfSeen_0 : decode cX4_findingOfSeen 0 = .ok (.aload_n 0, 1) := by decide +kernel
theorem dX4_findingOfSeen_1 : decode cX4_findingOfSeen 1 = .ok (.getfield 14, 3) := by decide +kernel
theorem dX4_findingOfSeen_4 : decode cX4_findingOfSeen 4 = .ok (.iload_n 1, 1) := by decide +kernel
theorem dX4_findingOfSeen_5 : decode cX4_findingOfSeen 5 = .ok (.iaload, 1) := by decide +kernel
theorem dX4_findingOfSeen_6 : decode cX4_findingOfSeen 6 = .ok (.istore_n 2, 1) := by decide +kernel
theorem dX4_findingOfSeen_7 : decode cX4_findingOfSeen 7 = .ok (.iload_n 2, 1) := by decide +kernel
theorem dX4_findingOfSeen_8 : decode cX4_findingOfSeen 8 = .ok (.iconst (-1), 1) := by decide +kernel
theorem dX4_findingOfSeen_9 : decode cX4_findingOfSeen 9 = .ok (.if_icmp .ne 5, 3) := by decide +kernel
theorem dX4_findingOfSeen_12 : decode cX4_findingOfSeen 12 = .ok (.iconst 1, 1) := by decide +kernel
theorem dX4_findingOfSeen_13 : decode cX4_findingOfSeen 13 = .ok (.ireturn, 1) := by decide +kernel
theorem dX4_findingOfSeen_14 : decode cX4_findingOfSeen 14 = .ok (.iload_n 2, 1) := by decide +kernel
theorem dX4_findingOfSeen_15 : decode cX4_findingOfSeen 15 = .ok (.iconst 1, 1) := by decide +kernel
theorem dX4_findingOfSeen_16 : decode cX4_findingOfSeen 16 = .ok (.if_icmp .lt 9, 3) := by decide +kernel
theorem dX4_findingOfSeen_19 : decode cX4_findingOfSeen 19 = .ok (.iload_n 2, 1) := by decide +kernel
theorem dX4_findingOfSeen_20 : decode cX4_findingOfSeen 20 = .ok (.bipush 20, 2) := by decide +kernel
theorem dX4_findingOfSeen_22 : decode cX4_findingOfSeen 22 = .ok (.if_icmp .le 5, 3) := by decide +kernel
theorem dX4_findingOfSeen_25 : decode cX4_findingOfSeen 25 = .ok (.iconst 5, 1) := by decide +kernel
theorem dX4_findingOfSeen_26 : decode cX4_findingOfSeen 26 = .ok (.ireturn, 1) := by decide +kernel
theorem dX4_findingOfSeen_27 : decode cX4_findingOfSeen 27 = .ok (.iconst 0, 1) := by decide +kernel
theorem dX4_findingOfSeen_28 : decode cX4_findingOfSeen 28 = .ok (.istore_n 3, 1) := by decide +kernel
theorem dX4_findingOfSeen_29 : decode cX4_findingOfSeen 29 = .ok (.iload_n 3, 1) := by decide +kernel
theorem dX4_findingOfSeen_30 : decode cX4_findingOfSeen 30 = .ok (.iload_n 2, 1) := by decide +kernel
theorem dX4_findingOfSeen_31 : decode cX4_findingOfSeen 31 = .ok (.if_icmp .ge 35, 3) := by decide +kernel
theorem dX4_findingOfSeen_34 : decode cX4_findingOfSeen 34 = .ok (.aload_n 0, 1) := by decide +kernel
theorem dX4_findingOfSeen_35 : decode cX4_findingOfSeen 35 = .ok (.getfield 11, 3) := by decide +kernel
theorem dX4_findingOfSeen_38 : decode cX4_findingOfSeen 38 = .ok (.iload_n 1, 1) := by decide +kernel
theorem dX4_findingOfSeen_39 : decode cX4_findingOfSeen 39 = .ok (.aaload, 1) := by decide +kernel
theorem dX4_findingOfSeen_40 : decode cX4_findingOfSeen 40 = .ok (.iload_n 3, 1) := by decide +kernel
theorem dX4_findingOfSeen_41 : decode cX4_findingOfSeen 41 = .ok (.iaload, 1) := by decide +kernel
theorem dX4_findingOfSeen_42 : decode cX4_findingOfSeen 42 = .ok (.ifCond .lt 16, 3) := by decide +kernel
theorem dX4_findingOfSeen_45 : decode cX4_findingOfSeen 45 = .ok (.aload_n 0, 1) := by decide +kernel
theorem dX4_findingOfSeen_46 : decode cX4_findingOfSeen 46 = .ok (.getfield 11, 3) := by decide +kernel
theorem dX4_findingOfSeen_49 : decode cX4_findingOfSeen 49 = .ok (.iload_n 1, 1) := by decide +kernel
theorem dX4_findingOfSeen_50 : decode cX4_findingOfSeen 50 = .ok (.aaload, 1) := by decide +kernel
theorem dX4_findingOfSeen_51 : decode cX4_findingOfSeen 51 = .ok (.iload_n 3, 1) := by decide +kernel
theorem dX4_findingOfSeen_52 : decode cX4_findingOfSeen 52 = .ok (.iaload, 1) := by decide +kernel
theorem dX4_findingOfSeen_53 : decode cX4_findingOfSeen 53 = .ok (.bipush 7, 2) := by decide +kernel
theorem dX4_findingOfSeen_55 : decode cX4_findingOfSeen 55 = .ok (.if_icmp .le 5, 3) := by decide +kernel
theorem dX4_findingOfSeen_58 : decode cX4_findingOfSeen 58 = .ok (.iconst 3, 1) := by decide +kernel
theorem dX4_findingOfSeen_59 : decode cX4_findingOfSeen 59 = .ok (.ireturn, 1) := by decide +kernel
theorem dX4_findingOfSeen_60 : decode cX4_findingOfSeen 60 = .ok (.iinc 3 1, 3) := by decide +kernel
theorem dX4_findingOfSeen_63 : decode cX4_findingOfSeen 63 = .ok (.goto (-34), 3) := by decide +kernel
theorem dX4_findingOfSeen_66 : decode cX4_findingOfSeen 66 = .ok (.iconst 0, 1) := by decide +kernel
theorem dX4_findingOfSeen_67 : decode cX4_findingOfSeen 67 = .ok (.ireturn, 1) := by decide +kernel
theorem dX4_doDeed_0 : decode cX4_doDeed 0 = .ok (.aload_n 0, 1) := by decide +kernel
theorem dX4_doDeed_1 : decode cX4_doDeed 1 = .ok (.getfield 42, 3) := by decide +kernel
theorem dX4_doDeed_4 : decode cX4_doDeed 4 = .ok (.iload_n 1, 1) := by decide +kernel
theorem dX4_doDeed_5 : decode cX4_doDeed 5 = .ok (.iload_n 2, 1) := by decide +kernel
theorem dX4_doDeed_6 : decode cX4_doDeed 6 = .ok (.iload_n 3, 1) := by decide +kernel
theorem dX4_doDeed_7 : decode cX4_doDeed 7 = .ok (.invokevirtual 284, 3) := by decide +kernel
theorem dX4_doDeed_10 : decode cX4_doDeed 10 = .ok (.aload_n 0, 1) := by decide +kernel
theorem dX4_doDeed_11 : decode cX4_doDeed 11 = .ok (.getfield 33, 3) := by decide +kernel
theorem dX4_doDeed_14 : decode cX4_doDeed 14 = .ok (.iload_n 1, 1) := by decide +kernel
theorem dX4_doDeed_15 : decode cX4_doDeed 15 = .ok (.iload_n 2, 1) := by decide +kernel
theorem dX4_doDeed_16 : decode cX4_doDeed 16 = .ok (.iload_n 3, 1) := by decide +kernel
theorem dX4_doDeed_17 : decode cX4_doDeed 17 = .ok (.invokevirtual 287, 3) := by decide +kernel
theorem dX4_doDeed_20 : decode cX4_doDeed 20 = .ok (.return_, 1) := by decide +kernel
theorem dX4_doDeedOfLot_0 : decode cX4_doDeedOfLot 0 = .ok (.iload_n 1, 1) := by decide +kernel
theorem dX4_doDeedOfLot_1 : decode cX4_doDeedOfLot 1 = .ok (.bipush 8, 2) := by decide +kernel
theorem dX4_doDeedOfLot_3 : decode cX4_doDeedOfLot 3 = .ok (.irem, 1) := by decide +kernel
theorem dX4_doDeedOfLot_4 : decode cX4_doDeedOfLot 4 = .ok (.istore_n 2, 1) := by decide +kernel
theorem dX4_doDeedOfLot_5 : decode cX4_doDeedOfLot 5 = .ok (.iload_n 1, 1) := by decide +kernel
theorem dX4_doDeedOfLot_6 : decode cX4_doDeedOfLot 6 = .ok (.bipush 8, 2) := by decide +kernel
theorem dX4_doDeedOfLot_8 : decode cX4_doDeedOfLot 8 = .ok (.idiv, 1) := by decide +kernel
theorem dX4_doDeedOfLot_9 : decode cX4_doDeedOfLot 9 = .ok (.istore_n 3, 1) := by decide +kernel
theorem dX4_doDeedOfLot_10 : decode cX4_doDeedOfLot 10 = .ok (.iload_n 2, 1) := by decide +kernel
theorem dX4_doDeedOfLot_11 : decode cX4_doDeedOfLot 11 = .ok (.ifCond .ne 16, 3) := by decide +kernel
theorem dX4_doDeedOfLot_14 : decode cX4_doDeedOfLot 14 = .ok (.aload_n 0, 1) := by decide +kernel
theorem dX4_doDeedOfLot_15 : decode cX4_doDeedOfLot 15 = .ok (.iconst 2, 1) := by decide +kernel
theorem dX4_doDeedOfLot_16 : decode cX4_doDeedOfLot 16 = .ok (.iload_n 3, 1) := by decide +kernel
theorem dX4_doDeedOfLot_17 : decode cX4_doDeedOfLot 17 = .ok (.bipush 8, 2) := by decide +kernel
theorem dX4_doDeedOfLot_19 : decode cX4_doDeedOfLot 19 = .ok (.irem, 1) := by decide +kernel
theorem dX4_doDeedOfLot_20 : decode cX4_doDeedOfLot 20 = .ok (.iconst 0, 1) := by decide +kernel
theorem dX4_doDeedOfLot_21 : decode cX4_doDeedOfLot 21 = .ok (.invokevirtual 156, 3) := by decide +kernel
theorem dX4_doDeedOfLot_24 : decode cX4_doDeedOfLot 24 = .ok (.goto 65, 3) := by decide +kernel
theorem dX4_doDeedOfLot_27 : decode cX4_doDeedOfLot 27 = .ok (.iload_n 2, 1) := by decide +kernel
theorem dX4_doDeedOfLot_28 : decode cX4_doDeedOfLot 28 = .ok (.iconst 1, 1) := by decide +kernel
theorem dX4_doDeedOfLot_29 : decode cX4_doDeedOfLot 29 = .ok (.if_icmp .ne 31, 3) := by decide +kernel
theorem dX4_doDeedOfLot_32 : decode cX4_doDeedOfLot 32 = .ok (.aload_n 0, 1) := by decide +kernel
theorem dX4_doDeedOfLot_33 : decode cX4_doDeedOfLot 33 = .ok (.getfield 33, 3) := by decide +kernel
theorem dX4_doDeedOfLot_36 : decode cX4_doDeedOfLot 36 = .ok (.getfield 125, 3) := by decide +kernel
theorem dX4_doDeedOfLot_39 : decode cX4_doDeedOfLot 39 = .ok (.ifCond .le 21, 3) := by decide +kernel
theorem dX4_doDeedOfLot_42 : decode cX4_doDeedOfLot 42 = .ok (.aload_n 0, 1) := by decide +kernel
theorem dX4_doDeedOfLot_43 : decode cX4_doDeedOfLot 43 = .ok (.iconst 5, 1) := by decide +kernel
theorem dX4_doDeedOfLot_44 : decode cX4_doDeedOfLot 44 = .ok (.iload_n 3, 1) := by decide +kernel
theorem dX4_doDeedOfLot_45 : decode cX4_doDeedOfLot 45 = .ok (.aload_n 0, 1) := by decide +kernel
theorem dX4_doDeedOfLot_46 : decode cX4_doDeedOfLot 46 = .ok (.getfield 33, 3) := by decide +kernel
theorem dX4_doDeedOfLot_49 : decode cX4_doDeedOfLot 49 = .ok (.getfield 125, 3) := by decide +kernel
theorem dX4_doDeedOfLot_52 : decode cX4_doDeedOfLot 52 = .ok (.irem, 1) := by decide +kernel
theorem dX4_doDeedOfLot_53 : decode cX4_doDeedOfLot 53 = .ok (.iconst 0, 1) := by decide +kernel
theorem dX4_doDeedOfLot_54 : decode cX4_doDeedOfLot 54 = .ok (.invokevirtual 156, 3) := by decide +kernel
theorem dX4_doDeedOfLot_57 : decode cX4_doDeedOfLot 57 = .ok (.goto 32, 3) := by decide +kernel
theorem dX4_doDeedOfLot_60 : decode cX4_doDeedOfLot 60 = .ok (.aload_n 0, 1) := by decide +kernel
theorem dX4_doDeedOfLot_61 : decode cX4_doDeedOfLot 61 = .ok (.getfield 33, 3) := by decide +kernel
theorem dX4_doDeedOfLot_64 : decode cX4_doDeedOfLot 64 = .ok (.getfield 141, 3) := by decide +kernel
theorem dX4_doDeedOfLot_67 : decode cX4_doDeedOfLot 67 = .ok (.bipush 99, 2) := by decide +kernel
theorem dX4_doDeedOfLot_69 : decode cX4_doDeedOfLot 69 = .ok (.if_icmp .ge 13, 3) := by decide +kernel
theorem dX4_doDeedOfLot_72 : decode cX4_doDeedOfLot 72 = .ok (.aload_n 0, 1) := by decide +kernel
theorem dX4_doDeedOfLot_73 : decode cX4_doDeedOfLot 73 = .ok (.iconst 1, 1) := by decide +kernel
theorem dX4_doDeedOfLot_74 : decode cX4_doDeedOfLot 74 = .ok (.iconst 0, 1) := by decide +kernel
theorem dX4_doDeedOfLot_75 : decode cX4_doDeedOfLot 75 = .ok (.iconst 0, 1) := by decide +kernel
theorem dX4_doDeedOfLot_76 : decode cX4_doDeedOfLot 76 = .ok (.invokevirtual 156, 3) := by decide +kernel
theorem dX4_doDeedOfLot_79 : decode cX4_doDeedOfLot 79 = .ok (.goto 10, 3) := by decide +kernel
theorem dX4_doDeedOfLot_82 : decode cX4_doDeedOfLot 82 = .ok (.aload_n 0, 1) := by decide +kernel
theorem dX4_doDeedOfLot_83 : decode cX4_doDeedOfLot 83 = .ok (.iconst 0, 1) := by decide +kernel
theorem dX4_doDeedOfLot_84 : decode cX4_doDeedOfLot 84 = .ok (.iconst 0, 1) := by decide +kernel
theorem dX4_doDeedOfLot_85 : decode cX4_doDeedOfLot 85 = .ok (.iconst 0, 1) := by decide +kernel
theorem dX4_doDeedOfLot_86 : decode cX4_doDeedOfLot 86 = .ok (.invokevirtual 156, 3) := by decide +kernel
theorem dX4_doDeedOfLot_89 : decode cX4_doDeedOfLot 89 = .ok (.return_, 1) := by decide +kernel
theorem dX4_doAllAgain_0 : decode cX4_doAllAgain 0 = .ok (.aload_n 0, 1) := by decide +kernel
theorem dX4_doAllAgain_1 : decode cX4_doAllAgain 1 = .ok (.getfield 33, 3) := by decide +kernel
theorem dX4_doAllAgain_4 : decode cX4_doAllAgain 4 = .ok (.aload_n 0, 1) := by decide +kernel
theorem dX4_doAllAgain_5 : decode cX4_doAllAgain 5 = .ok (.getfield 29, 3) := by decide +kernel
theorem dX4_doAllAgain_8 : decode cX4_doAllAgain 8 = .ok (.invokevirtual 121, 3) := by decide +kernel
theorem dX4_doAllAgain_11 : decode cX4_doAllAgain 11 = .ok (.iconst 0, 1) := by decide +kernel
theorem dX4_doAllAgain_12 : decode cX4_doAllAgain 12 = .ok (.istore_n 1, 1) := by decide +kernel
theorem dX4_doAllAgain_13 : decode cX4_doAllAgain 13 = .ok (.iload_n 1, 1) := by decide +kernel
theorem dX4_doAllAgain_14 : decode cX4_doAllAgain 14 = .ok (.aload_n 0, 1) := by decide +kernel
theorem dX4_doAllAgain_15 : decode cX4_doAllAgain 15 = .ok (.getfield 42, 3) := by decide +kernel
theorem dX4_doAllAgain_18 : decode cX4_doAllAgain 18 = .ok (.getfield 86, 3) := by decide +kernel
theorem dX4_doAllAgain_21 : decode cX4_doAllAgain 21 = .ok (.if_icmp .ge 43, 3) := by decide +kernel
theorem dX4_doAllAgain_24 : decode cX4_doAllAgain 24 = .ok (.aload_n 0, 1) := by decide +kernel
theorem dX4_doAllAgain_25 : decode cX4_doAllAgain 25 = .ok (.getfield 33, 3) := by decide +kernel
theorem dX4_doAllAgain_28 : decode cX4_doAllAgain 28 = .ok (.aload_n 0, 1) := by decide +kernel
theorem dX4_doAllAgain_29 : decode cX4_doAllAgain 29 = .ok (.getfield 42, 3) := by decide +kernel
theorem dX4_doAllAgain_32 : decode cX4_doAllAgain 32 = .ok (.getfield 290, 3) := by decide +kernel
theorem dX4_doAllAgain_35 : decode cX4_doAllAgain 35 = .ok (.iload_n 1, 1) := by decide +kernel
theorem dX4_doAllAgain_36 : decode cX4_doAllAgain 36 = .ok (.iaload, 1) := by decide +kernel
theorem dX4_doAllAgain_37 : decode cX4_doAllAgain 37 = .ok (.aload_n 0, 1) := by decide +kernel
theorem dX4_doAllAgain_38 : decode cX4_doAllAgain 38 = .ok (.getfield 42, 3) := by decide +kernel
theorem dX4_doAllAgain_41 : decode cX4_doAllAgain 41 = .ok (.getfield 293, 3) := by decide +kernel
theorem dX4_doAllAgain_44 : decode cX4_doAllAgain 44 = .ok (.iload_n 1, 1) := by decide +kernel
theorem dX4_doAllAgain_45 : decode cX4_doAllAgain 45 = .ok (.iaload, 1) := by decide +kernel
theorem dX4_doAllAgain_46 : decode cX4_doAllAgain 46 = .ok (.aload_n 0, 1) := by decide +kernel
theorem dX4_doAllAgain_47 : decode cX4_doAllAgain 47 = .ok (.getfield 42, 3) := by decide +kernel
theorem dX4_doAllAgain_50 : decode cX4_doAllAgain 50 = .ok (.getfield 296, 3) := by decide +kernel
theorem dX4_doAllAgain_53 : decode cX4_doAllAgain 53 = .ok (.iload_n 1, 1) := by decide +kernel
theorem dX4_doAllAgain_54 : decode cX4_doAllAgain 54 = .ok (.iaload, 1) := by decide +kernel
theorem dX4_doAllAgain_55 : decode cX4_doAllAgain 55 = .ok (.invokevirtual 287, 3) := by decide +kernel
theorem dX4_doAllAgain_58 : decode cX4_doAllAgain 58 = .ok (.iinc 1 1, 3) := by decide +kernel
theorem dX4_doAllAgain_61 : decode cX4_doAllAgain 61 = .ok (.goto (-48), 3) := by decide +kernel
theorem dX4_doAllAgain_64 : decode cX4_doAllAgain 64 = .ok (.return_, 1) := by decide +kernel
theorem dX4_offerSetsOf_0 : decode cX4_offerSetsOf 0 = .ok (.iconst 1, 1) := by decide +kernel
theorem dX4_offerSetsOf_1 : decode cX4_offerSetsOf 1 = .ok (.aload_n 0, 1) := by decide +kernel
theorem dX4_offerSetsOf_2 : decode cX4_offerSetsOf 2 = .ok (.getfield 33, 3) := by decide +kernel
theorem dX4_offerSetsOf_5 : decode cX4_offerSetsOf 5 = .ok (.getfield 125, 3) := by decide +kernel
theorem dX4_offerSetsOf_8 : decode cX4_offerSetsOf 8 = .ok (.ishl, 1) := by decide +kernel
theorem dX4_offerSetsOf_9 : decode cX4_offerSetsOf 9 = .ok (.istore_n 3, 1) := by decide +kernel
theorem dX4_offerSetsOf_10 : decode cX4_offerSetsOf 10 = .ok (.iconst 0, 1) := by decide +kernel
theorem dX4_offerSetsOf_11 : decode cX4_offerSetsOf 11 = .ok (.istore 4, 2) := by decide +kernel
theorem dX4_offerSetsOf_13 : decode cX4_offerSetsOf 13 = .ok (.iload 4, 2) := by decide +kernel
theorem dX4_offerSetsOf_15 : decode cX4_offerSetsOf 15 = .ok (.iload_n 3, 1) := by decide +kernel
theorem dX4_offerSetsOf_16 : decode cX4_offerSetsOf 16 = .ok (.if_icmp .ge 55, 3) := by decide +kernel
theorem dX4_offerSetsOf_19 : decode cX4_offerSetsOf 19 = .ok (.iload 4, 2) := by decide +kernel
theorem dX4_offerSetsOf_21 : decode cX4_offerSetsOf 21 = .ok (.invokestatic 163, 3) := by decide +kernel
theorem dX4_offerSetsOf_24 : decode cX4_offerSetsOf 24 = .ok (.iload_n 1, 1) := by decide +kernel
theorem dX4_offerSetsOf_25 : decode cX4_offerSetsOf 25 = .ok (.if_icmp .ne 40, 3) := by decide +kernel
theorem dX4_offerSetsOf_28 : decode cX4_offerSetsOf 28 = .ok (.aload_n 0, 1) := by decide +kernel
theorem dX4_offerSetsOf_29 : decode cX4_offerSetsOf 29 = .ok (.getfield 36, 3) := by decide +kernel
theorem dX4_offerSetsOf_32 : decode cX4_offerSetsOf 32 = .ok (.aload_n 0, 1) := by decide +kernel
theorem dX4_offerSetsOf_33 : decode cX4_offerSetsOf 33 = .ok (.getfield 33, 3) := by decide +kernel
theorem dX4_offerSetsOf_36 : decode cX4_offerSetsOf 36 = .ok (.invokevirtual 121, 3) := by decide +kernel
theorem dX4_offerSetsOf_39 : decode cX4_offerSetsOf 39 = .ok (.aload_n 0, 1) := by decide +kernel
theorem dX4_offerSetsOf_40 : decode cX4_offerSetsOf 40 = .ok (.getfield 36, 3) := by decide +kernel
theorem dX4_offerSetsOf_43 : decode cX4_offerSetsOf 43 = .ok (.iload 4, 2) := by decide +kernel
theorem dX4_offerSetsOf_45 : decode cX4_offerSetsOf 45 = .ok (.putfield 299, 3) := by decide +kernel
theorem dX4_offerSetsOf_48 : decode cX4_offerSetsOf 48 = .ok (.aload_n 0, 1) := by decide +kernel
theorem dX4_offerSetsOf_49 : decode cX4_offerSetsOf 49 = .ok (.getfield 70, 3) := by decide +kernel
theorem dX4_offerSetsOf_52 : decode cX4_offerSetsOf 52 = .ok (.iload 4, 2) := by decide +kernel
theorem dX4_offerSetsOf_54 : decode cX4_offerSetsOf 54 = .ok (.aload_n 0, 1) := by decide +kernel
theorem dX4_offerSetsOf_55 : decode cX4_offerSetsOf 55 = .ok (.getfield 36, 3) := by decide +kernel
theorem dX4_offerSetsOf_58 : decode cX4_offerSetsOf 58 = .ok (.iload_n 2, 1) := by decide +kernel
theorem dX4_offerSetsOf_59 : decode cX4_offerSetsOf 59 = .ok (.invokevirtual 197, 3) := by decide +kernel
theorem dX4_offerSetsOf_62 : decode cX4_offerSetsOf 62 = .ok (.invokevirtual 217, 3) := by decide +kernel
theorem dX4_offerSetsOf_65 : decode cX4_offerSetsOf 65 = .ok (.iinc 4 1, 3) := by decide +kernel
theorem dX4_offerSetsOf_68 : decode cX4_offerSetsOf 68 = .ok (.goto (-55), 3) := by decide +kernel
theorem dX4_offerSetsOf_71 : decode cX4_offerSetsOf 71 = .ok (.return_, 1) := by decide +kernel
theorem dX4_goesAsSeen_0 : decode cX4_goesAsSeen 0 = .ok (.iconst 0, 1) := by decide +kernel
theorem dX4_goesAsSeen_1 : decode cX4_goesAsSeen 1 = .ok (.istore_n 2, 1) := by decide +kernel
theorem dX4_goesAsSeen_2 : decode cX4_goesAsSeen 2 = .ok (.iload_n 2, 1) := by decide +kernel
theorem dX4_goesAsSeen_3 : decode cX4_goesAsSeen 3 = .ok (.aload_n 0, 1) := by decide +kernel
theorem dX4_goesAsSeen_4 : decode cX4_goesAsSeen 4 = .ok (.getfield 14, 3) := by decide +kernel
theorem dX4_goesAsSeen_7 : decode cX4_goesAsSeen 7 = .ok (.iload_n 1, 1) := by decide +kernel
theorem dX4_goesAsSeen_8 : decode cX4_goesAsSeen 8 = .ok (.iaload, 1) := by decide +kernel
theorem dX4_goesAsSeen_9 : decode cX4_goesAsSeen 9 = .ok (.if_icmp .ge 36, 3) := by decide +kernel
theorem dX4_goesAsSeen_12 : decode cX4_goesAsSeen 12 = .ok (.aload_n 0, 1) := by decide +kernel
theorem dX4_goesAsSeen_13 : decode cX4_goesAsSeen 13 = .ok (.getfield 36, 3) := by decide +kernel
theorem dX4_goesAsSeen_16 : decode cX4_goesAsSeen 16 = .ok (.aload_n 0, 1) := by decide +kernel
theorem dX4_goesAsSeen_17 : decode cX4_goesAsSeen 17 = .ok (.getfield 36, 3) := by decide +kernel
theorem dX4_goesAsSeen_20 : decode cX4_goesAsSeen 20 = .ok (.invokevirtual 203, 3) := by decide +kernel
theorem dX4_goesAsSeen_23 : decode cX4_goesAsSeen 23 = .ok (.invokevirtual 206, 3) := by decide +kernel
theorem dX4_goesAsSeen_26 : decode cX4_goesAsSeen 26 = .ok (.aload_n 0, 1) := by decide +kernel
theorem dX4_goesAsSeen_27 : decode cX4_goesAsSeen 27 = .ok (.getfield 11, 3) := by decide +kernel
theorem dX4_goesAsSeen_30 : decode cX4_goesAsSeen 30 = .ok (.iload_n 1, 1) := by decide +kernel
theorem dX4_goesAsSeen_31 : decode cX4_goesAsSeen 31 = .ok (.aaload, 1) := by decide +kernel
theorem dX4_goesAsSeen_32 : decode cX4_goesAsSeen 32 = .ok (.iload_n 2, 1) := by decide +kernel
theorem dX4_goesAsSeen_33 : decode cX4_goesAsSeen 33 = .ok (.iaload, 1) := by decide +kernel
theorem dX4_goesAsSeen_34 : decode cX4_goesAsSeen 34 = .ok (.if_icmp .eq 5, 3) := by decide +kernel
theorem dX4_goesAsSeen_37 : decode cX4_goesAsSeen 37 = .ok (.iconst 0, 1) := by decide +kernel
theorem dX4_goesAsSeen_38 : decode cX4_goesAsSeen 38 = .ok (.ireturn, 1) := by decide +kernel
theorem dX4_goesAsSeen_39 : decode cX4_goesAsSeen 39 = .ok (.iinc 2 1, 3) := by decide +kernel
theorem dX4_goesAsSeen_42 : decode cX4_goesAsSeen 42 = .ok (.goto (-40), 3) := by decide +kernel
theorem dX4_goesAsSeen_45 : decode cX4_goesAsSeen 45 = .ok (.iconst 1, 1) := by decide +kernel
theorem dX4_goesAsSeen_46 : decode cX4_goesAsSeen 46 = .ok (.ireturn, 1) := by decide +kernel
theorem dX4_kindsAsSeen_0 : decode cX4_kindsAsSeen 0 = .ok (.iconst 0, 1) := by decide +kernel
theorem dX4_kindsAsSeen_1 : decode cX4_kindsAsSeen 1 = .ok (.istore_n 3, 1) := by decide +kernel
theorem dX4_kindsAsSeen_2 : decode cX4_kindsAsSeen 2 = .ok (.iconst 0, 1) := by decide +kernel
theorem dX4_kindsAsSeen_3 : decode cX4_kindsAsSeen 3 = .ok (.istore 4, 2) := by decide +kernel
theorem dX4_kindsAsSeen_5 : decode cX4_kindsAsSeen 5 = .ok (.iload 4, 2) := by decide +kernel
theorem dX4_kindsAsSeen_7 : decode cX4_kindsAsSeen 7 = .ok (.bipush 6, 2) := by decide +kernel
theorem dX4_kindsAsSeen_9 : decode cX4_kindsAsSeen 9 = .ok (.if_icmp .ge 49, 3) := by decide +kernel
theorem dX4_kindsAsSeen_12 : decode cX4_kindsAsSeen 12 = .ok (.aload_n 0, 1) := by decide +kernel
theorem dX4_kindsAsSeen_13 : decode cX4_kindsAsSeen 13 = .ok (.getfield 36, 3) := by decide +kernel
theorem dX4_kindsAsSeen_16 : decode cX4_kindsAsSeen 16 = .ok (.aload_n 0, 1) := by decide +kernel
theorem dX4_kindsAsSeen_17 : decode cX4_kindsAsSeen 17 = .ok (.getfield 33, 3) := by decide +kernel
theorem dX4_kindsAsSeen_20 : decode cX4_kindsAsSeen 20 = .ok (.invokevirtual 121, 3) := by decide +kernel
theorem dX4_kindsAsSeen_23 : decode cX4_kindsAsSeen 23 = .ok (.aload_n 0, 1) := by decide +kernel
theorem dX4_kindsAsSeen_24 : decode cX4_kindsAsSeen 24 = .ok (.getfield 36, 3) := by decide +kernel
theorem dX4_kindsAsSeen_27 : decode cX4_kindsAsSeen 27 = .ok (.getfield 129, 3) := by decide +kernel
theorem dX4_kindsAsSeen_30 : decode cX4_kindsAsSeen 30 = .ok (.iload_n 1, 1) := by decide +kernel
theorem dX4_kindsAsSeen_31 : decode cX4_kindsAsSeen 31 = .ok (.aaload, 1) := by decide +kernel
theorem dX4_kindsAsSeen_32 : decode cX4_kindsAsSeen 32 = .ok (.iload 4, 2) := by decide +kernel
theorem dX4_kindsAsSeen_34 : decode cX4_kindsAsSeen 34 = .ok (.putfield 302, 3) := by decide +kernel
theorem dX4_kindsAsSeen_37 : decode cX4_kindsAsSeen 37 = .ok (.aload_n 0, 1) := by decide +kernel
theorem dX4_kindsAsSeen_38 : decode cX4_kindsAsSeen 38 = .ok (.iload_n 2, 1) := by decide +kernel
theorem dX4_kindsAsSeen_39 : decode cX4_kindsAsSeen 39 = .ok (.invokevirtual 233, 3) := by decide +kernel
theorem dX4_kindsAsSeen_42 : decode cX4_kindsAsSeen 42 = .ok (.ifCond .eq 10, 3) := by decide +kernel
theorem dX4_kindsAsSeen_45 : decode cX4_kindsAsSeen 45 = .ok (.iload_n 3, 1) := by decide +kernel
theorem dX4_kindsAsSeen_46 : decode cX4_kindsAsSeen 46 = .ok (.iconst 1, 1) := by decide +kernel
theorem dX4_kindsAsSeen_47 : decode cX4_kindsAsSeen 47 = .ok (.iload 4, 2) := by decide +kernel
theorem dX4_kindsAsSeen_49 : decode cX4_kindsAsSeen 49 = .ok (.ishl, 1) := by decide +kernel
theorem dX4_kindsAsSeen_50 : decode cX4_kindsAsSeen 50 = .ok (.ior, 1) := by decide +kernel
theorem dX4_kindsAsSeen_51 : decode cX4_kindsAsSeen 51 = .ok (.istore_n 3, 1) := by decide +kernel
theorem dX4_kindsAsSeen_52 : decode cX4_kindsAsSeen 52 = .ok (.iinc 4 1, 3) := by decide +kernel
theorem dX4_kindsAsSeen_55 : decode cX4_kindsAsSeen 55 = .ok (.goto (-50), 3) := by decide +kernel
theorem dX4_kindsAsSeen_58 : decode cX4_kindsAsSeen 58 = .ok (.iload_n 3, 1) := by decide +kernel
theorem dX4_kindsAsSeen_59 : decode cX4_kindsAsSeen 59 = .ok (.ireturn, 1) := by decide +kernel
theorem dX4_countAlike_0 : decode cX4_countAlike 0 = .ok (.aload_n 0, 1) := by decide +kernel
theorem dX4_countAlike_1 : decode cX4_countAlike 1 = .ok (.getfield 77, 3) := by decide +kernel
theorem dX4_countAlike_4 : decode cX4_countAlike 4 = .ok (.iconst 0, 1) := by decide +kernel
theorem dX4_countAlike_5 : decode cX4_countAlike 5 = .ok (.invokestatic 80, 3) := by decide +kernel
theorem dX4_countAlike_8 : decode cX4_countAlike 8 = .ok (.iconst 0, 1) := by decide +kernel
theorem dX4_countAlike_9 : decode cX4_countAlike 9 = .ok (.istore_n 3, 1) := by decide +kernel
theorem dX4_countAlike_10 : decode cX4_countAlike 10 = .ok (.iload_n 3, 1) := by decide +kernel
theorem dX4_countAlike_11 : decode cX4_countAlike 11 = .ok (.bipush 6, 2) := by decide +kernel
theorem dX4_countAlike_13 : decode cX4_countAlike 13 = .ok (.if_icmp .ge 101, 3) := by decide +kernel
theorem dX4_countAlike_16 : decode cX4_countAlike 16 = .ok (.iload_n 2, 1) := by decide +kernel
theorem dX4_countAlike_17 : decode cX4_countAlike 17 = .ok (.iload_n 3, 1) := by decide +kernel
theorem dX4_countAlike_18 : decode cX4_countAlike 18 = .ok (.ishr, 1) := by decide +kernel
theorem dX4_countAlike_19 : decode cX4_countAlike 19 = .ok (.iconst 1, 1) := by decide +kernel
theorem dX4_countAlike_20 : decode cX4_countAlike 20 = .ok (.iand, 1) := by decide +kernel
theorem dX4_countAlike_21 : decode cX4_countAlike 21 = .ok (.ifCond .ne 6, 3) := by decide +kernel
theorem dX4_countAlike_24 : decode cX4_countAlike 24 = .ok (.goto 84, 3) := by decide +kernel
theorem dX4_countAlike_27 : decode cX4_countAlike 27 = .ok (.aload_n 0, 1) := by decide +kernel
theorem dX4_countAlike_28 : decode cX4_countAlike 28 = .ok (.getfield 36, 3) := by decide +kernel
theorem dX4_countAlike_31 : decode cX4_countAlike 31 = .ok (.aload_n 0, 1) := by decide +kernel
theorem dX4_countAlike_32 : decode cX4_countAlike 32 = .ok (.getfield 33, 3) := by decide +kernel
theorem dX4_countAlike_35 : decode cX4_countAlike 35 = .ok (.invokevirtual 121, 3) := by decide +kernel
theorem dX4_countAlike_38 : decode cX4_countAlike 38 = .ok (.aload_n 0, 1) := by decide +kernel
theorem dX4_countAlike_39 : decode cX4_countAlike 39 = .ok (.getfield 36, 3) := by decide +kernel
theorem dX4_countAlike_42 : decode cX4_countAlike 42 = .ok (.getfield 129, 3) := by decide +kernel
theorem dX4_countAlike_45 : decode cX4_countAlike 45 = .ok (.iload_n 1, 1) := by decide +kernel
theorem dX4_countAlike_46 : decode cX4_countAlike 46 = .ok (.aaload, 1) := by decide +kernel
theorem dX4_countAlike_47 : decode cX4_countAlike 47 = .ok (.iload_n 3, 1) := by decide +kernel
theorem dX4_countAlike_48 : decode cX4_countAlike 48 = .ok (.putfield 302, 3) := by decide +kernel
theorem dX4_countAlike_51 : decode cX4_countAlike 51 = .ok (.iconst 0, 1) := by decide +kernel
theorem dX4_countAlike_52 : decode cX4_countAlike 52 = .ok (.istore 4, 2) := by decide +kernel
theorem dX4_countAlike_54 : decode cX4_countAlike 54 = .ok (.iload 4, 2) := by decide +kernel
theorem dX4_countAlike_56 : decode cX4_countAlike 56 = .ok (.bipush 20, 2) := by decide +kernel
theorem dX4_countAlike_58 : decode cX4_countAlike 58 = .ok (.if_icmp .ge 50, 3) := by decide +kernel
theorem dX4_countAlike_61 : decode cX4_countAlike 61 = .ok (.aload_n 0, 1) := by decide +kernel
theorem dX4_countAlike_62 : decode cX4_countAlike 62 = .ok (.getfield 36, 3) := by decide +kernel
theorem dX4_countAlike_65 : decode cX4_countAlike 65 = .ok (.aload_n 0, 1) := by decide +kernel
theorem dX4_countAlike_66 : decode cX4_countAlike 66 = .ok (.getfield 36, 3) := by decide +kernel
theorem dX4_countAlike_69 : decode cX4_countAlike 69 = .ok (.invokevirtual 203, 3) := by decide +kernel
theorem dX4_countAlike_72 : decode cX4_countAlike 72 = .ok (.invokevirtual 206, 3) := by decide +kernel
theorem dX4_countAlike_75 : decode cX4_countAlike 75 = .ok (.pop, 1) := by decide +kernel
theorem dX4_countAlike_76 : decode cX4_countAlike 76 = .ok (.aload_n 0, 1) := by decide +kernel
theorem dX4_countAlike_77 : decode cX4_countAlike 77 = .ok (.getfield 77, 3) := by decide +kernel
theorem dX4_countAlike_80 : decode cX4_countAlike 80 = .ok (.iload 4, 2) := by decide +kernel
theorem dX4_countAlike_82 : decode cX4_countAlike 82 = .ok (.iconst 3, 1) := by decide +kernel
theorem dX4_countAlike_83 : decode cX4_countAlike 83 = .ok (.imul, 1) := by decide +kernel
theorem dX4_countAlike_84 : decode cX4_countAlike 84 = .ok (.aload_n 0, 1) := by decide +kernel
theorem dX4_countAlike_85 : decode cX4_countAlike 85 = .ok (.getfield 36, 3) := by decide +kernel
theorem dX4_countAlike_88 : decode cX4_countAlike 88 = .ok (.getfield 129, 3) := by decide +kernel
theorem dX4_countAlike_91 : decode cX4_countAlike 91 = .ok (.iload_n 1, 1) := by decide +kernel
theorem dX4_countAlike_92 : decode cX4_countAlike 92 = .ok (.aaload, 1) := by decide +kernel
theorem dX4_countAlike_93 : decode cX4_countAlike 93 = .ok (.getfield 177, 3) := by decide +kernel
theorem dX4_countAlike_96 : decode cX4_countAlike 96 = .ok (.iadd, 1) := by decide +kernel
theorem dX4_countAlike_97 : decode cX4_countAlike 97 = .ok (.dup2, 1) := by decide +kernel
theorem dX4_countAlike_98 : decode cX4_countAlike 98 = .ok (.iaload, 1) := by decide +kernel
theorem dX4_countAlike_99 : decode cX4_countAlike 99 = .ok (.iconst 1, 1) := by decide +kernel
theorem dX4_countAlike_100 : decode cX4_countAlike 100 = .ok (.iadd, 1) := by decide +kernel
theorem dX4_countAlike_101 : decode cX4_countAlike 101 = .ok (.iastore, 1) := by decide +kernel
theorem dX4_countAlike_102 : decode cX4_countAlike 102 = .ok (.iinc 4 1, 3) := by decide +kernel
theorem dX4_countAlike_105 : decode cX4_countAlike 105 = .ok (.goto (-51), 3) := by decide +kernel
theorem dX4_countAlike_108 : decode cX4_countAlike 108 = .ok (.iinc 3 1, 3) := by decide +kernel
theorem dX4_countAlike_111 : decode cX4_countAlike 111 = .ok (.goto (-101), 3) := by decide +kernel
theorem dX4_countAlike_114 : decode cX4_countAlike 114 = .ok (.return_, 1) := by decide +kernel
theorem dX4_greatestPart_0 : decode cX4_greatestPart 0 = .ok (.iload_n 1, 1) := by decide +kernel
theorem dX4_greatestPart_1 : decode cX4_greatestPart 1 = .ok (.iconst 1, 1) := by decide +kernel
theorem dX4_greatestPart_2 : decode cX4_greatestPart 2 = .ok (.isub, 1) := by decide +kernel
theorem dX4_greatestPart_3 : decode cX4_greatestPart 3 = .ok (.iconst 3, 1) := by decide +kernel
theorem dX4_greatestPart_4 : decode cX4_greatestPart 4 = .ok (.imul, 1) := by decide +kernel
theorem dX4_greatestPart_5 : decode cX4_greatestPart 5 = .ok (.istore_n 2, 1) := by decide +kernel
theorem dX4_greatestPart_6 : decode cX4_greatestPart 6 = .ok (.aload_n 0, 1) := by decide +kernel
theorem dX4_greatestPart_7 : decode cX4_greatestPart 7 = .ok (.getfield 77, 3) := by decide +kernel
theorem dX4_greatestPart_10 : decode cX4_greatestPart 10 = .ok (.iload_n 2, 1) := by decide +kernel
theorem dX4_greatestPart_11 : decode cX4_greatestPart 11 = .ok (.iconst 0, 1) := by decide +kernel
theorem dX4_greatestPart_12 : decode cX4_greatestPart 12 = .ok (.iadd, 1) := by decide +kernel
theorem dX4_greatestPart_13 : decode cX4_greatestPart 13 = .ok (.iaload, 1) := by decide +kernel
theorem dX4_greatestPart_14 : decode cX4_greatestPart 14 = .ok (.aload_n 0, 1) := by decide +kernel
theorem dX4_greatestPart_15 : decode cX4_greatestPart 15 = .ok (.getfield 77, 3) := by decide +kernel
theorem dX4_greatestPart_18 : decode cX4_greatestPart 18 = .ok (.iload_n 2, 1) := by decide +kernel
theorem dX4_greatestPart_19 : decode cX4_greatestPart 19 = .ok (.iconst 1, 1) := by decide +kernel
theorem dX4_greatestPart_20 : decode cX4_greatestPart 20 = .ok (.iadd, 1) := by decide +kernel
theorem dX4_greatestPart_21 : decode cX4_greatestPart 21 = .ok (.iaload, 1) := by decide +kernel
theorem dX4_greatestPart_22 : decode cX4_greatestPart 22 = .ok (.aload_n 0, 1) := by decide +kernel
theorem dX4_greatestPart_23 : decode cX4_greatestPart 23 = .ok (.getfield 77, 3) := by decide +kernel
theorem dX4_greatestPart_26 : decode cX4_greatestPart 26 = .ok (.iload_n 2, 1) := by decide +kernel
theorem dX4_greatestPart_27 : decode cX4_greatestPart 27 = .ok (.iconst 2, 1) := by decide +kernel
theorem dX4_greatestPart_28 : decode cX4_greatestPart 28 = .ok (.iadd, 1) := by decide +kernel
theorem dX4_greatestPart_29 : decode cX4_greatestPart 29 = .ok (.iaload, 1) := by decide +kernel
theorem dX4_greatestPart_30 : decode cX4_greatestPart 30 = .ok (.invokestatic 305, 3) := by decide +kernel
theorem dX4_greatestPart_33 : decode cX4_greatestPart 33 = .ok (.invokestatic 305, 3) := by decide +kernel
theorem dX4_greatestPart_36 : decode cX4_greatestPart 36 = .ok (.ireturn, 1) := by decide +kernel
theorem dX4_playFrom_0 : decode cX4_playFrom 0 = .ok (.iload_n 2, 1) := by decide +kernel
theorem dX4_playFrom_1 : decode cX4_playFrom 1 = .ok (.ifCond .gt 11, 3) := by decide +kernel
theorem dX4_playFrom_4 : decode cX4_playFrom 4 = .ok (.aload_n 0, 1) := by decide +kernel
theorem dX4_playFrom_5 : decode cX4_playFrom 5 = .ok (.iload_n 1, 1) := by decide +kernel
theorem dX4_playFrom_6 : decode cX4_playFrom 6 = .ok (.invokevirtual 310, 3) := by decide +kernel
theorem dX4_playFrom_9 : decode cX4_playFrom 9 = .ok (.goto 20, 3) := by decide +kernel
theorem dX4_playFrom_12 : decode cX4_playFrom 12 = .ok (.aload_n 0, 1) := by decide +kernel
theorem dX4_playFrom_13 : decode cX4_playFrom 13 = .ok (.iload_n 1, 1) := by decide +kernel
theorem dX4_playFrom_14 : decode cX4_playFrom 14 = .ok (.iload_n 2, 1) := by decide +kernel
theorem dX4_playFrom_15 : decode cX4_playFrom 15 = .ok (.iconst 1, 1) := by decide +kernel
theorem dX4_playFrom_16 : decode cX4_playFrom 16 = .ok (.isub, 1) := by decide +kernel
theorem dX4_playFrom_17 : decode cX4_playFrom 17 = .ok (.iload_n 3, 1) := by decide +kernel
theorem dX4_playFrom_18 : decode cX4_playFrom 18 = .ok (.ifCond .ne 7, 3) := by decide +kernel
theorem dX4_playFrom_21 : decode cX4_playFrom 21 = .ok (.iconst 1, 1) := by decide +kernel
theorem dX4_playFrom_22 : decode cX4_playFrom 22 = .ok (.goto 4, 3) := by decide +kernel
theorem dX4_playFrom_25 : decode cX4_playFrom 25 = .ok (.iconst 0, 1) := by decide +kernel
theorem dX4_playFrom_26 : decode cX4_playFrom 26 = .ok (.invokevirtual 245, 3) := by decide +kernel
theorem dX4_playFrom_29 : decode cX4_playFrom 29 = .ok (.istore 4, 2) := by decide +kernel
theorem dX4_playFrom_31 : decode cX4_playFrom 31 = .ok (.iconst 0, 1) := by decide +kernel
theorem dX4_playFrom_32 : decode cX4_playFrom 32 = .ok (.istore 5, 2) := by decide +kernel
theorem dX4_playFrom_34 : decode cX4_playFrom 34 = .ok (.iload 5, 2) := by decide +kernel
theorem dX4_playFrom_36 : decode cX4_playFrom 36 = .ok (.bipush 8, 2) := by decide +kernel
theorem dX4_playFrom_38 : decode cX4_playFrom 38 = .ok (.if_icmp .ge 83, 3) := by decide +kernel
theorem dX4_playFrom_41 : decode cX4_playFrom 41 = .ok (.iload_n 2, 1) := by decide +kernel
theorem dX4_playFrom_42 : decode cX4_playFrom 42 = .ok (.ifCond .le 79, 3) := by decide +kernel
theorem dX4_playFrom_45 : decode cX4_playFrom 45 = .ok (.iload_n 1, 1) := by decide +kernel
theorem dX4_playFrom_46 : decode cX4_playFrom 46 = .ok (.iload 5, 2) := by decide +kernel
theorem dX4_playFrom_48 : decode cX4_playFrom 48 = .ok (.ishr, 1) := by decide +kernel
theorem dX4_playFrom_49 : decode cX4_playFrom 49 = .ok (.iconst 1, 1) := by decide +kernel
theorem dX4_playFrom_50 : decode cX4_playFrom 50 = .ok (.iand, 1) := by decide +kernel
theorem dX4_playFrom_51 : decode cX4_playFrom 51 = .ok (.iconst 1, 1) := by decide +kernel
theorem dX4_playFrom_52 : decode cX4_playFrom 52 = .ok (.if_icmp .ne 7, 3) := by decide +kernel
theorem dX4_playFrom_55 : decode cX4_playFrom 55 = .ok (.iconst 1, 1) := by decide +kernel
theorem dX4_playFrom_56 : decode cX4_playFrom 56 = .ok (.goto 4, 3) := by decide +kernel
theorem dX4_playFrom_59 : decode cX4_playFrom 59 = .ok (.iconst 0, 1) := by decide +kernel
theorem dX4_playFrom_60 : decode cX4_playFrom 60 = .ok (.istore 6, 2) := by decide +kernel
theorem dX4_playFrom_62 : decode cX4_playFrom 62 = .ok (.iload 6, 2) := by decide +kernel
theorem dX4_playFrom_64 : decode cX4_playFrom 64 = .ok (.iload_n 3, 1) := by decide +kernel
theorem dX4_playFrom_65 : decode cX4_playFrom 65 = .ok (.if_icmp .ne 50, 3) := by decide +kernel
theorem dX4_playFrom_68 : decode cX4_playFrom 68 = .ok (.aload_n 0, 1) := by decide +kernel
theorem dX4_playFrom_69 : decode cX4_playFrom 69 = .ok (.iload_n 1, 1) := by decide +kernel
theorem dX4_playFrom_70 : decode cX4_playFrom 70 = .ok (.iconst 1, 1) := by decide +kernel
theorem dX4_playFrom_71 : decode cX4_playFrom 71 = .ok (.iload 5, 2) := by decide +kernel
theorem dX4_playFrom_73 : decode cX4_playFrom 73 = .ok (.ishl, 1) := by decide +kernel
theorem dX4_playFrom_74 : decode cX4_playFrom 74 = .ok (.ixor, 1) := by decide +kernel
theorem dX4_playFrom_75 : decode cX4_playFrom 75 = .ok (.iload_n 2, 1) := by decide +kernel
theorem dX4_playFrom_76 : decode cX4_playFrom 76 = .ok (.iconst 1, 1) := by decide +kernel
theorem dX4_playFrom_77 : decode cX4_playFrom 77 = .ok (.isub, 1) := by decide +kernel
theorem dX4_playFrom_78 : decode cX4_playFrom 78 = .ok (.iload_n 3, 1) := by decide +kernel
theorem dX4_playFrom_79 : decode cX4_playFrom 79 = .ok (.ifCond .ne 7, 3) := by decide +kernel
theorem dX4_playFrom_82 : decode cX4_playFrom 82 = .ok (.iconst 1, 1) := by decide +kernel
theorem dX4_playFrom_83 : decode cX4_playFrom 83 = .ok (.goto 4, 3) := by decide +kernel
theorem dX4_playFrom_86 : decode cX4_playFrom 86 = .ok (.iconst 0, 1) := by decide +kernel
theorem dX4_playFrom_87 : decode cX4_playFrom 87 = .ok (.invokevirtual 245, 3) := by decide +kernel
theorem dX4_playFrom_90 : decode cX4_playFrom 90 = .ok (.istore 7, 2) := by decide +kernel
theorem dX4_playFrom_92 : decode cX4_playFrom 92 = .ok (.iload_n 3, 1) := by decide +kernel
theorem dX4_playFrom_93 : decode cX4_playFrom 93 = .ok (.ifCond .eq 13, 3) := by decide +kernel
theorem dX4_playFrom_96 : decode cX4_playFrom 96 = .ok (.iload 4, 2) := by decide +kernel
theorem dX4_playFrom_98 : decode cX4_playFrom 98 = .ok (.iload 7, 2) := by decide +kernel
theorem dX4_playFrom_100 : decode cX4_playFrom 100 = .ok (.invokestatic 313, 3) := by decide +kernel
theorem dX4_playFrom_103 : decode cX4_playFrom 103 = .ok (.goto 10, 3) := by decide +kernel
theorem dX4_playFrom_106 : decode cX4_playFrom 106 = .ok (.iload 4, 2) := by decide +kernel
theorem dX4_playFrom_108 : decode cX4_playFrom 108 = .ok (.iload 7, 2) := by decide +kernel
theorem dX4_playFrom_110 : decode cX4_playFrom 110 = .ok (.invokestatic 305, 3) := by decide +kernel
theorem dX4_playFrom_113 : decode cX4_playFrom 113 = .ok (.istore 4, 2) := by decide +kernel
theorem dX4_playFrom_115 : decode cX4_playFrom 115 = .ok (.iinc 5 1, 3) := by decide +kernel
theorem dX4_playFrom_118 : decode cX4_playFrom 118 = .ok (.goto (-84), 3) := by decide +kernel
theorem dX4_playFrom_121 : decode cX4_playFrom 121 = .ok (.iload 4, 2) := by decide +kernel
theorem dX4_playFrom_123 : decode cX4_playFrom 123 = .ok (.ireturn, 1) := by decide +kernel
theorem dX4_duelEnd_0 : decode cX4_duelEnd 0 = .ok (.aload_n 0, 1) := by decide +kernel
theorem dX4_duelEnd_1 : decode cX4_duelEnd 1 = .ok (.getfield 74, 3) := by decide +kernel
theorem dX4_duelEnd_4 : decode cX4_duelEnd 4 = .ok (.iload_n 1, 1) := by decide +kernel
theorem dX4_duelEnd_5 : decode cX4_duelEnd 5 = .ok (.iaload, 1) := by decide +kernel
theorem dX4_duelEnd_6 : decode cX4_duelEnd 6 = .ok (.iconst (-1), 1) := by decide +kernel
theorem dX4_duelEnd_7 : decode cX4_duelEnd 7 = .ok (.if_icmp .ne 37, 3) := by decide +kernel
theorem dX4_duelEnd_10 : decode cX4_duelEnd 10 = .ok (.aload_n 0, 1) := by decide +kernel
theorem dX4_duelEnd_11 : decode cX4_duelEnd 11 = .ok (.getfield 36, 3) := by decide +kernel
theorem dX4_duelEnd_14 : decode cX4_duelEnd 14 = .ok (.aload_n 0, 1) := by decide +kernel
theorem dX4_duelEnd_15 : decode cX4_duelEnd 15 = .ok (.getfield 33, 3) := by decide +kernel
theorem dX4_duelEnd_18 : decode cX4_duelEnd 18 = .ok (.invokevirtual 121, 3) := by decide +kernel
theorem dX4_duelEnd_21 : decode cX4_duelEnd 21 = .ok (.aload_n 0, 1) := by decide +kernel
theorem dX4_duelEnd_22 : decode cX4_duelEnd 22 = .ok (.getfield 36, 3) := by decide +kernel
theorem dX4_duelEnd_25 : decode cX4_duelEnd 25 = .ok (.iload_n 1, 1) := by decide +kernel
theorem dX4_duelEnd_26 : decode cX4_duelEnd 26 = .ok (.putfield 160, 3) := by decide +kernel
theorem dX4_duelEnd_29 : decode cX4_duelEnd 29 = .ok (.aload_n 0, 1) := by decide +kernel
theorem dX4_duelEnd_30 : decode cX4_duelEnd 30 = .ok (.getfield 74, 3) := by decide +kernel
theorem dX4_duelEnd_33 : decode cX4_duelEnd 33 = .ok (.iload_n 1, 1) := by decide +kernel
theorem dX4_duelEnd_34 : decode cX4_duelEnd 34 = .ok (.aload_n 0, 1) := by decide +kernel
theorem dX4_duelEnd_35 : decode cX4_duelEnd 35 = .ok (.getfield 36, 3) := by decide +kernel
theorem dX4_duelEnd_38 : decode cX4_duelEnd 38 = .ok (.bipush 8, 2) := by decide +kernel
theorem dX4_duelEnd_40 : decode cX4_duelEnd 40 = .ok (.invokevirtual 197, 3) := by decide +kernel
theorem dX4_duelEnd_43 : decode cX4_duelEnd 43 = .ok (.iastore, 1) := by decide +kernel
theorem dX4_duelEnd_44 : decode cX4_duelEnd 44 = .ok (.aload_n 0, 1) := by decide +kernel
theorem dX4_duelEnd_45 : decode cX4_duelEnd 45 = .ok (.getfield 74, 3) := by decide +kernel
theorem dX4_duelEnd_48 : decode cX4_duelEnd 48 = .ok (.iload_n 1, 1) := by decide +kernel
theorem dX4_duelEnd_49 : decode cX4_duelEnd 49 = .ok (.iaload, 1) := by decide +kernel
theorem dX4_duelEnd_50 : decode cX4_duelEnd 50 = .ok (.ireturn, 1) := by decide +kernel
theorem dX4_answeredWithDowns_0 : decode cX4_answeredWithDowns 0 = .ok (.aload_n 0, 1) := by decide +kernel
theorem dX4_answeredWithDowns_1 : decode cX4_answeredWithDowns 1 = .ok (.getfield 36, 3) := by decide +kernel
theorem dX4_answeredWithDowns_4 : decode cX4_answeredWithDowns 4 = .ok (.aload_n 0, 1) := by decide +kernel
theorem dX4_answeredWithDowns_5 : decode cX4_answeredWithDowns 5 = .ok (.getfield 33, 3) := by decide +kernel
theorem dX4_answeredWithDowns_8 : decode cX4_answeredWithDowns 8 = .ok (.invokevirtual 121, 3) := by decide +kernel
theorem dX4_answeredWithDowns_11 : decode cX4_answeredWithDowns 11 = .ok (.iconst 0, 1) := by decide +kernel
theorem dX4_answeredWithDowns_12 : decode cX4_answeredWithDowns 12 = .ok (.istore_n 2, 1) := by decide +kernel
theorem dX4_answeredWithDowns_13 : decode cX4_answeredWithDowns 13 = .ok (.iconst 0, 1) := by decide +kernel
theorem dX4_answeredWithDowns_14 : decode cX4_answeredWithDowns 14 = .ok (.istore_n 3, 1) := by decide +kernel
theorem dX4_answeredWithDowns_15 : decode cX4_answeredWithDowns 15 = .ok (.iload_n 3, 1) := by decide +kernel
theorem dX4_answeredWithDowns_16 : decode cX4_answeredWithDowns 16 = .ok (.bipush 6, 2) := by decide +kernel
theorem dX4_answeredWithDowns_18 : decode cX4_answeredWithDowns 18 = .ok (.if_icmp .ge 55, 3) := by decide +kernel
theorem dX4_answeredWithDowns_21 : decode cX4_answeredWithDowns 21 = .ok (.iload_n 1, 1) := by decide +kernel
theorem dX4_answeredWithDowns_22 : decode cX4_answeredWithDowns 22 = .ok (.iload_n 3, 1) := by decide +kernel
theorem dX4_answeredWithDowns_23 : decode cX4_answeredWithDowns 23 = .ok (.ishr, 1) := by decide +kernel
theorem dX4_answeredWithDowns_24 : decode cX4_answeredWithDowns 24 = .ok (.iconst 1, 1) := by decide +kernel
theorem dX4_answeredWithDowns_25 : decode cX4_answeredWithDowns 25 = .ok (.iand, 1) := by decide +kernel
theorem dX4_answeredWithDowns_26 : decode cX4_answeredWithDowns 26 = .ok (.iconst 1, 1) := by decide +kernel
theorem dX4_answeredWithDowns_27 : decode cX4_answeredWithDowns 27 = .ok (.if_icmp .ne 7, 3) := by decide +kernel
theorem dX4_answeredWithDowns_30 : decode cX4_answeredWithDowns 30 = .ok (.iconst 1, 1) := by decide +kernel
theorem dX4_answeredWithDowns_31 : decode cX4_answeredWithDowns 31 = .ok (.goto 4, 3) := by decide +kernel
theorem dX4_answeredWithDowns_34 : decode cX4_answeredWithDowns 34 = .ok (.iconst 0, 1) := by decide +kernel
theorem dX4_answeredWithDowns_35 : decode cX4_answeredWithDowns 35 = .ok (.istore 4, 2) := by decide +kernel
theorem dX4_answeredWithDowns_37 : decode cX4_answeredWithDowns 37 = .ok (.iload_n 2, 1) := by decide +kernel
theorem dX4_answeredWithDowns_38 : decode cX4_answeredWithDowns 38 = .ok (.aload_n 0, 1) := by decide +kernel
theorem dX4_answeredWithDowns_39 : decode cX4_answeredWithDowns 39 = .ok (.getfield 36, 3) := by decide +kernel
theorem dX4_answeredWithDowns_42 : decode cX4_answeredWithDowns 42 = .ok (.iload 4, 2) := by decide +kernel
theorem dX4_answeredWithDowns_44 : decode cX4_answeredWithDowns 44 = .ok (.ifCond .ne 17, 3) := by decide +kernel
theorem dX4_answeredWithDowns_47 : decode cX4_answeredWithDowns 47 = .ok (.aload_n 0, 1) := by decide +kernel
theorem dX4_answeredWithDowns_48 : decode cX4_answeredWithDowns 48 = .ok (.getfield 36, 3) := by decide +kernel
theorem dX4_answeredWithDowns_51 : decode cX4_answeredWithDowns 51 = .ok (.invokevirtual 203, 3) := by decide +kernel
theorem dX4_answeredWithDowns_54 : decode cX4_answeredWithDowns 54 = .ok (.ifCond .eq 7, 3) := by decide +kernel
theorem dX4_answeredWithDowns_57 : decode cX4_answeredWithDowns 57 = .ok (.iconst 1, 1) := by decide +kernel
theorem dX4_answeredWithDowns_58 : decode cX4_answeredWithDowns 58 = .ok (.goto 4, 3) := by decide +kernel
theorem dX4_answeredWithDowns_61 : decode cX4_answeredWithDowns 61 = .ok (.iconst 0, 1) := by decide +kernel
theorem dX4_answeredWithDowns_62 : decode cX4_answeredWithDowns 62 = .ok (.invokevirtual 206, 3) := by decide +kernel
theorem dX4_answeredWithDowns_65 : decode cX4_answeredWithDowns 65 = .ok (.iadd, 1) := by decide +kernel
theorem dX4_answeredWithDowns_66 : decode cX4_answeredWithDowns 66 = .ok (.istore_n 2, 1) := by decide +kernel
theorem dX4_answeredWithDowns_67 : decode cX4_answeredWithDowns 67 = .ok (.iinc 3 1, 3) := by decide +kernel
theorem dX4_answeredWithDowns_70 : decode cX4_answeredWithDowns 70 = .ok (.goto (-55), 3) := by decide +kernel
theorem dX4_answeredWithDowns_73 : decode cX4_answeredWithDowns 73 = .ok (.iload_n 2, 1) := by decide +kernel
theorem dX4_answeredWithDowns_74 : decode cX4_answeredWithDowns 74 = .ok (.ireturn, 1) := by decide +kernel
theorem dX4_weightOfDowns_0 : decode cX4_weightOfDowns 0 = .ok (.lconst 1, 1) := by decide +kernel
theorem dX4_weightOfDowns_1 : decode cX4_weightOfDowns 1 = .ok (.lstore_n 2, 1) := by decide +kernel
theorem dX4_weightOfDowns_2 : decode cX4_weightOfDowns 2 = .ok (.iconst 0, 1) := by decide +kernel
theorem dX4_weightOfDowns_3 : decode cX4_weightOfDowns 3 = .ok (.istore 4, 2) := by decide +kernel
theorem dX4_weightOfDowns_5 : decode cX4_weightOfDowns 5 = .ok (.iload 4, 2) := by decide +kernel
theorem dX4_weightOfDowns_7 : decode cX4_weightOfDowns 7 = .ok (.bipush 6, 2) := by decide +kernel
theorem dX4_weightOfDowns_9 : decode cX4_weightOfDowns 9 = .ok (.if_icmp .ge 44, 3) := by decide +kernel
theorem dX4_weightOfDowns_12 : decode cX4_weightOfDowns 12 = .ok (.iload_n 0, 1) := by decide +kernel
theorem dX4_weightOfDowns_13 : decode cX4_weightOfDowns 13 = .ok (.iload 4, 2) := by decide +kernel
theorem dX4_weightOfDowns_15 : decode cX4_weightOfDowns 15 = .ok (.ishr, 1) := by decide +kernel
theorem dX4_weightOfDowns_16 : decode cX4_weightOfDowns 16 = .ok (.iconst 1, 1) := by decide +kernel
theorem dX4_weightOfDowns_17 : decode cX4_weightOfDowns 17 = .ok (.iand, 1) := by decide +kernel
theorem dX4_weightOfDowns_18 : decode cX4_weightOfDowns 18 = .ok (.iconst 1, 1) := by decide +kernel
theorem dX4_weightOfDowns_19 : decode cX4_weightOfDowns 19 = .ok (.if_icmp .ne 7, 3) := by decide +kernel
theorem dX4_weightOfDowns_22 : decode cX4_weightOfDowns 22 = .ok (.iconst 1, 1) := by decide +kernel
theorem dX4_weightOfDowns_23 : decode cX4_weightOfDowns 23 = .ok (.goto 4, 3) := by decide +kernel
theorem dX4_weightOfDowns_26 : decode cX4_weightOfDowns 26 = .ok (.iconst 0, 1) := by decide +kernel
theorem dX4_weightOfDowns_27 : decode cX4_weightOfDowns 27 = .ok (.istore 5, 2) := by decide +kernel
theorem dX4_weightOfDowns_29 : decode cX4_weightOfDowns 29 = .ok (.lload_n 2, 1) := by decide +kernel
theorem dX4_weightOfDowns_30 : decode cX4_weightOfDowns 30 = .ok (.iload 5, 2) := by decide +kernel
theorem dX4_weightOfDowns_32 : decode cX4_weightOfDowns 32 = .ok (.ifCond .eq 8, 3) := by decide +kernel
theorem dX4_weightOfDowns_35 : decode cX4_weightOfDowns 35 = .ok (.iload_n 1, 1) := by decide +kernel
theorem dX4_weightOfDowns_36 : decode cX4_weightOfDowns 36 = .ok (.i2l, 1) := by decide +kernel
theorem dX4_weightOfDowns_37 : decode cX4_weightOfDowns 37 = .ok (.goto 8, 3) := by decide +kernel
theorem dX4_weightOfDowns_40 : decode cX4_weightOfDowns 40 = .ok (.bipush 12, 2) := by decide +kernel
theorem dX4_weightOfDowns_42 : decode cX4_weightOfDowns 42 = .ok (.iload_n 1, 1) := by decide +kernel
theorem dX4_weightOfDowns_43 : decode cX4_weightOfDowns 43 = .ok (.isub, 1) := by decide +kernel
theorem dX4_weightOfDowns_44 : decode cX4_weightOfDowns 44 = .ok (.i2l, 1) := by decide +kernel
theorem dX4_weightOfDowns_45 : decode cX4_weightOfDowns 45 = .ok (.lmul, 1) := by decide +kernel
theorem dX4_weightOfDowns_46 : decode cX4_weightOfDowns 46 = .ok (.lstore_n 2, 1) := by decide +kernel
theorem dX4_weightOfDowns_47 : decode cX4_weightOfDowns 47 = .ok (.iinc 4 1, 3) := by decide +kernel
theorem dX4_weightOfDowns_50 : decode cX4_weightOfDowns 50 = .ok (.goto (-45), 3) := by decide +kernel
theorem dX4_weightOfDowns_53 : decode cX4_weightOfDowns 53 = .ok (.lload_n 2, 1) := by decide +kernel
theorem dX4_weightOfDowns_54 : decode cX4_weightOfDowns 54 = .ok (.lreturn, 1) := by decide +kernel
theorem dX4_tellFraction_0 : decode cX4_tellFraction 0 = .ok (.lconst 1, 1) := by decide +kernel
theorem dX4_tellFraction_1 : decode cX4_tellFraction 1 = .ok (.lstore_n 3, 1) := by decide +kernel
theorem dX4_tellFraction_2 : decode cX4_tellFraction 2 = .ok (.iconst 0, 1) := by decide +kernel
theorem dX4_tellFraction_3 : decode cX4_tellFraction 3 = .ok (.istore 5, 2) := by decide +kernel
theorem dX4_tellFraction_5 : decode cX4_tellFraction 5 = .ok (.iload 5, 2) := by decide +kernel
theorem dX4_tellFraction_7 : decode cX4_tellFraction 7 = .ok (.bipush 6, 2) := by decide +kernel
theorem dX4_tellFraction_9 : decode cX4_tellFraction 9 = .ok (.if_icmp .ge 15, 3) := by decide +kernel
theorem dX4_tellFraction_12 : decode cX4_tellFraction 12 = .ok (.lload_n 3, 1) := by decide +kernel
theorem dX4_tellFraction_13 : decode cX4_tellFraction 13 = .ok (.ldc2_w 316, 3) := by decide +kernel
theorem dX4_tellFraction_16 : decode cX4_tellFraction 16 = .ok (.lmul, 1) := by decide +kernel
theorem dX4_tellFraction_17 : decode cX4_tellFraction 17 = .ok (.lstore_n 3, 1) := by decide +kernel
theorem dX4_tellFraction_18 : decode cX4_tellFraction 18 = .ok (.iinc 5 1, 3) := by decide +kernel
theorem dX4_tellFraction_21 : decode cX4_tellFraction 21 = .ok (.goto (-16), 3) := by decide +kernel
theorem dX4_tellFraction_24 : decode cX4_tellFraction 24 = .ok (.lload_n 3, 1) := by decide +kernel
theorem dX4_tellFraction_25 : decode cX4_tellFraction 25 = .ok (.lload_n 1, 1) := by decide +kernel
theorem dX4_tellFraction_26 : decode cX4_tellFraction 26 = .ok (.invokestatic 318, 3) := by decide +kernel
theorem dX4_tellFraction_29 : decode cX4_tellFraction 29 = .ok (.lstore 5, 2) := by decide +kernel
theorem dX4_tellFraction_31 : decode cX4_tellFraction 31 = .ok (.aload_n 0, 1) := by decide +kernel
theorem dX4_tellFraction_32 : decode cX4_tellFraction 32 = .ok (.lload_n 1, 1) := by decide +kernel
theorem dX4_tellFraction_33 : decode cX4_tellFraction 33 = .ok (.lload 5, 2) := by decide +kernel
theorem dX4_tellFraction_35 : decode cX4_tellFraction 35 = .ok (.ldiv, 1) := by decide +kernel
theorem dX4_tellFraction_36 : decode cX4_tellFraction 36 = .ok (.putfield 54, 3) := by decide +kernel
theorem dX4_tellFraction_39 : decode cX4_tellFraction 39 = .ok (.aload_n 0, 1) := by decide +kernel
theorem dX4_tellFraction_40 : decode cX4_tellFraction 40 = .ok (.lload_n 3, 1) := by decide +kernel
theorem dX4_tellFraction_41 : decode cX4_tellFraction 41 = .ok (.lload 5, 2) := by decide +kernel
theorem dX4_tellFraction_43 : decode cX4_tellFraction 43 = .ok (.ldiv, 1) := by decide +kernel
theorem dX4_tellFraction_44 : decode cX4_tellFraction 44 = .ok (.putfield 58, 3) := by decide +kernel
theorem dX4_tellFraction_47 : decode cX4_tellFraction 47 = .ok (.return_, 1) := by decide +kernel
theorem dX4_commonDivisor_0 : decode cX4_commonDivisor 0 = .ok (.lload_n 0, 1) := by decide +kernel
theorem dX4_commonDivisor_1 : decode cX4_commonDivisor 1 = .ok (.lstore 4, 2) := by decide +kernel
theorem dX4_commonDivisor_3 : decode cX4_commonDivisor 3 = .ok (.lload_n 2, 1) := by decide +kernel
theorem dX4_commonDivisor_4 : decode cX4_commonDivisor 4 = .ok (.lstore 6, 2) := by decide +kernel
theorem dX4_commonDivisor_6 : decode cX4_commonDivisor 6 = .ok (.iconst 0, 1) := by decide +kernel
theorem dX4_commonDivisor_7 : decode cX4_commonDivisor 7 = .ok (.istore 8, 2) := by decide +kernel
theorem dX4_commonDivisor_9 : decode cX4_commonDivisor 9 = .ok (.iload 8, 2) := by decide +kernel
theorem dX4_commonDivisor_11 : decode cX4_commonDivisor 11 = .ok (.sipush 128, 3) := by decide +kernel
theorem dX4_commonDivisor_14 : decode cX4_commonDivisor 14 = .ok (.if_icmp .ge 31, 3) := by decide +kernel
theorem dX4_commonDivisor_17 : decode cX4_commonDivisor 17 = .ok (.lload 6, 2) := by decide +kernel
theorem dX4_commonDivisor_19 : decode cX4_commonDivisor 19 = .ok (.lconst 0, 1) := by decide +kernel
theorem dX4_commonDivisor_20 : decode cX4_commonDivisor 20 = .ok (.lcmp, 1) := by decide +kernel
theorem dX4_commonDivisor_21 : decode cX4_commonDivisor 21 = .ok (.ifCond .le 24, 3) := by decide +kernel
theorem dX4_commonDivisor_24 : decode cX4_commonDivisor 24 = .ok (.lload 4, 2) := by decide +kernel
theorem dX4_commonDivisor_26 : decode cX4_commonDivisor 26 = .ok (.lload 6, 2) := by decide +kernel
theorem dX4_commonDivisor_28 : decode cX4_commonDivisor 28 = .ok (.lrem, 1) := by decide +kernel
theorem dX4_commonDivisor_29 : decode cX4_commonDivisor 29 = .ok (.lstore 9, 2) := by decide +kernel
theorem dX4_commonDivisor_31 : decode cX4_commonDivisor 31 = .ok (.lload 6, 2) := by decide +kernel
theorem dX4_commonDivisor_33 : decode cX4_commonDivisor 33 = .ok (.lstore 4, 2) := by decide +kernel
theorem dX4_commonDivisor_35 : decode cX4_commonDivisor 35 = .ok (.lload 9, 2) := by decide +kernel
theorem dX4_commonDivisor_37 : decode cX4_commonDivisor 37 = .ok (.lstore 6, 2) := by decide +kernel
theorem dX4_commonDivisor_39 : decode cX4_commonDivisor 39 = .ok (.iinc 8 1, 3) := by decide +kernel
theorem dX4_commonDivisor_42 : decode cX4_commonDivisor 42 = .ok (.goto (-33), 3) := by decide +kernel
theorem dX4_commonDivisor_45 : decode cX4_commonDivisor 45 = .ok (.lconst 1, 1) := by decide +kernel
theorem dX4_commonDivisor_46 : decode cX4_commonDivisor 46 = .ok (.lload 4, 2) := by decide +kernel
theorem dX4_commonDivisor_48 : decode cX4_commonDivisor 48 = .ok (.invokestatic 322, 3) := by decide +kernel
theorem dX4_commonDivisor_51 : decode cX4_commonDivisor 51 = .ok (.lreturn, 1) := by decide +kernel
theorem dX4_countOf_0 : decode cX4_countOf 0 = .ok (.iload_n 1, 1) := by decide +kernel
theorem dX4_countOf_1 : decode cX4_countOf 1 = .ok (.tableswitch 170 0 12 #[67, 75, 83, 91, 99, 107, 115, 123, 131, 139, 147, 152, 161], 67) := by decide +kernel
theorem dX4_countOf_68 : decode cX4_countOf 68 = .ok (.aload_n 0, 1) := by decide +kernel
theorem dX4_countOf_69 : decode cX4_countOf 69 = .ok (.getfield 33, 3) := by decide +kernel
theorem dX4_countOf_72 : decode cX4_countOf 72 = .ok (.getfield 125, 3) := by decide +kernel
theorem dX4_countOf_75 : decode cX4_countOf 75 = .ok (.ireturn, 1) := by decide +kernel
theorem dX4_countOf_76 : decode cX4_countOf 76 = .ok (.aload_n 0, 1) := by decide +kernel
theorem dX4_countOf_77 : decode cX4_countOf 77 = .ok (.getfield 33, 3) := by decide +kernel
theorem dX4_countOf_80 : decode cX4_countOf 80 = .ok (.getfield 141, 3) := by decide +kernel
theorem dX4_countOf_83 : decode cX4_countOf 83 = .ok (.ireturn, 1) := by decide +kernel
theorem dX4_countOf_84 : decode cX4_countOf 84 = .ok (.aload_n 0, 1) := by decide +kernel
theorem dX4_countOf_85 : decode cX4_countOf 85 = .ok (.getfield 42, 3) := by decide +kernel
theorem dX4_countOf_88 : decode cX4_countOf 88 = .ok (.getfield 86, 3) := by decide +kernel
theorem dX4_countOf_91 : decode cX4_countOf 91 = .ok (.ireturn, 1) := by decide +kernel
theorem dX4_countOf_92 : decode cX4_countOf 92 = .ok (.aload_n 0, 1) := by decide +kernel
theorem dX4_countOf_93 : decode cX4_countOf 93 = .ok (.getfield 33, 3) := by decide +kernel
theorem dX4_countOf_96 : decode cX4_countOf 96 = .ok (.getfield 153, 3) := by decide +kernel
theorem dX4_countOf_99 : decode cX4_countOf 99 = .ok (.ireturn, 1) := by decide +kernel
theorem dX4_countOf_100 : decode cX4_countOf 100 = .ok (.aload_n 0, 1) := by decide +kernel
theorem dX4_countOf_101 : decode cX4_countOf 101 = .ok (.getfield 33, 3) := by decide +kernel
theorem dX4_countOf_104 : decode cX4_countOf 104 = .ok (.getfield 324, 3) := by decide +kernel
theorem dX4_countOf_107 : decode cX4_countOf 107 = .ok (.ireturn, 1) := by decide +kernel
theorem dX4_countOf_108 : decode cX4_countOf 108 = .ok (.aload_n 0, 1) := by decide +kernel
theorem dX4_countOf_109 : decode cX4_countOf 109 = .ok (.getfield 33, 3) := by decide +kernel
theorem dX4_countOf_112 : decode cX4_countOf 112 = .ok (.getfield 160, 3) := by decide +kernel
theorem dX4_countOf_115 : decode cX4_countOf 115 = .ok (.ireturn, 1) := by decide +kernel
theorem dX4_countOf_116 : decode cX4_countOf 116 = .ok (.aload_n 0, 1) := by decide +kernel
theorem dX4_countOf_117 : decode cX4_countOf 117 = .ok (.getfield 33, 3) := by decide +kernel
theorem dX4_countOf_120 : decode cX4_countOf 120 = .ok (.getfield 171, 3) := by decide +kernel
theorem dX4_countOf_123 : decode cX4_countOf 123 = .ok (.ireturn, 1) := by decide +kernel
theorem dX4_countOf_124 : decode cX4_countOf 124 = .ok (.aload_n 0, 1) := by decide +kernel
theorem dX4_countOf_125 : decode cX4_countOf 125 = .ok (.getfield 33, 3) := by decide +kernel
theorem dX4_countOf_128 : decode cX4_countOf 128 = .ok (.invokevirtual 327, 3) := by decide +kernel
theorem dX4_countOf_131 : decode cX4_countOf 131 = .ok (.ireturn, 1) := by decide +kernel
theorem dX4_countOf_132 : decode cX4_countOf 132 = .ok (.aload_n 0, 1) := by decide +kernel
theorem dX4_countOf_133 : decode cX4_countOf 133 = .ok (.getfield 14, 3) := by decide +kernel
theorem dX4_countOf_136 : decode cX4_countOf 136 = .ok (.invokestatic 330, 3) := by decide +kernel
theorem dX4_countOf_139 : decode cX4_countOf 139 = .ok (.ireturn, 1) := by decide +kernel
theorem dX4_countOf_140 : decode cX4_countOf 140 = .ok (.aload_n 0, 1) := by decide +kernel
theorem dX4_countOf_141 : decode cX4_countOf 141 = .ok (.getfield 23, 3) := by decide +kernel
theorem dX4_countOf_144 : decode cX4_countOf 144 = .ok (.invokestatic 330, 3) := by decide +kernel
theorem dX4_countOf_147 : decode cX4_countOf 147 = .ok (.ireturn, 1) := by decide +kernel
theorem dX4_countOf_148 : decode cX4_countOf 148 = .ok (.aload_n 0, 1) := by decide +kernel
theorem dX4_countOf_149 : decode cX4_countOf 149 = .ok (.invokevirtual 334, 3) := by decide +kernel
theorem dX4_countOf_152 : decode cX4_countOf 152 = .ok (.ireturn, 1) := by decide +kernel
theorem dX4_countOf_153 : decode cX4_countOf 153 = .ok (.aload_n 0, 1) := by decide +kernel
theorem dX4_countOf_154 : decode cX4_countOf 154 = .ok (.getfield 33, 3) := by decide +kernel
theorem dX4_countOf_157 : decode cX4_countOf 157 = .ok (.iconst 1, 1) := by decide +kernel
theorem dX4_countOf_158 : decode cX4_countOf 158 = .ok (.invokevirtual 337, 3) := by decide +kernel
theorem dX4_countOf_161 : decode cX4_countOf 161 = .ok (.ireturn, 1) := by decide +kernel
theorem dX4_countOf_162 : decode cX4_countOf 162 = .ok (.aload_n 0, 1) := by decide +kernel
theorem dX4_countOf_163 : decode cX4_countOf 163 = .ok (.getfield 33, 3) := by decide +kernel
theorem dX4_countOf_166 : decode cX4_countOf 166 = .ok (.iconst 2, 1) := by decide +kernel
theorem dX4_countOf_167 : decode cX4_countOf 167 = .ok (.invokevirtual 337, 3) := by decide +kernel
theorem dX4_countOf_170 : decode cX4_countOf 170 = .ok (.ireturn, 1) := by decide +kernel
theorem dX4_countOf_171 : decode cX4_countOf 171 = .ok (.iconst 0, 1) := by decide +kernel
theorem dX4_countOf_172 : decode cX4_countOf 172 = .ok (.ireturn, 1) := by decide +kernel
theorem dX4_thereOf_0 : decode cX4_thereOf 0 = .ok (.iconst 0, 1) := by decide +kernel
theorem dX4_thereOf_1 : decode cX4_thereOf 1 = .ok (.istore_n 1, 1) := by decide +kernel
theorem dX4_thereOf_2 : decode cX4_thereOf 2 = .ok (.aload_n 0, 1) := by decide +kernel
theorem dX4_thereOf_3 : decode cX4_thereOf 3 = .ok (.astore_n 2, 1) := by decide +kernel
theorem dX4_thereOf_4 : decode cX4_thereOf 4 = .ok (.aload_n 2, 1) := by decide +kernel
theorem dX4_thereOf_5 : decode cX4_thereOf 5 = .ok (.arraylength, 1) := by decide +kernel
theorem dX4_thereOf_6 : decode cX4_thereOf 6 = .ok (.istore_n 3, 1) := by decide +kernel
theorem dX4_thereOf_7 : decode cX4_thereOf 7 = .ok (.iconst 0, 1) := by decide +kernel
theorem dX4_thereOf_8 : decode cX4_thereOf 8 = .ok (.istore 4, 2) := by decide +kernel
theorem dX4_thereOf_10 : decode cX4_thereOf 10 = .ok (.iload 4, 2) := by decide +kernel
theorem dX4_thereOf_12 : decode cX4_thereOf 12 = .ok (.iload_n 3, 1) := by decide +kernel
theorem dX4_thereOf_13 : decode cX4_thereOf 13 = .ok (.if_icmp .ge 24, 3) := by decide +kernel
theorem dX4_thereOf_16 : decode cX4_thereOf 16 = .ok (.aload_n 2, 1) := by decide +kernel
theorem dX4_thereOf_17 : decode cX4_thereOf 17 = .ok (.iload 4, 2) := by decide +kernel
theorem dX4_thereOf_19 : decode cX4_thereOf 19 = .ok (.iaload, 1) := by decide +kernel
theorem dX4_thereOf_20 : decode cX4_thereOf 20 = .ok (.istore 5, 2) := by decide +kernel
theorem dX4_thereOf_22 : decode cX4_thereOf 22 = .ok (.iload 5, 2) := by decide +kernel
theorem dX4_thereOf_24 : decode cX4_thereOf 24 = .ok (.iconst (-1), 1) := by decide +kernel
theorem dX4_thereOf_25 : decode cX4_thereOf 25 = .ok (.if_icmp .eq 6, 3) := by decide +kernel
theorem dX4_thereOf_28 : decode cX4_thereOf 28 = .ok (.iinc 1 1, 3) := by decide +kernel
theorem dX4_thereOf_31 : decode cX4_thereOf 31 = .ok (.iinc 4 1, 3) := by decide +kernel
theorem dX4_thereOf_34 : decode cX4_thereOf 34 = .ok (.goto (-24), 3) := by decide +kernel
theorem dX4_thereOf_37 : decode cX4_thereOf 37 = .ok (.iload_n 1, 1) := by decide +kernel
theorem dX4_thereOf_38 : decode cX4_thereOf 38 = .ok (.ireturn, 1) := by decide +kernel
theorem dX4_keptHouses_0 : decode cX4_keptHouses 0 = .ok (.iconst 0, 1) := by decide +kernel
theorem dX4_keptHouses_1 : decode cX4_keptHouses 1 = .ok (.istore_n 1, 1) := by decide +kernel
theorem dX4_keptHouses_2 : decode cX4_keptHouses 2 = .ok (.iconst 0, 1) := by decide +kernel
theorem dX4_keptHouses_3 : decode cX4_keptHouses 3 = .ok (.istore_n 2, 1) := by decide +kernel
theorem dX4_keptHouses_4 : decode cX4_keptHouses 4 = .ok (.iload_n 2, 1) := by decide +kernel
theorem dX4_keptHouses_5 : decode cX4_keptHouses 5 = .ok (.iconst 3, 1) := by decide +kernel
theorem dX4_keptHouses_6 : decode cX4_keptHouses 6 = .ok (.if_icmp .ge 25, 3) := by decide +kernel
theorem dX4_keptHouses_9 : decode cX4_keptHouses 9 = .ok (.aload_n 0, 1) := by decide +kernel
theorem dX4_keptHouses_10 : decode cX4_keptHouses 10 = .ok (.getfield 46, 3) := by decide +kernel
theorem dX4_keptHouses_13 : decode cX4_keptHouses 13 = .ok (.iload_n 2, 1) := by decide +kernel
theorem dX4_keptHouses_14 : decode cX4_keptHouses 14 = .ok (.aaload, 1) := by decide +kernel
theorem dX4_keptHouses_15 : decode cX4_keptHouses 15 = .ok (.getfield 86, 3) := by decide +kernel
theorem dX4_keptHouses_18 : decode cX4_keptHouses 18 = .ok (.iconst (-1), 1) := by decide +kernel
theorem dX4_keptHouses_19 : decode cX4_keptHouses 19 = .ok (.if_icmp .eq 6, 3) := by decide +kernel
theorem dX4_keptHouses_22 : decode cX4_keptHouses 22 = .ok (.iinc 1 1, 3) := by decide +kernel
theorem dX4_keptHouses_25 : decode cX4_keptHouses 25 = .ok (.iinc 2 1, 3) := by decide +kernel
theorem dX4_keptHouses_28 : decode cX4_keptHouses 28 = .ok (.goto (-24), 3) := by decide +kernel
theorem dX4_keptHouses_31 : decode cX4_keptHouses 31 = .ok (.iload_n 1, 1) := by decide +kernel
theorem dX4_keptHouses_32 : decode cX4_keptHouses 32 = .ok (.ireturn, 1) := by decide +kernel
theorem dX4_digestRows_0 : decode cX4_digestRows 0 = .ok (.lload_n 1, 1) := by decide +kernel
theorem dX4_digestRows_1 : decode cX4_digestRows 1 = .ok (.lstore_n 3, 1) := by decide +kernel
theorem dX4_digestRows_2 : decode cX4_digestRows 2 = .ok (.iconst 0, 1) := by decide +kernel
theorem dX4_digestRows_3 : decode cX4_digestRows 3 = .ok (.istore 5, 2) := by decide +kernel
theorem dX4_digestRows_5 : decode cX4_digestRows 5 = .ok (.iload 5, 2) := by decide +kernel
theorem dX4_digestRows_7 : decode cX4_digestRows 7 = .ok (.bipush 6, 2) := by decide +kernel
theorem dX4_digestRows_9 : decode cX4_digestRows 9 = .ok (.if_icmp .ge 63, 3) := by decide +kernel
theorem dX4_digestRows_12 : decode cX4_digestRows 12 = .ok (.ldc2_w 275, 3) := by decide +kernel
theorem dX4_digestRows_15 : decode cX4_digestRows 15 = .ok (.lload_n 3, 1) := by decide +kernel
theorem dX4_digestRows_16 : decode cX4_digestRows 16 = .ok (.lmul, 1) := by decide +kernel
theorem dX4_digestRows_17 : decode cX4_digestRows 17 = .ok (.aload_n 0, 1) := by decide +kernel
theorem dX4_digestRows_18 : decode cX4_digestRows 18 = .ok (.getfield 14, 3) := by decide +kernel
theorem dX4_digestRows_21 : decode cX4_digestRows 21 = .ok (.iload 5, 2) := by decide +kernel
theorem dX4_digestRows_23 : decode cX4_digestRows 23 = .ok (.iaload, 1) := by decide +kernel
theorem dX4_digestRows_24 : decode cX4_digestRows 24 = .ok (.i2l, 1) := by decide +kernel
theorem dX4_digestRows_25 : decode cX4_digestRows 25 = .ok (.ladd, 1) := by decide +kernel
theorem dX4_digestRows_26 : decode cX4_digestRows 26 = .ok (.lstore_n 3, 1) := by decide +kernel
theorem dX4_digestRows_27 : decode cX4_digestRows 27 = .ok (.iconst 0, 1) := by decide +kernel
theorem dX4_digestRows_28 : decode cX4_digestRows 28 = .ok (.istore 6, 2) := by decide +kernel
theorem dX4_digestRows_30 : decode cX4_digestRows 30 = .ok (.iload 6, 2) := by decide +kernel
theorem dX4_digestRows_32 : decode cX4_digestRows 32 = .ok (.aload_n 0, 1) := by decide +kernel
theorem dX4_digestRows_33 : decode cX4_digestRows 33 = .ok (.getfield 14, 3) := by decide +kernel
theorem dX4_digestRows_36 : decode cX4_digestRows 36 = .ok (.iload 5, 2) := by decide +kernel
theorem dX4_digestRows_38 : decode cX4_digestRows 38 = .ok (.iaload, 1) := by decide +kernel
theorem dX4_digestRows_39 : decode cX4_digestRows 39 = .ok (.if_icmp .ge 27, 3) := by decide +kernel
theorem dX4_digestRows_42 : decode cX4_digestRows 42 = .ok (.ldc2_w 275, 3) := by decide +kernel
theorem dX4_digestRows_45 : decode cX4_digestRows 45 = .ok (.lload_n 3, 1) := by decide +kernel
theorem dX4_digestRows_46 : decode cX4_digestRows 46 = .ok (.lmul, 1) := by decide +kernel
theorem dX4_digestRows_47 : decode cX4_digestRows 47 = .ok (.aload_n 0, 1) := by decide +kernel
theorem dX4_digestRows_48 : decode cX4_digestRows 48 = .ok (.getfield 11, 3) := by decide +kernel
theorem dX4_digestRows_51 : decode cX4_digestRows 51 = .ok (.iload 5, 2) := by decide +kernel
theorem dX4_digestRows_53 : decode cX4_digestRows 53 = .ok (.aaload, 1) := by decide +kernel
theorem dX4_digestRows_54 : decode cX4_digestRows 54 = .ok (.iload 6, 2) := by decide +kernel
theorem dX4_digestRows_56 : decode cX4_digestRows 56 = .ok (.iaload, 1) := by decide +kernel
theorem dX4_digestRows_57 : decode cX4_digestRows 57 = .ok (.i2l, 1) := by decide +kernel
theorem dX4_digestRows_58 : decode cX4_digestRows 58 = .ok (.ladd, 1) := by decide +kernel
theorem dX4_digestRows_59 : decode cX4_digestRows 59 = .ok (.lstore_n 3, 1) := by decide +kernel
theorem dX4_digestRows_60 : decode cX4_digestRows 60 = .ok (.iinc 6 1, 3) := by decide +kernel
theorem dX4_digestRows_63 : decode cX4_digestRows 63 = .ok (.goto (-33), 3) := by decide +kernel
theorem dX4_digestRows_66 : decode cX4_digestRows 66 = .ok (.iinc 5 1, 3) := by decide +kernel
theorem dX4_digestRows_69 : decode cX4_digestRows 69 = .ok (.goto (-64), 3) := by decide +kernel
theorem dX4_digestRows_72 : decode cX4_digestRows 72 = .ok (.lload_n 3, 1) := by decide +kernel
theorem dX4_digestRows_73 : decode cX4_digestRows 73 = .ok (.lreturn, 1) := by decide +kernel
theorem dX4_digestTexts_0 : decode cX4_digestTexts 0 = .ok (.lload_n 1, 1) := by decide +kernel
theorem dX4_digestTexts_1 : decode cX4_digestTexts 1 = .ok (.lstore_n 3, 1) := by decide +kernel
theorem dX4_digestTexts_2 : decode cX4_digestTexts 2 = .ok (.iconst 0, 1) := by decide +kernel
theorem dX4_digestTexts_3 : decode cX4_digestTexts 3 = .ok (.istore 5, 2) := by decide +kernel
theorem dX4_digestTexts_5 : decode cX4_digestTexts 5 = .ok (.iload 5, 2) := by decide +kernel
theorem dX4_digestTexts_7 : decode cX4_digestTexts 7 = .ok (.iconst 4, 1) := by decide +kernel
theorem dX4_digestTexts_8 : decode cX4_digestTexts 8 = .ok (.if_icmp .ge 63, 3) := by decide +kernel
theorem dX4_digestTexts_11 : decode cX4_digestTexts 11 = .ok (.ldc2_w 275, 3) := by decide +kernel
theorem dX4_digestTexts_14 : decode cX4_digestTexts 14 = .ok (.lload_n 3, 1) := by decide +kernel
theorem dX4_digestTexts_15 : decode cX4_digestTexts 15 = .ok (.lmul, 1) := by decide +kernel
theorem dX4_digestTexts_16 : decode cX4_digestTexts 16 = .ok (.aload_n 0, 1) := by decide +kernel
theorem dX4_digestTexts_17 : decode cX4_digestTexts 17 = .ok (.getfield 23, 3) := by decide +kernel
theorem dX4_digestTexts_20 : decode cX4_digestTexts 20 = .ok (.iload 5, 2) := by decide +kernel
theorem dX4_digestTexts_22 : decode cX4_digestTexts 22 = .ok (.iaload, 1) := by decide +kernel
theorem dX4_digestTexts_23 : decode cX4_digestTexts 23 = .ok (.i2l, 1) := by decide +kernel
theorem dX4_digestTexts_24 : decode cX4_digestTexts 24 = .ok (.ladd, 1) := by decide +kernel
theorem dX4_digestTexts_25 : decode cX4_digestTexts 25 = .ok (.lstore_n 3, 1) := by decide +kernel
theorem dX4_digestTexts_26 : decode cX4_digestTexts 26 = .ok (.iconst 0, 1) := by decide +kernel
theorem dX4_digestTexts_27 : decode cX4_digestTexts 27 = .ok (.istore 6, 2) := by decide +kernel
theorem dX4_digestTexts_29 : decode cX4_digestTexts 29 = .ok (.iload 6, 2) := by decide +kernel
theorem dX4_digestTexts_31 : decode cX4_digestTexts 31 = .ok (.aload_n 0, 1) := by decide +kernel
theorem dX4_digestTexts_32 : decode cX4_digestTexts 32 = .ok (.getfield 23, 3) := by decide +kernel
theorem dX4_digestTexts_35 : decode cX4_digestTexts 35 = .ok (.iload 5, 2) := by decide +kernel
theorem dX4_digestTexts_37 : decode cX4_digestTexts 37 = .ok (.iaload, 1) := by decide +kernel
theorem dX4_digestTexts_38 : decode cX4_digestTexts 38 = .ok (.if_icmp .ge 27, 3) := by decide +kernel
theorem dX4_digestTexts_41 : decode cX4_digestTexts 41 = .ok (.ldc2_w 275, 3) := by decide +kernel
theorem dX4_digestTexts_44 : decode cX4_digestTexts 44 = .ok (.lload_n 3, 1) := by decide +kernel
theorem dX4_digestTexts_45 : decode cX4_digestTexts 45 = .ok (.lmul, 1) := by decide +kernel
theorem dX4_digestTexts_46 : decode cX4_digestTexts 46 = .ok (.aload_n 0, 1) := by decide +kernel
theorem dX4_digestTexts_47 : decode cX4_digestTexts 47 = .ok (.getfield 20, 3) := by decide +kernel
theorem dX4_digestTexts_50 : decode cX4_digestTexts 50 = .ok (.iload 5, 2) := by decide +kernel
theorem dX4_digestTexts_52 : decode cX4_digestTexts 52 = .ok (.aaload, 1) := by decide +kernel
theorem dX4_digestTexts_53 : decode cX4_digestTexts 53 = .ok (.iload 6, 2) := by decide +kernel
theorem dX4_digestTexts_55 : decode cX4_digestTexts 55 = .ok (.baload, 1) := by decide +kernel
theorem dX4_digestTexts_56 : decode cX4_digestTexts 56 = .ok (.i2l, 1) := by decide +kernel
theorem dX4_digestTexts_57 : decode cX4_digestTexts 57 = .ok (.ladd, 1) := by decide +kernel
theorem dX4_digestTexts_58 : decode cX4_digestTexts 58 = .ok (.lstore_n 3, 1) := by decide +kernel
theorem dX4_digestTexts_59 : decode cX4_digestTexts 59 = .ok (.iinc 6 1, 3) := by decide +kernel
theorem dX4_digestTexts_62 : decode cX4_digestTexts 62 = .ok (.goto (-33), 3) := by decide +kernel
theorem dX4_digestTexts_65 : decode cX4_digestTexts 65 = .ok (.iinc 5 1, 3) := by decide +kernel
theorem dX4_digestTexts_68 : decode cX4_digestTexts 68 = .ok (.goto (-63), 3) := by decide +kernel
theorem dX4_digestTexts_71 : decode cX4_digestTexts 71 = .ok (.lload_n 3, 1) := by decide +kernel
theorem dX4_digestTexts_72 : decode cX4_digestTexts 72 = .ok (.lreturn, 1) := by decide +kernel
theorem dX4_readHouse_0 : decode cX4_readHouse 0 = .ok (.aload_n 2, 1) := by decide +kernel
theorem dX4_readHouse_1 : decode cX4_readHouse 1 = .ok (.invokevirtual 340, 3) := by decide +kernel
theorem dX4_readHouse_4 : decode cX4_readHouse 4 = .ok (.aload_n 0, 1) := by decide +kernel
theorem dX4_readHouse_5 : decode cX4_readHouse 5 = .ok (.iconst 0, 1) := by decide +kernel
theorem dX4_readHouse_6 : decode cX4_readHouse 6 = .ok (.iload_n 1, 1) := by decide +kernel
theorem dX4_readHouse_7 : decode cX4_readHouse 7 = .ok (.invokestatic 343, 3) := by decide +kernel
theorem dX4_readHouse_10 : decode cX4_readHouse 10 = .ok (.istore_n 3, 1) := by decide +kernel
theorem dX4_readHouse_11 : decode cX4_readHouse 11 = .ok (.aload_n 0, 1) := by decide +kernel
theorem dX4_readHouse_12 : decode cX4_readHouse 12 = .ok (.iload_n 3, 1) := by decide +kernel
theorem dX4_readHouse_13 : decode cX4_readHouse 13 = .ok (.iload_n 1, 1) := by decide +kernel
theorem dX4_readHouse_14 : decode cX4_readHouse 14 = .ok (.invokestatic 347, 3) := by decide +kernel
theorem dX4_readHouse_17 : decode cX4_readHouse 17 = .ok (.istore 4, 2) := by decide +kernel
theorem dX4_readHouse_19 : decode cX4_readHouse 19 = .ok (.iload 4, 2) := by decide +kernel
theorem dX4_readHouse_21 : decode cX4_readHouse 21 = .ok (.ifCond .ne 5, 3) := by decide +kernel
theorem dX4_readHouse_24 : decode cX4_readHouse 24 = .ok (.iload_n 3, 1) := by decide +kernel
theorem dX4_readHouse_25 : decode cX4_readHouse 25 = .ok (.ireturn, 1) := by decide +kernel
theorem dX4_readHouse_26 : decode cX4_readHouse 26 = .ok (.aload_n 2, 1) := by decide +kernel
theorem dX4_readHouse_27 : decode cX4_readHouse 27 = .ok (.iload 4, 2) := by decide +kernel
theorem dX4_readHouse_29 : decode cX4_readHouse 29 = .ok (.putfield 171, 3) := by decide +kernel
theorem dX4_readHouse_32 : decode cX4_readHouse 32 = .ok (.aload_n 0, 1) := by decide +kernel
theorem dX4_readHouse_33 : decode cX4_readHouse 33 = .ok (.iload_n 3, 1) := by decide +kernel
theorem dX4_readHouse_34 : decode cX4_readHouse 34 = .ok (.iconst 1, 1) := by decide +kernel
theorem dX4_readHouse_35 : decode cX4_readHouse 35 = .ok (.iadd, 1) := by decide +kernel
theorem dX4_readHouse_36 : decode cX4_readHouse 36 = .ok (.iload_n 1, 1) := by decide +kernel
theorem dX4_readHouse_37 : decode cX4_readHouse 37 = .ok (.invokestatic 343, 3) := by decide +kernel
theorem dX4_readHouse_40 : decode cX4_readHouse 40 = .ok (.istore_n 3, 1) := by decide +kernel
theorem dX4_readHouse_41 : decode cX4_readHouse 41 = .ok (.iconst 0, 1) := by decide +kernel
theorem dX4_readHouse_42 : decode cX4_readHouse 42 = .ok (.istore 5, 2) := by decide +kernel
theorem dX4_readHouse_44 : decode cX4_readHouse 44 = .ok (.iload 5, 2) := by decide +kernel
theorem dX4_readHouse_46 : decode cX4_readHouse 46 = .ok (.bipush 7, 2) := by decide +kernel
theorem dX4_readHouse_48 : decode cX4_readHouse 48 = .ok (.if_icmp .gt 42, 3) := by decide +kernel
theorem dX4_readHouse_51 : decode cX4_readHouse 51 = .ok (.iload_n 3, 1) := by decide +kernel
theorem dX4_readHouse_52 : decode cX4_readHouse 52 = .ok (.iload_n 1, 1) := by decide +kernel
theorem dX4_readHouse_53 : decode cX4_readHouse 53 = .ok (.if_icmp .ge 37, 3) := by decide +kernel
theorem dX4_readHouse_56 : decode cX4_readHouse 56 = .ok (.aload_n 0, 1) := by decide +kernel
theorem dX4_readHouse_57 : decode cX4_readHouse 57 = .ok (.iload_n 3, 1) := by decide +kernel
theorem dX4_readHouse_58 : decode cX4_readHouse 58 = .ok (.iload_n 1, 1) := by decide +kernel
theorem dX4_readHouse_59 : decode cX4_readHouse 59 = .ok (.aload_n 2, 1) := by decide +kernel
theorem dX4_readHouse_60 : decode cX4_readHouse 60 = .ok (.invokestatic 350, 3) := by decide +kernel
theorem dX4_readHouse_63 : decode cX4_readHouse 63 = .ok (.istore 6, 2) := by decide +kernel
theorem dX4_readHouse_65 : decode cX4_readHouse 65 = .ok (.iload 6, 2) := by decide +kernel
theorem dX4_readHouse_67 : decode cX4_readHouse 67 = .ok (.bipush (-9), 2) := by decide +kernel
theorem dX4_readHouse_69 : decode cX4_readHouse 69 = .ok (.if_icmp .eq 6, 3) := by decide +kernel
theorem dX4_readHouse_72 : decode cX4_readHouse 72 = .ok (.iload 6, 2) := by decide +kernel
theorem dX4_readHouse_74 : decode cX4_readHouse 74 = .ok (.ireturn, 1) := by decide +kernel
theorem dX4_readHouse_75 : decode cX4_readHouse 75 = .ok (.aload_n 0, 1) := by decide +kernel
theorem dX4_readHouse_76 : decode cX4_readHouse 76 = .ok (.iload_n 3, 1) := by decide +kernel
theorem dX4_readHouse_77 : decode cX4_readHouse 77 = .ok (.iconst 3, 1) := by decide +kernel
theorem dX4_readHouse_78 : decode cX4_readHouse 78 = .ok (.iadd, 1) := by decide +kernel
theorem dX4_readHouse_79 : decode cX4_readHouse 79 = .ok (.iload_n 1, 1) := by decide +kernel
theorem dX4_readHouse_80 : decode cX4_readHouse 80 = .ok (.invokestatic 343, 3) := by decide +kernel
theorem dX4_readHouse_83 : decode cX4_readHouse 83 = .ok (.istore_n 3, 1) := by decide +kernel
theorem dX4_readHouse_84 : decode cX4_readHouse 84 = .ok (.iinc 5 1, 3) := by decide +kernel
theorem dX4_readHouse_87 : decode cX4_readHouse 87 = .ok (.goto (-43), 3) := by decide +kernel
theorem dX4_readHouse_90 : decode cX4_readHouse 90 = .ok (.aload_n 2, 1) := by decide +kernel
theorem dX4_readHouse_91 : decode cX4_readHouse 91 = .ok (.getfield 125, 3) := by decide +kernel
theorem dX4_readHouse_94 : decode cX4_readHouse 94 = .ok (.iconst 2, 1) := by decide +kernel
theorem dX4_readHouse_95 : decode cX4_readHouse 95 = .ok (.if_icmp .ge 7, 3) := by decide +kernel
theorem dX4_readHouse_98 : decode cX4_readHouse 98 = .ok (.iload_n 1, 1) := by decide +kernel
theorem dX4_readHouse_99 : decode cX4_readHouse 99 = .ok (.goto 5, 3) := by decide +kernel
theorem dX4_readHouse_102 : decode cX4_readHouse 102 = .ok (.bipush (-9), 2) := by decide +kernel
theorem dX4_readHouse_104 : decode cX4_readHouse 104 = .ok (.ireturn, 1) := by decide +kernel
theorem dX4_readCaller_0 : decode cX4_readCaller 0 = .ok (.aload_n 0, 1) := by decide +kernel
theorem dX4_readCaller_1 : decode cX4_readCaller 1 = .ok (.iload_n 1, 1) := by decide +kernel
theorem dX4_readCaller_2 : decode cX4_readCaller 2 = .ok (.iload_n 2, 1) := by decide +kernel
theorem dX4_readCaller_3 : decode cX4_readCaller 3 = .ok (.invokestatic 354, 3) := by decide +kernel
theorem dX4_readCaller_6 : decode cX4_readCaller 6 = .ok (.istore 4, 2) := by decide +kernel
theorem dX4_readCaller_8 : decode cX4_readCaller 8 = .ok (.iload 4, 2) := by decide +kernel
theorem dX4_readCaller_10 : decode cX4_readCaller 10 = .ok (.bipush (-9), 2) := by decide +kernel
theorem dX4_readCaller_12 : decode cX4_readCaller 12 = .ok (.if_icmp .eq 12, 3) := by decide +kernel
theorem dX4_readCaller_15 : decode cX4_readCaller 15 = .ok (.aload_n 3, 1) := by decide +kernel
theorem dX4_readCaller_16 : decode cX4_readCaller 16 = .ok (.getfield 125, 3) := by decide +kernel
theorem dX4_readCaller_19 : decode cX4_readCaller 19 = .ok (.bipush 7, 2) := by decide +kernel
theorem dX4_readCaller_21 : decode cX4_readCaller 21 = .ok (.if_icmp .lt 5, 3) := by decide +kernel
theorem dX4_readCaller_24 : decode cX4_readCaller 24 = .ok (.iload_n 1, 1) := by decide +kernel
theorem dX4_readCaller_25 : decode cX4_readCaller 25 = .ok (.ireturn, 1) := by decide +kernel
theorem dX4_readCaller_26 : decode cX4_readCaller 26 = .ok (.aload_n 0, 1) := by decide +kernel
theorem dX4_readCaller_27 : decode cX4_readCaller 27 = .ok (.iload_n 1, 1) := by decide +kernel
theorem dX4_readCaller_28 : decode cX4_readCaller 28 = .ok (.iconst 1, 1) := by decide +kernel
theorem dX4_readCaller_29 : decode cX4_readCaller 29 = .ok (.iadd, 1) := by decide +kernel
theorem dX4_readCaller_30 : decode cX4_readCaller 30 = .ok (.iload_n 2, 1) := by decide +kernel
theorem dX4_readCaller_31 : decode cX4_readCaller 31 = .ok (.invokestatic 347, 3) := by decide +kernel
theorem dX4_readCaller_34 : decode cX4_readCaller 34 = .ok (.istore 5, 2) := by decide +kernel
theorem dX4_readCaller_36 : decode cX4_readCaller 36 = .ok (.iload 5, 2) := by decide +kernel
theorem dX4_readCaller_38 : decode cX4_readCaller 38 = .ok (.ifCond .ne 7, 3) := by decide +kernel
theorem dX4_readCaller_41 : decode cX4_readCaller 41 = .ok (.iload_n 1, 1) := by decide +kernel
theorem dX4_readCaller_42 : decode cX4_readCaller 42 = .ok (.iconst 1, 1) := by decide +kernel
theorem dX4_readCaller_43 : decode cX4_readCaller 43 = .ok (.iadd, 1) := by decide +kernel
theorem dX4_readCaller_44 : decode cX4_readCaller 44 = .ok (.ireturn, 1) := by decide +kernel
theorem dX4_readCaller_45 : decode cX4_readCaller 45 = .ok (.aload_n 0, 1) := by decide +kernel
theorem dX4_readCaller_46 : decode cX4_readCaller 46 = .ok (.iload_n 1, 1) := by decide +kernel
theorem dX4_readCaller_47 : decode cX4_readCaller 47 = .ok (.iconst 2, 1) := by decide +kernel
theorem dX4_readCaller_48 : decode cX4_readCaller 48 = .ok (.iadd, 1) := by decide +kernel
theorem dX4_readCaller_49 : decode cX4_readCaller 49 = .ok (.iload_n 2, 1) := by decide +kernel
theorem dX4_readCaller_50 : decode cX4_readCaller 50 = .ok (.invokestatic 347, 3) := by decide +kernel
theorem dX4_readCaller_53 : decode cX4_readCaller 53 = .ok (.istore 6, 2) := by decide +kernel
theorem dX4_readCaller_55 : decode cX4_readCaller 55 = .ok (.iload 6, 2) := by decide +kernel
theorem dX4_readCaller_57 : decode cX4_readCaller 57 = .ok (.ifCond .ne 7, 3) := by decide +kernel
theorem dX4_readCaller_60 : decode cX4_readCaller 60 = .ok (.iload_n 1, 1) := by decide +kernel
theorem dX4_readCaller_61 : decode cX4_readCaller 61 = .ok (.iconst 2, 1) := by decide +kernel
theorem dX4_readCaller_62 : decode cX4_readCaller 62 = .ok (.iadd, 1) := by decide +kernel
theorem dX4_readCaller_63 : decode cX4_readCaller 63 = .ok (.ireturn, 1) := by decide +kernel
theorem dX4_readCaller_64 : decode cX4_readCaller 64 = .ok (.aload_n 3, 1) := by decide +kernel
theorem dX4_readCaller_65 : decode cX4_readCaller 65 = .ok (.getfield 129, 3) := by decide +kernel
theorem dX4_readCaller_68 : decode cX4_readCaller 68 = .ok (.aload_n 3, 1) := by decide +kernel
theorem dX4_readCaller_69 : decode cX4_readCaller 69 = .ok (.getfield 125, 3) := by decide +kernel
theorem dX4_readCaller_72 : decode cX4_readCaller 72 = .ok (.aaload, 1) := by decide +kernel
theorem dX4_readCaller_73 : decode cX4_readCaller 73 = .ok (.iload 4, 2) := by decide +kernel
theorem dX4_readCaller_75 : decode cX4_readCaller 75 = .ok (.iload 5, 2) := by decide +kernel
theorem dX4_readCaller_77 : decode cX4_readCaller 77 = .ok (.iload 6, 2) := by decide +kernel
theorem dX4_readCaller_79 : decode cX4_readCaller 79 = .ok (.invokevirtual 357, 3) := by decide +kernel
theorem dX4_readCaller_82 : decode cX4_readCaller 82 = .ok (.aload_n 3, 1) := by decide +kernel
theorem dX4_readCaller_83 : decode cX4_readCaller 83 = .ok (.dup, 1) := by decide +kernel
theorem dX4_readCaller_84 : decode cX4_readCaller 84 = .ok (.getfield 125, 3) := by decide +kernel
theorem dX4_readCaller_87 : decode cX4_readCaller 87 = .ok (.iconst 1, 1) := by decide +kernel
theorem dX4_readCaller_88 : decode cX4_readCaller 88 = .ok (.iadd, 1) := by decide +kernel
theorem dX4_readCaller_89 : decode cX4_readCaller 89 = .ok (.putfield 125, 3) := by decide +kernel
theorem dX4_readCaller_92 : decode cX4_readCaller 92 = .ok (.bipush (-9), 2) := by decide +kernel
theorem dX4_readCaller_94 : decode cX4_readCaller 94 = .ok (.ireturn, 1) := by decide +kernel
theorem dX4_pastBlanks_0 : decode cX4_pastBlanks 0 = .ok (.iload_n 1, 1) := by decide +kernel
theorem dX4_pastBlanks_1 : decode cX4_pastBlanks 1 = .ok (.istore_n 3, 1) := by decide +kernel
theorem dX4_pastBlanks_2 : decode cX4_pastBlanks 2 = .ok (.iload_n 3, 1) := by decide +kernel
theorem dX4_pastBlanks_3 : decode cX4_pastBlanks 3 = .ok (.iload_n 2, 1) := by decide +kernel
theorem dX4_pastBlanks_4 : decode cX4_pastBlanks 4 = .ok (.if_icmp .ge 17, 3) := by decide +kernel
theorem dX4_pastBlanks_7 : decode cX4_pastBlanks 7 = .ok (.aload_n 0, 1) := by decide +kernel
theorem dX4_pastBlanks_8 : decode cX4_pastBlanks 8 = .ok (.iload_n 3, 1) := by decide +kernel
theorem dX4_pastBlanks_9 : decode cX4_pastBlanks 9 = .ok (.baload, 1) := by decide +kernel
theorem dX4_pastBlanks_10 : decode cX4_pastBlanks 10 = .ok (.bipush 32, 2) := by decide +kernel
theorem dX4_pastBlanks_12 : decode cX4_pastBlanks 12 = .ok (.if_icmp .ne 9, 3) := by decide +kernel
theorem dX4_pastBlanks_15 : decode cX4_pastBlanks 15 = .ok (.iinc 3 1, 3) := by decide +kernel
theorem dX4_pastBlanks_18 : decode cX4_pastBlanks 18 = .ok (.goto (-16), 3) := by decide +kernel
theorem dX4_pastBlanks_21 : decode cX4_pastBlanks 21 = .ok (.iload_n 3, 1) := by decide +kernel
theorem dX4_pastBlanks_22 : decode cX4_pastBlanks 22 = .ok (.ireturn, 1) := by decide +kernel
theorem dX4_figureAt_0 : decode cX4_figureAt 0 = .ok (.iload_n 1, 1) := by decide +kernel
theorem dX4_figureAt_1 : decode cX4_figureAt 1 = .ok (.iload_n 2, 1) := by decide +kernel
theorem dX4_figureAt_2 : decode cX4_figureAt 2 = .ok (.if_icmp .lt 5, 3) := by decide +kernel
theorem dX4_figureAt_5 : decode cX4_figureAt 5 = .ok (.iconst 0, 1) := by decide +kernel
theorem dX4_figureAt_6 : decode cX4_figureAt 6 = .ok (.ireturn, 1) := by decide +kernel
theorem dX4_figureAt_7 : decode cX4_figureAt 7 = .ok (.aload_n 0, 1) := by decide +kernel
theorem dX4_figureAt_8 : decode cX4_figureAt 8 = .ok (.iload_n 1, 1) := by decide +kernel
theorem dX4_figureAt_9 : decode cX4_figureAt 9 = .ok (.baload, 1) := by decide +kernel
theorem dX4_figureAt_10 : decode cX4_figureAt 10 = .ok (.bipush 48, 2) := by decide +kernel
theorem dX4_figureAt_12 : decode cX4_figureAt 12 = .ok (.isub, 1) := by decide +kernel
theorem dX4_figureAt_13 : decode cX4_figureAt 13 = .ok (.istore_n 3, 1) := by decide +kernel
theorem dX4_figureAt_14 : decode cX4_figureAt 14 = .ok (.iload_n 3, 1) := by decide +kernel
theorem dX4_figureAt_15 : decode cX4_figureAt 15 = .ok (.invokestatic 168, 3) := by decide +kernel
theorem dX4_figureAt_18 : decode cX4_figureAt 18 = .ok (.ifCond .eq 7, 3) := by decide +kernel
theorem dX4_figureAt_21 : decode cX4_figureAt 21 = .ok (.iload_n 3, 1) := by decide +kernel
theorem dX4_figureAt_22 : decode cX4_figureAt 22 = .ok (.goto 4, 3) := by decide +kernel
theorem dX4_figureAt_25 : decode cX4_figureAt 25 = .ok (.iconst 0, 1) := by decide +kernel
theorem dX4_figureAt_26 : decode cX4_figureAt 26 = .ok (.ireturn, 1) := by decide +kernel
theorem dX4_kindAt_0 : decode cX4_kindAt 0 = .ok (.iconst 0, 1) := by decide +kernel
theorem dX4_kindAt_1 : decode cX4_kindAt 1 = .ok (.istore_n 3, 1) := by decide +kernel
theorem dX4_kindAt_2 : decode cX4_kindAt 2 = .ok (.iload_n 3, 1) := by decide +kernel
theorem dX4_kindAt_3 : decode cX4_kindAt 3 = .ok (.bipush 6, 2) := by decide +kernel
theorem dX4_kindAt_5 : decode cX4_kindAt 5 = .ok (.if_icmp .ge 27, 3) := by decide +kernel
theorem dX4_kindAt_8 : decode cX4_kindAt 8 = .ok (.iload_n 1, 1) := by decide +kernel
theorem dX4_kindAt_9 : decode cX4_kindAt 9 = .ok (.iload_n 2, 1) := by decide +kernel
theorem dX4_kindAt_10 : decode cX4_kindAt 10 = .ok (.if_icmp .ge 22, 3) := by decide +kernel
theorem dX4_kindAt_13 : decode cX4_kindAt 13 = .ok (.aload_n 0, 1) := by decide +kernel
theorem dX4_kindAt_14 : decode cX4_kindAt 14 = .ok (.iload_n 1, 1) := by decide +kernel
theorem dX4_kindAt_15 : decode cX4_kindAt 15 = .ok (.baload, 1) := by decide +kernel
theorem dX4_kindAt_16 : decode cX4_kindAt 16 = .ok (.getstatic 359, 3) := by decide +kernel
theorem dX4_kindAt_19 : decode cX4_kindAt 19 = .ok (.iload_n 3, 1) := by decide +kernel
theorem dX4_kindAt_20 : decode cX4_kindAt 20 = .ok (.iaload, 1) := by decide +kernel
theorem dX4_kindAt_21 : decode cX4_kindAt 21 = .ok (.if_icmp .ne 5, 3) := by decide +kernel
theorem dX4_kindAt_24 : decode cX4_kindAt 24 = .ok (.iload_n 3, 1) := by decide +kernel
theorem dX4_kindAt_25 : decode cX4_kindAt 25 = .ok (.ireturn, 1) := by decide +kernel
theorem dX4_kindAt_26 : decode cX4_kindAt 26 = .ok (.iinc 3 1, 3) := by decide +kernel
theorem dX4_kindAt_29 : decode cX4_kindAt 29 = .ok (.goto (-27), 3) := by decide +kernel
theorem dX4_kindAt_32 : decode cX4_kindAt 32 = .ok (.bipush (-9), 2) := by decide +kernel
theorem dX4_kindAt_34 : decode cX4_kindAt 34 = .ok (.ireturn, 1) := by decide +kernel
theorem dX5_init_0 : decode cX5_init 0 = .ok (.aload_n 0, 1) := by decide +kernel
theorem dX5_init_1 : decode cX5_init 1 = .ok (.invokespecial 1, 3) := by decide +kernel
theorem dX5_init_4 : decode cX5_init 4 = .ok (.aload_n 0, 1) := by decide +kernel
theorem dX5_init_5 : decode cX5_init 5 = .ok (.bipush 6, 2) := by decide +kernel
theorem dX5_init_7 : decode cX5_init 7 = .ok (.newarray .int, 2) := by decide +kernel
theorem dX5_init_9 : decode cX5_init 9 = .ok (.putfield 7, 3) := by decide +kernel
theorem dX5_init_12 : decode cX5_init 12 = .ok (.aload_n 0, 1) := by decide +kernel
theorem dX5_init_13 : decode cX5_init 13 = .ok (.sipush 240, 3) := by decide +kernel
theorem dX5_init_16 : decode cX5_init 16 = .ok (.newarray .int, 2) := by decide +kernel
theorem dX5_init_18 : decode cX5_init 18 = .ok (.putfield 13, 3) := by decide +kernel
theorem dX5_init_21 : decode cX5_init 21 = .ok (.aload_n 0, 1) := by decide +kernel
theorem dX5_init_22 : decode cX5_init 22 = .ok (.iconst 4, 1) := by decide +kernel
theorem dX5_init_23 : decode cX5_init 23 = .ok (.newarray .int, 2) := by decide +kernel
theorem dX5_init_25 : decode cX5_init 25 = .ok (.putfield 16, 3) := by decide +kernel
theorem dX5_init_28 : decode cX5_init 28 = .ok (.aload_n 0, 1) := by decide +kernel
theorem dX5_init_29 : decode cX5_init 29 = .ok (.sipush 240, 3) := by decide +kernel
theorem dX5_init_32 : decode cX5_init 32 = .ok (.newarray .int, 2) := by decide +kernel
theorem dX5_init_34 : decode cX5_init 34 = .ok (.putfield 19, 3) := by decide +kernel
theorem dX5_init_37 : decode cX5_init 37 = .ok (.aload_n 0, 1) := by decide +kernel
theorem dX5_init_38 : decode cX5_init 38 = .ok (.bipush 7, 2) := by decide +kernel
theorem dX5_init_40 : decode cX5_init 40 = .ok (.newarray .int, 2) := by decide +kernel
theorem dX5_init_42 : decode cX5_init 42 = .ok (.putfield 22, 3) := by decide +kernel
theorem dX5_init_45 : decode cX5_init 45 = .ok (.aload_n 0, 1) := by decide +kernel
theorem dX5_init_46 : decode cX5_init 46 = .ok (.bipush 7, 2) := by decide +kernel
theorem dX5_init_48 : decode cX5_init 48 = .ok (.newarray .int, 2) := by decide +kernel
theorem dX5_init_50 : decode cX5_init 50 = .ok (.putfield 25, 3) := by decide +kernel
theorem dX5_init_53 : decode cX5_init 53 = .ok (.aload_n 0, 1) := by decide +kernel
theorem dX5_init_54 : decode cX5_init 54 = .ok (.bipush 40, 2) := by decide +kernel
theorem dX5_init_56 : decode cX5_init 56 = .ok (.newarray .int, 2) := by decide +kernel
theorem dX5_init_58 : decode cX5_init 58 = .ok (.putfield 28, 3) := by decide +kernel
theorem dX5_init_61 : decode cX5_init 61 = .ok (.aload_n 0, 1) := by decide +kernel
theorem dX5_init_62 : decode cX5_init 62 = .ok (.bipush 40, 2) := by decide +kernel
theorem dX5_init_64 : decode cX5_init 64 = .ok (.newarray .int, 2) := by decide +kernel
theorem dX5_init_66 : decode cX5_init 66 = .ok (.putfield 31, 3) := by decide +kernel
theorem dX5_init_69 : decode cX5_init 69 = .ok (.aload_n 0, 1) := by decide +kernel
theorem dX5_init_70 : decode cX5_init 70 = .ok (.bipush 7, 2) := by decide +kernel
theorem dX5_init_72 : decode cX5_init 72 = .ok (.newarray .int, 2) := by decide +kernel
theorem dX5_init_74 : decode cX5_init 74 = .ok (.putfield 34, 3) := by decide +kernel
theorem dX5_init_77 : decode cX5_init 77 = .ok (.aload_n 0, 1) := by decide +kernel
theorem dX5_init_78 : decode cX5_init 78 = .ok (.sipush 1600, 3) := by decide +kernel
theorem dX5_init_81 : decode cX5_init 81 = .ok (.newarray .int, 2) := by decide +kernel
theorem dX5_init_83 : decode cX5_init 83 = .ok (.putfield 37, 3) := by decide +kernel
theorem dX5_init_86 : decode cX5_init 86 = .ok (.aload_n 0, 1) := by decide +kernel
theorem dX5_init_87 : decode cX5_init 87 = .ok (.sipush 4923, 3) := by decide +kernel
theorem dX5_init_90 : decode cX5_init 90 = .ok (.newarray .int, 2) := by decide +kernel
theorem dX5_init_92 : decode cX5_init 92 = .ok (.putfield 40, 3) := by decide +kernel
theorem dX5_init_95 : decode cX5_init 95 = .ok (.aload_n 0, 1) := by decide +kernel
theorem dX5_init_96 : decode cX5_init 96 = .ok (.iconst 3, 1) := by decide +kernel
theorem dX5_init_97 : decode cX5_init 97 = .ok (.newarray .boolean, 2) := by decide +kernel
theorem dX5_init_99 : decode cX5_init 99 = .ok (.putfield 43, 3) := by decide +kernel
theorem dX5_init_102 : decode cX5_init 102 = .ok (.aload_n 0, 1) := by decide +kernel
theorem dX5_init_103 : decode cX5_init 103 = .ok (.lconst 1, 1) := by decide +kernel
theorem dX5_init_104 : decode cX5_init 104 = .ok (.putfield 47, 3) := by decide +kernel
theorem dX5_init_107 : decode cX5_init 107 = .ok (.aload_n 0, 1) := by decide +kernel
theorem dX5_init_108 : decode cX5_init 108 = .ok (.bipush 6, 2) := by decide +kernel
theorem dX5_init_110 : decode cX5_init 110 = .ok (.newarray .int, 2) := by decide +kernel
theorem dX5_init_112 : decode cX5_init 112 = .ok (.putfield 51, 3) := by decide +kernel
theorem dX5_init_115 : decode cX5_init 115 = .ok (.aload_n 0, 1) := by decide +kernel
theorem dX5_init_116 : decode cX5_init 116 = .ok (.bipush 7, 2) := by decide +kernel
theorem dX5_init_118 : decode cX5_init 118 = .ok (.newarray .int, 2) := by decide +kernel
theorem dX5_init_120 : decode cX5_init 120 = .ok (.putfield 54, 3) := by decide +kernel
theorem dX5_init_123 : decode cX5_init 123 = .ok (.aload_n 0, 1) := by decide +kernel
theorem dX5_init_124 : decode cX5_init 124 = .ok (.bipush 14, 2) := by decide +kernel
theorem dX5_init_126 : decode cX5_init 126 = .ok (.newarray .int, 2) := by decide +kernel
theorem dX5_init_128 : decode cX5_init 128 = .ok (.putfield 57, 3) := by decide +kernel
theorem dX5_init_131 : decode cX5_init 131 = .ok (.aload_n 0, 1) := by decide +kernel
theorem dX5_init_132 : decode cX5_init 132 = .ok (.bipush 126, 2) := by decide +kernel
theorem dX5_init_134 : decode cX5_init 134 = .ok (.newarray .int, 2) := by decide +kernel
theorem dX5_init_136 : decode cX5_init 136 = .ok (.putfield 60, 3) := by decide +kernel
theorem dX5_init_139 : decode cX5_init 139 = .ok (.aload_n 0, 1) := by decide +kernel
theorem dX5_init_140 : decode cX5_init 140 = .ok (.sipush 6561, 3) := by decide +kernel
theorem dX5_init_143 : decode cX5_init 143 = .ok (.newarray .int, 2) := by decide +kernel
theorem dX5_init_145 : decode cX5_init 145 = .ok (.putfield 63, 3) := by decide +kernel
theorem dX5_init_148 : decode cX5_init 148 = .ok (.iconst 0, 1) := by decide +kernel
theorem dX5_init_149 : decode cX5_init 149 = .ok (.istore_n 1, 1) := by decide +kernel
theorem dX5_init_150 : decode cX5_init 150 = .ok (.iload_n 1, 1) := by decide +kernel
theorem dX5_init_151 : decode cX5_init 151 = .ok (.bipush 6, 2) := by decide +kernel
theorem dX5_init_153 : decode cX5_init 153 = .ok (.if_icmp .ge 16, 3) := by decide +kernel
theorem dX5_init_156 : decode cX5_init 156 = .ok (.aload_n 0, 1) := by decide +kernel
theorem dX5_init_157 : decode cX5_init 157 = .ok (.getfield 7, 3) := by decide +kernel
theorem dX5_init_160 : decode cX5_init 160 = .ok (.iload_n 1, 1) := by decide +kernel
theorem dX5_init_161 : decode cX5_init 161 = .ok (.iconst (-1), 1) := by decide +kernel
theorem dX5_init_162 : decode cX5_init 162 = .ok (.iastore, 1) := by decide +kernel
theorem dX5_init_163 : decode cX5_init 163 = .ok (.iinc 1 1, 3) := by decide +kernel
theorem dX5_init_166 : decode cX5_init 166 = .ok (.goto (-16), 3) := by decide +kernel
theorem dX5_init_169 : decode cX5_init 169 = .ok (.iconst 0, 1) := by decide +kernel
theorem dX5_init_170 : decode cX5_init 170 = .ok (.istore_n 1, 1) := by decide +kernel
theorem dX5_init_171 : decode cX5_init 171 = .ok (.iload_n 1, 1) := by decide +kernel
theorem dX5_init_172 : decode cX5_init 172 = .ok (.iconst 4, 1) := by decide +kernel
theorem dX5_init_173 : decode cX5_init 173 = .ok (.if_icmp .ge 16, 3) := by decide +kernel
theorem dX5_init_176 : decode cX5_init 176 = .ok (.aload_n 0, 1) := by decide +kernel
theorem dX5_init_177 : decode cX5_init 177 = .ok (.getfield 16, 3) := by decide +kernel
theorem dX5_init_180 : decode cX5_init 180 = .ok (.iload_n 1, 1) := by decide +kernel
theorem dX5_init_181 : decode cX5_init 181 = .ok (.iconst (-1), 1) := by decide +kernel
theorem dX5_init_182 : decode cX5_init 182 = .ok (.iastore, 1) := by decide +kernel
theorem dX5_init_183 : decode cX5_init 183 = .ok (.iinc 1 1, 3) := by decide +kernel
theorem dX5_init_186 : decode cX5_init 186 = .ok (.goto (-15), 3) := by decide +kernel
theorem dX5_init_189 : decode cX5_init 189 = .ok (.return_, 1) := by decide +kernel
theorem dX5_in_0 : decode cX5_in 0 = .ok (.lload_n 0, 1) := by decide +kernel
theorem dX5_in_1 : decode cX5_in 1 = .ok (.lload_n 2, 1) := by decide +kernel
theorem dX5_in_2 : decode cX5_in 2 = .ok (.lcmp, 1) := by decide +kernel
theorem dX5_in_3 : decode cX5_in 3 = .ok (.ifCond .lt 14, 3) := by decide +kernel
theorem dX5_in_6 : decode cX5_in 6 = .ok (.lload_n 0, 1) := by decide +kernel
theorem dX5_in_7 : decode cX5_in 7 = .ok (.lload 4, 2) := by decide +kernel
theorem dX5_in_9 : decode cX5_in 9 = .ok (.lcmp, 1) := by decide +kernel
theorem dX5_in_10 : decode cX5_in 10 = .ok (.ifCond .gt 7, 3) := by decide +kernel
theorem dX5_in_13 : decode cX5_in 13 = .ok (.iconst 1, 1) := by decide +kernel
theorem dX5_in_14 : decode cX5_in 14 = .ok (.goto 4, 3) := by decide +kernel
theorem dX5_in_17 : decode cX5_in 17 = .ok (.iconst 0, 1) := by decide +kernel
theorem dX5_in_18 : decode cX5_in 18 = .ok (.ireturn, 1) := by decide +kernel
theorem dX5_has_0 : decode cX5_has 0 = .ok (.iload_n 0, 1) := by decide +kernel
theorem dX5_has_1 : decode cX5_has 1 = .ok (.iload_n 1, 1) := by decide +kernel
theorem dX5_has_2 : decode cX5_has 2 = .ok (.ishr, 1) := by decide +kernel
theorem dX5_has_3 : decode cX5_has 3 = .ok (.iconst 1, 1) := by decide +kernel
theorem dX5_has_4 : decode cX5_has 4 = .ok (.iand, 1) := by decide +kernel
theorem dX5_has_5 : decode cX5_has 5 = .ok (.iconst 1, 1) := by decide +kernel
theorem dX5_has_6 : decode cX5_has 6 = .ok (.if_icmp .ne 7, 3) := by decide +kernel
theorem dX5_has_9 : decode cX5_has 9 = .ok (.iconst 1, 1) := by decide +kernel
theorem dX5_has_10 : decode cX5_has 10 = .ok (.goto 4, 3) := by decide +kernel
theorem dX5_has_13 : decode cX5_has 13 = .ok (.iconst 0, 1) := by decide +kernel
theorem dX5_has_14 : decode cX5_has 14 = .ok (.ireturn, 1) := by decide +kernel
theorem dX5_bits_0 : decode cX5_bits 0 = .ok (.iconst 0, 1) := by decide +kernel
theorem dX5_bits_1 : decode cX5_bits 1 = .ok (.istore_n 1, 1) := by decide +kernel
theorem dX5_bits_2 : decode cX5_bits 2 = .ok (.iload_n 0, 1) := by decide +kernel
theorem dX5_bits_3 : decode cX5_bits 3 = .ok (.istore_n 2, 1) := by decide +kernel
theorem dX5_bits_4 : decode cX5_bits 4 = .ok (.iload_n 2, 1) := by decide +kernel
theorem dX5_bits_5 : decode cX5_bits 5 = .ok (.ifCond .eq 15, 3) := by decide +kernel
theorem dX5_bits_8 : decode cX5_bits 8 = .ok (.iinc 1 1, 3) := by decide +kernel
theorem dX5_bits_11 : decode cX5_bits 11 = .ok (.iload_n 2, 1) := by decide +kernel
theorem dX5_bits_12 : decode cX5_bits 12 = .ok (.iload_n 2, 1) := by decide +kernel
theorem dX5_bits_13 : decode cX5_bits 13 = .ok (.iconst 1, 1) := by decide +kernel
theorem dX5_bits_14 : decode cX5_bits 14 = .ok (.isub, 1) := by decide +kernel
theorem dX5_bits_15 : decode cX5_bits 15 = .ok (.iand, 1) := by decide +kernel
theorem dX5_bits_16 : decode cX5_bits 16 = .ok (.istore_n 2, 1) := by decide +kernel
theorem dX5_bits_17 : decode cX5_bits 17 = .ok (.goto (-13), 3) := by decide +kernel
theorem dX5_bits_20 : decode cX5_bits 20 = .ok (.iload_n 1, 1) := by decide +kernel
theorem dX5_bits_21 : decode cX5_bits 21 = .ok (.ireturn, 1) := by decide +kernel
theorem dX5_found_0 : decode cX5_found 0 = .ok (.aload_n 0, 1) := by decide +kernel
theorem dX5_found_1 : decode cX5_found 1 = .ok (.iload_n 1, 1) := by decide +kernel
theorem dX5_found_2 : decode cX5_found 2 = .ok (.putfield 66, 3) := by decide +kernel
theorem dX5_found_5 : decode cX5_found 5 = .ok (.aload_n 0, 1) := by decide +kernel
theorem dX5_found_6 : decode cX5_found 6 = .ok (.getfield 51, 3) := by decide +kernel
theorem dX5_found_9 : decode cX5_found 9 = .ok (.iload_n 1, 1) := by decide +kernel
theorem dX5_found_10 : decode cX5_found 10 = .ok (.dup2, 1) := by decide +kernel
theorem dX5_found_11 : decode cX5_found 11 = .ok (.iaload, 1) := by decide +kernel
theorem dX5_found_12 : decode cX5_found 12 = .ok (.iconst 1, 1) := by decide +kernel
theorem dX5_found_13 : decode cX5_found 13 = .ok (.iadd, 1) := by decide +kernel
theorem dX5_found_14 : decode cX5_found 14 = .ok (.iastore, 1) := by decide +kernel
theorem dX5_found_15 : decode cX5_found 15 = .ok (.bipush (-3), 2) := by decide +kernel
theorem dX5_found_17 : decode cX5_found 17 = .ok (.ireturn, 1) := by decide +kernel
theorem dX5_tell_0 : decode cX5_tell 0 = .ok (.aload_n 0, 1) := by decide +kernel
theorem dX5_tell_1 : decode cX5_tell 1 = .ok (.iload_n 1, 1) := by decide +kernel
theorem dX5_tell_2 : decode cX5_tell 2 = .ok (.putfield 70, 3) := by decide +kernel
theorem dX5_tell_5 : decode cX5_tell 5 = .ok (.iconst 1, 1) := by decide +kernel
theorem dX5_tell_6 : decode cX5_tell 6 = .ok (.ireturn, 1) := by decide +kernel
theorem dX5_answer_0 : decode cX5_answer 0 = .ok (.aload_n 0, 1) := by decide +kernel
theorem dX5_answer_1 : decode cX5_answer 1 = .ok (.iload_n 2, 1) := by decide +kernel
theorem dX5_answer_2 : decode cX5_answer 2 = .ok (.putfield 70, 3) := by decide +kernel
theorem dX5_answer_5 : decode cX5_answer 5 = .ok (.iload_n 1, 1) := by decide +kernel
theorem dX5_answer_6 : decode cX5_answer 6 = .ok (.ireturn, 1) := by decide +kernel
theorem dX5_isRow_0 : decode cX5_isRow 0 = .ok (.iload_n 0, 1) := by decide +kernel
theorem dX5_isRow_1 : decode cX5_isRow 1 = .ok (.i2l, 1) := by decide +kernel
theorem dX5_isRow_2 : decode cX5_isRow 2 = .ok (.lconst 0, 1) := by decide +kernel
theorem dX5_isRow_3 : decode cX5_isRow 3 = .ok (.ldc2_w 73, 3) := by decide +kernel
theorem dX5_isRow_6 : decode cX5_isRow 6 = .ok (.invokestatic 75, 3) := by decide +kernel
theorem dX5_isRow_9 : decode cX5_isRow 9 = .ok (.ireturn, 1) := by decide +kernel
theorem dX5_isText_0 : decode cX5_isText 0 = .ok (.iload_n 0, 1) := by decide +kernel
theorem dX5_isText_1 : decode cX5_isText 1 = .ok (.i2l, 1) := by decide +kernel
theorem dX5_isText_2 : decode cX5_isText 2 = .ok (.lconst 0, 1) := by decide +kernel
theorem dX5_isText_3 : decode cX5_isText 3 = .ok (.ldc2_w 79, 3) := by decide +kernel
theorem dX5_isText_6 : decode cX5_isText 6 = .ok (.invokestatic 75, 3) := by decide +kernel
theorem dX5_isText_9 : decode cX5_isText 9 = .ok (.ireturn, 1) := by decide +kernel
theorem dX5_row_0 : decode cX5_row 0 = .ok (.iload_n 1, 1) := by decide +kernel
theorem dX5_row_1 : decode cX5_row 1 = .ok (.invokestatic 81, 3) := by decide +kernel
theorem dX5_row_4 : decode cX5_row 4 = .ok (.ifCond .eq 9, 3) := by decide +kernel
theorem dX5_row_7 : decode cX5_row 7 = .ok (.iload_n 2, 1) := by decide +kernel
theorem dX5_row_8 : decode cX5_row 8 = .ok (.bipush 40, 2) := by decide +kernel
theorem dX5_row_10 : decode cX5_row 10 = .ok (.if_icmp .le 5, 3) := by decide +kernel
theorem dX5_row_13 : decode cX5_row 13 = .ok (.iconst (-1), 1) := by decide +kernel
theorem dX5_row_14 : decode cX5_row 14 = .ok (.ireturn, 1) := by decide +kernel
theorem dX5_row_15 : decode cX5_row 15 = .ok (.iload_n 2, 1) := by decide +kernel
theorem dX5_row_16 : decode cX5_row 16 = .ok (.ifCond .ge 9, 3) := by decide +kernel
theorem dX5_row_19 : decode cX5_row 19 = .ok (.aload_n 0, 1) := by decide +kernel
theorem dX5_row_20 : decode cX5_row 20 = .ok (.iconst 5, 1) := by decide +kernel
theorem dX5_row_21 : decode cX5_row 21 = .ok (.invokevirtual 85, 3) := by decide +kernel
theorem dX5_row_24 : decode cX5_row 24 = .ok (.ireturn, 1) := by decide +kernel
theorem dX5_row_25 : decode cX5_row 25 = .ok (.aload_n 0, 1) := by decide +kernel
theorem dX5_row_26 : decode cX5_row 26 = .ok (.getfield 7, 3) := by decide +kernel
theorem dX5_row_29 : decode cX5_row 29 = .ok (.iload_n 1, 1) := by decide +kernel
theorem dX5_row_30 : decode cX5_row 30 = .ok (.iload_n 2, 1) := by decide +kernel
theorem dX5_row_31 : decode cX5_row 31 = .ok (.iastore, 1) := by decide +kernel
theorem dX5_row_32 : decode cX5_row 32 = .ok (.iconst 0, 1) := by decide +kernel
theorem dX5_row_33 : decode cX5_row 33 = .ok (.istore_n 3, 1) := by decide +kernel
theorem dX5_row_34 : decode cX5_row 34 = .ok (.iload_n 3, 1) := by decide +kernel
theorem dX5_row_35 : decode cX5_row 35 = .ok (.bipush 40, 2) := by decide +kernel
theorem dX5_row_37 : decode cX5_row 37 = .ok (.if_icmp .ge 21, 3) := by decide +kernel
theorem dX5_row_40 : decode cX5_row 40 = .ok (.aload_n 0, 1) := by decide +kernel
theorem dX5_row_41 : decode cX5_row 41 = .ok (.getfield 13, 3) := by decide +kernel
theorem dX5_row_44 : decode cX5_row 44 = .ok (.bipush 40, 2) := by decide +kernel
theorem dX5_row_46 : decode cX5_row 46 = .ok (.iload_n 1, 1) := by decide +kernel
theorem dX5_row_47 : decode cX5_row 47 = .ok (.imul, 1) := by decide +kernel
theorem dX5_row_48 : decode cX5_row 48 = .ok (.iload_n 3, 1) := by decide +kernel
theorem dX5_row_49 : decode cX5_row 49 = .ok (.iadd, 1) := by decide +kernel
theorem dX5_row_50 : decode cX5_row 50 = .ok (.iconst 0, 1) := by decide +kernel
theorem dX5_row_51 : decode cX5_row 51 = .ok (.iastore, 1) := by decide +kernel
theorem dX5_row_52 : decode cX5_row 52 = .ok (.iinc 3 1, 3) := by decide +kernel
theorem dX5_row_55 : decode cX5_row 55 = .ok (.goto (-21), 3) := by decide +kernel
theorem dX5_row_58 : decode cX5_row 58 = .ok (.iload_n 2, 1) := by decide +kernel
theorem dX5_row_59 : decode cX5_row 59 = .ok (.ireturn, 1) := by decide +kernel
theorem dX5_lay_0 : decode cX5_lay 0 = .ok (.iload_n 1, 1) := by decide +kernel
theorem dX5_lay_1 : decode cX5_lay 1 = .ok (.invokestatic 81, 3) := by decide +kernel
theorem dX5_lay_4 : decode cX5_lay 4 = .ok (.ifCond .ne 5, 3) := by decide +kernel
theorem dX5_lay_7 : decode cX5_lay 7 = .ok (.iconst (-1), 1) := by decide +kernel
theorem dX5_lay_8 : decode cX5_lay 8 = .ok (.ireturn, 1) := by decide +kernel
theorem dX5_lay_9 : decode cX5_lay 9 = .ok (.aload_n 0, 1) := by decide +kernel
theorem dX5_lay_10 : decode cX5_lay 10 = .ok (.getfield 7, 3) := by decide +kernel
theorem dX5_lay_13 : decode cX5_lay 13 = .ok (.iload_n 1, 1) := by decide +kernel
theorem dX5_lay_14 : decode cX5_lay 14 = .ok (.iaload, 1) := by decide +kernel
theorem dX5_lay_15 : decode cX5_lay 15 = .ok (.ifCond .ge 9, 3) := by decide +kernel
theorem dX5_lay_18 : decode cX5_lay 18 = .ok (.aload_n 0, 1) := by decide +kernel
theorem dX5_lay_19 : decode cX5_lay 19 = .ok (.iconst 1, 1) := by decide +kernel
theorem dX5_lay_20 : decode cX5_lay 20 = .ok (.invokevirtual 85, 3) := by decide +kernel
theorem dX5_lay_23 : decode cX5_lay 23 = .ok (.ireturn, 1) := by decide +kernel
theorem dX5_lay_24 : decode cX5_lay 24 = .ok (.iload_n 2, 1) := by decide +kernel
theorem dX5_lay_25 : decode cX5_lay 25 = .ok (.i2l, 1) := by decide +kernel
theorem dX5_lay_26 : decode cX5_lay 26 = .ok (.lconst 0, 1) := by decide +kernel
theorem dX5_lay_27 : decode cX5_lay 27 = .ok (.aload_n 0, 1) := by decide +kernel
theorem dX5_lay_28 : decode cX5_lay 28 = .ok (.getfield 7, 3) := by decide +kernel
theorem dX5_lay_31 : decode cX5_lay 31 = .ok (.iload_n 1, 1) := by decide +kernel
theorem dX5_lay_32 : decode cX5_lay 32 = .ok (.iaload, 1) := by decide +kernel
theorem dX5_lay_33 : decode cX5_lay 33 = .ok (.iconst 1, 1) := by decide +kernel
theorem dX5_lay_34 : decode cX5_lay 34 = .ok (.isub, 1) := by decide +kernel
theorem dX5_lay_35 : decode cX5_lay 35 = .ok (.i2l, 1) := by decide +kernel
theorem dX5_lay_36 : decode cX5_lay 36 = .ok (.invokestatic 75, 3) := by decide +kernel
theorem dX5_lay_39 : decode cX5_lay 39 = .ok (.ifCond .ne 9, 3) := by decide +kernel
theorem dX5_lay_42 : decode cX5_lay 42 = .ok (.aload_n 0, 1) := by decide +kernel
theorem dX5_lay_43 : decode cX5_lay 43 = .ok (.iconst 2, 1) := by decide +kernel
theorem dX5_lay_44 : decode cX5_lay 44 = .ok (.invokevirtual 85, 3) := by decide +kernel
theorem dX5_lay_47 : decode cX5_lay 47 = .ok (.ireturn, 1) := by decide +kernel
theorem dX5_lay_48 : decode cX5_lay 48 = .ok (.aload_n 0, 1) := by decide +kernel
theorem dX5_lay_49 : decode cX5_lay 49 = .ok (.getfield 13, 3) := by decide +kernel
theorem dX5_lay_52 : decode cX5_lay 52 = .ok (.bipush 40, 2) := by decide +kernel
theorem dX5_lay_54 : decode cX5_lay 54 = .ok (.iload_n 1, 1) := by decide +kernel
theorem dX5_lay_55 : decode cX5_lay 55 = .ok (.imul, 1) := by decide +kernel
theorem dX5_lay_56 : decode cX5_lay 56 = .ok (.iload_n 2, 1) := by decide +kernel
theorem dX5_lay_57 : decode cX5_lay 57 = .ok (.iadd, 1) := by decide +kernel
theorem dX5_lay_58 : decode cX5_lay 58 = .ok (.iaload, 1) := by decide +kernel
theorem dX5_lay_59 : decode cX5_lay 59 = .ok (.istore 4, 2) := by decide +kernel
theorem dX5_lay_61 : decode cX5_lay 61 = .ok (.aload_n 0, 1) := by decide +kernel
theorem dX5_lay_62 : decode cX5_lay 62 = .ok (.getfield 13, 3) := by decide +kernel
theorem dX5_lay_65 : decode cX5_lay 65 = .ok (.bipush 40, 2) := by decide +kernel
theorem dX5_lay_67 : decode cX5_lay 67 = .ok (.iload_n 1, 1) := by decide +kernel
theorem dX5_lay_68 : decode cX5_lay 68 = .ok (.imul, 1) := by decide +kernel
theorem dX5_lay_69 : decode cX5_lay 69 = .ok (.iload_n 2, 1) := by decide +kernel
theorem dX5_lay_70 : decode cX5_lay 70 = .ok (.iadd, 1) := by decide +kernel
theorem dX5_lay_71 : decode cX5_lay 71 = .ok (.iload_n 3, 1) := by decide +kernel
theorem dX5_lay_72 : decode cX5_lay 72 = .ok (.iastore, 1) := by decide +kernel
theorem dX5_lay_73 : decode cX5_lay 73 = .ok (.aload_n 0, 1) := by decide +kernel
theorem dX5_lay_74 : decode cX5_lay 74 = .ok (.iload 4, 2) := by decide +kernel
theorem dX5_lay_76 : decode cX5_lay 76 = .ok (.invokevirtual 89, 3) := by decide +kernel
theorem dX5_lay_79 : decode cX5_lay 79 = .ok (.ireturn, 1) := by decide +kernel
theorem dX5_at_0 : decode cX5_at 0 = .ok (.iload_n 1, 1) := by decide +kernel
theorem dX5_at_1 : decode cX5_at 1 = .ok (.invokestatic 81, 3) := by decide +kernel
theorem dX5_at_4 : decode cX5_at 4 = .ok (.ifCond .ne 5, 3) := by decide +kernel
theorem dX5_at_7 : decode cX5_at 7 = .ok (.iconst (-1), 1) := by decide +kernel
theorem dX5_at_8 : decode cX5_at 8 = .ok (.ireturn, 1) := by decide +kernel
theorem dX5_at_9 : decode cX5_at 9 = .ok (.aload_n 0, 1) := by decide +kernel
theorem dX5_at_10 : decode cX5_at 10 = .ok (.getfield 7, 3) := by decide +kernel
theorem dX5_at_13 : decode cX5_at 13 = .ok (.iload_n 1, 1) := by decide +kernel
theorem dX5_at_14 : decode cX5_at 14 = .ok (.iaload, 1) := by decide +kernel
theorem dX5_at_15 : decode cX5_at 15 = .ok (.ifCond .ge 9, 3) := by decide +kernel
theorem dX5_at_18 : decode cX5_at 18 = .ok (.aload_n 0, 1) := by decide +kernel
theorem dX5_at_19 : decode cX5_at 19 = .ok (.iconst 1, 1) := by decide +kernel
theorem dX5_at_20 : decode cX5_at 20 = .ok (.invokevirtual 85, 3) := by decide +kernel
theorem dX5_at_23 : decode cX5_at 23 = .ok (.ireturn, 1) := by decide +kernel
theorem dX5_at_24 : decode cX5_at 24 = .ok (.iload_n 2, 1) := by decide +kernel
theorem dX5_at_25 : decode cX5_at 25 = .ok (.i2l, 1) := by decide +kernel
theorem dX5_at_26 : decode cX5_at 26 = .ok (.lconst 0, 1) := by decide +kernel
theorem dX5_at_27 : decode cX5_at 27 = .ok (.aload_n 0, 1) := by decide +kernel
theorem dX5_at_28 : decode cX5_at 28 = .ok (.getfield 7, 3) := by decide +kernel
theorem dX5_at_31 : decode cX5_at 31 = .ok (.iload_n 1, 1) := by decide +kernel
theorem dX5_at_32 : decode cX5_at 32 = .ok (.iaload, 1) := by decide +kernel
theorem dX5_at_33 : decode cX5_at 33 = .ok (.iconst 1, 1) := by decide +kernel
theorem dX5_at_34 : decode cX5_at 34 = .ok (.isub, 1) := by decide +kernel
theorem dX5_at_35 : decode cX5_at 35 = .ok (.i2l, 1) := by decide +kernel
theorem dX5_at_36 : decode cX5_at 36 = .ok (.invokestatic 75, 3) := by decide +kernel
theorem dX5_at_39 : decode cX5_at 39 = .ok (.ifCond .eq 21, 3) := by decide +kernel
theorem dX5_at_42 : decode cX5_at 42 = .ok (.aload_n 0, 1) := by decide +kernel
theorem dX5_at_43 : decode cX5_at 43 = .ok (.aload_n 0, 1) := by decide +kernel
theorem dX5_at_44 : decode cX5_at 44 = .ok (.getfield 13, 3) := by decide +kernel
theorem dX5_at_47 : decode cX5_at 47 = .ok (.bipush 40, 2) := by decide +kernel
theorem dX5_at_49 : decode cX5_at 49 = .ok (.iload_n 1, 1) := by decide +kernel
theorem dX5_at_50 : decode cX5_at 50 = .ok (.imul, 1) := by decide +kernel
theorem dX5_at_51 : decode cX5_at 51 = .ok (.iload_n 2, 1) := by decide +kernel
theorem dX5_at_52 : decode cX5_at 52 = .ok (.iadd, 1) := by decide +kernel
theorem dX5_at_53 : decode cX5_at 53 = .ok (.iaload, 1) := by decide +kernel
theorem dX5_at_54 : decode cX5_at 54 = .ok (.invokevirtual 89, 3) := by decide +kernel
theorem dX5_at_57 : decode cX5_at 57 = .ok (.goto 8, 3) := by decide +kernel
theorem dX5_at_60 : decode cX5_at 60 = .ok (.aload_n 0, 1) := by decide +kernel
theorem dX5_at_61 : decode cX5_at 61 = .ok (.iconst 2, 1) := by decide +kernel
theorem dX5_at_62 : decode cX5_at 62 = .ok (.invokevirtual 85, 3) := by decide +kernel
theorem dX5_at_65 : decode cX5_at 65 = .ok (.ireturn, 1) := by decide +kernel
theorem dX5_tear_0 : decode cX5_tear 0 = .ok (.iload_n 1, 1) := by decide +kernel
theorem dX5_tear_1 : decode cX5_tear 1 = .ok (.invokestatic 81, 3) := by decide +kernel
theorem dX5_tear_4 : decode cX5_tear 4 = .ok (.ifCond .ne 5, 3) := by decide +kernel
theorem dX5_tear_7 : decode cX5_tear 7 = .ok (.iconst (-1), 1) := by decide +kernel
theorem dX5_tear_8 : decode cX5_tear 8 = .ok (.ireturn, 1) := by decide +kernel
theorem dX5_tear_9 : decode cX5_tear 9 = .ok (.aload_n 0, 1) := by decide +kernel
theorem dX5_tear_10 : decode cX5_tear 10 = .ok (.getfield 7, 3) := by decide +kernel
theorem dX5_tear_13 : decode cX5_tear 13 = .ok (.iload_n 1, 1) := by decide +kernel
theorem dX5_tear_14 : decode cX5_tear 14 = .ok (.iaload, 1) := by decide +kernel
theorem dX5_tear_15 : decode cX5_tear 15 = .ok (.ifCond .ge 9, 3) := by decide +kernel
theorem dX5_tear_18 : decode cX5_tear 18 = .ok (.aload_n 0, 1) := by decide +kernel
theorem dX5_tear_19 : decode cX5_tear 19 = .ok (.iconst 1, 1) := by decide +kernel
theorem dX5_tear_20 : decode cX5_tear 20 = .ok (.invokevirtual 85, 3) := by decide +kernel
theorem dX5_tear_23 : decode cX5_tear 23 = .ok (.ireturn, 1) := by decide +kernel
theorem dX5_tear_24 : decode cX5_tear 24 = .ok (.aload_n 0, 1) := by decide +kernel
theorem dX5_tear_25 : decode cX5_tear 25 = .ok (.getfield 7, 3) := by decide +kernel
theorem dX5_tear_28 : decode cX5_tear 28 = .ok (.iload_n 1, 1) := by decide +kernel
theorem dX5_tear_29 : decode cX5_tear 29 = .ok (.iconst (-1), 1) := by decide +kernel
theorem dX5_tear_30 : decode cX5_tear 30 = .ok (.iastore, 1) := by decide +kernel
theorem dX5_tear_31 : decode cX5_tear 31 = .ok (.iconst 1, 1) := by decide +kernel
theorem dX5_tear_32 : decode cX5_tear 32 = .ok (.ireturn, 1) := by decide +kernel
theorem dX5_copy_0 : decode cX5_copy 0 = .ok (.iload_n 1, 1) := by decide +kernel
theorem dX5_copy_1 : decode cX5_copy 1 = .ok (.invokestatic 81, 3) := by decide +kernel
theorem dX5_copy_4 : decode cX5_copy 4 = .ok (.ifCond .eq 10, 3) := by decide +kernel
theorem dX5_copy_7 : decode cX5_copy 7 = .ok (.iload_n 3, 1) := by decide +kernel
theorem dX5_copy_8 : decode cX5_copy 8 = .ok (.invokestatic 81, 3) := by decide +kernel
theorem dX5_copy_11 : decode cX5_copy 11 = .ok (.ifCond .ne 5, 3) := by decide +kernel
theorem dX5_copy_14 : decode cX5_copy 14 = .ok (.iconst (-1), 1) := by decide +kernel
theorem dX5_copy_15 : decode cX5_copy 15 = .ok (.ireturn, 1) := by decide +kernel
theorem dX5_copy_16 : decode cX5_copy 16 = .ok (.iload 5, 2) := by decide +kernel
theorem dX5_copy_18 : decode cX5_copy 18 = .ok (.ifCond .ge 9, 3) := by decide +kernel
theorem dX5_copy_21 : decode cX5_copy 21 = .ok (.aload_n 0, 1) := by decide +kernel
theorem dX5_copy_22 : decode cX5_copy 22 = .ok (.iconst 5, 1) := by decide +kernel
theorem dX5_copy_23 : decode cX5_copy 23 = .ok (.invokevirtual 85, 3) := by decide +kernel
theorem dX5_copy_26 : decode cX5_copy 26 = .ok (.ireturn, 1) := by decide +kernel
theorem dX5_copy_27 : decode cX5_copy 27 = .ok (.aload_n 0, 1) := by decide +kernel
theorem dX5_copy_28 : decode cX5_copy 28 = .ok (.getfield 7, 3) := by decide +kernel
theorem dX5_copy_31 : decode cX5_copy 31 = .ok (.iload_n 1, 1) := by decide +kernel
theorem dX5_copy_32 : decode cX5_copy 32 = .ok (.iaload, 1) := by decide +kernel
theorem dX5_copy_33 : decode cX5_copy 33 = .ok (.ifCond .lt 12, 3) := by decide +kernel
theorem dX5_copy_36 : decode cX5_copy 36 = .ok (.aload_n 0, 1) := by decide +kernel
theorem dX5_copy_37 : decode cX5_copy 37 = .ok (.getfield 7, 3) := by decide +kernel
theorem dX5_copy_40 : decode cX5_copy 40 = .ok (.iload_n 3, 1) := by decide +kernel
theorem dX5_copy_41 : decode cX5_copy 41 = .ok (.iaload, 1) := by decide +kernel
theorem dX5_copy_42 : decode cX5_copy 42 = .ok (.ifCond .ge 9, 3) := by decide +kernel
theorem dX5_copy_45 : decode cX5_copy 45 = .ok (.aload_n 0, 1) := by decide +kernel
theorem dX5_copy_46 : decode cX5_copy 46 = .ok (.iconst 1, 1) := by decide +kernel
theorem dX5_copy_47 : decode cX5_copy 47 = .ok (.invokevirtual 85, 3) := by decide +kernel
theorem dX5_copy_50 : decode cX5_copy 50 = .ok (.ireturn, 1) := by decide +kernel
theorem dX5_copy_51 : decode cX5_copy 51 = .ok (.iload_n 2, 1) := by decide +kernel
theorem dX5_copy_52 : decode cX5_copy 52 = .ok (.ifCond .lt 43, 3) := by decide +kernel
theorem dX5_copy_55 : decode cX5_copy 55 = .ok (.iload 4, 2) := by decide +kernel
theorem dX5_copy_57 : decode cX5_copy 57 = .ok (.ifCond .lt 38, 3) := by decide +kernel
theorem dX5_copy_60 : decode cX5_copy 60 = .ok (.iload_n 2, 1) := by decide +kernel
theorem dX5_copy_61 : decode cX5_copy 61 = .ok (.i2l, 1) := by decide +kernel
theorem dX5_copy_62 : decode cX5_copy 62 = .ok (.iload 5, 2) := by decide +kernel
theorem dX5_copy_64 : decode cX5_copy 64 = .ok (.i2l, 1) := by decide +kernel
theorem dX5_copy_65 : decode cX5_copy 65 = .ok (.ladd, 1) := by decide +kernel
theorem dX5_copy_66 : decode cX5_copy 66 = .ok (.aload_n 0, 1) := by decide +kernel
theorem dX5_copy_67 : decode cX5_copy 67 = .ok (.getfield 7, 3) := by decide +kernel
theorem dX5_copy_70 : decode cX5_copy 70 = .ok (.iload_n 1, 1) := by decide +kernel
theorem dX5_copy_71 : decode cX5_copy 71 = .ok (.iaload, 1) := by decide +kernel
theorem dX5_copy_72 : decode cX5_copy 72 = .ok (.i2l, 1) := by decide +kernel
theorem dX5_copy_73 : decode cX5_copy 73 = .ok (.lcmp, 1) := by decide +kernel
theorem dX5_copy_74 : decode cX5_copy 74 = .ok (.ifCond .gt 21, 3) := by decide +kernel
theorem dX5_copy_77 : decode cX5_copy 77 = .ok (.iload 4, 2) := by decide +kernel
theorem dX5_copy_79 : decode cX5_copy 79 = .ok (.i2l, 1) := by decide +kernel
theorem dX5_copy_80 : decode cX5_copy 80 = .ok (.iload 5, 2) := by decide +kernel
theorem dX5_copy_82 : decode cX5_copy 82 = .ok (.i2l, 1) := by decide +kernel
theorem dX5_copy_83 : decode cX5_copy 83 = .ok (.ladd, 1) := by decide +kernel
theorem dX5_copy_84 : decode cX5_copy 84 = .ok (.aload_n 0, 1) := by decide +kernel
theorem dX5_copy_85 : decode cX5_copy 85 = .ok (.getfield 7, 3) := by decide +kernel
theorem dX5_copy_88 : decode cX5_copy 88 = .ok (.iload_n 3, 1) := by decide +kernel
theorem dX5_copy_89 : decode cX5_copy 89 = .ok (.iaload, 1) := by decide +kernel
theorem dX5_copy_90 : decode cX5_copy 90 = .ok (.i2l, 1) := by decide +kernel
theorem dX5_copy_91 : decode cX5_copy 91 = .ok (.lcmp, 1) := by decide +kernel
theorem dX5_copy_92 : decode cX5_copy 92 = .ok (.ifCond .le 9, 3) := by decide +kernel
theorem dX5_copy_95 : decode cX5_copy 95 = .ok (.aload_n 0, 1) := by decide +kernel
theorem dX5_copy_96 : decode cX5_copy 96 = .ok (.iconst 2, 1) := by decide +kernel
theorem dX5_copy_97 : decode cX5_copy 97 = .ok (.invokevirtual 85, 3) := by decide +kernel
theorem dX5_copy_100 : decode cX5_copy 100 = .ok (.ireturn, 1) := by decide +kernel
theorem dX5_copy_101 : decode cX5_copy 101 = .ok (.iconst 0, 1) := by decide +kernel
theorem dX5_copy_102 : decode cX5_copy 102 = .ok (.istore 6, 2) := by decide +kernel
theorem dX5_copy_104 : decode cX5_copy 104 = .ok (.iload 6, 2) := by decide +kernel
theorem dX5_copy_106 : decode cX5_copy 106 = .ok (.iload 5, 2) := by decide +kernel
theorem dX5_copy_108 : decode cX5_copy 108 = .ok (.if_icmp .ge 58, 3) := by decide +kernel
theorem dX5_copy_111 : decode cX5_copy 111 = .ok (.iload 4, 2) := by decide +kernel
theorem dX5_copy_113 : decode cX5_copy 113 = .ok (.iload_n 2, 1) := by decide +kernel
theorem dX5_copy_114 : decode cX5_copy 114 = .ok (.if_icmp .le 13, 3) := by decide +kernel
theorem dX5_copy_117 : decode cX5_copy 117 = .ok (.iload 5, 2) := by decide +kernel
theorem dX5_copy_119 : decode cX5_copy 119 = .ok (.iconst 1, 1) := by decide +kernel
theorem dX5_copy_120 : decode cX5_copy 120 = .ok (.isub, 1) := by decide +kernel
theorem dX5_copy_121 : decode cX5_copy 121 = .ok (.iload 6, 2) := by decide +kernel
theorem dX5_copy_123 : decode cX5_copy 123 = .ok (.isub, 1) := by decide +kernel
theorem dX5_copy_124 : decode cX5_copy 124 = .ok (.goto 5, 3) := by decide +kernel
theorem dX5_copy_127 : decode cX5_copy 127 = .ok (.iload 6, 2) := by decide +kernel
theorem dX5_copy_129 : decode cX5_copy 129 = .ok (.istore 7, 2) := by decide +kernel
theorem dX5_copy_131 : decode cX5_copy 131 = .ok (.aload_n 0, 1) := by decide +kernel
theorem dX5_copy_132 : decode cX5_copy 132 = .ok (.getfield 13, 3) := by decide +kernel
theorem dX5_copy_135 : decode cX5_copy 135 = .ok (.bipush 40, 2) := by decide +kernel
theorem dX5_copy_137 : decode cX5_copy 137 = .ok (.iload_n 3, 1) := by decide +kernel
theorem dX5_copy_138 : decode cX5_copy 138 = .ok (.imul, 1) := by decide +kernel
theorem dX5_copy_139 : decode cX5_copy 139 = .ok (.iload 4, 2) := by decide +kernel
theorem dX5_copy_141 : decode cX5_copy 141 = .ok (.iadd, 1) := by decide +kernel
theorem dX5_copy_142 : decode cX5_copy 142 = .ok (.iload 7, 2) := by decide +kernel
theorem dX5_copy_144 : decode cX5_copy 144 = .ok (.iadd, 1) := by decide +kernel
theorem dX5_copy_145 : decode cX5_copy 145 = .ok (.aload_n 0, 1) := by decide +kernel
theorem dX5_copy_146 : decode cX5_copy 146 = .ok (.getfield 13, 3) := by decide +kernel
theorem dX5_copy_149 : decode cX5_copy 149 = .ok (.bipush 40, 2) := by decide +kernel
theorem dX5_copy_151 : decode cX5_copy 151 = .ok (.iload_n 1, 1) := by decide +kernel
theorem dX5_copy_152 : decode cX5_copy 152 = .ok (.imul, 1) := by decide +kernel
theorem dX5_copy_153 : decode cX5_copy 153 = .ok (.iload_n 2, 1) := by decide +kernel
theorem dX5_copy_154 : decode cX5_copy 154 = .ok (.iadd, 1) := by decide +kernel
theorem dX5_copy_155 : decode cX5_copy 155 = .ok (.iload 7, 2) := by decide +kernel
theorem dX5_copy_157 : decode cX5_copy 157 = .ok (.iadd, 1) := by decide +kernel
theorem dX5_copy_158 : decode cX5_copy 158 = .ok (.iaload, 1) := by decide +kernel
theorem dX5_copy_159 : decode cX5_copy 159 = .ok (.iastore, 1) := by decide +kernel
theorem dX5_copy_160 : decode cX5_copy 160 = .ok (.iinc 6 1, 3) := by decide +kernel
theorem dX5_copy_163 : decode cX5_copy 163 = .ok (.goto (-59), 3) := by decide +kernel
theorem dX5_copy_166 : decode cX5_copy 166 = .ok (.iconst 1, 1) := by decide +kernel
theorem dX5_copy_167 : decode cX5_copy 167 = .ok (.ireturn, 1) := by decide +kernel
theorem dX5_mean_0 : decode cX5_mean 0 = .ok (.iload_n 1, 1) := by decide +kernel
theorem dX5_mean_1 : decode cX5_mean 1 = .ok (.invokestatic 81, 3) := by decide +kernel
theorem dX5_mean_4 : decode cX5_mean 4 = .ok (.ifCond .ne 5, 3) := by decide +kernel
theorem dX5_mean_7 : decode cX5_mean 7 = .ok (.iconst (-1), 1) := by decide +kernel
theorem dX5_mean_8 : decode cX5_mean 8 = .ok (.ireturn, 1) := by decide +kernel
theorem dX5_mean_9 : decode cX5_mean 9 = .ok (.aload_n 0, 1) := by decide +kernel
theorem dX5_mean_10 : decode cX5_mean 10 = .ok (.getfield 7, 3) := by decide +kernel
theorem dX5_mean_13 : decode cX5_mean 13 = .ok (.iload_n 1, 1) := by decide +kernel
theorem dX5_mean_14 : decode cX5_mean 14 = .ok (.iaload, 1) := by decide +kernel
theorem dX5_mean_15 : decode cX5_mean 15 = .ok (.ifCond .ge 9, 3) := by decide +kernel
theorem dX5_mean_18 : decode cX5_mean 18 = .ok (.aload_n 0, 1) := by decide +kernel
theorem dX5_mean_19 : decode cX5_mean 19 = .ok (.iconst 1, 1) := by decide +kernel
theorem dX5_mean_20 : decode cX5_mean 20 = .ok (.invokevirtual 85, 3) := by decide +kernel
theorem dX5_mean_23 : decode cX5_mean 23 = .ok (.ireturn, 1) := by decide +kernel
theorem dX5_mean_24 : decode cX5_mean 24 = .ok (.aload_n 0, 1) := by decide +kernel
theorem dX5_mean_25 : decode cX5_mean 25 = .ok (.getfield 7, 3) := by decide +kernel
theorem dX5_mean_28 : decode cX5_mean 28 = .ok (.iload_n 1, 1) := by decide +kernel
theorem dX5_mean_29 : decode cX5_mean 29 = .ok (.iaload, 1) := by decide +kernel
theorem dX5_mean_30 : decode cX5_mean 30 = .ok (.ifCond .ne 9, 3) := by decide +kernel
theorem dX5_mean_33 : decode cX5_mean 33 = .ok (.aload_n 0, 1) := by decide +kernel
theorem dX5_mean_34 : decode cX5_mean 34 = .ok (.iconst 4, 1) := by decide +kernel
theorem dX5_mean_35 : decode cX5_mean 35 = .ok (.invokevirtual 85, 3) := by decide +kernel
theorem dX5_mean_38 : decode cX5_mean 38 = .ok (.ireturn, 1) := by decide +kernel
theorem dX5_mean_39 : decode cX5_mean 39 = .ok (.lconst 0, 1) := by decide +kernel
theorem dX5_mean_40 : decode cX5_mean 40 = .ok (.lstore_n 2, 1) := by decide +kernel
theorem dX5_mean_41 : decode cX5_mean 41 = .ok (.iconst 0, 1) := by decide +kernel
theorem dX5_mean_42 : decode cX5_mean 42 = .ok (.istore 4, 2) := by decide +kernel
theorem dX5_mean_44 : decode cX5_mean 44 = .ok (.iload 4, 2) := by decide +kernel
theorem dX5_mean_46 : decode cX5_mean 46 = .ok (.aload_n 0, 1) := by decide +kernel
theorem dX5_mean_47 : decode cX5_mean 47 = .ok (.getfield 7, 3) := by decide +kernel
theorem dX5_mean_50 : decode cX5_mean 50 = .ok (.iload_n 1, 1) := by decide +kernel
theorem dX5_mean_51 : decode cX5_mean 51 = .ok (.iaload, 1) := by decide +kernel
theorem dX5_mean_52 : decode cX5_mean 52 = .ok (.if_icmp .ge 25, 3) := by decide +kernel
theorem dX5_mean_55 : decode cX5_mean 55 = .ok (.lload_n 2, 1) := by decide +kernel
theorem dX5_mean_56 : decode cX5_mean 56 = .ok (.aload_n 0, 1) := by decide +kernel
theorem dX5_mean_57 : decode cX5_mean 57 = .ok (.getfield 13, 3) := by decide +kernel
theorem dX5_mean_60 : decode cX5_mean 60 = .ok (.bipush 40, 2) := by decide +kernel
theorem dX5_mean_62 : decode cX5_mean 62 = .ok (.iload_n 1, 1) := by decide +kernel
theorem dX5_mean_63 : decode cX5_mean 63 = .ok (.imul, 1) := by decide +kernel
theorem dX5_mean_64 : decode cX5_mean 64 = .ok (.iload 4, 2) := by decide +kernel
theorem dX5_mean_66 : decode cX5_mean 66 = .ok (.iadd, 1) := by decide +kernel
theorem dX5_mean_67 : decode cX5_mean 67 = .ok (.iaload, 1) := by decide +kernel
theorem dX5_mean_68 : decode cX5_mean 68 = .ok (.i2l, 1) := by decide +kernel
theorem dX5_mean_69 : decode cX5_mean 69 = .ok (.ladd, 1) := by decide +kernel
theorem dX5_mean_70 : decode cX5_mean 70 = .ok (.lstore_n 2, 1) := by decide +kernel
theorem dX5_mean_71 : decode cX5_mean 71 = .ok (.iinc 4 1, 3) := by decide +kernel
theorem dX5_mean_74 : decode cX5_mean 74 = .ok (.goto (-30), 3) := by decide +kernel
theorem dX5_mean_77 : decode cX5_mean 77 = .ok (.aload_n 0, 1) := by decide +kernel
theorem dX5_mean_78 : decode cX5_mean 78 = .ok (.lload_n 2, 1) := by decide +kernel
theorem dX5_mean_79 : decode cX5_mean 79 = .ok (.aload_n 0, 1) := by decide +kernel
theorem dX5_mean_80 : decode cX5_mean 80 = .ok (.getfield 7, 3) := by decide +kernel
theorem dX5_mean_83 : decode cX5_mean 83 = .ok (.iload_n 1, 1) := by decide +kernel
theorem dX5_mean_84 : decode cX5_mean 84 = .ok (.iaload, 1) := by decide +kernel
theorem dX5_mean_85 : decode cX5_mean 85 = .ok (.i2l, 1) := by decide +kernel
theorem dX5_mean_86 : decode cX5_mean 86 = .ok (.ldiv, 1) := by decide +kernel
theorem dX5_mean_87 : decode cX5_mean 87 = .ok (.l2i, 1) := by decide +kernel
theorem dX5_mean_88 : decode cX5_mean 88 = .ok (.invokevirtual 89, 3) := by decide +kernel
theorem dX5_mean_91 : decode cX5_mean 91 = .ok (.ireturn, 1) := by decide +kernel
theorem dX5_text_0 : decode cX5_text 0 = .ok (.iload_n 1, 1) := by decide +kernel
theorem dX5_text_1 : decode cX5_text 1 = .ok (.invokestatic 92, 3) := by decide +kernel
theorem dX5_text_4 : decode cX5_text 4 = .ok (.ifCond .eq 9, 3) := by decide +kernel
theorem dX5_text_7 : decode cX5_text 7 = .ok (.iload_n 2, 1) := by decide +kernel
theorem dX5_text_8 : decode cX5_text 8 = .ok (.bipush 60, 2) := by decide +kernel
theorem dX5_text_10 : decode cX5_text 10 = .ok (.if_icmp .le 5, 3) := by decide +kernel
theorem dX5_text_13 : decode cX5_text 13 = .ok (.iconst (-1), 1) := by decide +kernel
theorem dX5_text_14 : decode cX5_text 14 = .ok (.ireturn, 1) := by decide +kernel
theorem dX5_text_15 : decode cX5_text 15 = .ok (.iload_n 2, 1) := by decide +kernel
theorem dX5_text_16 : decode cX5_text 16 = .ok (.ifCond .ge 9, 3) := by decide +kernel
theorem dX5_text_19 : decode cX5_text 19 = .ok (.aload_n 0, 1) := by decide +kernel
theorem dX5_text_20 : decode cX5_text 20 = .ok (.iconst 5, 1) := by decide +kernel
theorem dX5_text_21 : decode cX5_text 21 = .ok (.invokevirtual 85, 3) := by decide +kernel
theorem dX5_text_24 : decode cX5_text 24 = .ok (.ireturn, 1) := by decide +kernel
theorem dX5_text_25 : decode cX5_text 25 = .ok (.aload_n 0, 1) := by decide +kernel
theorem dX5_text_26 : decode cX5_text 26 = .ok (.getfield 16, 3) := by decide +kernel
theorem dX5_text_29 : decode cX5_text 29 = .ok (.iload_n 1, 1) := by decide +kernel
theorem dX5_text_30 : decode cX5_text 30 = .ok (.iload_n 2, 1) := by decide +kernel
theorem dX5_text_31 : decode cX5_text 31 = .ok (.iastore, 1) := by decide +kernel
theorem dX5_text_32 : decode cX5_text 32 = .ok (.iconst 0, 1) := by decide +kernel
theorem dX5_text_33 : decode cX5_text 33 = .ok (.istore_n 3, 1) := by decide +kernel
theorem dX5_text_34 : decode cX5_text 34 = .ok (.iload_n 3, 1) := by decide +kernel
theorem dX5_text_35 : decode cX5_text 35 = .ok (.bipush 60, 2) := by decide +kernel
theorem dX5_text_37 : decode cX5_text 37 = .ok (.if_icmp .ge 22, 3) := by decide +kernel
theorem dX5_text_40 : decode cX5_text 40 = .ok (.aload_n 0, 1) := by decide +kernel
theorem dX5_text_41 : decode cX5_text 41 = .ok (.getfield 19, 3) := by decide +kernel
theorem dX5_text_44 : decode cX5_text 44 = .ok (.bipush 60, 2) := by decide +kernel
theorem dX5_text_46 : decode cX5_text 46 = .ok (.iload_n 1, 1) := by decide +kernel
theorem dX5_text_47 : decode cX5_text 47 = .ok (.imul, 1) := by decide +kernel
theorem dX5_text_48 : decode cX5_text 48 = .ok (.iload_n 3, 1) := by decide +kernel
theorem dX5_text_49 : decode cX5_text 49 = .ok (.iadd, 1) := by decide +kernel
theorem dX5_text_50 : decode cX5_text 50 = .ok (.bipush 32, 2) := by decide +kernel
theorem dX5_text_52 : decode cX5_text 52 = .ok (.iastore, 1) := by decide +kernel
theorem dX5_text_53 : decode cX5_text 53 = .ok (.iinc 3 1, 3) := by decide +kernel
theorem dX5_text_56 : decode cX5_text 56 = .ok (.goto (-22), 3) := by decide +kernel
theorem dX5_text_59 : decode cX5_text 59 = .ok (.iload_n 2, 1) := by decide +kernel
theorem dX5_text_60 : decode cX5_text 60 = .ok (.ireturn, 1) := by decide +kernel
theorem dX5_put_0 : decode cX5_put 0 = .ok (.iload_n 1, 1) := by decide +kernel
theorem dX5_put_1 : decode cX5_put 1 = .ok (.invokestatic 92, 3) := by decide +kernel
theorem dX5_put_4 : decode cX5_put 4 = .ok (.ifCond .ne 5, 3) := by decide +kernel
theorem dX5_put_7 : decode cX5_put 7 = .ok (.iconst (-1), 1) := by decide +kernel
theorem dX5_put_8 : decode cX5_put 8 = .ok (.ireturn, 1) := by decide +kernel
theorem dX5_put_9 : decode cX5_put 9 = .ok (.aload_n 0, 1) := by decide +kernel
theorem dX5_put_10 : decode cX5_put 10 = .ok (.getfield 16, 3) := by decide +kernel
theorem dX5_put_13 : decode cX5_put 13 = .ok (.iload_n 1, 1) := by decide +kernel
theorem dX5_put_14 : decode cX5_put 14 = .ok (.iaload, 1) := by decide +kernel
theorem dX5_put_15 : decode cX5_put 15 = .ok (.ifCond .ge 9, 3) := by decide +kernel
theorem dX5_put_18 : decode cX5_put 18 = .ok (.aload_n 0, 1) := by decide +kernel
theorem dX5_put_19 : decode cX5_put 19 = .ok (.iconst 1, 1) := by decide +kernel
theorem dX5_put_20 : decode cX5_put 20 = .ok (.invokevirtual 85, 3) := by decide +kernel
theorem dX5_put_23 : decode cX5_put 23 = .ok (.ireturn, 1) := by decide +kernel
theorem dX5_put_24 : decode cX5_put 24 = .ok (.iload_n 2, 1) := by decide +kernel
theorem dX5_put_25 : decode cX5_put 25 = .ok (.i2l, 1) := by decide +kernel
theorem dX5_put_26 : decode cX5_put 26 = .ok (.lconst 0, 1) := by decide +kernel
theorem dX5_put_27 : decode cX5_put 27 = .ok (.aload_n 0, 1) := by decide +kernel
theorem dX5_put_28 : decode cX5_put 28 = .ok (.getfield 16, 3) := by decide +kernel
theorem dX5_put_31 : decode cX5_put 31 = .ok (.iload_n 1, 1) := by decide +kernel
theorem dX5_put_32 : decode cX5_put 32 = .ok (.iaload, 1) := by decide +kernel
theorem dX5_put_33 : decode cX5_put 33 = .ok (.iconst 1, 1) := by decide +kernel
theorem dX5_put_34 : decode cX5_put 34 = .ok (.isub, 1) := by decide +kernel
theorem dX5_put_35 : decode cX5_put 35 = .ok (.i2l, 1) := by decide +kernel
theorem dX5_put_36 : decode cX5_put 36 = .ok (.invokestatic 75, 3) := by decide +kernel
theorem dX5_put_39 : decode cX5_put 39 = .ok (.ifCond .ne 9, 3) := by decide +kernel
theorem dX5_put_42 : decode cX5_put 42 = .ok (.aload_n 0, 1) := by decide +kernel
theorem dX5_put_43 : decode cX5_put 43 = .ok (.iconst 2, 1) := by decide +kernel
theorem dX5_put_44 : decode cX5_put 44 = .ok (.invokevirtual 85, 3) := by decide +kernel
theorem dX5_put_47 : decode cX5_put 47 = .ok (.ireturn, 1) := by decide +kernel
theorem dX5_put_48 : decode cX5_put 48 = .ok (.aload_n 0, 1) := by decide +kernel
theorem dX5_put_49 : decode cX5_put 49 = .ok (.getfield 19, 3) := by decide +kernel
theorem dX5_put_52 : decode cX5_put 52 = .ok (.bipush 60, 2) := by decide +kernel
theorem dX5_put_54 : decode cX5_put 54 = .ok (.iload_n 1, 1) := by decide +kernel
theorem dX5_put_55 : decode cX5_put 55 = .ok (.imul, 1) := by decide +kernel
theorem dX5_put_56 : decode cX5_put 56 = .ok (.iload_n 2, 1) := by decide +kernel
theorem dX5_put_57 : decode cX5_put 57 = .ok (.iadd, 1) := by decide +kernel
theorem dX5_put_58 : decode cX5_put 58 = .ok (.iaload, 1) := by decide +kernel
end
section
theorem dX5_put_59 : decode cX5_put 59 = .ok (.istore 4, 2) := by decide +kernel
theorem dX5_put_61 : decode cX5_put 61 = .ok (.aload_n 0, 1) := by decide +kernel
theorem dX5_put_62 : decode cX5_put 62 = .ok (.getfield 19, 3) := by decide +kernel
theorem dX5_put_65 : decode cX5_put 65 = .ok (.bipush 60, 2) := by decide +kernel
theorem dX5_put_67 : decode cX5_put 67 = .ok (.iload_n 1, 1) := by decide +kernel
theorem dX5_put_68 : decode cX5_put 68 = .ok (.imul, 1) := by decide +kernel
theorem dX5_put_69 : decode cX5_put 69 = .ok (.iload_n 2, 1) := by decide +kernel
theorem dX5_put_70 : decode cX5_put 70 = .ok (.iadd, 1) := by decide +kernel
theorem dX5_put_71 : decode cX5_put 71 = .ok (.iload_n 3, 1) := by decide +kernel
theorem dX5_put_72 : decode cX5_put 72 = .ok (.i2b, 1) := by decide +kernel
theorem dX5_put_73 : decode cX5_put 73 = .ok (.iastore, 1) := by decide +kernel
theorem dX5_put_74 : decode cX5_put 74 = .ok (.iload 4, 2) := by decide +kernel
theorem dX5_put_76 : decode cX5_put 76 = .ok (.sipush 1000, 3) := by decide +kernel
theorem dX5_put_79 : decode cX5_put 79 = .ok (.iadd, 1) := by decide +kernel
theorem dX5_put_80 : decode cX5_put 80 = .ok (.ireturn, 1) := by decide +kernel
theorem dX5_copies_0 : decode cX5_copies 0 = .ok (.iconst 0, 1) := by decide +kernel
theorem dX5_copies_1 : decode cX5_copies 1 = .ok (.istore 5, 2) := by decide +kernel
theorem dX5_copies_3 : decode cX5_copies 3 = .ok (.iload 5, 2) := by decide +kernel
theorem dX5_copies_5 : decode cX5_copies 5 = .ok (.iload 4, 2) := by decide +kernel
theorem dX5_copies_7 : decode cX5_copies 7 = .ok (.if_icmp .ge 21, 3) := by decide +kernel
theorem dX5_copies_10 : decode cX5_copies 10 = .ok (.aload_n 2, 1) := by decide +kernel
theorem dX5_copies_11 : decode cX5_copies 11 = .ok (.iload_n 3, 1) := by decide +kernel
theorem dX5_copies_12 : decode cX5_copies 12 = .ok (.iload 5, 2) := by decide +kernel
theorem dX5_copies_14 : decode cX5_copies 14 = .ok (.iadd, 1) := by decide +kernel
theorem dX5_copies_15 : decode cX5_copies 15 = .ok (.aload_n 0, 1) := by decide +kernel
theorem dX5_copies_16 : decode cX5_copies 16 = .ok (.iload_n 1, 1) := by decide +kernel
theorem dX5_copies_17 : decode cX5_copies 17 = .ok (.iload 5, 2) := by decide +kernel
theorem dX5_copies_19 : decode cX5_copies 19 = .ok (.iadd, 1) := by decide +kernel
theorem dX5_copies_20 : decode cX5_copies 20 = .ok (.iaload, 1) := by decide +kernel
theorem dX5_copies_21 : decode cX5_copies 21 = .ok (.iastore, 1) := by decide +kernel
theorem dX5_copies_22 : decode cX5_copies 22 = .ok (.iinc 5 1, 3) := by decide +kernel
theorem dX5_copies_25 : decode cX5_copies 25 = .ok (.goto (-22), 3) := by decide +kernel
theorem dX5_copies_28 : decode cX5_copies 28 = .ok (.return_, 1) := by decide +kernel
theorem dX5_kindOf_0 : decode cX5_kindOf 0 = .ok (.iload_n 0, 1) := by decide +kernel
theorem dX5_kindOf_1 : decode cX5_kindOf 1 = .ok (.tableswitch 103 98 116 #[101, 103, 103, 97, 103, 103, 103, 103, 103, 103, 93, 103, 103, 103, 91, 103, 103, 99, 95], 91) := by decide +kernel
theorem dX5_kindOf_92 : decode cX5_kindOf 92 = .ok (.iconst 0, 1) := by decide +kernel
theorem dX5_kindOf_93 : decode cX5_kindOf 93 = .ok (.ireturn, 1) := by decide +kernel
theorem dX5_kindOf_94 : decode cX5_kindOf 94 = .ok (.iconst 1, 1) := by decide +kernel
theorem dX5_kindOf_95 : decode cX5_kindOf 95 = .ok (.ireturn, 1) := by decide +kernel
theorem dX5_kindOf_96 : decode cX5_kindOf 96 = .ok (.iconst 2, 1) := by decide +kernel
theorem dX5_kindOf_97 : decode cX5_kindOf 97 = .ok (.ireturn, 1) := by decide +kernel
theorem dX5_kindOf_98 : decode cX5_kindOf 98 = .ok (.iconst 3, 1) := by decide +kernel
theorem dX5_kindOf_99 : decode cX5_kindOf 99 = .ok (.ireturn, 1) := by decide +kernel
theorem dX5_kindOf_100 : decode cX5_kindOf 100 = .ok (.iconst 4, 1) := by decide +kernel
theorem dX5_kindOf_101 : decode cX5_kindOf 101 = .ok (.ireturn, 1) := by decide +kernel
theorem dX5_kindOf_102 : decode cX5_kindOf 102 = .ok (.iconst 5, 1) := by decide +kernel
theorem dX5_kindOf_103 : decode cX5_kindOf 103 = .ok (.ireturn, 1) := by decide +kernel
theorem dX5_kindOf_104 : decode cX5_kindOf 104 = .ok (.bipush (-9), 2) := by decide +kernel
theorem dX5_kindOf_106 : decode cX5_kindOf 106 = .ok (.ireturn, 1) := by decide +kernel
theorem dX5_isFigure_0 : decode cX5_isFigure 0 = .ok (.iload_n 2, 1) := by decide +kernel
theorem dX5_isFigure_1 : decode cX5_isFigure 1 = .ok (.aload_n 0, 1) := by decide +kernel
theorem dX5_isFigure_2 : decode cX5_isFigure 2 = .ok (.getfield 16, 3) := by decide +kernel
theorem dX5_isFigure_5 : decode cX5_isFigure 5 = .ok (.iload_n 1, 1) := by decide +kernel
theorem dX5_isFigure_6 : decode cX5_isFigure 6 = .ok (.iaload, 1) := by decide +kernel
theorem dX5_isFigure_7 : decode cX5_isFigure 7 = .ok (.if_icmp .ge 31, 3) := by decide +kernel
theorem dX5_isFigure_10 : decode cX5_isFigure 10 = .ok (.aload_n 0, 1) := by decide +kernel
theorem dX5_isFigure_11 : decode cX5_isFigure 11 = .ok (.getfield 19, 3) := by decide +kernel
theorem dX5_isFigure_14 : decode cX5_isFigure 14 = .ok (.bipush 60, 2) := by decide +kernel
theorem dX5_isFigure_16 : decode cX5_isFigure 16 = .ok (.iload_n 1, 1) := by decide +kernel
theorem dX5_isFigure_17 : decode cX5_isFigure 17 = .ok (.imul, 1) := by decide +kernel
theorem dX5_isFigure_18 : decode cX5_isFigure 18 = .ok (.iload_n 2, 1) := by decide +kernel
theorem dX5_isFigure_19 : decode cX5_isFigure 19 = .ok (.iadd, 1) := by decide +kernel
theorem dX5_isFigure_20 : decode cX5_isFigure 20 = .ok (.iaload, 1) := by decide +kernel
theorem dX5_isFigure_21 : decode cX5_isFigure 21 = .ok (.i2l, 1) := by decide +kernel
theorem dX5_isFigure_22 : decode cX5_isFigure 22 = .ok (.ldc2_w 95, 3) := by decide +kernel
theorem dX5_isFigure_25 : decode cX5_isFigure 25 = .ok (.ldc2_w 97, 3) := by decide +kernel
theorem dX5_isFigure_28 : decode cX5_isFigure 28 = .ok (.invokestatic 75, 3) := by decide +kernel
theorem dX5_isFigure_31 : decode cX5_isFigure 31 = .ok (.ifCond .eq 7, 3) := by decide +kernel
theorem dX5_isFigure_34 : decode cX5_isFigure 34 = .ok (.iconst 1, 1) := by decide +kernel
theorem dX5_isFigure_35 : decode cX5_isFigure 35 = .ok (.goto 4, 3) := by decide +kernel
theorem dX5_isFigure_38 : decode cX5_isFigure 38 = .ok (.iconst 0, 1) := by decide +kernel
theorem dX5_isFigure_39 : decode cX5_isFigure 39 = .ok (.ireturn, 1) := by decide +kernel
theorem dX5_reads_0 : decode cX5_reads 0 = .ok (.aload_n 0, 1) := by decide +kernel
theorem dX5_reads_1 : decode cX5_reads 1 = .ok (.getfield 16, 3) := by decide +kernel
theorem dX5_reads_4 : decode cX5_reads 4 = .ok (.iload_n 1, 1) := by decide +kernel
theorem dX5_reads_5 : decode cX5_reads 5 = .ok (.iaload, 1) := by decide +kernel
theorem dX5_reads_6 : decode cX5_reads 6 = .ok (.istore_n 2, 1) := by decide +kernel
theorem dX5_reads_7 : decode cX5_reads 7 = .ok (.iconst 0, 1) := by decide +kernel
theorem dX5_reads_8 : decode cX5_reads 8 = .ok (.istore_n 3, 1) := by decide +kernel
theorem dX5_reads_9 : decode cX5_reads 9 = .ok (.aload_n 0, 1) := by decide +kernel
theorem dX5_reads_10 : decode cX5_reads 10 = .ok (.iconst 0, 1) := by decide +kernel
theorem dX5_reads_11 : decode cX5_reads 11 = .ok (.putfield 99, 3) := by decide +kernel
theorem dX5_reads_14 : decode cX5_reads 14 = .ok (.aload_n 0, 1) := by decide +kernel
theorem dX5_reads_15 : decode cX5_reads 15 = .ok (.iconst 0, 1) := by decide +kernel
theorem dX5_reads_16 : decode cX5_reads 16 = .ok (.putfield 102, 3) := by decide +kernel
theorem dX5_reads_19 : decode cX5_reads 19 = .ok (.iload_n 3, 1) := by decide +kernel
theorem dX5_reads_20 : decode cX5_reads 20 = .ok (.iload_n 2, 1) := by decide +kernel
theorem dX5_reads_21 : decode cX5_reads 21 = .ok (.if_icmp .ge 168, 3) := by decide +kernel
theorem dX5_reads_24 : decode cX5_reads 24 = .ok (.aload_n 0, 1) := by decide +kernel
theorem dX5_reads_25 : decode cX5_reads 25 = .ok (.getfield 19, 3) := by decide +kernel
theorem dX5_reads_28 : decode cX5_reads 28 = .ok (.bipush 60, 2) := by decide +kernel
theorem dX5_reads_30 : decode cX5_reads 30 = .ok (.iload_n 1, 1) := by decide +kernel
theorem dX5_reads_31 : decode cX5_reads 31 = .ok (.imul, 1) := by decide +kernel
theorem dX5_reads_32 : decode cX5_reads 32 = .ok (.iload_n 3, 1) := by decide +kernel
theorem dX5_reads_33 : decode cX5_reads 33 = .ok (.iadd, 1) := by decide +kernel
theorem dX5_reads_34 : decode cX5_reads 34 = .ok (.iaload, 1) := by decide +kernel
theorem dX5_reads_35 : decode cX5_reads 35 = .ok (.istore 4, 2) := by decide +kernel
theorem dX5_reads_37 : decode cX5_reads 37 = .ok (.iload 4, 2) := by decide +kernel
theorem dX5_reads_39 : decode cX5_reads 39 = .ok (.bipush 32, 2) := by decide +kernel
theorem dX5_reads_41 : decode cX5_reads 41 = .ok (.if_icmp .eq 33, 3) := by decide +kernel
theorem dX5_reads_44 : decode cX5_reads 44 = .ok (.aload_n 0, 1) := by decide +kernel
theorem dX5_reads_45 : decode cX5_reads 45 = .ok (.getfield 99, 3) := by decide +kernel
theorem dX5_reads_48 : decode cX5_reads 48 = .ok (.ifCond .ne 26, 3) := by decide +kernel
theorem dX5_reads_51 : decode cX5_reads 51 = .ok (.aload_n 0, 1) := by decide +kernel
theorem dX5_reads_52 : decode cX5_reads 52 = .ok (.iload_n 1, 1) := by decide +kernel
theorem dX5_reads_53 : decode cX5_reads 53 = .ok (.iload_n 3, 1) := by decide +kernel
theorem dX5_reads_54 : decode cX5_reads 54 = .ok (.invokevirtual 105, 3) := by decide +kernel
theorem dX5_reads_57 : decode cX5_reads 57 = .ok (.ifCond .ne 5, 3) := by decide +kernel
theorem dX5_reads_60 : decode cX5_reads 60 = .ok (.iload_n 3, 1) := by decide +kernel
theorem dX5_reads_61 : decode cX5_reads 61 = .ok (.ireturn, 1) := by decide +kernel
theorem dX5_reads_62 : decode cX5_reads 62 = .ok (.aload_n 0, 1) := by decide +kernel
theorem dX5_reads_63 : decode cX5_reads 63 = .ok (.iload 4, 2) := by decide +kernel
theorem dX5_reads_65 : decode cX5_reads 65 = .ok (.bipush 48, 2) := by decide +kernel
theorem dX5_reads_67 : decode cX5_reads 67 = .ok (.isub, 1) := by decide +kernel
theorem dX5_reads_68 : decode cX5_reads 68 = .ok (.putfield 99, 3) := by decide +kernel
theorem dX5_reads_71 : decode cX5_reads 71 = .ok (.goto 112, 3) := by decide +kernel
theorem dX5_reads_74 : decode cX5_reads 74 = .ok (.iload 4, 2) := by decide +kernel
theorem dX5_reads_76 : decode cX5_reads 76 = .ok (.bipush 32, 2) := by decide +kernel
theorem dX5_reads_78 : decode cX5_reads 78 = .ok (.if_icmp .eq 105, 3) := by decide +kernel
theorem dX5_reads_81 : decode cX5_reads 81 = .ok (.aload_n 0, 1) := by decide +kernel
theorem dX5_reads_82 : decode cX5_reads 82 = .ok (.getfield 102, 3) := by decide +kernel
theorem dX5_reads_85 : decode cX5_reads 85 = .ok (.bipush 7, 2) := by decide +kernel
theorem dX5_reads_87 : decode cX5_reads 87 = .ok (.if_icmp .eq 13, 3) := by decide +kernel
theorem dX5_reads_90 : decode cX5_reads 90 = .ok (.iload 4, 2) := by decide +kernel
theorem dX5_reads_92 : decode cX5_reads 92 = .ok (.invokestatic 109, 3) := by decide +kernel
theorem dX5_reads_95 : decode cX5_reads 95 = .ok (.bipush (-9), 2) := by decide +kernel
theorem dX5_reads_97 : decode cX5_reads 97 = .ok (.if_icmp .ne 5, 3) := by decide +kernel
theorem dX5_reads_100 : decode cX5_reads 100 = .ok (.iload_n 3, 1) := by decide +kernel
theorem dX5_reads_101 : decode cX5_reads 101 = .ok (.ireturn, 1) := by decide +kernel
theorem dX5_reads_102 : decode cX5_reads 102 = .ok (.aload_n 0, 1) := by decide +kernel
theorem dX5_reads_103 : decode cX5_reads 103 = .ok (.getfield 54, 3) := by decide +kernel
theorem dX5_reads_106 : decode cX5_reads 106 = .ok (.aload_n 0, 1) := by decide +kernel
theorem dX5_reads_107 : decode cX5_reads 107 = .ok (.getfield 102, 3) := by decide +kernel
theorem dX5_reads_110 : decode cX5_reads 110 = .ok (.iload 4, 2) := by decide +kernel
theorem dX5_reads_112 : decode cX5_reads 112 = .ok (.invokestatic 109, 3) := by decide +kernel
theorem dX5_reads_115 : decode cX5_reads 115 = .ok (.iastore, 1) := by decide +kernel
theorem dX5_reads_116 : decode cX5_reads 116 = .ok (.iconst 0, 1) := by decide +kernel
theorem dX5_reads_117 : decode cX5_reads 117 = .ok (.istore 5, 2) := by decide +kernel
theorem dX5_reads_119 : decode cX5_reads 119 = .ok (.iload 5, 2) := by decide +kernel
theorem dX5_reads_121 : decode cX5_reads 121 = .ok (.iconst 2, 1) := by decide +kernel
theorem dX5_reads_122 : decode cX5_reads 122 = .ok (.if_icmp .ge 51, 3) := by decide +kernel
theorem dX5_reads_125 : decode cX5_reads 125 = .ok (.iinc 3 1, 3) := by decide +kernel
theorem dX5_reads_128 : decode cX5_reads 128 = .ok (.aload_n 0, 1) := by decide +kernel
theorem dX5_reads_129 : decode cX5_reads 129 = .ok (.iload_n 1, 1) := by decide +kernel
theorem dX5_reads_130 : decode cX5_reads 130 = .ok (.iload_n 3, 1) := by decide +kernel
theorem dX5_reads_131 : decode cX5_reads 131 = .ok (.invokevirtual 105, 3) := by decide +kernel
theorem dX5_reads_134 : decode cX5_reads 134 = .ok (.ifCond .ne 5, 3) := by decide +kernel
theorem dX5_reads_137 : decode cX5_reads 137 = .ok (.iload_n 3, 1) := by decide +kernel
theorem dX5_reads_138 : decode cX5_reads 138 = .ok (.ireturn, 1) := by decide +kernel
theorem dX5_reads_139 : decode cX5_reads 139 = .ok (.aload_n 0, 1) := by decide +kernel
theorem dX5_reads_140 : decode cX5_reads 140 = .ok (.getfield 57, 3) := by decide +kernel
theorem dX5_reads_143 : decode cX5_reads 143 = .ok (.iconst 2, 1) := by decide +kernel
theorem dX5_reads_144 : decode cX5_reads 144 = .ok (.aload_n 0, 1) := by decide +kernel
theorem dX5_reads_145 : decode cX5_reads 145 = .ok (.getfield 102, 3) := by decide +kernel
theorem dX5_reads_148 : decode cX5_reads 148 = .ok (.imul, 1) := by decide +kernel
theorem dX5_reads_149 : decode cX5_reads 149 = .ok (.iload 5, 2) := by decide +kernel
theorem dX5_reads_151 : decode cX5_reads 151 = .ok (.iadd, 1) := by decide +kernel
theorem dX5_reads_152 : decode cX5_reads 152 = .ok (.aload_n 0, 1) := by decide +kernel
theorem dX5_reads_153 : decode cX5_reads 153 = .ok (.getfield 19, 3) := by decide +kernel
theorem dX5_reads_156 : decode cX5_reads 156 = .ok (.bipush 60, 2) := by decide +kernel
theorem dX5_reads_158 : decode cX5_reads 158 = .ok (.iload_n 1, 1) := by decide +kernel
theorem dX5_reads_159 : decode cX5_reads 159 = .ok (.imul, 1) := by decide +kernel
theorem dX5_reads_160 : decode cX5_reads 160 = .ok (.iload_n 3, 1) := by decide +kernel
theorem dX5_reads_161 : decode cX5_reads 161 = .ok (.iadd, 1) := by decide +kernel
theorem dX5_reads_162 : decode cX5_reads 162 = .ok (.iaload, 1) := by decide +kernel
theorem dX5_reads_163 : decode cX5_reads 163 = .ok (.bipush 48, 2) := by decide +kernel
theorem dX5_reads_165 : decode cX5_reads 165 = .ok (.isub, 1) := by decide +kernel
theorem dX5_reads_166 : decode cX5_reads 166 = .ok (.iastore, 1) := by decide +kernel
theorem dX5_reads_167 : decode cX5_reads 167 = .ok (.iinc 5 1, 3) := by decide +kernel
theorem dX5_reads_170 : decode cX5_reads 170 = .ok (.goto (-51), 3) := by decide +kernel
theorem dX5_reads_173 : decode cX5_reads 173 = .ok (.aload_n 0, 1) := by decide +kernel
theorem dX5_reads_174 : decode cX5_reads 174 = .ok (.dup, 1) := by decide +kernel
theorem dX5_reads_175 : decode cX5_reads 175 = .ok (.getfield 102, 3) := by decide +kernel
theorem dX5_reads_178 : decode cX5_reads 178 = .ok (.iconst 1, 1) := by decide +kernel
theorem dX5_reads_179 : decode cX5_reads 179 = .ok (.iadd, 1) := by decide +kernel
theorem dX5_reads_180 : decode cX5_reads 180 = .ok (.putfield 102, 3) := by decide +kernel
theorem dX5_reads_183 : decode cX5_reads 183 = .ok (.iinc 3 1, 3) := by decide +kernel
theorem dX5_reads_186 : decode cX5_reads 186 = .ok (.goto (-167), 3) := by decide +kernel
theorem dX5_reads_189 : decode cX5_reads 189 = .ok (.aload_n 0, 1) := by decide +kernel
theorem dX5_reads_190 : decode cX5_reads 190 = .ok (.getfield 102, 3) := by decide +kernel
theorem dX5_reads_193 : decode cX5_reads 193 = .ok (.iconst 2, 1) := by decide +kernel
theorem dX5_reads_194 : decode cX5_reads 194 = .ok (.if_icmp .ge 7, 3) := by decide +kernel
theorem dX5_reads_197 : decode cX5_reads 197 = .ok (.iload_n 2, 1) := by decide +kernel
theorem dX5_reads_198 : decode cX5_reads 198 = .ok (.goto 5, 3) := by decide +kernel
theorem dX5_reads_201 : decode cX5_reads 201 = .ok (.bipush (-9), 2) := by decide +kernel
theorem dX5_reads_203 : decode cX5_reads 203 = .ok (.ireturn, 1) := by decide +kernel
theorem dX5_fault_0 : decode cX5_fault 0 = .ok (.iload_n 1, 1) := by decide +kernel
theorem dX5_fault_1 : decode cX5_fault 1 = .ok (.invokestatic 92, 3) := by decide +kernel
theorem dX5_fault_4 : decode cX5_fault 4 = .ok (.ifCond .ne 5, 3) := by decide +kernel
theorem dX5_fault_7 : decode cX5_fault 7 = .ok (.iconst (-1), 1) := by decide +kernel
theorem dX5_fault_8 : decode cX5_fault 8 = .ok (.ireturn, 1) := by decide +kernel
theorem dX5_fault_9 : decode cX5_fault 9 = .ok (.aload_n 0, 1) := by decide +kernel
theorem dX5_fault_10 : decode cX5_fault 10 = .ok (.getfield 16, 3) := by decide +kernel
theorem dX5_fault_13 : decode cX5_fault 13 = .ok (.iload_n 1, 1) := by decide +kernel
theorem dX5_fault_14 : decode cX5_fault 14 = .ok (.iaload, 1) := by decide +kernel
theorem dX5_fault_15 : decode cX5_fault 15 = .ok (.ifCond .ge 11, 3) := by decide +kernel
theorem dX5_fault_18 : decode cX5_fault 18 = .ok (.aload_n 0, 1) := by decide +kernel
theorem dX5_fault_19 : decode cX5_fault 19 = .ok (.iconst 1, 1) := by decide +kernel
theorem dX5_fault_20 : decode cX5_fault 20 = .ok (.invokevirtual 85, 3) := by decide +kernel
theorem dX5_fault_23 : decode cX5_fault 23 = .ok (.goto 8, 3) := by decide +kernel
theorem dX5_fault_26 : decode cX5_fault 26 = .ok (.aload_n 0, 1) := by decide +kernel
theorem dX5_fault_27 : decode cX5_fault 27 = .ok (.iload_n 1, 1) := by decide +kernel
theorem dX5_fault_28 : decode cX5_fault 28 = .ok (.invokevirtual 112, 3) := by decide +kernel
theorem dX5_fault_31 : decode cX5_fault 31 = .ok (.ireturn, 1) := by decide +kernel
theorem dX5_resets_0 : decode cX5_resets 0 = .ok (.aload_n 0, 1) := by decide +kernel
theorem dX5_resets_1 : decode cX5_resets 1 = .ok (.getfield 28, 3) := by decide +kernel
theorem dX5_resets_4 : decode cX5_resets 4 = .ok (.bipush 12, 2) := by decide +kernel
theorem dX5_resets_6 : decode cX5_resets 6 = .ok (.iload_n 1, 1) := by decide +kernel
theorem dX5_resets_7 : decode cX5_resets 7 = .ok (.iadd, 1) := by decide +kernel
theorem dX5_resets_8 : decode cX5_resets 8 = .ok (.iconst 0, 1) := by decide +kernel
theorem dX5_resets_9 : decode cX5_resets 9 = .ok (.iastore, 1) := by decide +kernel
theorem dX5_resets_10 : decode cX5_resets 10 = .ok (.aload_n 0, 1) := by decide +kernel
theorem dX5_resets_11 : decode cX5_resets 11 = .ok (.getfield 28, 3) := by decide +kernel
theorem dX5_resets_14 : decode cX5_resets 14 = .ok (.bipush 19, 2) := by decide +kernel
theorem dX5_resets_16 : decode cX5_resets 16 = .ok (.iload_n 1, 1) := by decide +kernel
theorem dX5_resets_17 : decode cX5_resets 17 = .ok (.iadd, 1) := by decide +kernel
theorem dX5_resets_18 : decode cX5_resets 18 = .ok (.iconst 0, 1) := by decide +kernel
theorem dX5_resets_19 : decode cX5_resets 19 = .ok (.iastore, 1) := by decide +kernel
theorem dX5_resets_20 : decode cX5_resets 20 = .ok (.aload_n 0, 1) := by decide +kernel
theorem dX5_resets_21 : decode cX5_resets 21 = .ok (.getfield 28, 3) := by decide +kernel
theorem dX5_resets_24 : decode cX5_resets 24 = .ok (.bipush 26, 2) := by decide +kernel
theorem dX5_resets_26 : decode cX5_resets 26 = .ok (.iload_n 1, 1) := by decide +kernel
theorem dX5_resets_27 : decode cX5_resets 27 = .ok (.iadd, 1) := by decide +kernel
theorem dX5_resets_28 : decode cX5_resets 28 = .ok (.iconst 0, 1) := by decide +kernel
theorem dX5_resets_29 : decode cX5_resets 29 = .ok (.iastore, 1) := by decide +kernel
theorem dX5_resets_30 : decode cX5_resets 30 = .ok (.aload_n 0, 1) := by decide +kernel
theorem dX5_resets_31 : decode cX5_resets 31 = .ok (.getfield 28, 3) := by decide +kernel
theorem dX5_resets_34 : decode cX5_resets 34 = .ok (.bipush 33, 2) := by decide +kernel
theorem dX5_resets_36 : decode cX5_resets 36 = .ok (.iload_n 1, 1) := by decide +kernel
theorem dX5_resets_37 : decode cX5_resets 37 = .ok (.iadd, 1) := by decide +kernel
theorem dX5_resets_38 : decode cX5_resets 38 = .ok (.aload_n 0, 1) := by decide +kernel
theorem dX5_resets_39 : decode cX5_resets 39 = .ok (.getfield 25, 3) := by decide +kernel
theorem dX5_resets_42 : decode cX5_resets 42 = .ok (.iload_n 1, 1) := by decide +kernel
theorem dX5_resets_43 : decode cX5_resets 43 = .ok (.iaload, 1) := by decide +kernel
theorem dX5_resets_44 : decode cX5_resets 44 = .ok (.iastore, 1) := by decide +kernel
theorem dX5_resets_45 : decode cX5_resets 45 = .ok (.return_, 1) := by decide +kernel
theorem dX5_house_0 : decode cX5_house 0 = .ok (.iload_n 1, 1) := by decide +kernel
theorem dX5_house_1 : decode cX5_house 1 = .ok (.invokestatic 92, 3) := by decide +kernel
theorem dX5_house_4 : decode cX5_house 4 = .ok (.ifCond .ne 5, 3) := by decide +kernel
theorem dX5_house_7 : decode cX5_house 7 = .ok (.iconst (-1), 1) := by decide +kernel
theorem dX5_house_8 : decode cX5_house 8 = .ok (.ireturn, 1) := by decide +kernel
theorem dX5_house_9 : decode cX5_house 9 = .ok (.aload_n 0, 1) := by decide +kernel
theorem dX5_house_10 : decode cX5_house 10 = .ok (.getfield 16, 3) := by decide +kernel
theorem dX5_house_13 : decode cX5_house 13 = .ok (.iload_n 1, 1) := by decide +kernel
theorem dX5_house_14 : decode cX5_house 14 = .ok (.iaload, 1) := by decide +kernel
theorem dX5_house_15 : decode cX5_house 15 = .ok (.ifCond .ge 9, 3) := by decide +kernel
theorem dX5_house_18 : decode cX5_house 18 = .ok (.aload_n 0, 1) := by decide +kernel
theorem dX5_house_19 : decode cX5_house 19 = .ok (.iconst 1, 1) := by decide +kernel
theorem dX5_house_20 : decode cX5_house 20 = .ok (.invokevirtual 85, 3) := by decide +kernel
theorem dX5_house_23 : decode cX5_house 23 = .ok (.ireturn, 1) := by decide +kernel
theorem dX5_house_24 : decode cX5_house 24 = .ok (.aload_n 0, 1) := by decide +kernel
theorem dX5_house_25 : decode cX5_house 25 = .ok (.iload_n 1, 1) := by decide +kernel
theorem dX5_house_26 : decode cX5_house 26 = .ok (.invokevirtual 112, 3) := by decide +kernel
theorem dX5_house_29 : decode cX5_house 29 = .ok (.bipush (-9), 2) := by decide +kernel
theorem dX5_house_31 : decode cX5_house 31 = .ok (.if_icmp .eq 6, 3) := by decide +kernel
theorem dX5_house_34 : decode cX5_house 34 = .ok (.bipush (-4), 2) := by decide +kernel
theorem dX5_house_36 : decode cX5_house 36 = .ok (.ireturn, 1) := by decide +kernel
theorem dX5_house_37 : decode cX5_house 37 = .ok (.aload_n 0, 1) := by decide +kernel
theorem dX5_house_38 : decode cX5_house 38 = .ok (.aload_n 0, 1) := by decide +kernel
theorem dX5_house_39 : decode cX5_house 39 = .ok (.getfield 102, 3) := by decide +kernel
theorem dX5_house_42 : decode cX5_house 42 = .ok (.putfield 115, 3) := by decide +kernel
theorem dX5_house_45 : decode cX5_house 45 = .ok (.aload_n 0, 1) := by decide +kernel
theorem dX5_house_46 : decode cX5_house 46 = .ok (.getfield 54, 3) := by decide +kernel
theorem dX5_house_49 : decode cX5_house 49 = .ok (.iconst 0, 1) := by decide +kernel
theorem dX5_house_50 : decode cX5_house 50 = .ok (.aload_n 0, 1) := by decide +kernel
theorem dX5_house_51 : decode cX5_house 51 = .ok (.getfield 22, 3) := by decide +kernel
theorem dX5_house_54 : decode cX5_house 54 = .ok (.iconst 0, 1) := by decide +kernel
theorem dX5_house_55 : decode cX5_house 55 = .ok (.bipush 7, 2) := by decide +kernel
theorem dX5_house_57 : decode cX5_house 57 = .ok (.invokestatic 118, 3) := by decide +kernel
theorem dX5_house_60 : decode cX5_house 60 = .ok (.iconst 0, 1) := by decide +kernel
theorem dX5_house_61 : decode cX5_house 61 = .ok (.istore_n 2, 1) := by decide +kernel
theorem dX5_house_62 : decode cX5_house 62 = .ok (.iload_n 2, 1) := by decide +kernel
theorem dX5_house_63 : decode cX5_house 63 = .ok (.bipush 40, 2) := by decide +kernel
theorem dX5_house_65 : decode cX5_house 65 = .ok (.if_icmp .ge 16, 3) := by decide +kernel
theorem dX5_house_68 : decode cX5_house 68 = .ok (.aload_n 0, 1) := by decide +kernel
theorem dX5_house_69 : decode cX5_house 69 = .ok (.getfield 28, 3) := by decide +kernel
theorem dX5_house_72 : decode cX5_house 72 = .ok (.iload_n 2, 1) := by decide +kernel
theorem dX5_house_73 : decode cX5_house 73 = .ok (.iconst 0, 1) := by decide +kernel
theorem dX5_house_74 : decode cX5_house 74 = .ok (.iastore, 1) := by decide +kernel
theorem dX5_house_75 : decode cX5_house 75 = .ok (.iinc 2 1, 3) := by decide +kernel
theorem dX5_house_78 : decode cX5_house 78 = .ok (.goto (-16), 3) := by decide +kernel
theorem dX5_house_81 : decode cX5_house 81 = .ok (.aload_n 0, 1) := by decide +kernel
theorem dX5_house_82 : decode cX5_house 82 = .ok (.getfield 28, 3) := by decide +kernel
theorem dX5_house_85 : decode cX5_house 85 = .ok (.iconst 3, 1) := by decide +kernel
theorem dX5_house_86 : decode cX5_house 86 = .ok (.sipush 255, 3) := by decide +kernel
theorem dX5_house_89 : decode cX5_house 89 = .ok (.iastore, 1) := by decide +kernel
theorem dX5_house_90 : decode cX5_house 90 = .ok (.aload_n 0, 1) := by decide +kernel
theorem dX5_house_91 : decode cX5_house 91 = .ok (.getfield 28, 3) := by decide +kernel
theorem dX5_house_94 : decode cX5_house 94 = .ok (.iconst 4, 1) := by decide +kernel
theorem dX5_house_95 : decode cX5_house 95 = .ok (.aload_n 0, 1) := by decide +kernel
theorem dX5_house_96 : decode cX5_house 96 = .ok (.getfield 99, 3) := by decide +kernel
theorem dX5_house_99 : decode cX5_house 99 = .ok (.iastore, 1) := by decide +kernel
theorem dX5_house_100 : decode cX5_house 100 = .ok (.iconst 0, 1) := by decide +kernel
theorem dX5_house_101 : decode cX5_house 101 = .ok (.istore_n 2, 1) := by decide +kernel
theorem dX5_house_102 : decode cX5_house 102 = .ok (.iload_n 2, 1) := by decide +kernel
theorem dX5_house_103 : decode cX5_house 103 = .ok (.aload_n 0, 1) := by decide +kernel
theorem dX5_house_104 : decode cX5_house 104 = .ok (.getfield 115, 3) := by decide +kernel
theorem dX5_house_107 : decode cX5_house 107 = .ok (.if_icmp .ge 46, 3) := by decide +kernel
theorem dX5_house_110 : decode cX5_house 110 = .ok (.aload_n 0, 1) := by decide +kernel
theorem dX5_house_111 : decode cX5_house 111 = .ok (.getfield 28, 3) := by decide +kernel
theorem dX5_house_114 : decode cX5_house 114 = .ok (.iconst 5, 1) := by decide +kernel
theorem dX5_house_115 : decode cX5_house 115 = .ok (.iload_n 2, 1) := by decide +kernel
theorem dX5_house_116 : decode cX5_house 116 = .ok (.iadd, 1) := by decide +kernel
theorem dX5_house_117 : decode cX5_house 117 = .ok (.aload_n 0, 1) := by decide +kernel
theorem dX5_house_118 : decode cX5_house 118 = .ok (.getfield 57, 3) := by decide +kernel
theorem dX5_house_121 : decode cX5_house 121 = .ok (.iconst 2, 1) := by decide +kernel
theorem dX5_house_122 : decode cX5_house 122 = .ok (.iload_n 2, 1) := by decide +kernel
theorem dX5_house_123 : decode cX5_house 123 = .ok (.imul, 1) := by decide +kernel
theorem dX5_house_124 : decode cX5_house 124 = .ok (.iaload, 1) := by decide +kernel
theorem dX5_house_125 : decode cX5_house 125 = .ok (.iastore, 1) := by decide +kernel
theorem dX5_house_126 : decode cX5_house 126 = .ok (.aload_n 0, 1) := by decide +kernel
theorem dX5_house_127 : decode cX5_house 127 = .ok (.getfield 25, 3) := by decide +kernel
theorem dX5_house_130 : decode cX5_house 130 = .ok (.iload_n 2, 1) := by decide +kernel
theorem dX5_house_131 : decode cX5_house 131 = .ok (.aload_n 0, 1) := by decide +kernel
theorem dX5_house_132 : decode cX5_house 132 = .ok (.getfield 57, 3) := by decide +kernel
theorem dX5_house_135 : decode cX5_house 135 = .ok (.iconst 2, 1) := by decide +kernel
theorem dX5_house_136 : decode cX5_house 136 = .ok (.iload_n 2, 1) := by decide +kernel
theorem dX5_house_137 : decode cX5_house 137 = .ok (.imul, 1) := by decide +kernel
theorem dX5_house_138 : decode cX5_house 138 = .ok (.iconst 1, 1) := by decide +kernel
theorem dX5_house_139 : decode cX5_house 139 = .ok (.iadd, 1) := by decide +kernel
theorem dX5_house_140 : decode cX5_house 140 = .ok (.iaload, 1) := by decide +kernel
theorem dX5_house_141 : decode cX5_house 141 = .ok (.iastore, 1) := by decide +kernel
theorem dX5_house_142 : decode cX5_house 142 = .ok (.aload_n 0, 1) := by decide +kernel
theorem dX5_house_143 : decode cX5_house 143 = .ok (.iload_n 2, 1) := by decide +kernel
theorem dX5_house_144 : decode cX5_house 144 = .ok (.invokevirtual 122, 3) := by decide +kernel
theorem dX5_house_147 : decode cX5_house 147 = .ok (.iinc 2 1, 3) := by decide +kernel
theorem dX5_house_150 : decode cX5_house 150 = .ok (.goto (-48), 3) := by decide +kernel
theorem dX5_house_153 : decode cX5_house 153 = .ok (.aload_n 0, 1) := by decide +kernel
theorem dX5_house_154 : decode cX5_house 154 = .ok (.iconst 0, 1) := by decide +kernel
theorem dX5_house_155 : decode cX5_house 155 = .ok (.putfield 126, 3) := by decide +kernel
theorem dX5_house_158 : decode cX5_house 158 = .ok (.iconst 0, 1) := by decide +kernel
theorem dX5_house_159 : decode cX5_house 159 = .ok (.istore_n 2, 1) := by decide +kernel
theorem dX5_house_160 : decode cX5_house 160 = .ok (.iload_n 2, 1) := by decide +kernel
theorem dX5_house_161 : decode cX5_house 161 = .ok (.iconst 3, 1) := by decide +kernel
theorem dX5_house_162 : decode cX5_house 162 = .ok (.if_icmp .ge 16, 3) := by decide +kernel
theorem dX5_house_165 : decode cX5_house 165 = .ok (.aload_n 0, 1) := by decide +kernel
theorem dX5_house_166 : decode cX5_house 166 = .ok (.getfield 43, 3) := by decide +kernel
theorem dX5_house_169 : decode cX5_house 169 = .ok (.iload_n 2, 1) := by decide +kernel
theorem dX5_house_170 : decode cX5_house 170 = .ok (.iconst 0, 1) := by decide +kernel
theorem dX5_house_171 : decode cX5_house 171 = .ok (.bastore, 1) := by decide +kernel
theorem dX5_house_172 : decode cX5_house 172 = .ok (.iinc 2 1, 3) := by decide +kernel
theorem dX5_house_175 : decode cX5_house 175 = .ok (.goto (-15), 3) := by decide +kernel
theorem dX5_house_178 : decode cX5_house 178 = .ok (.aload_n 0, 1) := by decide +kernel
theorem dX5_house_179 : decode cX5_house 179 = .ok (.getfield 115, 3) := by decide +kernel
theorem dX5_house_182 : decode cX5_house 182 = .ok (.ireturn, 1) := by decide +kernel
theorem dX5_isCaller_0 : decode cX5_isCaller 0 = .ok (.iload_n 1, 1) := by decide +kernel
theorem dX5_isCaller_1 : decode cX5_isCaller 1 = .ok (.i2l, 1) := by decide +kernel
theorem dX5_isCaller_2 : decode cX5_isCaller 2 = .ok (.lconst 0, 1) := by decide +kernel
theorem dX5_isCaller_3 : decode cX5_isCaller 3 = .ok (.aload_n 0, 1) := by decide +kernel
theorem dX5_isCaller_4 : decode cX5_isCaller 4 = .ok (.getfield 115, 3) := by decide +kernel
theorem dX5_isCaller_7 : decode cX5_isCaller 7 = .ok (.iconst 1, 1) := by decide +kernel
theorem dX5_isCaller_8 : decode cX5_isCaller 8 = .ok (.isub, 1) := by decide +kernel
theorem dX5_isCaller_9 : decode cX5_isCaller 9 = .ok (.i2l, 1) := by decide +kernel
theorem dX5_isCaller_10 : decode cX5_isCaller 10 = .ok (.invokestatic 75, 3) := by decide +kernel
theorem dX5_isCaller_13 : decode cX5_isCaller 13 = .ok (.ireturn, 1) := by decide +kernel
theorem dX5_tripsOn_0 : decode cX5_tripsOn 0 = .ok (.aload_n 0, 1) := by decide +kernel
theorem dX5_tripsOn_1 : decode cX5_tripsOn 1 = .ok (.getfield 34, 3) := by decide +kernel
theorem dX5_tripsOn_4 : decode cX5_tripsOn 4 = .ok (.iload_n 2, 1) := by decide +kernel
theorem dX5_tripsOn_5 : decode cX5_tripsOn 5 = .ok (.iaload, 1) := by decide +kernel
theorem dX5_tripsOn_6 : decode cX5_tripsOn 6 = .ok (.istore_n 3, 1) := by decide +kernel
theorem dX5_tripsOn_7 : decode cX5_tripsOn 7 = .ok (.iload_n 3, 1) := by decide +kernel
theorem dX5_tripsOn_8 : decode cX5_tripsOn 8 = .ok (.iconst 5, 1) := by decide +kernel
theorem dX5_tripsOn_9 : decode cX5_tripsOn 9 = .ok (.if_icmp .ne 25, 3) := by decide +kernel
theorem dX5_tripsOn_12 : decode cX5_tripsOn 12 = .ok (.aload_n 1, 1) := by decide +kernel
theorem dX5_tripsOn_13 : decode cX5_tripsOn 13 = .ok (.iconst 0, 1) := by decide +kernel
theorem dX5_tripsOn_14 : decode cX5_tripsOn 14 = .ok (.iaload, 1) := by decide +kernel
theorem dX5_tripsOn_15 : decode cX5_tripsOn 15 = .ok (.iconst 4, 1) := by decide +kernel
theorem dX5_tripsOn_16 : decode cX5_tripsOn 16 = .ok (.irem, 1) := by decide +kernel
theorem dX5_tripsOn_17 : decode cX5_tripsOn 17 = .ok (.ifCond .ne 17, 3) := by decide +kernel
theorem dX5_tripsOn_20 : decode cX5_tripsOn 20 = .ok (.aload_n 1, 1) := by decide +kernel
theorem dX5_tripsOn_21 : decode cX5_tripsOn 21 = .ok (.bipush 19, 2) := by decide +kernel
theorem dX5_tripsOn_23 : decode cX5_tripsOn 23 = .ok (.iload_n 2, 1) := by decide +kernel
theorem dX5_tripsOn_24 : decode cX5_tripsOn 24 = .ok (.iadd, 1) := by decide +kernel
theorem dX5_tripsOn_25 : decode cX5_tripsOn 25 = .ok (.aload_n 1, 1) := by decide +kernel
theorem dX5_tripsOn_26 : decode cX5_tripsOn 26 = .ok (.iconst 5, 1) := by decide +kernel
theorem dX5_tripsOn_27 : decode cX5_tripsOn 27 = .ok (.iload_n 2, 1) := by decide +kernel
theorem dX5_tripsOn_28 : decode cX5_tripsOn 28 = .ok (.iadd, 1) := by decide +kernel
theorem dX5_tripsOn_29 : decode cX5_tripsOn 29 = .ok (.iaload, 1) := by decide +kernel
theorem dX5_tripsOn_30 : decode cX5_tripsOn 30 = .ok (.iconst 1, 1) := by decide +kernel
theorem dX5_tripsOn_31 : decode cX5_tripsOn 31 = .ok (.isub, 1) := by decide +kernel
theorem dX5_tripsOn_32 : decode cX5_tripsOn 32 = .ok (.iastore, 1) := by decide +kernel
theorem dX5_tripsOn_33 : decode cX5_tripsOn 33 = .ok (.return_, 1) := by decide +kernel
theorem dX5_tripsOn_34 : decode cX5_tripsOn 34 = .ok (.aload_n 1, 1) := by decide +kernel
theorem dX5_tripsOn_35 : decode cX5_tripsOn 35 = .ok (.bipush 12, 2) := by decide +kernel
theorem dX5_tripsOn_37 : decode cX5_tripsOn 37 = .ok (.iload_n 2, 1) := by decide +kernel
theorem dX5_tripsOn_38 : decode cX5_tripsOn 38 = .ok (.iadd, 1) := by decide +kernel
theorem dX5_tripsOn_39 : decode cX5_tripsOn 39 = .ok (.iconst 1, 1) := by decide +kernel
theorem dX5_tripsOn_40 : decode cX5_tripsOn 40 = .ok (.iastore, 1) := by decide +kernel
theorem dX5_tripsOn_41 : decode cX5_tripsOn 41 = .ok (.aload_n 1, 1) := by decide +kernel
theorem dX5_tripsOn_42 : decode cX5_tripsOn 42 = .ok (.bipush 26, 2) := by decide +kernel
theorem dX5_tripsOn_44 : decode cX5_tripsOn 44 = .ok (.iload_n 2, 1) := by decide +kernel
theorem dX5_tripsOn_45 : decode cX5_tripsOn 45 = .ok (.iadd, 1) := by decide +kernel
theorem dX5_tripsOn_46 : decode cX5_tripsOn 46 = .ok (.aload_n 1, 1) := by decide +kernel
theorem dX5_tripsOn_47 : decode cX5_tripsOn 47 = .ok (.bipush 33, 2) := by decide +kernel
theorem dX5_tripsOn_49 : decode cX5_tripsOn 49 = .ok (.iload_n 2, 1) := by decide +kernel
theorem dX5_tripsOn_50 : decode cX5_tripsOn 50 = .ok (.iadd, 1) := by decide +kernel
theorem dX5_tripsOn_51 : decode cX5_tripsOn 51 = .ok (.iaload, 1) := by decide +kernel
theorem dX5_tripsOn_52 : decode cX5_tripsOn 52 = .ok (.iastore, 1) := by decide +kernel
theorem dX5_tripsOn_53 : decode cX5_tripsOn 53 = .ok (.aload_n 1, 1) := by decide +kernel
theorem dX5_tripsOn_54 : decode cX5_tripsOn 54 = .ok (.bipush 19, 2) := by decide +kernel
theorem dX5_tripsOn_56 : decode cX5_tripsOn 56 = .ok (.iload_n 2, 1) := by decide +kernel
theorem dX5_tripsOn_57 : decode cX5_tripsOn 57 = .ok (.iadd, 1) := by decide +kernel
theorem dX5_tripsOn_58 : decode cX5_tripsOn 58 = .ok (.iconst 0, 1) := by decide +kernel
theorem dX5_tripsOn_59 : decode cX5_tripsOn 59 = .ok (.iastore, 1) := by decide +kernel
theorem dX5_tripsOn_60 : decode cX5_tripsOn 60 = .ok (.aload_n 0, 1) := by decide +kernel
theorem dX5_tripsOn_61 : decode cX5_tripsOn 61 = .ok (.dup, 1) := by decide +kernel
theorem dX5_tripsOn_62 : decode cX5_tripsOn 62 = .ok (.getfield 129, 3) := by decide +kernel
theorem dX5_tripsOn_65 : decode cX5_tripsOn 65 = .ok (.iconst 1, 1) := by decide +kernel
theorem dX5_tripsOn_66 : decode cX5_tripsOn 66 = .ok (.iload_n 2, 1) := by decide +kernel
theorem dX5_tripsOn_67 : decode cX5_tripsOn 67 = .ok (.ishl, 1) := by decide +kernel
theorem dX5_tripsOn_68 : decode cX5_tripsOn 68 = .ok (.ior, 1) := by decide +kernel
theorem dX5_tripsOn_69 : decode cX5_tripsOn 69 = .ok (.putfield 129, 3) := by decide +kernel
theorem dX5_tripsOn_72 : decode cX5_tripsOn 72 = .ok (.iload_n 3, 1) := by decide +kernel
theorem dX5_tripsOn_73 : decode cX5_tripsOn 73 = .ok (.iconst 2, 1) := by decide +kernel
theorem dX5_tripsOn_74 : decode cX5_tripsOn 74 = .ok (.if_icmp .eq 8, 3) := by decide +kernel
theorem dX5_tripsOn_77 : decode cX5_tripsOn 77 = .ok (.iload_n 3, 1) := by decide +kernel
theorem dX5_tripsOn_78 : decode cX5_tripsOn 78 = .ok (.iconst 5, 1) := by decide +kernel
theorem dX5_tripsOn_79 : decode cX5_tripsOn 79 = .ok (.if_icmp .ne 33, 3) := by decide +kernel
theorem dX5_tripsOn_82 : decode cX5_tripsOn 82 = .ok (.aload_n 1, 1) := by decide +kernel
theorem dX5_tripsOn_83 : decode cX5_tripsOn 83 = .ok (.bipush 33, 2) := by decide +kernel
theorem dX5_tripsOn_85 : decode cX5_tripsOn 85 = .ok (.iload_n 2, 1) := by decide +kernel
theorem dX5_tripsOn_86 : decode cX5_tripsOn 86 = .ok (.iadd, 1) := by decide +kernel
theorem dX5_tripsOn_87 : decode cX5_tripsOn 87 = .ok (.aload_n 1, 1) := by decide +kernel
theorem dX5_tripsOn_88 : decode cX5_tripsOn 88 = .ok (.bipush 33, 2) := by decide +kernel
theorem dX5_tripsOn_90 : decode cX5_tripsOn 90 = .ok (.iload_n 2, 1) := by decide +kernel
theorem dX5_tripsOn_91 : decode cX5_tripsOn 91 = .ok (.iadd, 1) := by decide +kernel
theorem dX5_tripsOn_92 : decode cX5_tripsOn 92 = .ok (.iaload, 1) := by decide +kernel
theorem dX5_tripsOn_93 : decode cX5_tripsOn 93 = .ok (.bipush 20, 2) := by decide +kernel
theorem dX5_tripsOn_95 : decode cX5_tripsOn 95 = .ok (.if_icmp .le 8, 3) := by decide +kernel
theorem dX5_tripsOn_98 : decode cX5_tripsOn 98 = .ok (.bipush 40, 2) := by decide +kernel
theorem dX5_tripsOn_100 : decode cX5_tripsOn 100 = .ok (.goto 11, 3) := by decide +kernel
theorem dX5_tripsOn_103 : decode cX5_tripsOn 103 = .ok (.iconst 2, 1) := by decide +kernel
theorem dX5_tripsOn_104 : decode cX5_tripsOn 104 = .ok (.aload_n 1, 1) := by decide +kernel
theorem dX5_tripsOn_105 : decode cX5_tripsOn 105 = .ok (.bipush 33, 2) := by decide +kernel
theorem dX5_tripsOn_107 : decode cX5_tripsOn 107 = .ok (.iload_n 2, 1) := by decide +kernel
theorem dX5_tripsOn_108 : decode cX5_tripsOn 108 = .ok (.iadd, 1) := by decide +kernel
theorem dX5_tripsOn_109 : decode cX5_tripsOn 109 = .ok (.iaload, 1) := by decide +kernel
theorem dX5_tripsOn_110 : decode cX5_tripsOn 110 = .ok (.imul, 1) := by decide +kernel
theorem dX5_tripsOn_111 : decode cX5_tripsOn 111 = .ok (.iastore, 1) := by decide +kernel
theorem dX5_tripsOn_112 : decode cX5_tripsOn 112 = .ok (.return_, 1) := by decide +kernel
theorem dX5_isAnswered_0 : decode cX5_isAnswered 0 = .ok (.aload_n 0, 1) := by decide +kernel
theorem dX5_isAnswered_1 : decode cX5_isAnswered 1 = .ok (.getfield 34, 3) := by decide +kernel
theorem dX5_isAnswered_4 : decode cX5_isAnswered 4 = .ok (.iload_n 2, 1) := by decide +kernel
theorem dX5_isAnswered_5 : decode cX5_isAnswered 5 = .ok (.iaload, 1) := by decide +kernel
theorem dX5_isAnswered_6 : decode cX5_isAnswered 6 = .ok (.istore_n 3, 1) := by decide +kernel
theorem dX5_isAnswered_7 : decode cX5_isAnswered 7 = .ok (.aload_n 0, 1) := by decide +kernel
theorem dX5_isAnswered_8 : decode cX5_isAnswered 8 = .ok (.dup, 1) := by decide +kernel
theorem dX5_isAnswered_9 : decode cX5_isAnswered 9 = .ok (.getfield 132, 3) := by decide +kernel
theorem dX5_isAnswered_12 : decode cX5_isAnswered 12 = .ok (.iconst 1, 1) := by decide +kernel
theorem dX5_isAnswered_13 : decode cX5_isAnswered 13 = .ok (.iload_n 2, 1) := by decide +kernel
theorem dX5_isAnswered_14 : decode cX5_isAnswered 14 = .ok (.ishl, 1) := by decide +kernel
theorem dX5_isAnswered_15 : decode cX5_isAnswered 15 = .ok (.ior, 1) := by decide +kernel
theorem dX5_isAnswered_16 : decode cX5_isAnswered 16 = .ok (.putfield 132, 3) := by decide +kernel
theorem dX5_isAnswered_19 : decode cX5_isAnswered 19 = .ok (.iload_n 3, 1) := by decide +kernel
theorem dX5_isAnswered_20 : decode cX5_isAnswered 20 = .ok (.iconst 1, 1) := by decide +kernel
theorem dX5_isAnswered_21 : decode cX5_isAnswered 21 = .ok (.if_icmp .eq 8, 3) := by decide +kernel
theorem dX5_isAnswered_24 : decode cX5_isAnswered 24 = .ok (.iload_n 3, 1) := by decide +kernel
theorem dX5_isAnswered_25 : decode cX5_isAnswered 25 = .ok (.iconst 4, 1) := by decide +kernel
theorem dX5_isAnswered_26 : decode cX5_isAnswered 26 = .ok (.if_icmp .ne 38, 3) := by decide +kernel
theorem dX5_isAnswered_29 : decode cX5_isAnswered 29 = .ok (.aload_n 1, 1) := by decide +kernel
theorem dX5_isAnswered_30 : decode cX5_isAnswered 30 = .ok (.bipush 12, 2) := by decide +kernel
theorem dX5_isAnswered_32 : decode cX5_isAnswered 32 = .ok (.iload_n 2, 1) := by decide +kernel
theorem dX5_isAnswered_33 : decode cX5_isAnswered 33 = .ok (.iadd, 1) := by decide +kernel
theorem dX5_isAnswered_34 : decode cX5_isAnswered 34 = .ok (.iaload, 1) := by decide +kernel
theorem dX5_isAnswered_35 : decode cX5_isAnswered 35 = .ok (.ifCond .ne 29, 3) := by decide +kernel
theorem dX5_isAnswered_38 : decode cX5_isAnswered 38 = .ok (.aload_n 1, 1) := by decide +kernel
theorem dX5_isAnswered_39 : decode cX5_isAnswered 39 = .ok (.bipush 19, 2) := by decide +kernel
theorem dX5_isAnswered_41 : decode cX5_isAnswered 41 = .ok (.iload_n 2, 1) := by decide +kernel
theorem dX5_isAnswered_42 : decode cX5_isAnswered 42 = .ok (.iadd, 1) := by decide +kernel
theorem dX5_isAnswered_43 : decode cX5_isAnswered 43 = .ok (.dup2, 1) := by decide +kernel
theorem dX5_isAnswered_44 : decode cX5_isAnswered 44 = .ok (.iaload, 1) := by decide +kernel
theorem dX5_isAnswered_45 : decode cX5_isAnswered 45 = .ok (.aload_n 1, 1) := by decide +kernel
theorem dX5_isAnswered_46 : decode cX5_isAnswered 46 = .ok (.bipush 19, 2) := by decide +kernel
theorem dX5_isAnswered_48 : decode cX5_isAnswered 48 = .ok (.iload_n 2, 1) := by decide +kernel
theorem dX5_isAnswered_49 : decode cX5_isAnswered 49 = .ok (.iadd, 1) := by decide +kernel
theorem dX5_isAnswered_50 : decode cX5_isAnswered 50 = .ok (.iaload, 1) := by decide +kernel
theorem dX5_isAnswered_51 : decode cX5_isAnswered 51 = .ok (.ifCond .le 7, 3) := by decide +kernel
theorem dX5_isAnswered_54 : decode cX5_isAnswered 54 = .ok (.iconst 1, 1) := by decide +kernel
theorem dX5_isAnswered_55 : decode cX5_isAnswered 55 = .ok (.goto 4, 3) := by decide +kernel
theorem dX5_isAnswered_58 : decode cX5_isAnswered 58 = .ok (.iconst 0, 1) := by decide +kernel
theorem dX5_isAnswered_59 : decode cX5_isAnswered 59 = .ok (.isub, 1) := by decide +kernel
theorem dX5_isAnswered_60 : decode cX5_isAnswered 60 = .ok (.iastore, 1) := by decide +kernel
theorem dX5_isAnswered_61 : decode cX5_isAnswered 61 = .ok (.goto 17, 3) := by decide +kernel
theorem dX5_isAnswered_64 : decode cX5_isAnswered 64 = .ok (.aload_n 1, 1) := by decide +kernel
theorem dX5_isAnswered_65 : decode cX5_isAnswered 65 = .ok (.bipush 12, 2) := by decide +kernel
theorem dX5_isAnswered_67 : decode cX5_isAnswered 67 = .ok (.iload_n 2, 1) := by decide +kernel
theorem dX5_isAnswered_68 : decode cX5_isAnswered 68 = .ok (.iadd, 1) := by decide +kernel
theorem dX5_isAnswered_69 : decode cX5_isAnswered 69 = .ok (.iconst 0, 1) := by decide +kernel
theorem dX5_isAnswered_70 : decode cX5_isAnswered 70 = .ok (.iastore, 1) := by decide +kernel
theorem dX5_isAnswered_71 : decode cX5_isAnswered 71 = .ok (.aload_n 1, 1) := by decide +kernel
theorem dX5_isAnswered_72 : decode cX5_isAnswered 72 = .ok (.bipush 19, 2) := by decide +kernel
theorem dX5_isAnswered_74 : decode cX5_isAnswered 74 = .ok (.iload_n 2, 1) := by decide +kernel
theorem dX5_isAnswered_75 : decode cX5_isAnswered 75 = .ok (.iadd, 1) := by decide +kernel
theorem dX5_isAnswered_76 : decode cX5_isAnswered 76 = .ok (.iconst 0, 1) := by decide +kernel
theorem dX5_isAnswered_77 : decode cX5_isAnswered 77 = .ok (.iastore, 1) := by decide +kernel
theorem dX5_isAnswered_78 : decode cX5_isAnswered 78 = .ok (.return_, 1) := by decide +kernel
theorem dX5_hasFault_0 : decode cX5_hasFault 0 = .ok (.aload_n 1, 1) := by decide +kernel
theorem dX5_hasFault_1 : decode cX5_hasFault 1 = .ok (.bipush 12, 2) := by decide +kernel
theorem dX5_hasFault_3 : decode cX5_hasFault 3 = .ok (.iload_n 2, 1) := by decide +kernel
theorem dX5_hasFault_4 : decode cX5_hasFault 4 = .ok (.iadd, 1) := by decide +kernel
theorem dX5_hasFault_5 : decode cX5_hasFault 5 = .ok (.iaload, 1) := by decide +kernel
theorem dX5_hasFault_6 : decode cX5_hasFault 6 = .ok (.iconst 2, 1) := by decide +kernel
theorem dX5_hasFault_7 : decode cX5_hasFault 7 = .ok (.if_icmp .ne 12, 3) := by decide +kernel
theorem dX5_hasFault_10 : decode cX5_hasFault 10 = .ok (.aload_n 0, 1) := by decide +kernel
theorem dX5_hasFault_11 : decode cX5_hasFault 11 = .ok (.aload_n 1, 1) := by decide +kernel
theorem dX5_hasFault_12 : decode cX5_hasFault 12 = .ok (.iload_n 2, 1) := by decide +kernel
theorem dX5_hasFault_13 : decode cX5_hasFault 13 = .ok (.invokevirtual 135, 3) := by decide +kernel
theorem dX5_hasFault_16 : decode cX5_hasFault 16 = .ok (.goto 33, 3) := by decide +kernel
theorem dX5_hasFault_19 : decode cX5_hasFault 19 = .ok (.aload_n 1, 1) := by decide +kernel
theorem dX5_hasFault_20 : decode cX5_hasFault 20 = .ok (.bipush 19, 2) := by decide +kernel
theorem dX5_hasFault_22 : decode cX5_hasFault 22 = .ok (.iload_n 2, 1) := by decide +kernel
theorem dX5_hasFault_23 : decode cX5_hasFault 23 = .ok (.iadd, 1) := by decide +kernel
theorem dX5_hasFault_24 : decode cX5_hasFault 24 = .ok (.dup2, 1) := by decide +kernel
theorem dX5_hasFault_25 : decode cX5_hasFault 25 = .ok (.iaload, 1) := by decide +kernel
theorem dX5_hasFault_26 : decode cX5_hasFault 26 = .ok (.iconst 1, 1) := by decide +kernel
theorem dX5_hasFault_27 : decode cX5_hasFault 27 = .ok (.iadd, 1) := by decide +kernel
theorem dX5_hasFault_28 : decode cX5_hasFault 28 = .ok (.iastore, 1) := by decide +kernel
theorem dX5_hasFault_29 : decode cX5_hasFault 29 = .ok (.aload_n 1, 1) := by decide +kernel
theorem dX5_hasFault_30 : decode cX5_hasFault 30 = .ok (.bipush 19, 2) := by decide +kernel
theorem dX5_hasFault_32 : decode cX5_hasFault 32 = .ok (.iload_n 2, 1) := by decide +kernel
theorem dX5_hasFault_33 : decode cX5_hasFault 33 = .ok (.iadd, 1) := by decide +kernel
theorem dX5_hasFault_34 : decode cX5_hasFault 34 = .ok (.iaload, 1) := by decide +kernel
theorem dX5_hasFault_35 : decode cX5_hasFault 35 = .ok (.aload_n 1, 1) := by decide +kernel
theorem dX5_hasFault_36 : decode cX5_hasFault 36 = .ok (.iconst 5, 1) := by decide +kernel
theorem dX5_hasFault_37 : decode cX5_hasFault 37 = .ok (.iload_n 2, 1) := by decide +kernel
theorem dX5_hasFault_38 : decode cX5_hasFault 38 = .ok (.iadd, 1) := by decide +kernel
theorem dX5_hasFault_39 : decode cX5_hasFault 39 = .ok (.iaload, 1) := by decide +kernel
theorem dX5_hasFault_40 : decode cX5_hasFault 40 = .ok (.if_icmp .lt 9, 3) := by decide +kernel
theorem dX5_hasFault_43 : decode cX5_hasFault 43 = .ok (.aload_n 0, 1) := by decide +kernel
theorem dX5_hasFault_44 : decode cX5_hasFault 44 = .ok (.aload_n 1, 1) := by decide +kernel
theorem dX5_hasFault_45 : decode cX5_hasFault 45 = .ok (.iload_n 2, 1) := by decide +kernel
theorem dX5_hasFault_46 : decode cX5_hasFault 46 = .ok (.invokevirtual 135, 3) := by decide +kernel
theorem dX5_hasFault_49 : decode cX5_hasFault 49 = .ok (.return_, 1) := by decide +kernel
theorem dX5_isAtRest_0 : decode cX5_isAtRest 0 = .ok (.aload_n 1, 1) := by decide +kernel
theorem dX5_isAtRest_1 : decode cX5_isAtRest 1 = .ok (.bipush 26, 2) := by decide +kernel
theorem dX5_isAtRest_3 : decode cX5_isAtRest 3 = .ok (.iload_n 2, 1) := by decide +kernel
theorem dX5_isAtRest_4 : decode cX5_isAtRest 4 = .ok (.iadd, 1) := by decide +kernel
theorem dX5_isAtRest_5 : decode cX5_isAtRest 5 = .ok (.dup2, 1) := by decide +kernel
theorem dX5_isAtRest_6 : decode cX5_isAtRest 6 = .ok (.iaload, 1) := by decide +kernel
theorem dX5_isAtRest_7 : decode cX5_isAtRest 7 = .ok (.iconst 1, 1) := by decide +kernel
theorem dX5_isAtRest_8 : decode cX5_isAtRest 8 = .ok (.isub, 1) := by decide +kernel
theorem dX5_isAtRest_9 : decode cX5_isAtRest 9 = .ok (.iastore, 1) := by decide +kernel
theorem dX5_isAtRest_10 : decode cX5_isAtRest 10 = .ok (.aload_n 1, 1) := by decide +kernel
theorem dX5_isAtRest_11 : decode cX5_isAtRest 11 = .ok (.bipush 26, 2) := by decide +kernel
theorem dX5_isAtRest_13 : decode cX5_isAtRest 13 = .ok (.iload_n 2, 1) := by decide +kernel
theorem dX5_isAtRest_14 : decode cX5_isAtRest 14 = .ok (.iadd, 1) := by decide +kernel
theorem dX5_isAtRest_15 : decode cX5_isAtRest 15 = .ok (.iaload, 1) := by decide +kernel
theorem dX5_isAtRest_16 : decode cX5_isAtRest 16 = .ok (.ifCond .ne 55, 3) := by decide +kernel
theorem dX5_isAtRest_19 : decode cX5_isAtRest 19 = .ok (.aload_n 0, 1) := by decide +kernel
theorem dX5_isAtRest_20 : decode cX5_isAtRest 20 = .ok (.getfield 34, 3) := by decide +kernel
theorem dX5_isAtRest_23 : decode cX5_isAtRest 23 = .ok (.iload_n 2, 1) := by decide +kernel
theorem dX5_isAtRest_24 : decode cX5_isAtRest 24 = .ok (.iaload, 1) := by decide +kernel
theorem dX5_isAtRest_25 : decode cX5_isAtRest 25 = .ok (.iconst 3, 1) := by decide +kernel
theorem dX5_isAtRest_26 : decode cX5_isAtRest 26 = .ok (.if_icmp .ne 7, 3) := by decide +kernel
theorem dX5_isAtRest_29 : decode cX5_isAtRest 29 = .ok (.iconst 1, 1) := by decide +kernel
theorem dX5_isAtRest_30 : decode cX5_isAtRest 30 = .ok (.goto 4, 3) := by decide +kernel
theorem dX5_isAtRest_33 : decode cX5_isAtRest 33 = .ok (.iconst 0, 1) := by decide +kernel
theorem dX5_isAtRest_34 : decode cX5_isAtRest 34 = .ok (.istore_n 3, 1) := by decide +kernel
theorem dX5_isAtRest_35 : decode cX5_isAtRest 35 = .ok (.aload_n 1, 1) := by decide +kernel
theorem dX5_isAtRest_36 : decode cX5_isAtRest 36 = .ok (.bipush 12, 2) := by decide +kernel
theorem dX5_isAtRest_38 : decode cX5_isAtRest 38 = .ok (.iload_n 2, 1) := by decide +kernel
theorem dX5_isAtRest_39 : decode cX5_isAtRest 39 = .ok (.iadd, 1) := by decide +kernel
theorem dX5_isAtRest_40 : decode cX5_isAtRest 40 = .ok (.iload_n 3, 1) := by decide +kernel
theorem dX5_isAtRest_41 : decode cX5_isAtRest 41 = .ok (.ifCond .eq 7, 3) := by decide +kernel
theorem dX5_isAtRest_44 : decode cX5_isAtRest 44 = .ok (.iconst 0, 1) := by decide +kernel
theorem dX5_isAtRest_45 : decode cX5_isAtRest 45 = .ok (.goto 4, 3) := by decide +kernel
theorem dX5_isAtRest_48 : decode cX5_isAtRest 48 = .ok (.iconst 2, 1) := by decide +kernel
theorem dX5_isAtRest_49 : decode cX5_isAtRest 49 = .ok (.iastore, 1) := by decide +kernel
theorem dX5_isAtRest_50 : decode cX5_isAtRest 50 = .ok (.aload_n 1, 1) := by decide +kernel
theorem dX5_isAtRest_51 : decode cX5_isAtRest 51 = .ok (.bipush 19, 2) := by decide +kernel
theorem dX5_isAtRest_53 : decode cX5_isAtRest 53 = .ok (.iload_n 2, 1) := by decide +kernel
theorem dX5_isAtRest_54 : decode cX5_isAtRest 54 = .ok (.iadd, 1) := by decide +kernel
theorem dX5_isAtRest_55 : decode cX5_isAtRest 55 = .ok (.iload_n 3, 1) := by decide +kernel
theorem dX5_isAtRest_56 : decode cX5_isAtRest 56 = .ok (.ifCond .eq 13, 3) := by decide +kernel
theorem dX5_isAtRest_59 : decode cX5_isAtRest 59 = .ok (.aload_n 1, 1) := by decide +kernel
theorem dX5_isAtRest_60 : decode cX5_isAtRest 60 = .ok (.iconst 5, 1) := by decide +kernel
theorem dX5_isAtRest_61 : decode cX5_isAtRest 61 = .ok (.iload_n 2, 1) := by decide +kernel
theorem dX5_isAtRest_62 : decode cX5_isAtRest 62 = .ok (.iadd, 1) := by decide +kernel
theorem dX5_isAtRest_63 : decode cX5_isAtRest 63 = .ok (.iaload, 1) := by decide +kernel
theorem dX5_isAtRest_64 : decode cX5_isAtRest 64 = .ok (.iconst 1, 1) := by decide +kernel
theorem dX5_isAtRest_65 : decode cX5_isAtRest 65 = .ok (.isub, 1) := by decide +kernel
theorem dX5_isAtRest_66 : decode cX5_isAtRest 66 = .ok (.goto 4, 3) := by decide +kernel
theorem dX5_isAtRest_69 : decode cX5_isAtRest 69 = .ok (.iconst 0, 1) := by decide +kernel
theorem dX5_isAtRest_70 : decode cX5_isAtRest 70 = .ok (.iastore, 1) := by decide +kernel
theorem dX5_isAtRest_71 : decode cX5_isAtRest 71 = .ok (.return_, 1) := by decide +kernel
theorem dX5_isUp_0 : decode cX5_isUp 0 = .ok (.aload_n 1, 1) := by decide +kernel
theorem dX5_isUp_1 : decode cX5_isUp 1 = .ok (.iconst 3, 1) := by decide +kernel
theorem dX5_isUp_2 : decode cX5_isUp 2 = .ok (.iaload, 1) := by decide +kernel
theorem dX5_isUp_3 : decode cX5_isUp 3 = .ok (.aload_n 1, 1) := by decide +kernel
theorem dX5_isUp_4 : decode cX5_isUp 4 = .ok (.iconst 0, 1) := by decide +kernel
theorem dX5_isUp_5 : decode cX5_isUp 5 = .ok (.iaload, 1) := by decide +kernel
theorem dX5_isUp_6 : decode cX5_isUp 6 = .ok (.bipush 8, 2) := by decide +kernel
theorem dX5_isUp_8 : decode cX5_isUp 8 = .ok (.irem, 1) := by decide +kernel
theorem dX5_isUp_9 : decode cX5_isUp 9 = .ok (.invokestatic 139, 3) := by decide +kernel
theorem dX5_isUp_12 : decode cX5_isUp 12 = .ok (.ireturn, 1) := by decide +kernel
theorem dX5_whoCalls_0 : decode cX5_whoCalls 0 = .ok (.iconst 0, 1) := by decide +kernel
theorem dX5_whoCalls_1 : decode cX5_whoCalls 1 = .ok (.istore_n 3, 1) := by decide +kernel
theorem dX5_whoCalls_2 : decode cX5_whoCalls 2 = .ok (.iconst 0, 1) := by decide +kernel
theorem dX5_whoCalls_3 : decode cX5_whoCalls 3 = .ok (.istore 4, 2) := by decide +kernel
theorem dX5_whoCalls_5 : decode cX5_whoCalls 5 = .ok (.iload 4, 2) := by decide +kernel
theorem dX5_whoCalls_7 : decode cX5_whoCalls 7 = .ok (.aload_n 0, 1) := by decide +kernel
theorem dX5_whoCalls_8 : decode cX5_whoCalls 8 = .ok (.getfield 115, 3) := by decide +kernel
theorem dX5_whoCalls_11 : decode cX5_whoCalls 11 = .ok (.if_icmp .ge 71, 3) := by decide +kernel
theorem dX5_whoCalls_14 : decode cX5_whoCalls 14 = .ok (.aload_n 1, 1) := by decide +kernel
theorem dX5_whoCalls_15 : decode cX5_whoCalls 15 = .ok (.bipush 12, 2) := by decide +kernel
theorem dX5_whoCalls_17 : decode cX5_whoCalls 17 = .ok (.iload 4, 2) := by decide +kernel
theorem dX5_whoCalls_19 : decode cX5_whoCalls 19 = .ok (.iadd, 1) := by decide +kernel
theorem dX5_whoCalls_20 : decode cX5_whoCalls 20 = .ok (.iaload, 1) := by decide +kernel
theorem dX5_whoCalls_21 : decode cX5_whoCalls 21 = .ok (.iconst 1, 1) := by decide +kernel
theorem dX5_whoCalls_22 : decode cX5_whoCalls 22 = .ok (.if_icmp .eq 26, 3) := by decide +kernel
theorem dX5_whoCalls_25 : decode cX5_whoCalls 25 = .ok (.aload_n 0, 1) := by decide +kernel
theorem dX5_whoCalls_26 : decode cX5_whoCalls 26 = .ok (.getfield 34, 3) := by decide +kernel
theorem dX5_whoCalls_29 : decode cX5_whoCalls 29 = .ok (.iload 4, 2) := by decide +kernel
theorem dX5_whoCalls_31 : decode cX5_whoCalls 31 = .ok (.iaload, 1) := by decide +kernel
theorem dX5_whoCalls_32 : decode cX5_whoCalls 32 = .ok (.iconst 4, 1) := by decide +kernel
theorem dX5_whoCalls_33 : decode cX5_whoCalls 33 = .ok (.if_icmp .ne 11, 3) := by decide +kernel
theorem dX5_whoCalls_36 : decode cX5_whoCalls 36 = .ok (.aload_n 1, 1) := by decide +kernel
theorem dX5_whoCalls_37 : decode cX5_whoCalls 37 = .ok (.iconst 0, 1) := by decide +kernel
theorem dX5_whoCalls_38 : decode cX5_whoCalls 38 = .ok (.iaload, 1) := by decide +kernel
theorem dX5_whoCalls_39 : decode cX5_whoCalls 39 = .ok (.iconst 2, 1) := by decide +kernel
theorem dX5_whoCalls_40 : decode cX5_whoCalls 40 = .ok (.irem, 1) := by decide +kernel
theorem dX5_whoCalls_41 : decode cX5_whoCalls 41 = .ok (.ifCond .ne 7, 3) := by decide +kernel
theorem dX5_whoCalls_44 : decode cX5_whoCalls 44 = .ok (.iconst 1, 1) := by decide +kernel
theorem dX5_whoCalls_45 : decode cX5_whoCalls 45 = .ok (.goto 4, 3) := by decide +kernel
theorem dX5_whoCalls_48 : decode cX5_whoCalls 48 = .ok (.iconst 0, 1) := by decide +kernel
theorem dX5_whoCalls_49 : decode cX5_whoCalls 49 = .ok (.istore 5, 2) := by decide +kernel
theorem dX5_whoCalls_51 : decode cX5_whoCalls 51 = .ok (.iload_n 3, 1) := by decide +kernel
theorem dX5_whoCalls_52 : decode cX5_whoCalls 52 = .ok (.iload 5, 2) := by decide +kernel
theorem dX5_whoCalls_54 : decode cX5_whoCalls 54 = .ok (.ifCond .eq 19, 3) := by decide +kernel
theorem dX5_whoCalls_57 : decode cX5_whoCalls 57 = .ok (.iload_n 2, 1) := by decide +kernel
theorem dX5_whoCalls_58 : decode cX5_whoCalls 58 = .ok (.iload 4, 2) := by decide +kernel
theorem dX5_whoCalls_60 : decode cX5_whoCalls 60 = .ok (.invokestatic 139, 3) := by decide +kernel
theorem dX5_whoCalls_63 : decode cX5_whoCalls 63 = .ok (.ifCond .ne 10, 3) := by decide +kernel
theorem dX5_whoCalls_66 : decode cX5_whoCalls 66 = .ok (.iconst 1, 1) := by decide +kernel
theorem dX5_whoCalls_67 : decode cX5_whoCalls 67 = .ok (.iload 4, 2) := by decide +kernel
theorem dX5_whoCalls_69 : decode cX5_whoCalls 69 = .ok (.ishl, 1) := by decide +kernel
theorem dX5_whoCalls_70 : decode cX5_whoCalls 70 = .ok (.goto 4, 3) := by decide +kernel
theorem dX5_whoCalls_73 : decode cX5_whoCalls 73 = .ok (.iconst 0, 1) := by decide +kernel
theorem dX5_whoCalls_74 : decode cX5_whoCalls 74 = .ok (.ior, 1) := by decide +kernel
theorem dX5_whoCalls_75 : decode cX5_whoCalls 75 = .ok (.istore_n 3, 1) := by decide +kernel
theorem dX5_whoCalls_76 : decode cX5_whoCalls 76 = .ok (.iinc 4 1, 3) := by decide +kernel
theorem dX5_whoCalls_79 : decode cX5_whoCalls 79 = .ok (.goto (-74), 3) := by decide +kernel
theorem dX5_whoCalls_82 : decode cX5_whoCalls 82 = .ok (.iload_n 3, 1) := by decide +kernel
theorem dX5_whoCalls_83 : decode cX5_whoCalls 83 = .ok (.ireturn, 1) := by decide +kernel
theorem dX5_goes_0 : decode cX5_goes 0 = .ok (.aload_n 0, 1) := by decide +kernel
theorem dX5_goes_1 : decode cX5_goes 1 = .ok (.aload_n 1, 1) := by decide +kernel
theorem dX5_goes_2 : decode cX5_goes 2 = .ok (.iload_n 2, 1) := by decide +kernel
theorem dX5_goes_3 : decode cX5_goes 3 = .ok (.invokevirtual 142, 3) := by decide +kernel
theorem dX5_goes_6 : decode cX5_goes 6 = .ok (.istore 4, 2) := by decide +kernel
theorem dX5_goes_8 : decode cX5_goes 8 = .ok (.iload_n 3, 1) := by decide +kernel
theorem dX5_goes_9 : decode cX5_goes 9 = .ok (.ifCond .eq 18, 3) := by decide +kernel
theorem dX5_goes_12 : decode cX5_goes 12 = .ok (.iload 4, 2) := by decide +kernel
theorem dX5_goes_14 : decode cX5_goes 14 = .ok (.invokestatic 146, 3) := by decide +kernel
theorem dX5_goes_17 : decode cX5_goes 17 = .ok (.aload_n 1, 1) := by decide +kernel
theorem dX5_goes_18 : decode cX5_goes 18 = .ok (.iconst 4, 1) := by decide +kernel
theorem dX5_goes_19 : decode cX5_goes 19 = .ok (.iaload, 1) := by decide +kernel
theorem dX5_goes_20 : decode cX5_goes 20 = .ok (.if_icmp .gt 7, 3) := by decide +kernel
theorem dX5_goes_23 : decode cX5_goes 23 = .ok (.iconst 1, 1) := by decide +kernel
theorem dX5_goes_24 : decode cX5_goes 24 = .ok (.goto 4, 3) := by decide +kernel
theorem dX5_goes_27 : decode cX5_goes 27 = .ok (.iconst 0, 1) := by decide +kernel
theorem dX5_goes_28 : decode cX5_goes 28 = .ok (.istore 5, 2) := by decide +kernel
theorem dX5_goes_30 : decode cX5_goes 30 = .ok (.aload_n 0, 1) := by decide +kernel
theorem dX5_goes_31 : decode cX5_goes 31 = .ok (.iconst 0, 1) := by decide +kernel
theorem dX5_goes_32 : decode cX5_goes 32 = .ok (.putfield 132, 3) := by decide +kernel
theorem dX5_goes_35 : decode cX5_goes 35 = .ok (.aload_n 0, 1) := by decide +kernel
theorem dX5_goes_36 : decode cX5_goes 36 = .ok (.iconst 0, 1) := by decide +kernel
theorem dX5_goes_37 : decode cX5_goes 37 = .ok (.putfield 129, 3) := by decide +kernel
theorem dX5_goes_40 : decode cX5_goes 40 = .ok (.iconst 0, 1) := by decide +kernel
theorem dX5_goes_41 : decode cX5_goes 41 = .ok (.istore 6, 2) := by decide +kernel
theorem dX5_goes_43 : decode cX5_goes 43 = .ok (.iload 6, 2) := by decide +kernel
theorem dX5_goes_45 : decode cX5_goes 45 = .ok (.aload_n 0, 1) := by decide +kernel
theorem dX5_goes_46 : decode cX5_goes 46 = .ok (.getfield 115, 3) := by decide +kernel
theorem dX5_goes_49 : decode cX5_goes 49 = .ok (.if_icmp .ge 81, 3) := by decide +kernel
theorem dX5_goes_52 : decode cX5_goes 52 = .ok (.iload 4, 2) := by decide +kernel
theorem dX5_goes_54 : decode cX5_goes 54 = .ok (.iload 6, 2) := by decide +kernel
theorem dX5_goes_56 : decode cX5_goes 56 = .ok (.invokestatic 139, 3) := by decide +kernel
theorem dX5_goes_59 : decode cX5_goes 59 = .ok (.ifCond .eq 18, 3) := by decide +kernel
theorem dX5_goes_62 : decode cX5_goes 62 = .ok (.iload 5, 2) := by decide +kernel
theorem dX5_goes_64 : decode cX5_goes 64 = .ok (.ifCond .eq 13, 3) := by decide +kernel
theorem dX5_goes_67 : decode cX5_goes 67 = .ok (.aload_n 0, 1) := by decide +kernel
theorem dX5_goes_68 : decode cX5_goes 68 = .ok (.aload_n 1, 1) := by decide +kernel
theorem dX5_goes_69 : decode cX5_goes 69 = .ok (.iload 6, 2) := by decide +kernel
theorem dX5_goes_71 : decode cX5_goes 71 = .ok (.invokevirtual 149, 3) := by decide +kernel
theorem dX5_goes_74 : decode cX5_goes 74 = .ok (.goto 50, 3) := by decide +kernel
theorem dX5_goes_77 : decode cX5_goes 77 = .ok (.iload 4, 2) := by decide +kernel
theorem dX5_goes_79 : decode cX5_goes 79 = .ok (.iload 6, 2) := by decide +kernel
theorem dX5_goes_81 : decode cX5_goes 81 = .ok (.invokestatic 139, 3) := by decide +kernel
theorem dX5_goes_84 : decode cX5_goes 84 = .ok (.ifCond .eq 13, 3) := by decide +kernel
theorem dX5_goes_87 : decode cX5_goes 87 = .ok (.aload_n 0, 1) := by decide +kernel
theorem dX5_goes_88 : decode cX5_goes 88 = .ok (.aload_n 1, 1) := by decide +kernel
theorem dX5_goes_89 : decode cX5_goes 89 = .ok (.iload 6, 2) := by decide +kernel
theorem dX5_goes_91 : decode cX5_goes 91 = .ok (.invokevirtual 152, 3) := by decide +kernel
theorem dX5_goes_94 : decode cX5_goes 94 = .ok (.goto 30, 3) := by decide +kernel
theorem dX5_goes_97 : decode cX5_goes 97 = .ok (.aload_n 1, 1) := by decide +kernel
theorem dX5_goes_98 : decode cX5_goes 98 = .ok (.bipush 12, 2) := by decide +kernel
theorem dX5_goes_100 : decode cX5_goes 100 = .ok (.iload 6, 2) := by decide +kernel
theorem dX5_goes_102 : decode cX5_goes 102 = .ok (.iadd, 1) := by decide +kernel
theorem dX5_goes_103 : decode cX5_goes 103 = .ok (.iaload, 1) := by decide +kernel
theorem dX5_goes_104 : decode cX5_goes 104 = .ok (.iconst 1, 1) := by decide +kernel
theorem dX5_goes_105 : decode cX5_goes 105 = .ok (.if_icmp .ne 19, 3) := by decide +kernel
theorem dX5_goes_108 : decode cX5_goes 108 = .ok (.iload_n 2, 1) := by decide +kernel
theorem dX5_goes_109 : decode cX5_goes 109 = .ok (.iload 6, 2) := by decide +kernel
theorem dX5_goes_111 : decode cX5_goes 111 = .ok (.invokestatic 139, 3) := by decide +kernel
theorem dX5_goes_114 : decode cX5_goes 114 = .ok (.ifCond .ne 10, 3) := by decide +kernel
theorem dX5_goes_117 : decode cX5_goes 117 = .ok (.aload_n 0, 1) := by decide +kernel
theorem dX5_goes_118 : decode cX5_goes 118 = .ok (.aload_n 1, 1) := by decide +kernel
theorem dX5_goes_119 : decode cX5_goes 119 = .ok (.iload 6, 2) := by decide +kernel
theorem dX5_goes_121 : decode cX5_goes 121 = .ok (.invokevirtual 155, 3) := by decide +kernel
theorem dX5_goes_124 : decode cX5_goes 124 = .ok (.iinc 6 1, 3) := by decide +kernel
theorem dX5_goes_127 : decode cX5_goes 127 = .ok (.goto (-84), 3) := by decide +kernel
theorem dX5_goes_130 : decode cX5_goes 130 = .ok (.aload_n 1, 1) := by decide +kernel
theorem dX5_goes_131 : decode cX5_goes 131 = .ok (.iload 5, 2) := by decide +kernel
theorem dX5_goes_133 : decode cX5_goes 133 = .ok (.ifCond .eq 7, 3) := by decide +kernel
theorem dX5_goes_136 : decode cX5_goes 136 = .ok (.iconst 1, 1) := by decide +kernel
theorem dX5_goes_137 : decode cX5_goes 137 = .ok (.goto 4, 3) := by decide +kernel
theorem dX5_goes_140 : decode cX5_goes 140 = .ok (.iconst 2, 1) := by decide +kernel
theorem dX5_goes_141 : decode cX5_goes 141 = .ok (.dup2, 1) := by decide +kernel
theorem dX5_goes_142 : decode cX5_goes 142 = .ok (.iaload, 1) := by decide +kernel
theorem dX5_goes_143 : decode cX5_goes 143 = .ok (.iload 4, 2) := by decide +kernel
theorem dX5_goes_145 : decode cX5_goes 145 = .ok (.invokestatic 146, 3) := by decide +kernel
theorem dX5_goes_148 : decode cX5_goes 148 = .ok (.iadd, 1) := by decide +kernel
theorem dX5_goes_149 : decode cX5_goes 149 = .ok (.iastore, 1) := by decide +kernel
theorem dX5_goes_150 : decode cX5_goes 150 = .ok (.aload_n 1, 1) := by decide +kernel
theorem dX5_goes_151 : decode cX5_goes 151 = .ok (.iconst 0, 1) := by decide +kernel
theorem dX5_goes_152 : decode cX5_goes 152 = .ok (.dup2, 1) := by decide +kernel
theorem dX5_goes_153 : decode cX5_goes 153 = .ok (.iaload, 1) := by decide +kernel
theorem dX5_goes_154 : decode cX5_goes 154 = .ok (.iconst 1, 1) := by decide +kernel
theorem dX5_goes_155 : decode cX5_goes 155 = .ok (.iadd, 1) := by decide +kernel
theorem dX5_goes_156 : decode cX5_goes 156 = .ok (.iastore, 1) := by decide +kernel
theorem dX5_goes_157 : decode cX5_goes 157 = .ok (.aload_n 0, 1) := by decide +kernel
theorem dX5_goes_158 : decode cX5_goes 158 = .ok (.getfield 132, 3) := by decide +kernel
theorem dX5_goes_161 : decode cX5_goes 161 = .ok (.invokestatic 146, 3) := by decide +kernel
theorem dX5_goes_164 : decode cX5_goes 164 = .ok (.ireturn, 1) := by decide +kernel
theorem dX5_asKinds_0 : decode cX5_asKinds 0 = .ok (.aload_n 0, 1) := by decide +kernel
theorem dX5_asKinds_1 : decode cX5_asKinds 1 = .ok (.getfield 22, 3) := by decide +kernel
theorem dX5_asKinds_4 : decode cX5_asKinds 4 = .ok (.iconst 0, 1) := by decide +kernel
theorem dX5_asKinds_5 : decode cX5_asKinds 5 = .ok (.aload_n 0, 1) := by decide +kernel
theorem dX5_asKinds_6 : decode cX5_asKinds 6 = .ok (.getfield 34, 3) := by decide +kernel
theorem dX5_asKinds_9 : decode cX5_asKinds 9 = .ok (.iconst 0, 1) := by decide +kernel
theorem dX5_asKinds_10 : decode cX5_asKinds 10 = .ok (.bipush 7, 2) := by decide +kernel
theorem dX5_asKinds_12 : decode cX5_asKinds 12 = .ok (.invokestatic 118, 3) := by decide +kernel
theorem dX5_asKinds_15 : decode cX5_asKinds 15 = .ok (.return_, 1) := by decide +kernel
theorem dX5_laysAside_0 : decode cX5_laysAside 0 = .ok (.aload_n 0, 1) := by decide +kernel
theorem dX5_laysAside_1 : decode cX5_laysAside 1 = .ok (.getfield 28, 3) := by decide +kernel
theorem dX5_laysAside_4 : decode cX5_laysAside 4 = .ok (.iconst 0, 1) := by decide +kernel
theorem dX5_laysAside_5 : decode cX5_laysAside 5 = .ok (.aload_n 0, 1) := by decide +kernel
theorem dX5_laysAside_6 : decode cX5_laysAside 6 = .ok (.getfield 31, 3) := by decide +kernel
theorem dX5_laysAside_9 : decode cX5_laysAside 9 = .ok (.iconst 0, 1) := by decide +kernel
theorem dX5_laysAside_10 : decode cX5_laysAside 10 = .ok (.bipush 40, 2) := by decide +kernel
theorem dX5_laysAside_12 : decode cX5_laysAside 12 = .ok (.invokestatic 118, 3) := by decide +kernel
theorem dX5_laysAside_15 : decode cX5_laysAside 15 = .ok (.return_, 1) := by decide +kernel
theorem dX5_goesOn_0 : decode cX5_goesOn 0 = .ok (.iconst 0, 1) := by decide +kernel
theorem dX5_goesOn_1 : decode cX5_goesOn 1 = .ok (.istore_n 3, 1) := by decide +kernel
theorem dX5_goesOn_2 : decode cX5_goesOn 2 = .ok (.iconst 0, 1) := by decide +kernel
theorem dX5_goesOn_3 : decode cX5_goesOn 3 = .ok (.istore 4, 2) := by decide +kernel
theorem dX5_goesOn_5 : decode cX5_goesOn 5 = .ok (.iload 4, 2) := by decide +kernel
theorem dX5_goesOn_7 : decode cX5_goesOn 7 = .ok (.iload_n 1, 1) := by decide +kernel
theorem dX5_goesOn_8 : decode cX5_goesOn 8 = .ok (.if_icmp .ge 29, 3) := by decide +kernel
theorem dX5_goesOn_11 : decode cX5_goesOn 11 = .ok (.iload_n 3, 1) := by decide +kernel
theorem dX5_goesOn_12 : decode cX5_goesOn 12 = .ok (.aload_n 0, 1) := by decide +kernel
theorem dX5_goesOn_13 : decode cX5_goesOn 13 = .ok (.aload_n 0, 1) := by decide +kernel
theorem dX5_goesOn_14 : decode cX5_goesOn 14 = .ok (.getfield 31, 3) := by decide +kernel
theorem dX5_goesOn_17 : decode cX5_goesOn 17 = .ok (.iload_n 2, 1) := by decide +kernel
theorem dX5_goesOn_18 : decode cX5_goesOn 18 = .ok (.aload_n 0, 1) := by decide +kernel
theorem dX5_goesOn_19 : decode cX5_goesOn 19 = .ok (.aload_n 0, 1) := by decide +kernel
theorem dX5_goesOn_20 : decode cX5_goesOn 20 = .ok (.getfield 31, 3) := by decide +kernel
theorem dX5_goesOn_23 : decode cX5_goesOn 23 = .ok (.invokevirtual 158, 3) := by decide +kernel
theorem dX5_goesOn_26 : decode cX5_goesOn 26 = .ok (.invokevirtual 162, 3) := by decide +kernel
theorem dX5_goesOn_29 : decode cX5_goesOn 29 = .ok (.iadd, 1) := by decide +kernel
theorem dX5_goesOn_30 : decode cX5_goesOn 30 = .ok (.istore_n 3, 1) := by decide +kernel
theorem dX5_goesOn_31 : decode cX5_goesOn 31 = .ok (.iinc 4 1, 3) := by decide +kernel
theorem dX5_goesOn_34 : decode cX5_goesOn 34 = .ok (.goto (-29), 3) := by decide +kernel
theorem dX5_goesOn_37 : decode cX5_goesOn 37 = .ok (.iload_n 3, 1) := by decide +kernel
theorem dX5_goesOn_38 : decode cX5_goesOn 38 = .ok (.ireturn, 1) := by decide +kernel
theorem dX5_caller_0 : decode cX5_caller 0 = .ok (.aload_n 0, 1) := by decide +kernel
theorem dX5_caller_1 : decode cX5_caller 1 = .ok (.iload_n 1, 1) := by decide +kernel
theorem dX5_caller_2 : decode cX5_caller 2 = .ok (.invokevirtual 166, 3) := by decide +kernel
theorem dX5_caller_5 : decode cX5_caller 5 = .ok (.ifCond .ne 5, 3) := by decide +kernel
theorem dX5_caller_8 : decode cX5_caller 8 = .ok (.iconst (-1), 1) := by decide +kernel
theorem dX5_caller_9 : decode cX5_caller 9 = .ok (.ireturn, 1) := by decide +kernel
theorem dX5_caller_10 : decode cX5_caller 10 = .ok (.iload_n 2, 1) := by decide +kernel
theorem dX5_caller_11 : decode cX5_caller 11 = .ok (.tableswitch 132 0 6 #[41, 52, 65, 76, 90, 104, 118], 41) := by decide +kernel
theorem dX5_caller_52 : decode cX5_caller 52 = .ok (.aload_n 0, 1) := by decide +kernel
theorem dX5_caller_53 : decode cX5_caller 53 = .ok (.aload_n 0, 1) := by decide +kernel
theorem dX5_caller_54 : decode cX5_caller 54 = .ok (.getfield 22, 3) := by decide +kernel
theorem dX5_caller_57 : decode cX5_caller 57 = .ok (.iload_n 1, 1) := by decide +kernel
theorem dX5_caller_58 : decode cX5_caller 58 = .ok (.iaload, 1) := by decide +kernel
theorem dX5_caller_59 : decode cX5_caller 59 = .ok (.invokevirtual 89, 3) := by decide +kernel
theorem dX5_caller_62 : decode cX5_caller 62 = .ok (.ireturn, 1) := by decide +kernel
theorem dX5_caller_63 : decode cX5_caller 63 = .ok (.aload_n 0, 1) := by decide +kernel
theorem dX5_caller_64 : decode cX5_caller 64 = .ok (.aload_n 0, 1) := by decide +kernel
theorem dX5_caller_65 : decode cX5_caller 65 = .ok (.getfield 28, 3) := by decide +kernel
theorem dX5_caller_68 : decode cX5_caller 68 = .ok (.iconst 5, 1) := by decide +kernel
theorem dX5_caller_69 : decode cX5_caller 69 = .ok (.iload_n 1, 1) := by decide +kernel
theorem dX5_caller_70 : decode cX5_caller 70 = .ok (.iadd, 1) := by decide +kernel
theorem dX5_caller_71 : decode cX5_caller 71 = .ok (.iaload, 1) := by decide +kernel
theorem dX5_caller_72 : decode cX5_caller 72 = .ok (.invokevirtual 89, 3) := by decide +kernel
theorem dX5_caller_75 : decode cX5_caller 75 = .ok (.ireturn, 1) := by decide +kernel
theorem dX5_caller_76 : decode cX5_caller 76 = .ok (.aload_n 0, 1) := by decide +kernel
theorem dX5_caller_77 : decode cX5_caller 77 = .ok (.aload_n 0, 1) := by decide +kernel
theorem dX5_caller_78 : decode cX5_caller 78 = .ok (.getfield 25, 3) := by decide +kernel
theorem dX5_caller_81 : decode cX5_caller 81 = .ok (.iload_n 1, 1) := by decide +kernel
theorem dX5_caller_82 : decode cX5_caller 82 = .ok (.iaload, 1) := by decide +kernel
theorem dX5_caller_83 : decode cX5_caller 83 = .ok (.invokevirtual 89, 3) := by decide +kernel
theorem dX5_caller_86 : decode cX5_caller 86 = .ok (.ireturn, 1) := by decide +kernel
theorem dX5_caller_87 : decode cX5_caller 87 = .ok (.aload_n 0, 1) := by decide +kernel
theorem dX5_caller_88 : decode cX5_caller 88 = .ok (.aload_n 0, 1) := by decide +kernel
theorem dX5_caller_89 : decode cX5_caller 89 = .ok (.getfield 28, 3) := by decide +kernel
theorem dX5_caller_92 : decode cX5_caller 92 = .ok (.bipush 12, 2) := by decide +kernel
theorem dX5_caller_94 : decode cX5_caller 94 = .ok (.iload_n 1, 1) := by decide +kernel
theorem dX5_caller_95 : decode cX5_caller 95 = .ok (.iadd, 1) := by decide +kernel
theorem dX5_caller_96 : decode cX5_caller 96 = .ok (.iaload, 1) := by decide +kernel
theorem dX5_caller_97 : decode cX5_caller 97 = .ok (.invokevirtual 89, 3) := by decide +kernel
theorem dX5_caller_100 : decode cX5_caller 100 = .ok (.ireturn, 1) := by decide +kernel
theorem dX5_caller_101 : decode cX5_caller 101 = .ok (.aload_n 0, 1) := by decide +kernel
theorem dX5_caller_102 : decode cX5_caller 102 = .ok (.aload_n 0, 1) := by decide +kernel
theorem dX5_caller_103 : decode cX5_caller 103 = .ok (.getfield 28, 3) := by decide +kernel
theorem dX5_caller_106 : decode cX5_caller 106 = .ok (.bipush 19, 2) := by decide +kernel
theorem dX5_caller_108 : decode cX5_caller 108 = .ok (.iload_n 1, 1) := by decide +kernel
theorem dX5_caller_109 : decode cX5_caller 109 = .ok (.iadd, 1) := by decide +kernel
theorem dX5_caller_110 : decode cX5_caller 110 = .ok (.iaload, 1) := by decide +kernel
theorem dX5_caller_111 : decode cX5_caller 111 = .ok (.invokevirtual 89, 3) := by decide +kernel
theorem dX5_caller_114 : decode cX5_caller 114 = .ok (.ireturn, 1) := by decide +kernel
theorem dX5_caller_115 : decode cX5_caller 115 = .ok (.aload_n 0, 1) := by decide +kernel
theorem dX5_caller_116 : decode cX5_caller 116 = .ok (.aload_n 0, 1) := by decide +kernel
theorem dX5_caller_117 : decode cX5_caller 117 = .ok (.getfield 28, 3) := by decide +kernel
theorem dX5_caller_120 : decode cX5_caller 120 = .ok (.bipush 26, 2) := by decide +kernel
theorem dX5_caller_122 : decode cX5_caller 122 = .ok (.iload_n 1, 1) := by decide +kernel
theorem dX5_caller_123 : decode cX5_caller 123 = .ok (.iadd, 1) := by decide +kernel
theorem dX5_caller_124 : decode cX5_caller 124 = .ok (.iaload, 1) := by decide +kernel
theorem dX5_caller_125 : decode cX5_caller 125 = .ok (.invokevirtual 89, 3) := by decide +kernel
theorem dX5_caller_128 : decode cX5_caller 128 = .ok (.ireturn, 1) := by decide +kernel
theorem dX5_caller_129 : decode cX5_caller 129 = .ok (.aload_n 0, 1) := by decide +kernel
theorem dX5_caller_130 : decode cX5_caller 130 = .ok (.aload_n 0, 1) := by decide +kernel
theorem dX5_caller_131 : decode cX5_caller 131 = .ok (.getfield 28, 3) := by decide +kernel
theorem dX5_caller_134 : decode cX5_caller 134 = .ok (.bipush 33, 2) := by decide +kernel
theorem dX5_caller_136 : decode cX5_caller 136 = .ok (.iload_n 1, 1) := by decide +kernel
theorem dX5_caller_137 : decode cX5_caller 137 = .ok (.iadd, 1) := by decide +kernel
theorem dX5_caller_138 : decode cX5_caller 138 = .ok (.iaload, 1) := by decide +kernel
theorem dX5_caller_139 : decode cX5_caller 139 = .ok (.invokevirtual 89, 3) := by decide +kernel
theorem dX5_caller_142 : decode cX5_caller 142 = .ok (.ireturn, 1) := by decide +kernel
theorem dX5_caller_143 : decode cX5_caller 143 = .ok (.iconst (-1), 1) := by decide +kernel
theorem dX5_caller_144 : decode cX5_caller 144 = .ok (.ireturn, 1) := by decide +kernel
theorem dX5_mark_0 : decode cX5_mark 0 = .ok (.aload_n 0, 1) := by decide +kernel
theorem dX5_mark_1 : decode cX5_mark 1 = .ok (.iload_n 1, 1) := by decide +kernel
theorem dX5_mark_2 : decode cX5_mark 2 = .ok (.invokevirtual 166, 3) := by decide +kernel
theorem dX5_mark_5 : decode cX5_mark 5 = .ok (.ifCond .eq 15, 3) := by decide +kernel
theorem dX5_mark_8 : decode cX5_mark 8 = .ok (.iload_n 2, 1) := by decide +kernel
theorem dX5_mark_9 : decode cX5_mark 9 = .ok (.i2l, 1) := by decide +kernel
theorem dX5_mark_10 : decode cX5_mark 10 = .ok (.lconst 1, 1) := by decide +kernel
theorem dX5_mark_11 : decode cX5_mark 11 = .ok (.ldc2_w 73, 3) := by decide +kernel
theorem dX5_mark_14 : decode cX5_mark 14 = .ok (.invokestatic 75, 3) := by decide +kernel
theorem dX5_mark_17 : decode cX5_mark 17 = .ok (.ifCond .ne 5, 3) := by decide +kernel
theorem dX5_mark_20 : decode cX5_mark 20 = .ok (.iconst (-1), 1) := by decide +kernel
theorem dX5_mark_21 : decode cX5_mark 21 = .ok (.ireturn, 1) := by decide +kernel
theorem dX5_mark_22 : decode cX5_mark 22 = .ok (.aload_n 0, 1) := by decide +kernel
theorem dX5_mark_23 : decode cX5_mark 23 = .ok (.getfield 22, 3) := by decide +kernel
theorem dX5_mark_26 : decode cX5_mark 26 = .ok (.iload_n 1, 1) := by decide +kernel
theorem dX5_mark_27 : decode cX5_mark 27 = .ok (.iaload, 1) := by decide +kernel
theorem dX5_mark_28 : decode cX5_mark 28 = .ok (.istore_n 3, 1) := by decide +kernel
theorem dX5_mark_29 : decode cX5_mark 29 = .ok (.iload_n 3, 1) := by decide +kernel
theorem dX5_mark_30 : decode cX5_mark 30 = .ok (.iload_n 2, 1) := by decide +kernel
theorem dX5_mark_31 : decode cX5_mark 31 = .ok (.if_icmp .eq 29, 3) := by decide +kernel
theorem dX5_mark_34 : decode cX5_mark 34 = .ok (.iload_n 2, 1) := by decide +kernel
theorem dX5_mark_35 : decode cX5_mark 35 = .ok (.iconst 1, 1) := by decide +kernel
theorem dX5_mark_36 : decode cX5_mark 36 = .ok (.if_icmp .ne 8, 3) := by decide +kernel
theorem dX5_mark_39 : decode cX5_mark 39 = .ok (.iload_n 3, 1) := by decide +kernel
theorem dX5_mark_40 : decode cX5_mark 40 = .ok (.iconst 4, 1) := by decide +kernel
theorem dX5_mark_41 : decode cX5_mark 41 = .ok (.if_icmp .eq 19, 3) := by decide +kernel
theorem dX5_mark_44 : decode cX5_mark 44 = .ok (.iload_n 2, 1) := by decide +kernel
theorem dX5_mark_45 : decode cX5_mark 45 = .ok (.iconst 2, 1) := by decide +kernel
theorem dX5_mark_46 : decode cX5_mark 46 = .ok (.if_icmp .ne 8, 3) := by decide +kernel
theorem dX5_mark_49 : decode cX5_mark 49 = .ok (.iload_n 3, 1) := by decide +kernel
theorem dX5_mark_50 : decode cX5_mark 50 = .ok (.iconst 5, 1) := by decide +kernel
theorem dX5_mark_51 : decode cX5_mark 51 = .ok (.if_icmp .eq 9, 3) := by decide +kernel
theorem dX5_mark_54 : decode cX5_mark 54 = .ok (.aload_n 0, 1) := by decide +kernel
theorem dX5_mark_55 : decode cX5_mark 55 = .ok (.iconst 3, 1) := by decide +kernel
theorem dX5_mark_56 : decode cX5_mark 56 = .ok (.invokevirtual 85, 3) := by decide +kernel
theorem dX5_mark_59 : decode cX5_mark 59 = .ok (.ireturn, 1) := by decide +kernel
theorem dX5_mark_60 : decode cX5_mark 60 = .ok (.iload_n 2, 1) := by decide +kernel
theorem dX5_mark_61 : decode cX5_mark 61 = .ok (.tableswitch 117 1 4 #[31, 59, 76, 87], 31) := by decide +kernel
theorem dX5_mark_92 : decode cX5_mark 92 = .ok (.aload_n 0, 1) := by decide +kernel
theorem dX5_mark_93 : decode cX5_mark 93 = .ok (.getfield 28, 3) := by decide +kernel
theorem dX5_mark_96 : decode cX5_mark 96 = .ok (.bipush 19, 2) := by decide +kernel
theorem dX5_mark_98 : decode cX5_mark 98 = .ok (.iload_n 1, 1) := by decide +kernel
theorem dX5_mark_99 : decode cX5_mark 99 = .ok (.iadd, 1) := by decide +kernel
theorem dX5_mark_100 : decode cX5_mark 100 = .ok (.iaload, 1) := by decide +kernel
theorem dX5_mark_101 : decode cX5_mark 101 = .ok (.ifCond .le 17, 3) := by decide +kernel
theorem dX5_mark_104 : decode cX5_mark 104 = .ok (.aload_n 0, 1) := by decide +kernel
theorem dX5_mark_105 : decode cX5_mark 105 = .ok (.getfield 28, 3) := by decide +kernel
theorem dX5_mark_108 : decode cX5_mark 108 = .ok (.bipush 19, 2) := by decide +kernel
theorem dX5_mark_110 : decode cX5_mark 110 = .ok (.iload_n 1, 1) := by decide +kernel
theorem dX5_mark_111 : decode cX5_mark 111 = .ok (.iadd, 1) := by decide +kernel
theorem dX5_mark_112 : decode cX5_mark 112 = .ok (.iaload, 1) := by decide +kernel
theorem dX5_mark_113 : decode cX5_mark 113 = .ok (.iconst 1, 1) := by decide +kernel
theorem dX5_mark_114 : decode cX5_mark 114 = .ok (.isub, 1) := by decide +kernel
theorem dX5_mark_115 : decode cX5_mark 115 = .ok (.goto 4, 3) := by decide +kernel
theorem dX5_mark_118 : decode cX5_mark 118 = .ok (.iconst 0, 1) := by decide +kernel
theorem dX5_mark_119 : decode cX5_mark 119 = .ok (.ireturn, 1) := by decide +kernel
theorem dX5_mark_120 : decode cX5_mark 120 = .ok (.aload_n 0, 1) := by decide +kernel
theorem dX5_mark_121 : decode cX5_mark 121 = .ok (.getfield 28, 3) := by decide +kernel
theorem dX5_mark_124 : decode cX5_mark 124 = .ok (.bipush 33, 2) := by decide +kernel
theorem dX5_mark_126 : decode cX5_mark 126 = .ok (.iload_n 1, 1) := by decide +kernel
theorem dX5_mark_127 : decode cX5_mark 127 = .ok (.iadd, 1) := by decide +kernel
theorem dX5_mark_128 : decode cX5_mark 128 = .ok (.iaload, 1) := by decide +kernel
theorem dX5_mark_129 : decode cX5_mark 129 = .ok (.aload_n 0, 1) := by decide +kernel
theorem dX5_mark_130 : decode cX5_mark 130 = .ok (.getfield 25, 3) := by decide +kernel
theorem dX5_mark_133 : decode cX5_mark 133 = .ok (.iload_n 1, 1) := by decide +kernel
theorem dX5_mark_134 : decode cX5_mark 134 = .ok (.iaload, 1) := by decide +kernel
theorem dX5_mark_135 : decode cX5_mark 135 = .ok (.isub, 1) := by decide +kernel
theorem dX5_mark_136 : decode cX5_mark 136 = .ok (.ireturn, 1) := by decide +kernel
theorem dX5_mark_137 : decode cX5_mark 137 = .ok (.aload_n 0, 1) := by decide +kernel
theorem dX5_mark_138 : decode cX5_mark 138 = .ok (.getfield 28, 3) := by decide +kernel
theorem dX5_mark_141 : decode cX5_mark 141 = .ok (.iconst 5, 1) := by decide +kernel
theorem dX5_mark_142 : decode cX5_mark 142 = .ok (.iload_n 1, 1) := by decide +kernel
theorem dX5_mark_143 : decode cX5_mark 143 = .ok (.iadd, 1) := by decide +kernel
theorem dX5_mark_144 : decode cX5_mark 144 = .ok (.iaload, 1) := by decide +kernel
theorem dX5_mark_145 : decode cX5_mark 145 = .ok (.iconst 1, 1) := by decide +kernel
theorem dX5_mark_146 : decode cX5_mark 146 = .ok (.isub, 1) := by decide +kernel
theorem dX5_mark_147 : decode cX5_mark 147 = .ok (.ireturn, 1) := by decide +kernel
theorem dX5_mark_148 : decode cX5_mark 148 = .ok (.aload_n 0, 1) := by decide +kernel
theorem dX5_mark_149 : decode cX5_mark 149 = .ok (.getfield 28, 3) := by decide +kernel
theorem dX5_mark_152 : decode cX5_mark 152 = .ok (.bipush 12, 2) := by decide +kernel
theorem dX5_mark_154 : decode cX5_mark 154 = .ok (.iload_n 1, 1) := by decide +kernel
theorem dX5_mark_155 : decode cX5_mark 155 = .ok (.iadd, 1) := by decide +kernel
theorem dX5_mark_156 : decode cX5_mark 156 = .ok (.iaload, 1) := by decide +kernel
theorem dX5_mark_157 : decode cX5_mark 157 = .ok (.iconst 1, 1) := by decide +kernel
theorem dX5_mark_158 : decode cX5_mark 158 = .ok (.if_icmp .eq 18, 3) := by decide +kernel
theorem dX5_mark_161 : decode cX5_mark 161 = .ok (.aload_n 0, 1) := by decide +kernel
theorem dX5_mark_162 : decode cX5_mark 162 = .ok (.getfield 28, 3) := by decide +kernel
theorem dX5_mark_165 : decode cX5_mark 165 = .ok (.iconst 0, 1) := by decide +kernel
theorem dX5_mark_166 : decode cX5_mark 166 = .ok (.iaload, 1) := by decide +kernel
theorem dX5_mark_167 : decode cX5_mark 167 = .ok (.iconst 2, 1) := by decide +kernel
theorem dX5_mark_168 : decode cX5_mark 168 = .ok (.irem, 1) := by decide +kernel
theorem dX5_mark_169 : decode cX5_mark 169 = .ok (.ifCond .ne 7, 3) := by decide +kernel
theorem dX5_mark_172 : decode cX5_mark 172 = .ok (.iconst 1, 1) := by decide +kernel
theorem dX5_mark_173 : decode cX5_mark 173 = .ok (.goto 4, 3) := by decide +kernel
theorem dX5_mark_176 : decode cX5_mark 176 = .ok (.iconst 0, 1) := by decide +kernel
theorem dX5_mark_177 : decode cX5_mark 177 = .ok (.ireturn, 1) := by decide +kernel
theorem dX5_mark_178 : decode cX5_mark 178 = .ok (.iconst 4, 1) := by decide +kernel
theorem dX5_mark_179 : decode cX5_mark 179 = .ok (.aload_n 0, 1) := by decide +kernel
theorem dX5_mark_180 : decode cX5_mark 180 = .ok (.getfield 28, 3) := by decide +kernel
theorem dX5_mark_183 : decode cX5_mark 183 = .ok (.iconst 0, 1) := by decide +kernel
theorem dX5_mark_184 : decode cX5_mark 184 = .ok (.iaload, 1) := by decide +kernel
theorem dX5_mark_185 : decode cX5_mark 185 = .ok (.iconst 4, 1) := by decide +kernel
theorem dX5_mark_186 : decode cX5_mark 186 = .ok (.irem, 1) := by decide +kernel
theorem dX5_mark_187 : decode cX5_mark 187 = .ok (.isub, 1) := by decide +kernel
theorem dX5_mark_188 : decode cX5_mark 188 = .ok (.iconst 4, 1) := by decide +kernel
theorem dX5_mark_189 : decode cX5_mark 189 = .ok (.irem, 1) := by decide +kernel
theorem dX5_mark_190 : decode cX5_mark 190 = .ok (.ireturn, 1) := by decide +kernel
theorem dX5_up_0 : decode cX5_up 0 = .ok (.iload_n 1, 1) := by decide +kernel
theorem dX5_up_1 : decode cX5_up 1 = .ok (.i2l, 1) := by decide +kernel
theorem dX5_up_2 : decode cX5_up 2 = .ok (.lconst 0, 1) := by decide +kernel
theorem dX5_up_3 : decode cX5_up 3 = .ok (.ldc2_w 169, 3) := by decide +kernel
theorem dX5_up_6 : decode cX5_up 6 = .ok (.invokestatic 75, 3) := by decide +kernel
theorem dX5_up_9 : decode cX5_up 9 = .ok (.ifCond .ne 5, 3) := by decide +kernel
theorem dX5_up_12 : decode cX5_up 12 = .ok (.iconst (-1), 1) := by decide +kernel
theorem dX5_up_13 : decode cX5_up 13 = .ok (.ireturn, 1) := by decide +kernel
theorem dX5_up_14 : decode cX5_up 14 = .ok (.aload_n 0, 1) := by decide +kernel
theorem dX5_up_15 : decode cX5_up 15 = .ok (.getfield 115, 3) := by decide +kernel
theorem dX5_up_18 : decode cX5_up 18 = .ok (.ifCond .le 23, 3) := by decide +kernel
theorem dX5_up_21 : decode cX5_up 21 = .ok (.aload_n 0, 1) := by decide +kernel
theorem dX5_up_22 : decode cX5_up 22 = .ok (.getfield 28, 3) := by decide +kernel
theorem dX5_up_25 : decode cX5_up 25 = .ok (.iconst 3, 1) := by decide +kernel
theorem dX5_up_26 : decode cX5_up 26 = .ok (.iaload, 1) := by decide +kernel
theorem dX5_up_27 : decode cX5_up 27 = .ok (.iload_n 1, 1) := by decide +kernel
theorem dX5_up_28 : decode cX5_up 28 = .ok (.bipush 8, 2) := by decide +kernel
theorem dX5_up_30 : decode cX5_up 30 = .ok (.irem, 1) := by decide +kernel
theorem dX5_up_31 : decode cX5_up 31 = .ok (.invokestatic 139, 3) := by decide +kernel
theorem dX5_up_34 : decode cX5_up 34 = .ok (.ifCond .eq 7, 3) := by decide +kernel
theorem dX5_up_37 : decode cX5_up 37 = .ok (.iconst 1, 1) := by decide +kernel
theorem dX5_up_38 : decode cX5_up 38 = .ok (.goto 4, 3) := by decide +kernel
theorem dX5_up_41 : decode cX5_up 41 = .ok (.iconst 0, 1) := by decide +kernel
theorem dX5_up_42 : decode cX5_up 42 = .ok (.ireturn, 1) := by decide +kernel
theorem dX5_remembers_0 : decode cX5_remembers 0 = .ok (.aload_n 0, 1) := by decide +kernel
theorem dX5_remembers_1 : decode cX5_remembers 1 = .ok (.getfield 28, 3) := by decide +kernel
theorem dX5_remembers_4 : decode cX5_remembers 4 = .ok (.iconst 0, 1) := by decide +kernel
theorem dX5_remembers_5 : decode cX5_remembers 5 = .ok (.aload_n 0, 1) := by decide +kernel
theorem dX5_remembers_6 : decode cX5_remembers 6 = .ok (.getfield 37, 3) := by decide +kernel
theorem dX5_remembers_9 : decode cX5_remembers 9 = .ok (.bipush 40, 2) := by decide +kernel
theorem dX5_remembers_11 : decode cX5_remembers 11 = .ok (.aload_n 0, 1) := by decide +kernel
theorem dX5_remembers_12 : decode cX5_remembers 12 = .ok (.getfield 126, 3) := by decide +kernel
theorem dX5_remembers_15 : decode cX5_remembers 15 = .ok (.imul, 1) := by decide +kernel
theorem dX5_remembers_16 : decode cX5_remembers 16 = .ok (.bipush 40, 2) := by decide +kernel
theorem dX5_remembers_18 : decode cX5_remembers 18 = .ok (.invokestatic 118, 3) := by decide +kernel
theorem dX5_remembers_21 : decode cX5_remembers 21 = .ok (.aload_n 0, 1) := by decide +kernel
theorem dX5_remembers_22 : decode cX5_remembers 22 = .ok (.dup, 1) := by decide +kernel
theorem dX5_remembers_23 : decode cX5_remembers 23 = .ok (.getfield 126, 3) := by decide +kernel
theorem dX5_remembers_26 : decode cX5_remembers 26 = .ok (.iconst 1, 1) := by decide +kernel
theorem dX5_remembers_27 : decode cX5_remembers 27 = .ok (.iadd, 1) := by decide +kernel
theorem dX5_remembers_28 : decode cX5_remembers 28 = .ok (.putfield 126, 3) := by decide +kernel
theorem dX5_remembers_31 : decode cX5_remembers 31 = .ok (.return_, 1) := by decide +kernel
theorem dX5_step_0 : decode cX5_step 0 = .ok (.aload_n 0, 1) := by decide +kernel
theorem dX5_step_1 : decode cX5_step 1 = .ok (.getfield 115, 3) := by decide +kernel
theorem dX5_step_4 : decode cX5_step 4 = .ok (.ifCond .eq 14, 3) := by decide +kernel
theorem dX5_step_7 : decode cX5_step 7 = .ok (.aload_n 0, 1) := by decide +kernel
theorem dX5_step_8 : decode cX5_step 8 = .ok (.getfield 28, 3) := by decide +kernel
theorem dX5_step_11 : decode cX5_step 11 = .ok (.iconst 0, 1) := by decide +kernel
theorem dX5_step_12 : decode cX5_step 12 = .ok (.iaload, 1) := by decide +kernel
theorem dX5_step_13 : decode cX5_step 13 = .ok (.bipush 99, 2) := by decide +kernel
theorem dX5_step_15 : decode cX5_step 15 = .ok (.if_icmp .ne 6, 3) := by decide +kernel
theorem dX5_step_18 : decode cX5_step 18 = .ok (.bipush (-4), 2) := by decide +kernel
theorem dX5_step_20 : decode cX5_step 20 = .ok (.ireturn, 1) := by decide +kernel
theorem dX5_step_21 : decode cX5_step 21 = .ok (.aload_n 0, 1) := by decide +kernel
theorem dX5_step_22 : decode cX5_step 22 = .ok (.getfield 126, 3) := by decide +kernel
theorem dX5_step_25 : decode cX5_step 25 = .ok (.bipush 40, 2) := by decide +kernel
theorem dX5_step_27 : decode cX5_step 27 = .ok (.if_icmp .ne 6, 3) := by decide +kernel
theorem dX5_step_30 : decode cX5_step 30 = .ok (.bipush (-2), 2) := by decide +kernel
theorem dX5_step_32 : decode cX5_step 32 = .ok (.ireturn, 1) := by decide +kernel
theorem dX5_step_33 : decode cX5_step 33 = .ok (.aload_n 0, 1) := by decide +kernel
theorem dX5_step_34 : decode cX5_step 34 = .ok (.invokevirtual 171, 3) := by decide +kernel
theorem dX5_step_37 : decode cX5_step 37 = .ok (.aload_n 0, 1) := by decide +kernel
theorem dX5_step_38 : decode cX5_step 38 = .ok (.invokevirtual 174, 3) := by decide +kernel
theorem dX5_step_41 : decode cX5_step 41 = .ok (.aload_n 0, 1) := by decide +kernel
theorem dX5_step_42 : decode cX5_step 42 = .ok (.aload_n 0, 1) := by decide +kernel
theorem dX5_step_43 : decode cX5_step 43 = .ok (.getfield 28, 3) := by decide +kernel
theorem dX5_step_46 : decode cX5_step 46 = .ok (.iconst 0, 1) := by decide +kernel
theorem dX5_step_47 : decode cX5_step 47 = .ok (.aload_n 0, 1) := by decide +kernel
theorem dX5_step_48 : decode cX5_step 48 = .ok (.aload_n 0, 1) := by decide +kernel
theorem dX5_step_49 : decode cX5_step 49 = .ok (.getfield 28, 3) := by decide +kernel
theorem dX5_step_52 : decode cX5_step 52 = .ok (.invokevirtual 158, 3) := by decide +kernel
theorem dX5_step_55 : decode cX5_step 55 = .ok (.invokevirtual 162, 3) := by decide +kernel
theorem dX5_step_58 : decode cX5_step 58 = .ok (.ireturn, 1) := by decide +kernel
theorem dX5_flip_0 : decode cX5_flip 0 = .ok (.iload_n 1, 1) := by decide +kernel
theorem dX5_flip_1 : decode cX5_flip 1 = .ok (.i2l, 1) := by decide +kernel
theorem dX5_flip_2 : decode cX5_flip 2 = .ok (.lconst 0, 1) := by decide +kernel
theorem dX5_flip_3 : decode cX5_flip 3 = .ok (.ldc2_w 177, 3) := by decide +kernel
theorem dX5_flip_6 : decode cX5_flip 6 = .ok (.invokestatic 75, 3) := by decide +kernel
theorem dX5_flip_9 : decode cX5_flip 9 = .ok (.ifCond .ne 5, 3) := by decide +kernel
theorem dX5_flip_12 : decode cX5_flip 12 = .ok (.iconst (-1), 1) := by decide +kernel
theorem dX5_flip_13 : decode cX5_flip 13 = .ok (.ireturn, 1) := by decide +kernel
theorem dX5_flip_14 : decode cX5_flip 14 = .ok (.aload_n 0, 1) := by decide +kernel
theorem dX5_flip_15 : decode cX5_flip 15 = .ok (.getfield 115, 3) := by decide +kernel
theorem dX5_flip_18 : decode cX5_flip 18 = .ok (.ifCond .ne 6, 3) := by decide +kernel
theorem dX5_flip_21 : decode cX5_flip 21 = .ok (.bipush (-4), 2) := by decide +kernel
theorem dX5_flip_23 : decode cX5_flip 23 = .ok (.ireturn, 1) := by decide +kernel
theorem dX5_flip_24 : decode cX5_flip 24 = .ok (.aload_n 0, 1) := by decide +kernel
theorem dX5_flip_25 : decode cX5_flip 25 = .ok (.getfield 126, 3) := by decide +kernel
theorem dX5_flip_28 : decode cX5_flip 28 = .ok (.bipush 40, 2) := by decide +kernel
theorem dX5_flip_30 : decode cX5_flip 30 = .ok (.if_icmp .ne 6, 3) := by decide +kernel
theorem dX5_flip_33 : decode cX5_flip 33 = .ok (.bipush (-2), 2) := by decide +kernel
theorem dX5_flip_35 : decode cX5_flip 35 = .ok (.ireturn, 1) := by decide +kernel
theorem dX5_flip_36 : decode cX5_flip 36 = .ok (.aload_n 0, 1) := by decide +kernel
theorem dX5_flip_37 : decode cX5_flip 37 = .ok (.invokevirtual 171, 3) := by decide +kernel
theorem dX5_flip_40 : decode cX5_flip 40 = .ok (.aload_n 0, 1) := by decide +kernel
theorem dX5_flip_41 : decode cX5_flip 41 = .ok (.getfield 28, 3) := by decide +kernel
theorem dX5_flip_44 : decode cX5_flip 44 = .ok (.iconst 3, 1) := by decide +kernel
theorem dX5_flip_45 : decode cX5_flip 45 = .ok (.dup2, 1) := by decide +kernel
theorem dX5_flip_46 : decode cX5_flip 46 = .ok (.iaload, 1) := by decide +kernel
theorem dX5_flip_47 : decode cX5_flip 47 = .ok (.iconst 1, 1) := by decide +kernel
theorem dX5_flip_48 : decode cX5_flip 48 = .ok (.iload_n 1, 1) := by decide +kernel
theorem dX5_flip_49 : decode cX5_flip 49 = .ok (.ishl, 1) := by decide +kernel
theorem dX5_flip_50 : decode cX5_flip 50 = .ok (.ixor, 1) := by decide +kernel
theorem dX5_flip_51 : decode cX5_flip 51 = .ok (.iastore, 1) := by decide +kernel
theorem dX5_flip_52 : decode cX5_flip 52 = .ok (.aload_n 0, 1) := by decide +kernel
theorem dX5_flip_53 : decode cX5_flip 53 = .ok (.getfield 28, 3) := by decide +kernel
theorem dX5_flip_56 : decode cX5_flip 56 = .ok (.iconst 3, 1) := by decide +kernel
theorem dX5_flip_57 : decode cX5_flip 57 = .ok (.iaload, 1) := by decide +kernel
theorem dX5_flip_58 : decode cX5_flip 58 = .ok (.invokestatic 146, 3) := by decide +kernel
theorem dX5_flip_61 : decode cX5_flip 61 = .ok (.ireturn, 1) := by decide +kernel
theorem dX5_isNumber_0 : decode cX5_isNumber 0 = .ok (.iload_n 0, 1) := by decide +kernel
theorem dX5_isNumber_1 : decode cX5_isNumber 1 = .ok (.i2l, 1) := by decide +kernel
theorem dX5_isNumber_2 : decode cX5_isNumber 2 = .ok (.lconst 1, 1) := by decide +kernel
theorem dX5_isNumber_3 : decode cX5_isNumber 3 = .ok (.ldc2_w 179, 3) := by decide +kernel
theorem dX5_isNumber_6 : decode cX5_isNumber 6 = .ok (.invokestatic 75, 3) := by decide +kernel
theorem dX5_isNumber_9 : decode cX5_isNumber 9 = .ok (.ireturn, 1) := by decide +kernel
theorem dX5_room_0 : decode cX5_room 0 = .ok (.iload_n 1, 1) := by decide +kernel
theorem dX5_room_1 : decode cX5_room 1 = .ok (.invokestatic 181, 3) := by decide +kernel
theorem dX5_room_4 : decode cX5_room 4 = .ok (.ifCond .ne 5, 3) := by decide +kernel
theorem dX5_room_7 : decode cX5_room 7 = .ok (.iconst (-1), 1) := by decide +kernel
theorem dX5_room_8 : decode cX5_room 8 = .ok (.ireturn, 1) := by decide +kernel
theorem dX5_room_9 : decode cX5_room 9 = .ok (.aload_n 0, 1) := by decide +kernel
theorem dX5_room_10 : decode cX5_room 10 = .ok (.getfield 115, 3) := by decide +kernel
theorem dX5_room_13 : decode cX5_room 13 = .ok (.ifCond .eq 13, 3) := by decide +kernel
theorem dX5_room_16 : decode cX5_room 16 = .ok (.aload_n 0, 1) := by decide +kernel
theorem dX5_room_17 : decode cX5_room 17 = .ok (.getfield 28, 3) := by decide +kernel
theorem dX5_room_20 : decode cX5_room 20 = .ok (.iconst 4, 1) := by decide +kernel
theorem dX5_room_21 : decode cX5_room 21 = .ok (.iaload, 1) := by decide +kernel
theorem dX5_room_22 : decode cX5_room 22 = .ok (.iload_n 1, 1) := by decide +kernel
theorem dX5_room_23 : decode cX5_room 23 = .ok (.if_icmp .ne 6, 3) := by decide +kernel
theorem dX5_room_26 : decode cX5_room 26 = .ok (.bipush (-4), 2) := by decide +kernel
theorem dX5_room_28 : decode cX5_room 28 = .ok (.ireturn, 1) := by decide +kernel
theorem dX5_room_29 : decode cX5_room 29 = .ok (.aload_n 0, 1) := by decide +kernel
theorem dX5_room_30 : decode cX5_room 30 = .ok (.getfield 126, 3) := by decide +kernel
theorem dX5_room_33 : decode cX5_room 33 = .ok (.bipush 40, 2) := by decide +kernel
theorem dX5_room_35 : decode cX5_room 35 = .ok (.if_icmp .ne 6, 3) := by decide +kernel
theorem dX5_room_38 : decode cX5_room 38 = .ok (.bipush (-2), 2) := by decide +kernel
theorem dX5_room_40 : decode cX5_room 40 = .ok (.ireturn, 1) := by decide +kernel
theorem dX5_room_41 : decode cX5_room 41 = .ok (.aload_n 0, 1) := by decide +kernel
theorem dX5_room_42 : decode cX5_room 42 = .ok (.invokevirtual 171, 3) := by decide +kernel
theorem dX5_room_45 : decode cX5_room 45 = .ok (.aload_n 0, 1) := by decide +kernel
theorem dX5_room_46 : decode cX5_room 46 = .ok (.getfield 28, 3) := by decide +kernel
theorem dX5_room_49 : decode cX5_room 49 = .ok (.iconst 4, 1) := by decide +kernel
theorem dX5_room_50 : decode cX5_room 50 = .ok (.iaload, 1) := by decide +kernel
theorem dX5_room_51 : decode cX5_room 51 = .ok (.istore_n 2, 1) := by decide +kernel
theorem dX5_room_52 : decode cX5_room 52 = .ok (.aload_n 0, 1) := by decide +kernel
theorem dX5_room_53 : decode cX5_room 53 = .ok (.getfield 28, 3) := by decide +kernel
theorem dX5_room_56 : decode cX5_room 56 = .ok (.iconst 4, 1) := by decide +kernel
theorem dX5_room_57 : decode cX5_room 57 = .ok (.iload_n 1, 1) := by decide +kernel
theorem dX5_room_58 : decode cX5_room 58 = .ok (.iastore, 1) := by decide +kernel
theorem dX5_room_59 : decode cX5_room 59 = .ok (.iload_n 2, 1) := by decide +kernel
theorem dX5_room_60 : decode cX5_room 60 = .ok (.ireturn, 1) := by decide +kernel
theorem dX5_limit_0 : decode cX5_limit 0 = .ok (.aload_n 0, 1) := by decide +kernel
theorem dX5_limit_1 : decode cX5_limit 1 = .ok (.iload_n 1, 1) := by decide +kernel
theorem dX5_limit_2 : decode cX5_limit 2 = .ok (.invokevirtual 166, 3) := by decide +kernel
theorem dX5_limit_5 : decode cX5_limit 5 = .ok (.ifCond .eq 10, 3) := by decide +kernel
theorem dX5_limit_8 : decode cX5_limit 8 = .ok (.iload_n 2, 1) := by decide +kernel
theorem dX5_limit_9 : decode cX5_limit 9 = .ok (.invokestatic 181, 3) := by decide +kernel
theorem dX5_limit_12 : decode cX5_limit 12 = .ok (.ifCond .ne 5, 3) := by decide +kernel
theorem dX5_limit_15 : decode cX5_limit 15 = .ok (.iconst (-1), 1) := by decide +kernel
theorem dX5_limit_16 : decode cX5_limit 16 = .ok (.ireturn, 1) := by decide +kernel
theorem dX5_limit_17 : decode cX5_limit 17 = .ok (.aload_n 0, 1) := by decide +kernel
theorem dX5_limit_18 : decode cX5_limit 18 = .ok (.getfield 28, 3) := by decide +kernel
theorem dX5_limit_21 : decode cX5_limit 21 = .ok (.iconst 5, 1) := by decide +kernel
theorem dX5_limit_22 : decode cX5_limit 22 = .ok (.iload_n 1, 1) := by decide +kernel
theorem dX5_limit_23 : decode cX5_limit 23 = .ok (.iadd, 1) := by decide +kernel
theorem dX5_limit_24 : decode cX5_limit 24 = .ok (.iaload, 1) := by decide +kernel
theorem dX5_limit_25 : decode cX5_limit 25 = .ok (.iload_n 2, 1) := by decide +kernel
theorem dX5_limit_26 : decode cX5_limit 26 = .ok (.if_icmp .ne 6, 3) := by decide +kernel
theorem dX5_limit_29 : decode cX5_limit 29 = .ok (.bipush (-4), 2) := by decide +kernel
theorem dX5_limit_31 : decode cX5_limit 31 = .ok (.ireturn, 1) := by decide +kernel
theorem dX5_limit_32 : decode cX5_limit 32 = .ok (.aload_n 0, 1) := by decide +kernel
theorem dX5_limit_33 : decode cX5_limit 33 = .ok (.getfield 126, 3) := by decide +kernel
theorem dX5_limit_36 : decode cX5_limit 36 = .ok (.bipush 40, 2) := by decide +kernel
theorem dX5_limit_38 : decode cX5_limit 38 = .ok (.if_icmp .ne 6, 3) := by decide +kernel
theorem dX5_limit_41 : decode cX5_limit 41 = .ok (.bipush (-2), 2) := by decide +kernel
theorem dX5_limit_43 : decode cX5_limit 43 = .ok (.ireturn, 1) := by decide +kernel
theorem dX5_limit_44 : decode cX5_limit 44 = .ok (.aload_n 0, 1) := by decide +kernel
theorem dX5_limit_45 : decode cX5_limit 45 = .ok (.invokevirtual 171, 3) := by decide +kernel
theorem dX5_limit_48 : decode cX5_limit 48 = .ok (.aload_n 0, 1) := by decide +kernel
theorem dX5_limit_49 : decode cX5_limit 49 = .ok (.getfield 28, 3) := by decide +kernel
theorem dX5_limit_52 : decode cX5_limit 52 = .ok (.iconst 5, 1) := by decide +kernel
theorem dX5_limit_53 : decode cX5_limit 53 = .ok (.iload_n 1, 1) := by decide +kernel
theorem dX5_limit_54 : decode cX5_limit 54 = .ok (.iadd, 1) := by decide +kernel
theorem dX5_limit_55 : decode cX5_limit 55 = .ok (.iaload, 1) := by decide +kernel
theorem dX5_limit_56 : decode cX5_limit 56 = .ok (.istore_n 3, 1) := by decide +kernel
theorem dX5_limit_57 : decode cX5_limit 57 = .ok (.aload_n 0, 1) := by decide +kernel
theorem dX5_limit_58 : decode cX5_limit 58 = .ok (.getfield 28, 3) := by decide +kernel
theorem dX5_limit_61 : decode cX5_limit 61 = .ok (.iconst 5, 1) := by decide +kernel
theorem dX5_limit_62 : decode cX5_limit 62 = .ok (.iload_n 1, 1) := by decide +kernel
theorem dX5_limit_63 : decode cX5_limit 63 = .ok (.iadd, 1) := by decide +kernel
theorem dX5_limit_64 : decode cX5_limit 64 = .ok (.iload_n 2, 1) := by decide +kernel
theorem dX5_limit_65 : decode cX5_limit 65 = .ok (.iastore, 1) := by decide +kernel
theorem dX5_limit_66 : decode cX5_limit 66 = .ok (.iload_n 3, 1) := by decide +kernel
theorem dX5_limit_67 : decode cX5_limit 67 = .ok (.ireturn, 1) := by decide +kernel
theorem dX5_reset_0 : decode cX5_reset 0 = .ok (.aload_n 0, 1) := by decide +kernel
theorem dX5_reset_1 : decode cX5_reset 1 = .ok (.iload_n 1, 1) := by decide +kernel
theorem dX5_reset_2 : decode cX5_reset 2 = .ok (.invokevirtual 166, 3) := by decide +kernel
theorem dX5_reset_5 : decode cX5_reset 5 = .ok (.ifCond .ne 5, 3) := by decide +kernel
theorem dX5_reset_8 : decode cX5_reset 8 = .ok (.iconst (-1), 1) := by decide +kernel
theorem dX5_reset_9 : decode cX5_reset 9 = .ok (.ireturn, 1) := by decide +kernel
theorem dX5_reset_10 : decode cX5_reset 10 = .ok (.aload_n 0, 1) := by decide +kernel
theorem dX5_reset_11 : decode cX5_reset 11 = .ok (.getfield 126, 3) := by decide +kernel
theorem dX5_reset_14 : decode cX5_reset 14 = .ok (.bipush 40, 2) := by decide +kernel
theorem dX5_reset_16 : decode cX5_reset 16 = .ok (.if_icmp .ne 6, 3) := by decide +kernel
theorem dX5_reset_19 : decode cX5_reset 19 = .ok (.bipush (-2), 2) := by decide +kernel
theorem dX5_reset_21 : decode cX5_reset 21 = .ok (.ireturn, 1) := by decide +kernel
theorem dX5_reset_22 : decode cX5_reset 22 = .ok (.aload_n 0, 1) := by decide +kernel
theorem dX5_reset_23 : decode cX5_reset 23 = .ok (.invokevirtual 171, 3) := by decide +kernel
theorem dX5_reset_26 : decode cX5_reset 26 = .ok (.aload_n 0, 1) := by decide +kernel
theorem dX5_reset_27 : decode cX5_reset 27 = .ok (.getfield 28, 3) := by decide +kernel
theorem dX5_reset_30 : decode cX5_reset 30 = .ok (.bipush 12, 2) := by decide +kernel
theorem dX5_reset_32 : decode cX5_reset 32 = .ok (.iload_n 1, 1) := by decide +kernel
theorem dX5_reset_33 : decode cX5_reset 33 = .ok (.iadd, 1) := by decide +kernel
theorem dX5_reset_34 : decode cX5_reset 34 = .ok (.iaload, 1) := by decide +kernel
theorem dX5_reset_35 : decode cX5_reset 35 = .ok (.istore_n 2, 1) := by decide +kernel
theorem dX5_reset_36 : decode cX5_reset 36 = .ok (.aload_n 0, 1) := by decide +kernel
theorem dX5_reset_37 : decode cX5_reset 37 = .ok (.iload_n 1, 1) := by decide +kernel
theorem dX5_reset_38 : decode cX5_reset 38 = .ok (.invokevirtual 122, 3) := by decide +kernel
theorem dX5_reset_41 : decode cX5_reset 41 = .ok (.iload_n 2, 1) := by decide +kernel
theorem dX5_reset_42 : decode cX5_reset 42 = .ok (.ireturn, 1) := by decide +kernel
theorem dX5_undo_0 : decode cX5_undo 0 = .ok (.iload_n 1, 1) := by decide +kernel
theorem dX5_undo_1 : decode cX5_undo 1 = .ok (.i2l, 1) := by decide +kernel
theorem dX5_undo_2 : decode cX5_undo 2 = .ok (.lconst 0, 1) := by decide +kernel
theorem dX5_undo_3 : decode cX5_undo 3 = .ok (.aload_n 0, 1) := by decide +kernel
theorem dX5_undo_4 : decode cX5_undo 4 = .ok (.getfield 126, 3) := by decide +kernel
theorem dX5_undo_7 : decode cX5_undo 7 = .ok (.i2l, 1) := by decide +kernel
theorem dX5_undo_8 : decode cX5_undo 8 = .ok (.invokestatic 75, 3) := by decide +kernel
theorem dX5_undo_11 : decode cX5_undo 11 = .ok (.ifCond .ne 5, 3) := by decide +kernel
theorem dX5_undo_14 : decode cX5_undo 14 = .ok (.iconst (-1), 1) := by decide +kernel
theorem dX5_undo_15 : decode cX5_undo 15 = .ok (.ireturn, 1) := by decide +kernel
theorem dX5_undo_16 : decode cX5_undo 16 = .ok (.aload_n 0, 1) := by decide +kernel
theorem dX5_undo_17 : decode cX5_undo 17 = .ok (.getfield 126, 3) := by decide +kernel
theorem dX5_undo_20 : decode cX5_undo 20 = .ok (.iload_n 1, 1) := by decide +kernel
theorem dX5_undo_21 : decode cX5_undo 21 = .ok (.isub, 1) := by decide +kernel
theorem dX5_undo_22 : decode cX5_undo 22 = .ok (.istore_n 2, 1) := by decide +kernel
theorem dX5_undo_23 : decode cX5_undo 23 = .ok (.iload_n 2, 1) := by decide +kernel
theorem dX5_undo_24 : decode cX5_undo 24 = .ok (.ifCond .le 21, 3) := by decide +kernel
theorem dX5_undo_27 : decode cX5_undo 27 = .ok (.aload_n 0, 1) := by decide +kernel
theorem dX5_undo_28 : decode cX5_undo 28 = .ok (.getfield 37, 3) := by decide +kernel
theorem dX5_undo_31 : decode cX5_undo 31 = .ok (.bipush 40, 2) := by decide +kernel
theorem dX5_undo_33 : decode cX5_undo 33 = .ok (.iload_n 1, 1) := by decide +kernel
theorem dX5_undo_34 : decode cX5_undo 34 = .ok (.imul, 1) := by decide +kernel
theorem dX5_undo_35 : decode cX5_undo 35 = .ok (.aload_n 0, 1) := by decide +kernel
theorem dX5_undo_36 : decode cX5_undo 36 = .ok (.getfield 28, 3) := by decide +kernel
theorem dX5_undo_39 : decode cX5_undo 39 = .ok (.iconst 0, 1) := by decide +kernel
theorem dX5_undo_40 : decode cX5_undo 40 = .ok (.bipush 40, 2) := by decide +kernel
theorem dX5_undo_42 : decode cX5_undo 42 = .ok (.invokestatic 118, 3) := by decide +kernel
theorem dX5_undo_45 : decode cX5_undo 45 = .ok (.aload_n 0, 1) := by decide +kernel
theorem dX5_undo_46 : decode cX5_undo 46 = .ok (.iload_n 1, 1) := by decide +kernel
theorem dX5_undo_47 : decode cX5_undo 47 = .ok (.putfield 126, 3) := by decide +kernel
theorem dX5_undo_50 : decode cX5_undo 50 = .ok (.iload_n 2, 1) := by decide +kernel
theorem dX5_undo_51 : decode cX5_undo 51 = .ok (.ireturn, 1) := by decide +kernel
theorem dX5_isPlace_0 : decode cX5_isPlace 0 = .ok (.iload_n 0, 1) := by decide +kernel
theorem dX5_isPlace_1 : decode cX5_isPlace 1 = .ok (.i2l, 1) := by decide +kernel
theorem dX5_isPlace_2 : decode cX5_isPlace 2 = .ok (.lconst 0, 1) := by decide +kernel
theorem dX5_isPlace_3 : decode cX5_isPlace 3 = .ok (.ldc2_w 184, 3) := by decide +kernel
theorem dX5_isPlace_6 : decode cX5_isPlace 6 = .ok (.invokestatic 75, 3) := by decide +kernel
theorem dX5_isPlace_9 : decode cX5_isPlace 9 = .ok (.ireturn, 1) := by decide +kernel
theorem dX5_keep_0 : decode cX5_keep 0 = .ok (.iload_n 1, 1) := by decide +kernel
theorem dX5_keep_1 : decode cX5_keep 1 = .ok (.invokestatic 186, 3) := by decide +kernel
theorem dX5_keep_4 : decode cX5_keep 4 = .ok (.ifCond .ne 5, 3) := by decide +kernel
theorem dX5_keep_7 : decode cX5_keep 7 = .ok (.iconst (-1), 1) := by decide +kernel
theorem dX5_keep_8 : decode cX5_keep 8 = .ok (.ireturn, 1) := by decide +kernel
theorem dX5_keep_9 : decode cX5_keep 9 = .ok (.aload_n 0, 1) := by decide +kernel
theorem dX5_keep_10 : decode cX5_keep 10 = .ok (.getfield 115, 3) := by decide +kernel
theorem dX5_keep_13 : decode cX5_keep 13 = .ok (.ifCond .ne 6, 3) := by decide +kernel
theorem dX5_keep_16 : decode cX5_keep 16 = .ok (.bipush (-4), 2) := by decide +kernel
theorem dX5_keep_18 : decode cX5_keep 18 = .ok (.ireturn, 1) := by decide +kernel
theorem dX5_keep_19 : decode cX5_keep 19 = .ok (.aload_n 0, 1) := by decide +kernel
theorem dX5_keep_20 : decode cX5_keep 20 = .ok (.getfield 28, 3) := by decide +kernel
theorem dX5_keep_23 : decode cX5_keep 23 = .ok (.iconst 0, 1) := by decide +kernel
theorem dX5_keep_24 : decode cX5_keep 24 = .ok (.aload_n 0, 1) := by decide +kernel
theorem dX5_keep_25 : decode cX5_keep 25 = .ok (.getfield 40, 3) := by decide +kernel
theorem dX5_keep_28 : decode cX5_keep 28 = .ok (.sipush 1641, 3) := by decide +kernel
theorem dX5_keep_31 : decode cX5_keep 31 = .ok (.iload_n 1, 1) := by decide +kernel
theorem dX5_keep_32 : decode cX5_keep 32 = .ok (.imul, 1) := by decide +kernel
theorem dX5_keep_33 : decode cX5_keep 33 = .ok (.bipush 40, 2) := by decide +kernel
theorem dX5_keep_35 : decode cX5_keep 35 = .ok (.invokestatic 118, 3) := by decide +kernel
theorem dX5_keep_38 : decode cX5_keep 38 = .ok (.aload_n 0, 1) := by decide +kernel
theorem dX5_keep_39 : decode cX5_keep 39 = .ok (.getfield 40, 3) := by decide +kernel
theorem dX5_keep_42 : decode cX5_keep 42 = .ok (.sipush 1641, 3) := by decide +kernel
theorem dX5_keep_45 : decode cX5_keep 45 = .ok (.iload_n 1, 1) := by decide +kernel
theorem dX5_keep_46 : decode cX5_keep 46 = .ok (.imul, 1) := by decide +kernel
theorem dX5_keep_47 : decode cX5_keep 47 = .ok (.bipush 40, 2) := by decide +kernel
theorem dX5_keep_49 : decode cX5_keep 49 = .ok (.iadd, 1) := by decide +kernel
theorem dX5_keep_50 : decode cX5_keep 50 = .ok (.aload_n 0, 1) := by decide +kernel
theorem dX5_keep_51 : decode cX5_keep 51 = .ok (.getfield 126, 3) := by decide +kernel
theorem dX5_keep_54 : decode cX5_keep 54 = .ok (.iastore, 1) := by decide +kernel
theorem dX5_keep_55 : decode cX5_keep 55 = .ok (.aload_n 0, 1) := by decide +kernel
theorem dX5_keep_56 : decode cX5_keep 56 = .ok (.getfield 37, 3) := by decide +kernel
theorem dX5_keep_59 : decode cX5_keep 59 = .ok (.iconst 0, 1) := by decide +kernel
theorem dX5_keep_60 : decode cX5_keep 60 = .ok (.aload_n 0, 1) := by decide +kernel
theorem dX5_keep_61 : decode cX5_keep 61 = .ok (.getfield 40, 3) := by decide +kernel
theorem dX5_keep_64 : decode cX5_keep 64 = .ok (.sipush 1641, 3) := by decide +kernel
theorem dX5_keep_67 : decode cX5_keep 67 = .ok (.iload_n 1, 1) := by decide +kernel
theorem dX5_keep_68 : decode cX5_keep 68 = .ok (.imul, 1) := by decide +kernel
theorem dX5_keep_69 : decode cX5_keep 69 = .ok (.bipush 40, 2) := by decide +kernel
theorem dX5_keep_71 : decode cX5_keep 71 = .ok (.iadd, 1) := by decide +kernel
theorem dX5_keep_72 : decode cX5_keep 72 = .ok (.iconst 1, 1) := by decide +kernel
theorem dX5_keep_73 : decode cX5_keep 73 = .ok (.iadd, 1) := by decide +kernel
theorem dX5_keep_74 : decode cX5_keep 74 = .ok (.sipush 1600, 3) := by decide +kernel
theorem dX5_keep_77 : decode cX5_keep 77 = .ok (.invokestatic 118, 3) := by decide +kernel
theorem dX5_keep_80 : decode cX5_keep 80 = .ok (.aload_n 0, 1) := by decide +kernel
theorem dX5_keep_81 : decode cX5_keep 81 = .ok (.getfield 43, 3) := by decide +kernel
theorem dX5_keep_84 : decode cX5_keep 84 = .ok (.iload_n 1, 1) := by decide +kernel
theorem dX5_keep_85 : decode cX5_keep 85 = .ok (.iconst 1, 1) := by decide +kernel
theorem dX5_keep_86 : decode cX5_keep 86 = .ok (.bastore, 1) := by decide +kernel
theorem dX5_keep_87 : decode cX5_keep 87 = .ok (.aload_n 0, 1) := by decide +kernel
theorem dX5_keep_88 : decode cX5_keep 88 = .ok (.getfield 126, 3) := by decide +kernel
theorem dX5_keep_91 : decode cX5_keep 91 = .ok (.ireturn, 1) := by decide +kernel
theorem dX5_on_0 : decode cX5_on 0 = .ok (.iload_n 1, 1) := by decide +kernel
theorem dX5_on_1 : decode cX5_on 1 = .ok (.invokestatic 186, 3) := by decide +kernel
theorem dX5_on_4 : decode cX5_on 4 = .ok (.ifCond .ne 5, 3) := by decide +kernel
theorem dX5_on_7 : decode cX5_on 7 = .ok (.iconst (-1), 1) := by decide +kernel
theorem dX5_on_8 : decode cX5_on 8 = .ok (.ireturn, 1) := by decide +kernel
theorem dX5_on_9 : decode cX5_on 9 = .ok (.aload_n 0, 1) := by decide +kernel
theorem dX5_on_10 : decode cX5_on 10 = .ok (.getfield 43, 3) := by decide +kernel
theorem dX5_on_13 : decode cX5_on 13 = .ok (.iload_n 1, 1) := by decide +kernel
theorem dX5_on_14 : decode cX5_on 14 = .ok (.baload, 1) := by decide +kernel
theorem dX5_on_15 : decode cX5_on 15 = .ok (.ifCond .ne 9, 3) := by decide +kernel
theorem dX5_on_18 : decode cX5_on 18 = .ok (.aload_n 0, 1) := by decide +kernel
theorem dX5_on_19 : decode cX5_on 19 = .ok (.iconst 1, 1) := by decide +kernel
theorem dX5_on_20 : decode cX5_on 20 = .ok (.invokevirtual 85, 3) := by decide +kernel
theorem dX5_on_23 : decode cX5_on 23 = .ok (.ireturn, 1) := by decide +kernel
theorem dX5_on_24 : decode cX5_on 24 = .ok (.aload_n 0, 1) := by decide +kernel
theorem dX5_on_25 : decode cX5_on 25 = .ok (.getfield 40, 3) := by decide +kernel
theorem dX5_on_28 : decode cX5_on 28 = .ok (.sipush 1641, 3) := by decide +kernel
theorem dX5_on_31 : decode cX5_on 31 = .ok (.iload_n 1, 1) := by decide +kernel
theorem dX5_on_32 : decode cX5_on 32 = .ok (.imul, 1) := by decide +kernel
theorem dX5_on_33 : decode cX5_on 33 = .ok (.aload_n 0, 1) := by decide +kernel
theorem dX5_on_34 : decode cX5_on 34 = .ok (.getfield 28, 3) := by decide +kernel
theorem dX5_on_37 : decode cX5_on 37 = .ok (.iconst 0, 1) := by decide +kernel
theorem dX5_on_38 : decode cX5_on 38 = .ok (.bipush 40, 2) := by decide +kernel
theorem dX5_on_40 : decode cX5_on 40 = .ok (.invokestatic 118, 3) := by decide +kernel
theorem dX5_on_43 : decode cX5_on 43 = .ok (.aload_n 0, 1) := by decide +kernel
theorem dX5_on_44 : decode cX5_on 44 = .ok (.aload_n 0, 1) := by decide +kernel
theorem dX5_on_45 : decode cX5_on 45 = .ok (.getfield 40, 3) := by decide +kernel
theorem dX5_on_48 : decode cX5_on 48 = .ok (.sipush 1641, 3) := by decide +kernel
theorem dX5_on_51 : decode cX5_on 51 = .ok (.iload_n 1, 1) := by decide +kernel
theorem dX5_on_52 : decode cX5_on 52 = .ok (.imul, 1) := by decide +kernel
theorem dX5_on_53 : decode cX5_on 53 = .ok (.bipush 40, 2) := by decide +kernel
theorem dX5_on_55 : decode cX5_on 55 = .ok (.iadd, 1) := by decide +kernel
theorem dX5_on_56 : decode cX5_on 56 = .ok (.iaload, 1) := by decide +kernel
theorem dX5_on_57 : decode cX5_on 57 = .ok (.putfield 126, 3) := by decide +kernel
theorem dX5_on_60 : decode cX5_on 60 = .ok (.aload_n 0, 1) := by decide +kernel
theorem dX5_on_61 : decode cX5_on 61 = .ok (.getfield 40, 3) := by decide +kernel
theorem dX5_on_64 : decode cX5_on 64 = .ok (.sipush 1641, 3) := by decide +kernel
theorem dX5_on_67 : decode cX5_on 67 = .ok (.iload_n 1, 1) := by decide +kernel
theorem dX5_on_68 : decode cX5_on 68 = .ok (.imul, 1) := by decide +kernel
theorem dX5_on_69 : decode cX5_on 69 = .ok (.bipush 40, 2) := by decide +kernel
theorem dX5_on_71 : decode cX5_on 71 = .ok (.iadd, 1) := by decide +kernel
theorem dX5_on_72 : decode cX5_on 72 = .ok (.iconst 1, 1) := by decide +kernel
theorem dX5_on_73 : decode cX5_on 73 = .ok (.iadd, 1) := by decide +kernel
theorem dX5_on_74 : decode cX5_on 74 = .ok (.aload_n 0, 1) := by decide +kernel
theorem dX5_on_75 : decode cX5_on 75 = .ok (.getfield 37, 3) := by decide +kernel
theorem dX5_on_78 : decode cX5_on 78 = .ok (.iconst 0, 1) := by decide +kernel
theorem dX5_on_79 : decode cX5_on 79 = .ok (.sipush 1600, 3) := by decide +kernel
theorem dX5_on_82 : decode cX5_on 82 = .ok (.invokestatic 118, 3) := by decide +kernel
theorem dX5_on_85 : decode cX5_on 85 = .ok (.aload_n 0, 1) := by decide +kernel
theorem dX5_on_86 : decode cX5_on 86 = .ok (.getfield 126, 3) := by decide +kernel
theorem dX5_on_89 : decode cX5_on 89 = .ok (.ireturn, 1) := by decide +kernel
theorem dX5_calls_0 : decode cX5_calls 0 = .ok (.aload_n 0, 1) := by decide +kernel
theorem dX5_calls_1 : decode cX5_calls 1 = .ok (.invokevirtual 174, 3) := by decide +kernel
theorem dX5_calls_4 : decode cX5_calls 4 = .ok (.aload_n 0, 1) := by decide +kernel
theorem dX5_calls_5 : decode cX5_calls 5 = .ok (.aload_n 0, 1) := by decide +kernel
theorem dX5_calls_6 : decode cX5_calls 6 = .ok (.getfield 28, 3) := by decide +kernel
theorem dX5_calls_9 : decode cX5_calls 9 = .ok (.iconst 0, 1) := by decide +kernel
theorem dX5_calls_10 : decode cX5_calls 10 = .ok (.invokevirtual 142, 3) := by decide +kernel
theorem dX5_calls_13 : decode cX5_calls 13 = .ok (.istore_n 1, 1) := by decide +kernel
theorem dX5_calls_14 : decode cX5_calls 14 = .ok (.aload_n 0, 1) := by decide +kernel
theorem dX5_calls_15 : decode cX5_calls 15 = .ok (.iload_n 1, 1) := by decide +kernel
theorem dX5_calls_16 : decode cX5_calls 16 = .ok (.aload_n 0, 1) := by decide +kernel
theorem dX5_calls_17 : decode cX5_calls 17 = .ok (.aload_n 0, 1) := by decide +kernel
theorem dX5_calls_18 : decode cX5_calls 18 = .ok (.getfield 28, 3) := by decide +kernel
theorem dX5_calls_21 : decode cX5_calls 21 = .ok (.invokevirtual 158, 3) := by decide +kernel
theorem dX5_calls_24 : decode cX5_calls 24 = .ok (.ifCond .eq 20, 3) := by decide +kernel
theorem dX5_calls_27 : decode cX5_calls 27 = .ok (.iload_n 1, 1) := by decide +kernel
theorem dX5_calls_28 : decode cX5_calls 28 = .ok (.invokestatic 146, 3) := by decide +kernel
theorem dX5_calls_31 : decode cX5_calls 31 = .ok (.aload_n 0, 1) := by decide +kernel
theorem dX5_calls_32 : decode cX5_calls 32 = .ok (.getfield 28, 3) := by decide +kernel
theorem dX5_calls_35 : decode cX5_calls 35 = .ok (.iconst 4, 1) := by decide +kernel
theorem dX5_calls_36 : decode cX5_calls 36 = .ok (.iaload, 1) := by decide +kernel
theorem dX5_calls_37 : decode cX5_calls 37 = .ok (.if_icmp .gt 7, 3) := by decide +kernel
theorem dX5_calls_40 : decode cX5_calls 40 = .ok (.iconst 1, 1) := by decide +kernel
theorem dX5_calls_41 : decode cX5_calls 41 = .ok (.goto 4, 3) := by decide +kernel
theorem dX5_calls_44 : decode cX5_calls 44 = .ok (.iconst 0, 1) := by decide +kernel
theorem dX5_calls_45 : decode cX5_calls 45 = .ok (.invokevirtual 189, 3) := by decide +kernel
theorem dX5_calls_48 : decode cX5_calls 48 = .ok (.ireturn, 1) := by decide +kernel
theorem dX5_later_0 : decode cX5_later 0 = .ok (.aload_n 0, 1) := by decide +kernel
theorem dX5_later_1 : decode cX5_later 1 = .ok (.iload_n 1, 1) := by decide +kernel
theorem dX5_later_2 : decode cX5_later 2 = .ok (.invokevirtual 166, 3) := by decide +kernel
theorem dX5_later_5 : decode cX5_later 5 = .ok (.ifCond .eq 15, 3) := by decide +kernel
theorem dX5_later_8 : decode cX5_later 8 = .ok (.iload_n 2, 1) := by decide +kernel
theorem dX5_later_9 : decode cX5_later 9 = .ok (.i2l, 1) := by decide +kernel
theorem dX5_later_10 : decode cX5_later 10 = .ok (.lconst 0, 1) := by decide +kernel
theorem dX5_later_11 : decode cX5_later 11 = .ok (.ldc2_w 193, 3) := by decide +kernel
theorem dX5_later_14 : decode cX5_later 14 = .ok (.invokestatic 75, 3) := by decide +kernel
theorem dX5_later_17 : decode cX5_later 17 = .ok (.ifCond .ne 5, 3) := by decide +kernel
theorem dX5_later_20 : decode cX5_later 20 = .ok (.iconst (-1), 1) := by decide +kernel
theorem dX5_later_21 : decode cX5_later 21 = .ok (.ireturn, 1) := by decide +kernel
theorem dX5_later_22 : decode cX5_later 22 = .ok (.aload_n 0, 1) := by decide +kernel
theorem dX5_later_23 : decode cX5_later 23 = .ok (.invokevirtual 174, 3) := by decide +kernel
theorem dX5_later_26 : decode cX5_later 26 = .ok (.aload_n 0, 1) := by decide +kernel
theorem dX5_later_27 : decode cX5_later 27 = .ok (.invokevirtual 195, 3) := by decide +kernel
theorem dX5_later_30 : decode cX5_later 30 = .ok (.aload_n 0, 1) := by decide +kernel
theorem dX5_later_31 : decode cX5_later 31 = .ok (.iload_n 2, 1) := by decide +kernel
theorem dX5_later_32 : decode cX5_later 32 = .ok (.iconst 0, 1) := by decide +kernel
theorem dX5_later_33 : decode cX5_later 33 = .ok (.invokevirtual 198, 3) := by decide +kernel
theorem dX5_later_36 : decode cX5_later 36 = .ok (.istore_n 3, 1) := by decide +kernel
theorem dX5_later_37 : decode cX5_later 37 = .ok (.aload_n 0, 1) := by decide +kernel
theorem dX5_later_38 : decode cX5_later 38 = .ok (.aload_n 0, 1) := by decide +kernel
theorem dX5_later_39 : decode cX5_later 39 = .ok (.getfield 31, 3) := by decide +kernel
theorem dX5_later_42 : decode cX5_later 42 = .ok (.bipush 12, 2) := by decide +kernel
theorem dX5_later_44 : decode cX5_later 44 = .ok (.iload_n 1, 1) := by decide +kernel
theorem dX5_later_45 : decode cX5_later 45 = .ok (.iadd, 1) := by decide +kernel
theorem dX5_later_46 : decode cX5_later 46 = .ok (.iaload, 1) := by decide +kernel
theorem dX5_later_47 : decode cX5_later 47 = .ok (.iload_n 3, 1) := by decide +kernel
theorem dX5_later_48 : decode cX5_later 48 = .ok (.invokevirtual 189, 3) := by decide +kernel
theorem dX5_later_51 : decode cX5_later 51 = .ok (.ireturn, 1) := by decide +kernel
theorem dX5_trips_0 : decode cX5_trips 0 = .ok (.aload_n 0, 1) := by decide +kernel
theorem dX5_trips_1 : decode cX5_trips 1 = .ok (.iload_n 1, 1) := by decide +kernel
theorem dX5_trips_2 : decode cX5_trips 2 = .ok (.invokevirtual 166, 3) := by decide +kernel
theorem dX5_trips_5 : decode cX5_trips 5 = .ok (.ifCond .ne 5, 3) := by decide +kernel
theorem dX5_trips_8 : decode cX5_trips 8 = .ok (.iconst (-1), 1) := by decide +kernel
theorem dX5_trips_9 : decode cX5_trips 9 = .ok (.ireturn, 1) := by decide +kernel
theorem dX5_trips_10 : decode cX5_trips 10 = .ok (.aload_n 0, 1) := by decide +kernel
theorem dX5_trips_11 : decode cX5_trips 11 = .ok (.invokevirtual 174, 3) := by decide +kernel
theorem dX5_trips_14 : decode cX5_trips 14 = .ok (.aload_n 0, 1) := by decide +kernel
theorem dX5_trips_15 : decode cX5_trips 15 = .ok (.invokevirtual 195, 3) := by decide +kernel
theorem dX5_trips_18 : decode cX5_trips 18 = .ok (.iconst 0, 1) := by decide +kernel
theorem dX5_trips_19 : decode cX5_trips 19 = .ok (.istore_n 2, 1) := by decide +kernel
theorem dX5_trips_20 : decode cX5_trips 20 = .ok (.iconst 1, 1) := by decide +kernel
theorem dX5_trips_21 : decode cX5_trips 21 = .ok (.istore_n 3, 1) := by decide +kernel
theorem dX5_trips_22 : decode cX5_trips 22 = .ok (.iload_n 3, 1) := by decide +kernel
theorem dX5_trips_23 : decode cX5_trips 23 = .ok (.bipush 61, 2) := by decide +kernel
theorem dX5_trips_25 : decode cX5_trips 25 = .ok (.if_icmp .ge 54, 3) := by decide +kernel
theorem dX5_trips_28 : decode cX5_trips 28 = .ok (.aload_n 0, 1) := by decide +kernel
theorem dX5_trips_29 : decode cX5_trips 29 = .ok (.iconst 1, 1) := by decide +kernel
theorem dX5_trips_30 : decode cX5_trips 30 = .ok (.iconst 0, 1) := by decide +kernel
theorem dX5_trips_31 : decode cX5_trips 31 = .ok (.invokevirtual 198, 3) := by decide +kernel
theorem dX5_trips_34 : decode cX5_trips 34 = .ok (.istore 4, 2) := by decide +kernel
theorem dX5_trips_36 : decode cX5_trips 36 = .ok (.iload_n 2, 1) := by decide +kernel
theorem dX5_trips_37 : decode cX5_trips 37 = .ok (.aload_n 0, 1) := by decide +kernel
theorem dX5_trips_38 : decode cX5_trips 38 = .ok (.getfield 132, 3) := by decide +kernel
theorem dX5_trips_41 : decode cX5_trips 41 = .ok (.iload_n 1, 1) := by decide +kernel
theorem dX5_trips_42 : decode cX5_trips 42 = .ok (.invokestatic 139, 3) := by decide +kernel
theorem dX5_trips_45 : decode cX5_trips 45 = .ok (.ifCond .eq 7, 3) := by decide +kernel
theorem dX5_trips_48 : decode cX5_trips 48 = .ok (.iconst 1, 1) := by decide +kernel
theorem dX5_trips_49 : decode cX5_trips 49 = .ok (.goto 4, 3) := by decide +kernel
theorem dX5_trips_52 : decode cX5_trips 52 = .ok (.iconst 0, 1) := by decide +kernel
theorem dX5_trips_53 : decode cX5_trips 53 = .ok (.iadd, 1) := by decide +kernel
theorem dX5_trips_54 : decode cX5_trips 54 = .ok (.istore_n 2, 1) := by decide +kernel
theorem dX5_trips_55 : decode cX5_trips 55 = .ok (.aload_n 0, 1) := by decide +kernel
theorem dX5_trips_56 : decode cX5_trips 56 = .ok (.getfield 129, 3) := by decide +kernel
theorem dX5_trips_59 : decode cX5_trips 59 = .ok (.iload_n 1, 1) := by decide +kernel
theorem dX5_trips_60 : decode cX5_trips 60 = .ok (.invokestatic 139, 3) := by decide +kernel
theorem dX5_trips_63 : decode cX5_trips 63 = .ok (.ifCond .eq 10, 3) := by decide +kernel
theorem dX5_trips_66 : decode cX5_trips 66 = .ok (.aload_n 0, 1) := by decide +kernel
theorem dX5_trips_67 : decode cX5_trips 67 = .ok (.iload_n 3, 1) := by decide +kernel
theorem dX5_trips_68 : decode cX5_trips 68 = .ok (.iload_n 2, 1) := by decide +kernel
theorem dX5_trips_69 : decode cX5_trips 69 = .ok (.invokevirtual 189, 3) := by decide +kernel
theorem dX5_trips_72 : decode cX5_trips 72 = .ok (.ireturn, 1) := by decide +kernel
theorem dX5_trips_73 : decode cX5_trips 73 = .ok (.iinc 3 1, 3) := by decide +kernel
theorem dX5_trips_76 : decode cX5_trips 76 = .ok (.goto (-54), 3) := by decide +kernel
theorem dX5_trips_79 : decode cX5_trips 79 = .ok (.bipush (-9), 2) := by decide +kernel
theorem dX5_trips_81 : decode cX5_trips 81 = .ok (.ireturn, 1) := by decide +kernel
theorem dX5_worst_0 : decode cX5_worst 0 = .ok (.aload_n 0, 1) := by decide +kernel
theorem dX5_worst_1 : decode cX5_worst 1 = .ok (.getfield 115, 3) := by decide +kernel
theorem dX5_worst_4 : decode cX5_worst 4 = .ok (.ifCond .ne 6, 3) := by decide +kernel
theorem dX5_worst_7 : decode cX5_worst 7 = .ok (.bipush (-4), 2) := by decide +kernel
theorem dX5_worst_9 : decode cX5_worst 9 = .ok (.ireturn, 1) := by decide +kernel
theorem dX5_worst_10 : decode cX5_worst 10 = .ok (.aload_n 0, 1) := by decide +kernel
theorem dX5_worst_11 : decode cX5_worst 11 = .ok (.invokevirtual 174, 3) := by decide +kernel
theorem dX5_worst_14 : decode cX5_worst 14 = .ok (.aload_n 0, 1) := by decide +kernel
theorem dX5_worst_15 : decode cX5_worst 15 = .ok (.invokevirtual 195, 3) := by decide +kernel
theorem dX5_worst_18 : decode cX5_worst 18 = .ok (.iconst 0, 1) := by decide +kernel
theorem dX5_worst_19 : decode cX5_worst 19 = .ok (.istore_n 1, 1) := by decide +kernel
theorem dX5_worst_20 : decode cX5_worst 20 = .ok (.bipush 8, 2) := by decide +kernel
theorem dX5_worst_22 : decode cX5_worst 22 = .ok (.istore_n 2, 1) := by decide +kernel
theorem dX5_worst_23 : decode cX5_worst 23 = .ok (.iconst 0, 1) := by decide +kernel
theorem dX5_worst_24 : decode cX5_worst 24 = .ok (.istore_n 3, 1) := by decide +kernel
theorem dX5_worst_25 : decode cX5_worst 25 = .ok (.iload_n 3, 1) := by decide +kernel
theorem dX5_worst_26 : decode cX5_worst 26 = .ok (.bipush 61, 2) := by decide +kernel
theorem dX5_worst_28 : decode cX5_worst 28 = .ok (.if_icmp .ge 87, 3) := by decide +kernel
theorem dX5_worst_31 : decode cX5_worst 31 = .ok (.iconst 0, 1) := by decide +kernel
theorem dX5_worst_32 : decode cX5_worst 32 = .ok (.istore 4, 2) := by decide +kernel
theorem dX5_worst_34 : decode cX5_worst 34 = .ok (.iconst 0, 1) := by decide +kernel
theorem dX5_worst_35 : decode cX5_worst 35 = .ok (.istore 5, 2) := by decide +kernel
theorem dX5_worst_37 : decode cX5_worst 37 = .ok (.iload 5, 2) := by decide +kernel
theorem dX5_worst_39 : decode cX5_worst 39 = .ok (.aload_n 0, 1) := by decide +kernel
theorem dX5_worst_40 : decode cX5_worst 40 = .ok (.getfield 115, 3) := by decide +kernel
theorem dX5_worst_43 : decode cX5_worst 43 = .ok (.if_icmp .ge 33, 3) := by decide +kernel
theorem dX5_worst_46 : decode cX5_worst 46 = .ok (.iload 4, 2) := by decide +kernel
theorem dX5_worst_48 : decode cX5_worst 48 = .ok (.aload_n 0, 1) := by decide +kernel
theorem dX5_worst_49 : decode cX5_worst 49 = .ok (.getfield 31, 3) := by decide +kernel
theorem dX5_worst_52 : decode cX5_worst 52 = .ok (.bipush 12, 2) := by decide +kernel
theorem dX5_worst_54 : decode cX5_worst 54 = .ok (.iload 5, 2) := by decide +kernel
theorem dX5_worst_56 : decode cX5_worst 56 = .ok (.iadd, 1) := by decide +kernel
theorem dX5_worst_57 : decode cX5_worst 57 = .ok (.iaload, 1) := by decide +kernel
theorem dX5_worst_58 : decode cX5_worst 58 = .ok (.iconst 1, 1) := by decide +kernel
theorem dX5_worst_59 : decode cX5_worst 59 = .ok (.if_icmp .ne 7, 3) := by decide +kernel
theorem dX5_worst_62 : decode cX5_worst 62 = .ok (.iconst 0, 1) := by decide +kernel
theorem dX5_worst_63 : decode cX5_worst 63 = .ok (.goto 4, 3) := by decide +kernel
theorem dX5_worst_66 : decode cX5_worst 66 = .ok (.iconst 1, 1) := by decide +kernel
theorem dX5_worst_67 : decode cX5_worst 67 = .ok (.iadd, 1) := by decide +kernel
theorem dX5_worst_68 : decode cX5_worst 68 = .ok (.istore 4, 2) := by decide +kernel
theorem dX5_worst_70 : decode cX5_worst 70 = .ok (.iinc 5 1, 3) := by decide +kernel
theorem dX5_worst_73 : decode cX5_worst 73 = .ok (.goto (-36), 3) := by decide +kernel
theorem dX5_worst_76 : decode cX5_worst 76 = .ok (.iload 4, 2) := by decide +kernel
theorem dX5_worst_78 : decode cX5_worst 78 = .ok (.iload_n 2, 1) := by decide +kernel
theorem dX5_worst_79 : decode cX5_worst 79 = .ok (.if_icmp .ge 7, 3) := by decide +kernel
theorem dX5_worst_82 : decode cX5_worst 82 = .ok (.iload_n 3, 1) := by decide +kernel
theorem dX5_worst_83 : decode cX5_worst 83 = .ok (.goto 4, 3) := by decide +kernel
theorem dX5_worst_86 : decode cX5_worst 86 = .ok (.iload_n 1, 1) := by decide +kernel
theorem dX5_worst_87 : decode cX5_worst 87 = .ok (.istore_n 1, 1) := by decide +kernel
theorem dX5_worst_88 : decode cX5_worst 88 = .ok (.iload 4, 2) := by decide +kernel
theorem dX5_worst_90 : decode cX5_worst 90 = .ok (.iload_n 2, 1) := by decide +kernel
theorem dX5_worst_91 : decode cX5_worst 91 = .ok (.if_icmp .ge 8, 3) := by decide +kernel
theorem dX5_worst_94 : decode cX5_worst 94 = .ok (.iload 4, 2) := by decide +kernel
theorem dX5_worst_96 : decode cX5_worst 96 = .ok (.goto 4, 3) := by decide +kernel
theorem dX5_worst_99 : decode cX5_worst 99 = .ok (.iload_n 2, 1) := by decide +kernel
theorem dX5_worst_100 : decode cX5_worst 100 = .ok (.istore_n 2, 1) := by decide +kernel
theorem dX5_worst_101 : decode cX5_worst 101 = .ok (.aload_n 0, 1) := by decide +kernel
theorem dX5_worst_102 : decode cX5_worst 102 = .ok (.iconst 1, 1) := by decide +kernel
theorem dX5_worst_103 : decode cX5_worst 103 = .ok (.iconst 0, 1) := by decide +kernel
theorem dX5_worst_104 : decode cX5_worst 104 = .ok (.invokevirtual 198, 3) := by decide +kernel
theorem dX5_worst_107 : decode cX5_worst 107 = .ok (.istore 5, 2) := by decide +kernel
theorem dX5_worst_109 : decode cX5_worst 109 = .ok (.iinc 3 1, 3) := by decide +kernel
theorem dX5_worst_112 : decode cX5_worst 112 = .ok (.goto (-87), 3) := by decide +kernel
theorem dX5_worst_115 : decode cX5_worst 115 = .ok (.aload_n 0, 1) := by decide +kernel
theorem dX5_worst_116 : decode cX5_worst 116 = .ok (.iload_n 1, 1) := by decide +kernel
theorem dX5_worst_117 : decode cX5_worst 117 = .ok (.iload_n 2, 1) := by decide +kernel
theorem dX5_worst_118 : decode cX5_worst 118 = .ok (.invokevirtual 189, 3) := by decide +kernel
theorem dX5_worst_121 : decode cX5_worst 121 = .ok (.ireturn, 1) := by decide +kernel
theorem dX5_bestOf_0 : decode cX5_bestOf 0 = .ok (.aload_n 0, 1) := by decide +kernel
theorem dX5_bestOf_1 : decode cX5_bestOf 1 = .ok (.invokevirtual 174, 3) := by decide +kernel
theorem dX5_bestOf_4 : decode cX5_bestOf 4 = .ok (.iconst 0, 1) := by decide +kernel
theorem dX5_bestOf_5 : decode cX5_bestOf 5 = .ok (.istore_n 3, 1) := by decide +kernel
theorem dX5_bestOf_6 : decode cX5_bestOf 6 = .ok (.iconst (-1), 1) := by decide +kernel
theorem dX5_bestOf_7 : decode cX5_bestOf 7 = .ok (.istore 4, 2) := by decide +kernel
theorem dX5_bestOf_9 : decode cX5_bestOf 9 = .ok (.iconst 1, 1) := by decide +kernel
theorem dX5_bestOf_10 : decode cX5_bestOf 10 = .ok (.istore 5, 2) := by decide +kernel
theorem dX5_bestOf_12 : decode cX5_bestOf 12 = .ok (.iload 5, 2) := by decide +kernel
theorem dX5_bestOf_14 : decode cX5_bestOf 14 = .ok (.bipush 10, 2) := by decide +kernel
theorem dX5_bestOf_16 : decode cX5_bestOf 16 = .ok (.if_icmp .ge 59, 3) := by decide +kernel
theorem dX5_bestOf_19 : decode cX5_bestOf 19 = .ok (.aload_n 0, 1) := by decide +kernel
theorem dX5_bestOf_20 : decode cX5_bestOf 20 = .ok (.invokevirtual 195, 3) := by decide +kernel
theorem dX5_bestOf_23 : decode cX5_bestOf 23 = .ok (.aload_n 0, 1) := by decide +kernel
theorem dX5_bestOf_24 : decode cX5_bestOf 24 = .ok (.getfield 31, 3) := by decide +kernel
theorem dX5_bestOf_27 : decode cX5_bestOf 27 = .ok (.iload_n 1, 1) := by decide +kernel
theorem dX5_bestOf_28 : decode cX5_bestOf 28 = .ok (.iload 5, 2) := by decide +kernel
theorem dX5_bestOf_30 : decode cX5_bestOf 30 = .ok (.iastore, 1) := by decide +kernel
theorem dX5_bestOf_31 : decode cX5_bestOf 31 = .ok (.aload_n 0, 1) := by decide +kernel
theorem dX5_bestOf_32 : decode cX5_bestOf 32 = .ok (.iload_n 2, 1) := by decide +kernel
theorem dX5_bestOf_33 : decode cX5_bestOf 33 = .ok (.iconst 0, 1) := by decide +kernel
theorem dX5_bestOf_34 : decode cX5_bestOf 34 = .ok (.invokevirtual 198, 3) := by decide +kernel
theorem dX5_bestOf_37 : decode cX5_bestOf 37 = .ok (.istore 6, 2) := by decide +kernel
theorem dX5_bestOf_39 : decode cX5_bestOf 39 = .ok (.iload 6, 2) := by decide +kernel
theorem dX5_bestOf_41 : decode cX5_bestOf 41 = .ok (.iload 4, 2) := by decide +kernel
theorem dX5_bestOf_43 : decode cX5_bestOf 43 = .ok (.if_icmp .le 8, 3) := by decide +kernel
theorem dX5_bestOf_46 : decode cX5_bestOf 46 = .ok (.iload 5, 2) := by decide +kernel
theorem dX5_bestOf_48 : decode cX5_bestOf 48 = .ok (.goto 4, 3) := by decide +kernel
theorem dX5_bestOf_51 : decode cX5_bestOf 51 = .ok (.iload_n 3, 1) := by decide +kernel
theorem dX5_bestOf_52 : decode cX5_bestOf 52 = .ok (.istore_n 3, 1) := by decide +kernel
theorem dX5_bestOf_53 : decode cX5_bestOf 53 = .ok (.iload 6, 2) := by decide +kernel
theorem dX5_bestOf_55 : decode cX5_bestOf 55 = .ok (.iload 4, 2) := by decide +kernel
theorem dX5_bestOf_57 : decode cX5_bestOf 57 = .ok (.if_icmp .le 8, 3) := by decide +kernel
theorem dX5_bestOf_60 : decode cX5_bestOf 60 = .ok (.iload 6, 2) := by decide +kernel
theorem dX5_bestOf_62 : decode cX5_bestOf 62 = .ok (.goto 5, 3) := by decide +kernel
theorem dX5_bestOf_65 : decode cX5_bestOf 65 = .ok (.iload 4, 2) := by decide +kernel
theorem dX5_bestOf_67 : decode cX5_bestOf 67 = .ok (.istore 4, 2) := by decide +kernel
theorem dX5_bestOf_69 : decode cX5_bestOf 69 = .ok (.iinc 5 1, 3) := by decide +kernel
theorem dX5_bestOf_72 : decode cX5_bestOf 72 = .ok (.goto (-60), 3) := by decide +kernel
theorem dX5_bestOf_75 : decode cX5_bestOf 75 = .ok (.aload_n 0, 1) := by decide +kernel
theorem dX5_bestOf_76 : decode cX5_bestOf 76 = .ok (.iload_n 3, 1) := by decide +kernel
theorem dX5_bestOf_77 : decode cX5_bestOf 77 = .ok (.iload 4, 2) := by decide +kernel
theorem dX5_bestOf_79 : decode cX5_bestOf 79 = .ok (.invokevirtual 189, 3) := by decide +kernel
theorem dX5_bestOf_82 : decode cX5_bestOf 82 = .ok (.ireturn, 1) := by decide +kernel
theorem dX5_best_0 : decode cX5_best 0 = .ok (.iload_n 1, 1) := by decide +kernel
theorem dX5_best_1 : decode cX5_best 1 = .ok (.i2l, 1) := by decide +kernel
theorem dX5_best_2 : decode cX5_best 2 = .ok (.lconst 1, 1) := by decide +kernel
theorem dX5_best_3 : decode cX5_best 3 = .ok (.ldc2_w 201, 3) := by decide +kernel
theorem dX5_best_6 : decode cX5_best 6 = .ok (.invokestatic 75, 3) := by decide +kernel
theorem dX5_best_9 : decode cX5_best 9 = .ok (.ifCond .ne 5, 3) := by decide +kernel
theorem dX5_best_12 : decode cX5_best 12 = .ok (.iconst (-1), 1) := by decide +kernel
theorem dX5_best_13 : decode cX5_best 13 = .ok (.ireturn, 1) := by decide +kernel
theorem dX5_best_14 : decode cX5_best 14 = .ok (.aload_n 0, 1) := by decide +kernel
theorem dX5_best_15 : decode cX5_best 15 = .ok (.getfield 115, 3) := by decide +kernel
theorem dX5_best_18 : decode cX5_best 18 = .ok (.ifCond .ne 8, 3) := by decide +kernel
theorem dX5_best_21 : decode cX5_best 21 = .ok (.bipush (-4), 2) := by decide +kernel
theorem dX5_best_23 : decode cX5_best 23 = .ok (.goto 9, 3) := by decide +kernel
theorem dX5_best_26 : decode cX5_best 26 = .ok (.aload_n 0, 1) := by decide +kernel
theorem dX5_best_27 : decode cX5_best 27 = .ok (.iconst 4, 1) := by decide +kernel
theorem dX5_best_28 : decode cX5_best 28 = .ok (.iload_n 1, 1) := by decide +kernel
theorem dX5_best_29 : decode cX5_best 29 = .ok (.invokevirtual 203, 3) := by decide +kernel
theorem dX5_best_32 : decode cX5_best 32 = .ok (.ireturn, 1) := by decide +kernel
theorem dX5_mend_0 : decode cX5_mend 0 = .ok (.iload_n 1, 1) := by decide +kernel
theorem dX5_mend_1 : decode cX5_mend 1 = .ok (.i2l, 1) := by decide +kernel
theorem dX5_mend_2 : decode cX5_mend 2 = .ok (.lconst 1, 1) := by decide +kernel
theorem dX5_mend_3 : decode cX5_mend 3 = .ok (.ldc2_w 201, 3) := by decide +kernel
theorem dX5_mend_6 : decode cX5_mend 6 = .ok (.invokestatic 75, 3) := by decide +kernel
theorem dX5_mend_9 : decode cX5_mend 9 = .ok (.ifCond .ne 5, 3) := by decide +kernel
theorem dX5_mend_12 : decode cX5_mend 12 = .ok (.iconst (-1), 1) := by decide +kernel
theorem dX5_mend_13 : decode cX5_mend 13 = .ok (.ireturn, 1) := by decide +kernel
theorem dX5_mend_14 : decode cX5_mend 14 = .ok (.aload_n 0, 1) := by decide +kernel
theorem dX5_mend_15 : decode cX5_mend 15 = .ok (.getfield 115, 3) := by decide +kernel
theorem dX5_mend_18 : decode cX5_mend 18 = .ok (.ifCond .ne 6, 3) := by decide +kernel
theorem dX5_mend_21 : decode cX5_mend 21 = .ok (.bipush (-4), 2) := by decide +kernel
theorem dX5_mend_23 : decode cX5_mend 23 = .ok (.ireturn, 1) := by decide +kernel
theorem dX5_mend_24 : decode cX5_mend 24 = .ok (.aload_n 0, 1) := by decide +kernel
theorem dX5_mend_25 : decode cX5_mend 25 = .ok (.invokevirtual 174, 3) := by decide +kernel
theorem dX5_mend_28 : decode cX5_mend 28 = .ok (.aload_n 0, 1) := by decide +kernel
theorem dX5_mend_29 : decode cX5_mend 29 = .ok (.invokevirtual 195, 3) := by decide +kernel
theorem dX5_mend_32 : decode cX5_mend 32 = .ok (.aload_n 0, 1) := by decide +kernel
theorem dX5_mend_33 : decode cX5_mend 33 = .ok (.iload_n 1, 1) := by decide +kernel
theorem dX5_mend_34 : decode cX5_mend 34 = .ok (.iconst 0, 1) := by decide +kernel
theorem dX5_mend_35 : decode cX5_mend 35 = .ok (.invokevirtual 198, 3) := by decide +kernel
theorem dX5_mend_38 : decode cX5_mend 38 = .ok (.istore_n 2, 1) := by decide +kernel
theorem dX5_mend_39 : decode cX5_mend 39 = .ok (.bipush (-9), 2) := by decide +kernel
theorem dX5_mend_41 : decode cX5_mend 41 = .ok (.istore_n 3, 1) := by decide +kernel
theorem dX5_mend_42 : decode cX5_mend 42 = .ok (.iconst 0, 1) := by decide +kernel
theorem dX5_mend_43 : decode cX5_mend 43 = .ok (.istore 4, 2) := by decide +kernel
theorem dX5_mend_45 : decode cX5_mend 45 = .ok (.iload 4, 2) := by decide +kernel
theorem dX5_mend_47 : decode cX5_mend 47 = .ok (.bipush 8, 2) := by decide +kernel
theorem dX5_mend_49 : decode cX5_mend 49 = .ok (.if_icmp .ge 60, 3) := by decide +kernel
theorem dX5_mend_52 : decode cX5_mend 52 = .ok (.aload_n 0, 1) := by decide +kernel
theorem dX5_mend_53 : decode cX5_mend 53 = .ok (.invokevirtual 195, 3) := by decide +kernel
theorem dX5_mend_56 : decode cX5_mend 56 = .ok (.aload_n 0, 1) := by decide +kernel
theorem dX5_mend_57 : decode cX5_mend 57 = .ok (.getfield 31, 3) := by decide +kernel
theorem dX5_mend_60 : decode cX5_mend 60 = .ok (.iconst 3, 1) := by decide +kernel
theorem dX5_mend_61 : decode cX5_mend 61 = .ok (.dup2, 1) := by decide +kernel
theorem dX5_mend_62 : decode cX5_mend 62 = .ok (.iaload, 1) := by decide +kernel
theorem dX5_mend_63 : decode cX5_mend 63 = .ok (.iconst 1, 1) := by decide +kernel
theorem dX5_mend_64 : decode cX5_mend 64 = .ok (.iload 4, 2) := by decide +kernel
theorem dX5_mend_66 : decode cX5_mend 66 = .ok (.ishl, 1) := by decide +kernel
theorem dX5_mend_67 : decode cX5_mend 67 = .ok (.ixor, 1) := by decide +kernel
theorem dX5_mend_68 : decode cX5_mend 68 = .ok (.iastore, 1) := by decide +kernel
theorem dX5_mend_69 : decode cX5_mend 69 = .ok (.aload_n 0, 1) := by decide +kernel
theorem dX5_mend_70 : decode cX5_mend 70 = .ok (.iload_n 1, 1) := by decide +kernel
theorem dX5_mend_71 : decode cX5_mend 71 = .ok (.iconst 0, 1) := by decide +kernel
theorem dX5_mend_72 : decode cX5_mend 72 = .ok (.invokevirtual 198, 3) := by decide +kernel
theorem dX5_mend_75 : decode cX5_mend 75 = .ok (.istore 5, 2) := by decide +kernel
theorem dX5_mend_77 : decode cX5_mend 77 = .ok (.iload 5, 2) := by decide +kernel
theorem dX5_mend_79 : decode cX5_mend 79 = .ok (.iload_n 2, 1) := by decide +kernel
theorem dX5_mend_80 : decode cX5_mend 80 = .ok (.if_icmp .le 8, 3) := by decide +kernel
theorem dX5_mend_83 : decode cX5_mend 83 = .ok (.iload 4, 2) := by decide +kernel
theorem dX5_mend_85 : decode cX5_mend 85 = .ok (.goto 4, 3) := by decide +kernel
theorem dX5_mend_88 : decode cX5_mend 88 = .ok (.iload_n 3, 1) := by decide +kernel
theorem dX5_mend_89 : decode cX5_mend 89 = .ok (.istore_n 3, 1) := by decide +kernel
theorem dX5_mend_90 : decode cX5_mend 90 = .ok (.iload 5, 2) := by decide +kernel
theorem dX5_mend_92 : decode cX5_mend 92 = .ok (.iload_n 2, 1) := by decide +kernel
theorem dX5_mend_93 : decode cX5_mend 93 = .ok (.if_icmp .le 8, 3) := by decide +kernel
theorem dX5_mend_96 : decode cX5_mend 96 = .ok (.iload 5, 2) := by decide +kernel
theorem dX5_mend_98 : decode cX5_mend 98 = .ok (.goto 4, 3) := by decide +kernel
theorem dX5_mend_101 : decode cX5_mend 101 = .ok (.iload_n 2, 1) := by decide +kernel
theorem dX5_mend_102 : decode cX5_mend 102 = .ok (.istore_n 2, 1) := by decide +kernel
theorem dX5_mend_103 : decode cX5_mend 103 = .ok (.iinc 4 1, 3) := by decide +kernel
theorem dX5_mend_106 : decode cX5_mend 106 = .ok (.goto (-61), 3) := by decide +kernel
theorem dX5_mend_109 : decode cX5_mend 109 = .ok (.iload_n 3, 1) := by decide +kernel
theorem dX5_mend_110 : decode cX5_mend 110 = .ok (.bipush (-9), 2) := by decide +kernel
theorem dX5_mend_112 : decode cX5_mend 112 = .ok (.if_icmp .ne 8, 3) := by decide +kernel
theorem dX5_mend_115 : decode cX5_mend 115 = .ok (.bipush (-9), 2) := by decide +kernel
theorem dX5_mend_117 : decode cX5_mend 117 = .ok (.goto 9, 3) := by decide +kernel
theorem dX5_mend_120 : decode cX5_mend 120 = .ok (.aload_n 0, 1) := by decide +kernel
theorem dX5_mend_121 : decode cX5_mend 121 = .ok (.iload_n 3, 1) := by decide +kernel
theorem dX5_mend_122 : decode cX5_mend 122 = .ok (.iload_n 2, 1) := by decide +kernel
theorem dX5_mend_123 : decode cX5_mend 123 = .ok (.invokevirtual 189, 3) := by decide +kernel
theorem dX5_mend_126 : decode cX5_mend 126 = .ok (.ireturn, 1) := by decide +kernel
theorem dX5_tune_0 : decode cX5_tune 0 = .ok (.aload_n 0, 1) := by decide +kernel
theorem dX5_tune_1 : decode cX5_tune 1 = .ok (.iload_n 1, 1) := by decide +kernel
theorem dX5_tune_2 : decode cX5_tune 2 = .ok (.invokevirtual 166, 3) := by decide +kernel
theorem dX5_tune_5 : decode cX5_tune 5 = .ok (.ifCond .eq 26, 3) := by decide +kernel
theorem dX5_tune_8 : decode cX5_tune 8 = .ok (.iload_n 2, 1) := by decide +kernel
theorem dX5_tune_9 : decode cX5_tune 9 = .ok (.i2l, 1) := by decide +kernel
theorem dX5_tune_10 : decode cX5_tune 10 = .ok (.lconst 1, 1) := by decide +kernel
theorem dX5_tune_11 : decode cX5_tune 11 = .ok (.ldc2_w 201, 3) := by decide +kernel
theorem dX5_tune_14 : decode cX5_tune 14 = .ok (.invokestatic 75, 3) := by decide +kernel
theorem dX5_tune_17 : decode cX5_tune 17 = .ok (.ifCond .eq 14, 3) := by decide +kernel
theorem dX5_tune_20 : decode cX5_tune 20 = .ok (.aload_n 0, 1) := by decide +kernel
theorem dX5_tune_21 : decode cX5_tune 21 = .ok (.iconst 5, 1) := by decide +kernel
theorem dX5_tune_22 : decode cX5_tune 22 = .ok (.iload_n 1, 1) := by decide +kernel
theorem dX5_tune_23 : decode cX5_tune 23 = .ok (.iadd, 1) := by decide +kernel
theorem dX5_tune_24 : decode cX5_tune 24 = .ok (.iload_n 2, 1) := by decide +kernel
theorem dX5_tune_25 : decode cX5_tune 25 = .ok (.invokevirtual 203, 3) := by decide +kernel
theorem dX5_tune_28 : decode cX5_tune 28 = .ok (.goto 4, 3) := by decide +kernel
theorem dX5_tune_31 : decode cX5_tune 31 = .ok (.iconst (-1), 1) := by decide +kernel
theorem dX5_tune_32 : decode cX5_tune 32 = .ok (.ireturn, 1) := by decide +kernel
theorem dX5_hush_0 : decode cX5_hush 0 = .ok (.iload_n 1, 1) := by decide +kernel
theorem dX5_hush_1 : decode cX5_hush 1 = .ok (.i2l, 1) := by decide +kernel
theorem dX5_hush_2 : decode cX5_hush 2 = .ok (.lconst 1, 1) := by decide +kernel
theorem dX5_hush_3 : decode cX5_hush 3 = .ok (.ldc2_w 206, 3) := by decide +kernel
theorem dX5_hush_6 : decode cX5_hush 6 = .ok (.invokestatic 75, 3) := by decide +kernel
theorem dX5_hush_9 : decode cX5_hush 9 = .ok (.ifCond .ne 5, 3) := by decide +kernel
theorem dX5_hush_12 : decode cX5_hush 12 = .ok (.iconst (-1), 1) := by decide +kernel
theorem dX5_hush_13 : decode cX5_hush 13 = .ok (.ireturn, 1) := by decide +kernel
theorem dX5_hush_14 : decode cX5_hush 14 = .ok (.aload_n 0, 1) := by decide +kernel
theorem dX5_hush_15 : decode cX5_hush 15 = .ok (.getfield 115, 3) := by decide +kernel
theorem dX5_hush_18 : decode cX5_hush 18 = .ok (.ifCond .ne 6, 3) := by decide +kernel
theorem dX5_hush_21 : decode cX5_hush 21 = .ok (.bipush (-4), 2) := by decide +kernel
theorem dX5_hush_23 : decode cX5_hush 23 = .ok (.ireturn, 1) := by decide +kernel
theorem dX5_hush_24 : decode cX5_hush 24 = .ok (.aload_n 0, 1) := by decide +kernel
theorem dX5_hush_25 : decode cX5_hush 25 = .ok (.invokevirtual 174, 3) := by decide +kernel
theorem dX5_hush_28 : decode cX5_hush 28 = .ok (.iconst 0, 1) := by decide +kernel
theorem dX5_hush_29 : decode cX5_hush 29 = .ok (.istore_n 2, 1) := by decide +kernel
theorem dX5_hush_30 : decode cX5_hush 30 = .ok (.iconst (-1), 1) := by decide +kernel
theorem dX5_hush_31 : decode cX5_hush 31 = .ok (.istore_n 3, 1) := by decide +kernel
theorem dX5_hush_32 : decode cX5_hush 32 = .ok (.iconst 0, 1) := by decide +kernel
theorem dX5_hush_33 : decode cX5_hush 33 = .ok (.istore 4, 2) := by decide +kernel
theorem dX5_hush_35 : decode cX5_hush 35 = .ok (.iload 4, 2) := by decide +kernel
theorem dX5_hush_37 : decode cX5_hush 37 = .ok (.iconst 1, 1) := by decide +kernel
theorem dX5_hush_38 : decode cX5_hush 38 = .ok (.aload_n 0, 1) := by decide +kernel
theorem dX5_hush_39 : decode cX5_hush 39 = .ok (.getfield 115, 3) := by decide +kernel
theorem dX5_hush_42 : decode cX5_hush 42 = .ok (.ishl, 1) := by decide +kernel
theorem dX5_hush_43 : decode cX5_hush 43 = .ok (.if_icmp .ge 52, 3) := by decide +kernel
theorem dX5_hush_46 : decode cX5_hush 46 = .ok (.aload_n 0, 1) := by decide +kernel
theorem dX5_hush_47 : decode cX5_hush 47 = .ok (.invokevirtual 195, 3) := by decide +kernel
theorem dX5_hush_50 : decode cX5_hush 50 = .ok (.aload_n 0, 1) := by decide +kernel
theorem dX5_hush_51 : decode cX5_hush 51 = .ok (.iload_n 1, 1) := by decide +kernel
theorem dX5_hush_52 : decode cX5_hush 52 = .ok (.iload 4, 2) := by decide +kernel
theorem dX5_hush_54 : decode cX5_hush 54 = .ok (.invokevirtual 198, 3) := by decide +kernel
theorem dX5_hush_57 : decode cX5_hush 57 = .ok (.istore 5, 2) := by decide +kernel
theorem dX5_hush_59 : decode cX5_hush 59 = .ok (.iload 5, 2) := by decide +kernel
theorem dX5_hush_61 : decode cX5_hush 61 = .ok (.iload_n 3, 1) := by decide +kernel
theorem dX5_hush_62 : decode cX5_hush 62 = .ok (.if_icmp .gt 21, 3) := by decide +kernel
theorem dX5_hush_65 : decode cX5_hush 65 = .ok (.iload 5, 2) := by decide +kernel
theorem dX5_hush_67 : decode cX5_hush 67 = .ok (.iload_n 3, 1) := by decide +kernel
theorem dX5_hush_68 : decode cX5_hush 68 = .ok (.if_icmp .ne 21, 3) := by decide +kernel
theorem dX5_hush_71 : decode cX5_hush 71 = .ok (.iload 4, 2) := by decide +kernel
theorem dX5_hush_73 : decode cX5_hush 73 = .ok (.invokestatic 146, 3) := by decide +kernel
theorem dX5_hush_76 : decode cX5_hush 76 = .ok (.iload_n 2, 1) := by decide +kernel
theorem dX5_hush_77 : decode cX5_hush 77 = .ok (.invokestatic 146, 3) := by decide +kernel
theorem dX5_hush_80 : decode cX5_hush 80 = .ok (.if_icmp .ge 9, 3) := by decide +kernel
theorem dX5_hush_83 : decode cX5_hush 83 = .ok (.iload 4, 2) := by decide +kernel
theorem dX5_hush_85 : decode cX5_hush 85 = .ok (.istore_n 2, 1) := by decide +kernel
theorem dX5_hush_86 : decode cX5_hush 86 = .ok (.iload 5, 2) := by decide +kernel
theorem dX5_hush_88 : decode cX5_hush 88 = .ok (.istore_n 3, 1) := by decide +kernel
theorem dX5_hush_89 : decode cX5_hush 89 = .ok (.iinc 4 1, 3) := by decide +kernel
theorem dX5_hush_92 : decode cX5_hush 92 = .ok (.goto (-57), 3) := by decide +kernel
theorem dX5_hush_95 : decode cX5_hush 95 = .ok (.aload_n 0, 1) := by decide +kernel
theorem dX5_hush_96 : decode cX5_hush 96 = .ok (.iload_n 2, 1) := by decide +kernel
theorem dX5_hush_97 : decode cX5_hush 97 = .ok (.iload_n 3, 1) := by decide +kernel
theorem dX5_hush_98 : decode cX5_hush 98 = .ok (.invokevirtual 189, 3) := by decide +kernel
theorem dX5_hush_101 : decode cX5_hush 101 = .ok (.ireturn, 1) := by decide +kernel
theorem dX5_seen_0 : decode cX5_seen 0 = .ok (.aload_n 0, 1) := by decide +kernel
theorem dX5_seen_1 : decode cX5_seen 1 = .ok (.getfield 7, 3) := by decide +kernel
theorem dX5_seen_4 : decode cX5_seen 4 = .ok (.iload_n 1, 1) := by decide +kernel
theorem dX5_seen_5 : decode cX5_seen 5 = .ok (.iaload, 1) := by decide +kernel
theorem dX5_seen_6 : decode cX5_seen 6 = .ok (.ifCond .ge 5, 3) := by decide +kernel
theorem dX5_seen_9 : decode cX5_seen 9 = .ok (.iconst 1, 1) := by decide +kernel
theorem dX5_seen_10 : decode cX5_seen 10 = .ok (.ireturn, 1) := by decide +kernel
theorem dX5_seen_11 : decode cX5_seen 11 = .ok (.aload_n 0, 1) := by decide +kernel
theorem dX5_seen_12 : decode cX5_seen 12 = .ok (.getfield 7, 3) := by decide +kernel
theorem dX5_seen_15 : decode cX5_seen 15 = .ok (.iload_n 1, 1) := by decide +kernel
theorem dX5_seen_16 : decode cX5_seen 16 = .ok (.iaload, 1) := by decide +kernel
theorem dX5_seen_17 : decode cX5_seen 17 = .ok (.i2l, 1) := by decide +kernel
theorem dX5_seen_18 : decode cX5_seen 18 = .ok (.lconst 1, 1) := by decide +kernel
theorem dX5_seen_19 : decode cX5_seen 19 = .ok (.ldc2_w 206, 3) := by decide +kernel
theorem dX5_seen_22 : decode cX5_seen 22 = .ok (.invokestatic 75, 3) := by decide +kernel
theorem dX5_seen_25 : decode cX5_seen 25 = .ok (.ifCond .ne 5, 3) := by decide +kernel
theorem dX5_seen_28 : decode cX5_seen 28 = .ok (.iconst 5, 1) := by decide +kernel
theorem dX5_seen_29 : decode cX5_seen 29 = .ok (.ireturn, 1) := by decide +kernel
theorem dX5_seen_30 : decode cX5_seen 30 = .ok (.iconst 0, 1) := by decide +kernel
theorem dX5_seen_31 : decode cX5_seen 31 = .ok (.istore_n 2, 1) := by decide +kernel
theorem dX5_seen_32 : decode cX5_seen 32 = .ok (.iload_n 2, 1) := by decide +kernel
theorem dX5_seen_33 : decode cX5_seen 33 = .ok (.aload_n 0, 1) := by decide +kernel
theorem dX5_seen_34 : decode cX5_seen 34 = .ok (.getfield 7, 3) := by decide +kernel
theorem dX5_seen_37 : decode cX5_seen 37 = .ok (.iload_n 1, 1) := by decide +kernel
theorem dX5_seen_38 : decode cX5_seen 38 = .ok (.iaload, 1) := by decide +kernel
theorem dX5_seen_39 : decode cX5_seen 39 = .ok (.if_icmp .ge 33, 3) := by decide +kernel
theorem dX5_seen_42 : decode cX5_seen 42 = .ok (.aload_n 0, 1) := by decide +kernel
theorem dX5_seen_43 : decode cX5_seen 43 = .ok (.getfield 13, 3) := by decide +kernel
theorem dX5_seen_46 : decode cX5_seen 46 = .ok (.bipush 40, 2) := by decide +kernel
theorem dX5_seen_48 : decode cX5_seen 48 = .ok (.iload_n 1, 1) := by decide +kernel
theorem dX5_seen_49 : decode cX5_seen 49 = .ok (.imul, 1) := by decide +kernel
theorem dX5_seen_50 : decode cX5_seen 50 = .ok (.iload_n 2, 1) := by decide +kernel
theorem dX5_seen_51 : decode cX5_seen 51 = .ok (.iadd, 1) := by decide +kernel
theorem dX5_seen_52 : decode cX5_seen 52 = .ok (.iaload, 1) := by decide +kernel
theorem dX5_seen_53 : decode cX5_seen 53 = .ok (.i2l, 1) := by decide +kernel
theorem dX5_seen_54 : decode cX5_seen 54 = .ok (.lconst 0, 1) := by decide +kernel
theorem dX5_seen_55 : decode cX5_seen 55 = .ok (.ldc2_w 177, 3) := by decide +kernel
theorem dX5_seen_58 : decode cX5_seen 58 = .ok (.invokestatic 75, 3) := by decide +kernel
theorem dX5_seen_61 : decode cX5_seen 61 = .ok (.ifCond .ne 5, 3) := by decide +kernel
theorem dX5_seen_64 : decode cX5_seen 64 = .ok (.iconst 3, 1) := by decide +kernel
theorem dX5_seen_65 : decode cX5_seen 65 = .ok (.ireturn, 1) := by decide +kernel
theorem dX5_seen_66 : decode cX5_seen 66 = .ok (.iinc 2 1, 3) := by decide +kernel
theorem dX5_seen_69 : decode cX5_seen 69 = .ok (.goto (-37), 3) := by decide +kernel
theorem dX5_seen_72 : decode cX5_seen 72 = .ok (.iconst 0, 1) := by decide +kernel
theorem dX5_seen_73 : decode cX5_seen 73 = .ok (.ireturn, 1) := by decide +kernel
theorem dX5_comesSo_0 : decode cX5_comesSo 0 = .ok (.iconst 0, 1) := by decide +kernel
theorem dX5_comesSo_1 : decode cX5_comesSo 1 = .ok (.istore_n 2, 1) := by decide +kernel
theorem dX5_comesSo_2 : decode cX5_comesSo 2 = .ok (.iload_n 2, 1) := by decide +kernel
theorem dX5_comesSo_3 : decode cX5_comesSo 3 = .ok (.aload_n 0, 1) := by decide +kernel
theorem dX5_comesSo_4 : decode cX5_comesSo 4 = .ok (.getfield 7, 3) := by decide +kernel
theorem dX5_comesSo_7 : decode cX5_comesSo 7 = .ok (.iload_n 1, 1) := by decide +kernel
theorem dX5_comesSo_8 : decode cX5_comesSo 8 = .ok (.iaload, 1) := by decide +kernel
theorem dX5_comesSo_9 : decode cX5_comesSo 9 = .ok (.if_icmp .ge 31, 3) := by decide +kernel
theorem dX5_comesSo_12 : decode cX5_comesSo 12 = .ok (.aload_n 0, 1) := by decide +kernel
theorem dX5_comesSo_13 : decode cX5_comesSo 13 = .ok (.iconst 1, 1) := by decide +kernel
theorem dX5_comesSo_14 : decode cX5_comesSo 14 = .ok (.iconst 0, 1) := by decide +kernel
theorem dX5_comesSo_15 : decode cX5_comesSo 15 = .ok (.invokevirtual 198, 3) := by decide +kernel
theorem dX5_comesSo_18 : decode cX5_comesSo 18 = .ok (.aload_n 0, 1) := by decide +kernel
theorem dX5_comesSo_19 : decode cX5_comesSo 19 = .ok (.getfield 13, 3) := by decide +kernel
theorem dX5_comesSo_22 : decode cX5_comesSo 22 = .ok (.bipush 40, 2) := by decide +kernel
theorem dX5_comesSo_24 : decode cX5_comesSo 24 = .ok (.iload_n 1, 1) := by decide +kernel
theorem dX5_comesSo_25 : decode cX5_comesSo 25 = .ok (.imul, 1) := by decide +kernel
theorem dX5_comesSo_26 : decode cX5_comesSo 26 = .ok (.iload_n 2, 1) := by decide +kernel
theorem dX5_comesSo_27 : decode cX5_comesSo 27 = .ok (.iadd, 1) := by decide +kernel
theorem dX5_comesSo_28 : decode cX5_comesSo 28 = .ok (.iaload, 1) := by decide +kernel
theorem dX5_comesSo_29 : decode cX5_comesSo 29 = .ok (.if_icmp .eq 5, 3) := by decide +kernel
theorem dX5_comesSo_32 : decode cX5_comesSo 32 = .ok (.iconst 0, 1) := by decide +kernel
theorem dX5_comesSo_33 : decode cX5_comesSo 33 = .ok (.ireturn, 1) := by decide +kernel
theorem dX5_comesSo_34 : decode cX5_comesSo 34 = .ok (.iinc 2 1, 3) := by decide +kernel
theorem dX5_comesSo_37 : decode cX5_comesSo 37 = .ok (.goto (-35), 3) := by decide +kernel
theorem dX5_comesSo_40 : decode cX5_comesSo 40 = .ok (.iconst 1, 1) := by decide +kernel
theorem dX5_comesSo_41 : decode cX5_comesSo 41 = .ok (.ireturn, 1) := by decide +kernel
theorem dX5_patterns_0 : decode cX5_patterns 0 = .ok (.iload_n 1, 1) := by decide +kernel
theorem dX5_patterns_1 : decode cX5_patterns 1 = .ok (.invokestatic 81, 3) := by decide +kernel
theorem dX5_patterns_4 : decode cX5_patterns 4 = .ok (.ifCond .ne 5, 3) := by decide +kernel
theorem dX5_patterns_7 : decode cX5_patterns 7 = .ok (.iconst (-1), 1) := by decide +kernel
theorem dX5_patterns_8 : decode cX5_patterns 8 = .ok (.ireturn, 1) := by decide +kernel
theorem dX5_patterns_9 : decode cX5_patterns 9 = .ok (.aload_n 0, 1) := by decide +kernel
theorem dX5_patterns_10 : decode cX5_patterns 10 = .ok (.getfield 115, 3) := by decide +kernel
theorem dX5_patterns_13 : decode cX5_patterns 13 = .ok (.ifCond .ne 6, 3) := by decide +kernel
theorem dX5_patterns_16 : decode cX5_patterns 16 = .ok (.bipush (-4), 2) := by decide +kernel
theorem dX5_patterns_18 : decode cX5_patterns 18 = .ok (.ireturn, 1) := by decide +kernel
theorem dX5_patterns_19 : decode cX5_patterns 19 = .ok (.aload_n 0, 1) := by decide +kernel
theorem dX5_patterns_20 : decode cX5_patterns 20 = .ok (.iload_n 1, 1) := by decide +kernel
theorem dX5_patterns_21 : decode cX5_patterns 21 = .ok (.invokevirtual 208, 3) := by decide +kernel
theorem dX5_patterns_24 : decode cX5_patterns 24 = .ok (.istore_n 2, 1) := by decide +kernel
theorem dX5_patterns_25 : decode cX5_patterns 25 = .ok (.iload_n 2, 1) := by decide +kernel
theorem dX5_patterns_26 : decode cX5_patterns 26 = .ok (.ifCond .le 9, 3) := by decide +kernel
theorem dX5_patterns_29 : decode cX5_patterns 29 = .ok (.aload_n 0, 1) := by decide +kernel
theorem dX5_patterns_30 : decode cX5_patterns 30 = .ok (.iload_n 2, 1) := by decide +kernel
theorem dX5_patterns_31 : decode cX5_patterns 31 = .ok (.invokevirtual 85, 3) := by decide +kernel
theorem dX5_patterns_34 : decode cX5_patterns 34 = .ok (.ireturn, 1) := by decide +kernel
theorem dX5_patterns_35 : decode cX5_patterns 35 = .ok (.aload_n 0, 1) := by decide +kernel
theorem dX5_patterns_36 : decode cX5_patterns 36 = .ok (.invokevirtual 174, 3) := by decide +kernel
theorem dX5_patterns_39 : decode cX5_patterns 39 = .ok (.iconst 0, 1) := by decide +kernel
theorem dX5_patterns_40 : decode cX5_patterns 40 = .ok (.istore_n 3, 1) := by decide +kernel
theorem dX5_patterns_41 : decode cX5_patterns 41 = .ok (.iconst 0, 1) := by decide +kernel
theorem dX5_patterns_42 : decode cX5_patterns 42 = .ok (.istore 4, 2) := by decide +kernel
theorem dX5_patterns_44 : decode cX5_patterns 44 = .ok (.sipush 255, 3) := by decide +kernel
theorem dX5_patterns_47 : decode cX5_patterns 47 = .ok (.istore 5, 2) := by decide +kernel
theorem dX5_patterns_49 : decode cX5_patterns 49 = .ok (.iload 5, 2) := by decide +kernel
theorem dX5_patterns_51 : decode cX5_patterns 51 = .ok (.ifCond .lt 36, 3) := by decide +kernel
theorem dX5_patterns_54 : decode cX5_patterns 54 = .ok (.aload_n 0, 1) := by decide +kernel
theorem dX5_patterns_55 : decode cX5_patterns 55 = .ok (.invokevirtual 195, 3) := by decide +kernel
theorem dX5_patterns_58 : decode cX5_patterns 58 = .ok (.aload_n 0, 1) := by decide +kernel
theorem dX5_patterns_59 : decode cX5_patterns 59 = .ok (.getfield 31, 3) := by decide +kernel
theorem dX5_patterns_62 : decode cX5_patterns 62 = .ok (.iconst 3, 1) := by decide +kernel
theorem dX5_patterns_63 : decode cX5_patterns 63 = .ok (.iload 5, 2) := by decide +kernel
theorem dX5_patterns_65 : decode cX5_patterns 65 = .ok (.iastore, 1) := by decide +kernel
theorem dX5_patterns_66 : decode cX5_patterns 66 = .ok (.aload_n 0, 1) := by decide +kernel
theorem dX5_patterns_67 : decode cX5_patterns 67 = .ok (.iload_n 1, 1) := by decide +kernel
theorem dX5_patterns_68 : decode cX5_patterns 68 = .ok (.invokevirtual 211, 3) := by decide +kernel
theorem dX5_patterns_71 : decode cX5_patterns 71 = .ok (.ifCond .eq 10, 3) := by decide +kernel
theorem dX5_patterns_74 : decode cX5_patterns 74 = .ok (.iinc 3 1, 3) := by decide +kernel
theorem dX5_patterns_77 : decode cX5_patterns 77 = .ok (.iload 5, 2) := by decide +kernel
theorem dX5_patterns_79 : decode cX5_patterns 79 = .ok (.istore 4, 2) := by decide +kernel
theorem dX5_patterns_81 : decode cX5_patterns 81 = .ok (.iinc 5 (-1), 3) := by decide +kernel
theorem dX5_patterns_84 : decode cX5_patterns 84 = .ok (.goto (-35), 3) := by decide +kernel
theorem dX5_patterns_87 : decode cX5_patterns 87 = .ok (.iload_n 3, 1) := by decide +kernel
theorem dX5_patterns_88 : decode cX5_patterns 88 = .ok (.ifCond .ne 8, 3) := by decide +kernel
theorem dX5_patterns_91 : decode cX5_patterns 91 = .ok (.bipush (-9), 2) := by decide +kernel
theorem dX5_patterns_93 : decode cX5_patterns 93 = .ok (.goto 10, 3) := by decide +kernel
theorem dX5_patterns_96 : decode cX5_patterns 96 = .ok (.aload_n 0, 1) := by decide +kernel
theorem dX5_patterns_97 : decode cX5_patterns 97 = .ok (.iload_n 3, 1) := by decide +kernel
theorem dX5_patterns_98 : decode cX5_patterns 98 = .ok (.iload 4, 2) := by decide +kernel
theorem dX5_patterns_100 : decode cX5_patterns 100 = .ok (.invokevirtual 189, 3) := by decide +kernel
theorem dX5_patterns_103 : decode cX5_patterns 103 = .ok (.ireturn, 1) := by decide +kernel
theorem dX5_kindsBy_0 : decode cX5_kindsBy 0 = .ok (.aload_n 0, 1) := by decide +kernel
theorem dX5_kindsBy_1 : decode cX5_kindsBy 1 = .ok (.invokevirtual 174, 3) := by decide +kernel
theorem dX5_kindsBy_4 : decode cX5_kindsBy 4 = .ok (.iconst 0, 1) := by decide +kernel
theorem dX5_kindsBy_5 : decode cX5_kindsBy 5 = .ok (.istore_n 3, 1) := by decide +kernel
theorem dX5_kindsBy_6 : decode cX5_kindsBy 6 = .ok (.iconst 0, 1) := by decide +kernel
theorem dX5_kindsBy_7 : decode cX5_kindsBy 7 = .ok (.istore 4, 2) := by decide +kernel
theorem dX5_kindsBy_9 : decode cX5_kindsBy 9 = .ok (.iload 4, 2) := by decide +kernel
theorem dX5_kindsBy_11 : decode cX5_kindsBy 11 = .ok (.bipush 6, 2) := by decide +kernel
theorem dX5_kindsBy_13 : decode cX5_kindsBy 13 = .ok (.if_icmp .ge 40, 3) := by decide +kernel
theorem dX5_kindsBy_16 : decode cX5_kindsBy 16 = .ok (.aload_n 0, 1) := by decide +kernel
theorem dX5_kindsBy_17 : decode cX5_kindsBy 17 = .ok (.getfield 34, 3) := by decide +kernel
theorem dX5_kindsBy_20 : decode cX5_kindsBy 20 = .ok (.iload_n 1, 1) := by decide +kernel
theorem dX5_kindsBy_21 : decode cX5_kindsBy 21 = .ok (.iload 4, 2) := by decide +kernel
theorem dX5_kindsBy_23 : decode cX5_kindsBy 23 = .ok (.iastore, 1) := by decide +kernel
theorem dX5_kindsBy_24 : decode cX5_kindsBy 24 = .ok (.aload_n 0, 1) := by decide +kernel
theorem dX5_kindsBy_25 : decode cX5_kindsBy 25 = .ok (.invokevirtual 195, 3) := by decide +kernel
theorem dX5_kindsBy_28 : decode cX5_kindsBy 28 = .ok (.iload_n 3, 1) := by decide +kernel
theorem dX5_kindsBy_29 : decode cX5_kindsBy 29 = .ok (.aload_n 0, 1) := by decide +kernel
theorem dX5_kindsBy_30 : decode cX5_kindsBy 30 = .ok (.iload_n 2, 1) := by decide +kernel
theorem dX5_kindsBy_31 : decode cX5_kindsBy 31 = .ok (.invokevirtual 211, 3) := by decide +kernel
theorem dX5_kindsBy_34 : decode cX5_kindsBy 34 = .ok (.ifCond .eq 10, 3) := by decide +kernel
theorem dX5_kindsBy_37 : decode cX5_kindsBy 37 = .ok (.iconst 1, 1) := by decide +kernel
theorem dX5_kindsBy_38 : decode cX5_kindsBy 38 = .ok (.iload 4, 2) := by decide +kernel
theorem dX5_kindsBy_40 : decode cX5_kindsBy 40 = .ok (.ishl, 1) := by decide +kernel
theorem dX5_kindsBy_41 : decode cX5_kindsBy 41 = .ok (.goto 4, 3) := by decide +kernel
theorem dX5_kindsBy_44 : decode cX5_kindsBy 44 = .ok (.iconst 0, 1) := by decide +kernel
theorem dX5_kindsBy_45 : decode cX5_kindsBy 45 = .ok (.ior, 1) := by decide +kernel
theorem dX5_kindsBy_46 : decode cX5_kindsBy 46 = .ok (.istore_n 3, 1) := by decide +kernel
theorem dX5_kindsBy_47 : decode cX5_kindsBy 47 = .ok (.iinc 4 1, 3) := by decide +kernel
theorem dX5_kindsBy_50 : decode cX5_kindsBy 50 = .ok (.goto (-41), 3) := by decide +kernel
theorem dX5_kindsBy_53 : decode cX5_kindsBy 53 = .ok (.iload_n 3, 1) := by decide +kernel
theorem dX5_kindsBy_54 : decode cX5_kindsBy 54 = .ok (.ireturn, 1) := by decide +kernel
theorem dX5_kinds_0 : decode cX5_kinds 0 = .ok (.aload_n 0, 1) := by decide +kernel
theorem dX5_kinds_1 : decode cX5_kinds 1 = .ok (.iload_n 1, 1) := by decide +kernel
theorem dX5_kinds_2 : decode cX5_kinds 2 = .ok (.invokevirtual 166, 3) := by decide +kernel
theorem dX5_kinds_5 : decode cX5_kinds 5 = .ok (.ifCond .eq 10, 3) := by decide +kernel
theorem dX5_kinds_8 : decode cX5_kinds 8 = .ok (.iload_n 2, 1) := by decide +kernel
theorem dX5_kinds_9 : decode cX5_kinds 9 = .ok (.invokestatic 81, 3) := by decide +kernel
theorem dX5_kinds_12 : decode cX5_kinds 12 = .ok (.ifCond .ne 5, 3) := by decide +kernel
theorem dX5_kinds_15 : decode cX5_kinds 15 = .ok (.iconst (-1), 1) := by decide +kernel
theorem dX5_kinds_16 : decode cX5_kinds 16 = .ok (.ireturn, 1) := by decide +kernel
theorem dX5_kinds_17 : decode cX5_kinds 17 = .ok (.aload_n 0, 1) := by decide +kernel
theorem dX5_kinds_18 : decode cX5_kinds 18 = .ok (.iload_n 2, 1) := by decide +kernel
theorem dX5_kinds_19 : decode cX5_kinds 19 = .ok (.invokevirtual 208, 3) := by decide +kernel
theorem dX5_kinds_22 : decode cX5_kinds 22 = .ok (.istore_n 3, 1) := by decide +kernel
theorem dX5_kinds_23 : decode cX5_kinds 23 = .ok (.iload_n 3, 1) := by decide +kernel
theorem dX5_kinds_24 : decode cX5_kinds 24 = .ok (.ifCond .le 11, 3) := by decide +kernel
theorem dX5_kinds_27 : decode cX5_kinds 27 = .ok (.aload_n 0, 1) := by decide +kernel
theorem dX5_kinds_28 : decode cX5_kinds 28 = .ok (.iload_n 3, 1) := by decide +kernel
theorem dX5_kinds_29 : decode cX5_kinds 29 = .ok (.invokevirtual 85, 3) := by decide +kernel
theorem dX5_kinds_32 : decode cX5_kinds 32 = .ok (.goto 9, 3) := by decide +kernel
theorem dX5_kinds_35 : decode cX5_kinds 35 = .ok (.aload_n 0, 1) := by decide +kernel
theorem dX5_kinds_36 : decode cX5_kinds 36 = .ok (.iload_n 1, 1) := by decide +kernel
theorem dX5_kinds_37 : decode cX5_kinds 37 = .ok (.iload_n 2, 1) := by decide +kernel
theorem dX5_kinds_38 : decode cX5_kinds 38 = .ok (.invokevirtual 214, 3) := by decide +kernel
theorem dX5_kinds_41 : decode cX5_kinds 41 = .ok (.ireturn, 1) := by decide +kernel
theorem dX5_test_0 : decode cX5_test 0 = .ok (.aload_n 0, 1) := by decide +kernel
theorem dX5_test_1 : decode cX5_test 1 = .ok (.iload_n 1, 1) := by decide +kernel
theorem dX5_test_2 : decode cX5_test 2 = .ok (.invokevirtual 166, 3) := by decide +kernel
theorem dX5_test_5 : decode cX5_test 5 = .ok (.ifCond .eq 10, 3) := by decide +kernel
theorem dX5_test_8 : decode cX5_test 8 = .ok (.iload_n 2, 1) := by decide +kernel
theorem dX5_test_9 : decode cX5_test 9 = .ok (.invokestatic 81, 3) := by decide +kernel
theorem dX5_test_12 : decode cX5_test 12 = .ok (.ifCond .ne 5, 3) := by decide +kernel
theorem dX5_test_15 : decode cX5_test 15 = .ok (.iconst (-1), 1) := by decide +kernel
theorem dX5_test_16 : decode cX5_test 16 = .ok (.ireturn, 1) := by decide +kernel
theorem dX5_test_17 : decode cX5_test 17 = .ok (.aload_n 0, 1) := by decide +kernel
theorem dX5_test_18 : decode cX5_test 18 = .ok (.iload_n 2, 1) := by decide +kernel
theorem dX5_test_19 : decode cX5_test 19 = .ok (.invokevirtual 208, 3) := by decide +kernel
theorem dX5_test_22 : decode cX5_test 22 = .ok (.istore_n 3, 1) := by decide +kernel
theorem dX5_test_23 : decode cX5_test 23 = .ok (.iload_n 3, 1) := by decide +kernel
theorem dX5_test_24 : decode cX5_test 24 = .ok (.ifCond .le 9, 3) := by decide +kernel
theorem dX5_test_27 : decode cX5_test 27 = .ok (.aload_n 0, 1) := by decide +kernel
theorem dX5_test_28 : decode cX5_test 28 = .ok (.iload_n 3, 1) := by decide +kernel
theorem dX5_test_29 : decode cX5_test 29 = .ok (.invokevirtual 85, 3) := by decide +kernel
theorem dX5_test_32 : decode cX5_test 32 = .ok (.ireturn, 1) := by decide +kernel
theorem dX5_test_33 : decode cX5_test 33 = .ok (.aload_n 0, 1) := by decide +kernel
theorem dX5_test_34 : decode cX5_test 34 = .ok (.iload_n 1, 1) := by decide +kernel
theorem dX5_test_35 : decode cX5_test 35 = .ok (.iload_n 2, 1) := by decide +kernel
theorem dX5_test_36 : decode cX5_test 36 = .ok (.invokevirtual 214, 3) := by decide +kernel
theorem dX5_test_39 : decode cX5_test 39 = .ok (.istore 4, 2) := by decide +kernel
theorem dX5_test_41 : decode cX5_test 41 = .ok (.iload 4, 2) := by decide +kernel
theorem dX5_test_43 : decode cX5_test 43 = .ok (.ifCond .ne 6, 3) := by decide +kernel
theorem dX5_test_46 : decode cX5_test 46 = .ok (.bipush (-9), 2) := by decide +kernel
theorem dX5_test_48 : decode cX5_test 48 = .ok (.ireturn, 1) := by decide +kernel
theorem dX5_test_49 : decode cX5_test 49 = .ok (.iconst 0, 1) := by decide +kernel
theorem dX5_test_50 : decode cX5_test 50 = .ok (.istore 5, 2) := by decide +kernel
theorem dX5_test_52 : decode cX5_test 52 = .ok (.iload 5, 2) := by decide +kernel
theorem dX5_test_54 : decode cX5_test 54 = .ok (.bipush 6, 2) := by decide +kernel
theorem dX5_test_56 : decode cX5_test 56 = .ok (.if_icmp .ge 67, 3) := by decide +kernel
theorem dX5_test_59 : decode cX5_test 59 = .ok (.aload_n 0, 1) := by decide +kernel
theorem dX5_test_60 : decode cX5_test 60 = .ok (.getfield 34, 3) := by decide +kernel
theorem dX5_test_63 : decode cX5_test 63 = .ok (.iload_n 1, 1) := by decide +kernel
theorem dX5_test_64 : decode cX5_test 64 = .ok (.iload 5, 2) := by decide +kernel
theorem dX5_test_66 : decode cX5_test 66 = .ok (.iastore, 1) := by decide +kernel
theorem dX5_test_67 : decode cX5_test 67 = .ok (.aload_n 0, 1) := by decide +kernel
theorem dX5_test_68 : decode cX5_test 68 = .ok (.invokevirtual 195, 3) := by decide +kernel
theorem dX5_test_71 : decode cX5_test 71 = .ok (.iconst 1, 1) := by decide +kernel
theorem dX5_test_72 : decode cX5_test 72 = .ok (.istore 6, 2) := by decide +kernel
theorem dX5_test_74 : decode cX5_test 74 = .ok (.iload 6, 2) := by decide +kernel
theorem dX5_test_76 : decode cX5_test 76 = .ok (.bipush 21, 2) := by decide +kernel
theorem dX5_test_78 : decode cX5_test 78 = .ok (.if_icmp .ge 39, 3) := by decide +kernel
theorem dX5_test_81 : decode cX5_test 81 = .ok (.aload_n 0, 1) := by decide +kernel
theorem dX5_test_82 : decode cX5_test 82 = .ok (.iconst 1, 1) := by decide +kernel
theorem dX5_test_83 : decode cX5_test 83 = .ok (.iconst 0, 1) := by decide +kernel
theorem dX5_test_84 : decode cX5_test 84 = .ok (.invokevirtual 198, 3) := by decide +kernel
theorem dX5_test_87 : decode cX5_test 87 = .ok (.istore 7, 2) := by decide +kernel
theorem dX5_test_89 : decode cX5_test 89 = .ok (.aload_n 0, 1) := by decide +kernel
theorem dX5_test_90 : decode cX5_test 90 = .ok (.getfield 60, 3) := by decide +kernel
theorem dX5_test_93 : decode cX5_test 93 = .ok (.bipush 21, 2) := by decide +kernel
theorem dX5_test_95 : decode cX5_test 95 = .ok (.iload 5, 2) := by decide +kernel
theorem dX5_test_97 : decode cX5_test 97 = .ok (.imul, 1) := by decide +kernel
theorem dX5_test_98 : decode cX5_test 98 = .ok (.iload 6, 2) := by decide +kernel
end
section
theorem dX5_test_100 : decode cX5_test 100 = .ok (.iadd, 1) := by decide +kernel
theorem dX5_test_101 : decode cX5_test 101 = .ok (.aload_n 0, 1) := by decide +kernel
theorem dX5_test_102 : decode cX5_test 102 = .ok (.getfield 31, 3) := by decide +kernel
theorem dX5_test_105 : decode cX5_test 105 = .ok (.bipush 12, 2) := by decide +kernel
theorem dX5_test_107 : decode cX5_test 107 = .ok (.iload_n 1, 1) := by decide +kernel
theorem dX5_test_108 : decode cX5_test 108 = .ok (.iadd, 1) := by decide +kernel
theorem dX5_test_109 : decode cX5_test 109 = .ok (.iaload, 1) := by decide +kernel
theorem dX5_test_110 : decode cX5_test 110 = .ok (.iastore, 1) := by decide +kernel
theorem dX5_test_111 : decode cX5_test 111 = .ok (.iinc 6 1, 3) := by decide +kernel
theorem dX5_test_114 : decode cX5_test 114 = .ok (.goto (-40), 3) := by decide +kernel
theorem dX5_test_117 : decode cX5_test 117 = .ok (.iinc 5 1, 3) := by decide +kernel
theorem dX5_test_120 : decode cX5_test 120 = .ok (.goto (-68), 3) := by decide +kernel
theorem dX5_test_123 : decode cX5_test 123 = .ok (.bipush (-9), 2) := by decide +kernel
theorem dX5_test_125 : decode cX5_test 125 = .ok (.istore 5, 2) := by decide +kernel
theorem dX5_test_127 : decode cX5_test 127 = .ok (.bipush 7, 2) := by decide +kernel
theorem dX5_test_129 : decode cX5_test 129 = .ok (.istore 6, 2) := by decide +kernel
theorem dX5_test_131 : decode cX5_test 131 = .ok (.iconst 1, 1) := by decide +kernel
theorem dX5_test_132 : decode cX5_test 132 = .ok (.istore 7, 2) := by decide +kernel
theorem dX5_test_134 : decode cX5_test 134 = .ok (.iload 7, 2) := by decide +kernel
theorem dX5_test_136 : decode cX5_test 136 = .ok (.bipush 21, 2) := by decide +kernel
theorem dX5_test_138 : decode cX5_test 138 = .ok (.if_icmp .ge 132, 3) := by decide +kernel
theorem dX5_test_141 : decode cX5_test 141 = .ok (.iconst 0, 1) := by decide +kernel
theorem dX5_test_142 : decode cX5_test 142 = .ok (.istore 8, 2) := by decide +kernel
theorem dX5_test_144 : decode cX5_test 144 = .ok (.iconst 0, 1) := by decide +kernel
theorem dX5_test_145 : decode cX5_test 145 = .ok (.istore 9, 2) := by decide +kernel
theorem dX5_test_147 : decode cX5_test 147 = .ok (.iload 9, 2) := by decide +kernel
theorem dX5_test_149 : decode cX5_test 149 = .ok (.iconst 3, 1) := by decide +kernel
theorem dX5_test_150 : decode cX5_test 150 = .ok (.if_icmp .ge 82, 3) := by decide +kernel
theorem dX5_test_153 : decode cX5_test 153 = .ok (.iconst 0, 1) := by decide +kernel
theorem dX5_test_154 : decode cX5_test 154 = .ok (.istore 10, 2) := by decide +kernel
theorem dX5_test_156 : decode cX5_test 156 = .ok (.iconst 0, 1) := by decide +kernel
theorem dX5_test_157 : decode cX5_test 157 = .ok (.istore 11, 2) := by decide +kernel
theorem dX5_test_159 : decode cX5_test 159 = .ok (.iload 11, 2) := by decide +kernel
theorem dX5_test_161 : decode cX5_test 161 = .ok (.bipush 6, 2) := by decide +kernel
theorem dX5_test_163 : decode cX5_test 163 = .ok (.if_icmp .ge 47, 3) := by decide +kernel
theorem dX5_test_166 : decode cX5_test 166 = .ok (.iload 10, 2) := by decide +kernel
theorem dX5_test_168 : decode cX5_test 168 = .ok (.iload 4, 2) := by decide +kernel
theorem dX5_test_170 : decode cX5_test 170 = .ok (.iload 11, 2) := by decide +kernel
theorem dX5_test_172 : decode cX5_test 172 = .ok (.invokestatic 139, 3) := by decide +kernel
theorem dX5_test_175 : decode cX5_test 175 = .ok (.ifCond .eq 25, 3) := by decide +kernel
theorem dX5_test_178 : decode cX5_test 178 = .ok (.aload_n 0, 1) := by decide +kernel
theorem dX5_test_179 : decode cX5_test 179 = .ok (.getfield 60, 3) := by decide +kernel
theorem dX5_test_182 : decode cX5_test 182 = .ok (.bipush 21, 2) := by decide +kernel
theorem dX5_test_184 : decode cX5_test 184 = .ok (.iload 11, 2) := by decide +kernel
theorem dX5_test_186 : decode cX5_test 186 = .ok (.imul, 1) := by decide +kernel
theorem dX5_test_187 : decode cX5_test 187 = .ok (.iload 7, 2) := by decide +kernel
theorem dX5_test_189 : decode cX5_test 189 = .ok (.iadd, 1) := by decide +kernel
theorem dX5_test_190 : decode cX5_test 190 = .ok (.iaload, 1) := by decide +kernel
theorem dX5_test_191 : decode cX5_test 191 = .ok (.iload 9, 2) := by decide +kernel
theorem dX5_test_193 : decode cX5_test 193 = .ok (.if_icmp .ne 7, 3) := by decide +kernel
theorem dX5_test_196 : decode cX5_test 196 = .ok (.iconst 1, 1) := by decide +kernel
theorem dX5_test_197 : decode cX5_test 197 = .ok (.goto 4, 3) := by decide +kernel
theorem dX5_test_200 : decode cX5_test 200 = .ok (.iconst 0, 1) := by decide +kernel
theorem dX5_test_201 : decode cX5_test 201 = .ok (.iadd, 1) := by decide +kernel
theorem dX5_test_202 : decode cX5_test 202 = .ok (.istore 10, 2) := by decide +kernel
theorem dX5_test_204 : decode cX5_test 204 = .ok (.iinc 11 1, 3) := by decide +kernel
theorem dX5_test_207 : decode cX5_test 207 = .ok (.goto (-48), 3) := by decide +kernel
theorem dX5_test_210 : decode cX5_test 210 = .ok (.iload 10, 2) := by decide +kernel
theorem dX5_test_212 : decode cX5_test 212 = .ok (.iload 8, 2) := by decide +kernel
theorem dX5_test_214 : decode cX5_test 214 = .ok (.if_icmp .le 8, 3) := by decide +kernel
theorem dX5_test_217 : decode cX5_test 217 = .ok (.iload 10, 2) := by decide +kernel
theorem dX5_test_219 : decode cX5_test 219 = .ok (.goto 5, 3) := by decide +kernel
theorem dX5_test_222 : decode cX5_test 222 = .ok (.iload 8, 2) := by decide +kernel
theorem dX5_test_224 : decode cX5_test 224 = .ok (.istore 8, 2) := by decide +kernel
theorem dX5_test_226 : decode cX5_test 226 = .ok (.iinc 9 1, 3) := by decide +kernel
theorem dX5_test_229 : decode cX5_test 229 = .ok (.goto (-82), 3) := by decide +kernel
theorem dX5_test_232 : decode cX5_test 232 = .ok (.iload 8, 2) := by decide +kernel
theorem dX5_test_234 : decode cX5_test 234 = .ok (.iload 6, 2) := by decide +kernel
theorem dX5_test_236 : decode cX5_test 236 = .ok (.if_icmp .ge 8, 3) := by decide +kernel
theorem dX5_test_239 : decode cX5_test 239 = .ok (.iload 7, 2) := by decide +kernel
theorem dX5_test_241 : decode cX5_test 241 = .ok (.goto 5, 3) := by decide +kernel
theorem dX5_test_244 : decode cX5_test 244 = .ok (.iload 5, 2) := by decide +kernel
theorem dX5_test_246 : decode cX5_test 246 = .ok (.istore 5, 2) := by decide +kernel
theorem dX5_test_248 : decode cX5_test 248 = .ok (.iload 8, 2) := by decide +kernel
theorem dX5_test_250 : decode cX5_test 250 = .ok (.iload 6, 2) := by decide +kernel
theorem dX5_test_252 : decode cX5_test 252 = .ok (.if_icmp .ge 8, 3) := by decide +kernel
theorem dX5_test_255 : decode cX5_test 255 = .ok (.iload 8, 2) := by decide +kernel
theorem dX5_test_257 : decode cX5_test 257 = .ok (.goto 5, 3) := by decide +kernel
theorem dX5_test_260 : decode cX5_test 260 = .ok (.iload 6, 2) := by decide +kernel
theorem dX5_test_262 : decode cX5_test 262 = .ok (.istore 6, 2) := by decide +kernel
theorem dX5_test_264 : decode cX5_test 264 = .ok (.iinc 7 1, 3) := by decide +kernel
theorem dX5_test_267 : decode cX5_test 267 = .ok (.goto (-133), 3) := by decide +kernel
theorem dX5_test_270 : decode cX5_test 270 = .ok (.aload_n 0, 1) := by decide +kernel
theorem dX5_test_271 : decode cX5_test 271 = .ok (.iload 5, 2) := by decide +kernel
theorem dX5_test_273 : decode cX5_test 273 = .ok (.iload 6, 2) := by decide +kernel
theorem dX5_test_275 : decode cX5_test 275 = .ok (.invokevirtual 189, 3) := by decide +kernel
theorem dX5_test_278 : decode cX5_test 278 = .ok (.ireturn, 1) := by decide +kernel
theorem dX5_patternBy_0 : decode cX5_patternBy 0 = .ok (.aload_n 0, 1) := by decide +kernel
theorem dX5_patternBy_1 : decode cX5_patternBy 1 = .ok (.getfield 28, 3) := by decide +kernel
theorem dX5_patternBy_4 : decode cX5_patternBy 4 = .ok (.iconst 3, 1) := by decide +kernel
theorem dX5_patternBy_5 : decode cX5_patternBy 5 = .ok (.iaload, 1) := by decide +kernel
theorem dX5_patternBy_6 : decode cX5_patternBy 6 = .ok (.istore_n 3, 1) := by decide +kernel
theorem dX5_patternBy_7 : decode cX5_patternBy 7 = .ok (.iload_n 1, 1) := by decide +kernel
theorem dX5_patternBy_8 : decode cX5_patternBy 8 = .ok (.istore 4, 2) := by decide +kernel
theorem dX5_patternBy_10 : decode cX5_patternBy 10 = .ok (.iconst 0, 1) := by decide +kernel
theorem dX5_patternBy_11 : decode cX5_patternBy 11 = .ok (.istore 5, 2) := by decide +kernel
theorem dX5_patternBy_13 : decode cX5_patternBy 13 = .ok (.iload 5, 2) := by decide +kernel
theorem dX5_patternBy_15 : decode cX5_patternBy 15 = .ok (.iload_n 2, 1) := by decide +kernel
theorem dX5_patternBy_16 : decode cX5_patternBy 16 = .ok (.if_icmp .ge 72, 3) := by decide +kernel
theorem dX5_patternBy_19 : decode cX5_patternBy 19 = .ok (.iload 4, 2) := by decide +kernel
theorem dX5_patternBy_21 : decode cX5_patternBy 21 = .ok (.bipush 9, 2) := by decide +kernel
theorem dX5_patternBy_23 : decode cX5_patternBy 23 = .ok (.irem, 1) := by decide +kernel
theorem dX5_patternBy_24 : decode cX5_patternBy 24 = .ok (.istore 6, 2) := by decide +kernel
theorem dX5_patternBy_26 : decode cX5_patternBy 26 = .ok (.iload 4, 2) := by decide +kernel
theorem dX5_patternBy_28 : decode cX5_patternBy 28 = .ok (.bipush 9, 2) := by decide +kernel
theorem dX5_patternBy_30 : decode cX5_patternBy 30 = .ok (.idiv, 1) := by decide +kernel
theorem dX5_patternBy_31 : decode cX5_patternBy 31 = .ok (.istore 4, 2) := by decide +kernel
theorem dX5_patternBy_33 : decode cX5_patternBy 33 = .ok (.iload 6, 2) := by decide +kernel
theorem dX5_patternBy_35 : decode cX5_patternBy 35 = .ok (.bipush 8, 2) := by decide +kernel
theorem dX5_patternBy_37 : decode cX5_patternBy 37 = .ok (.if_icmp .ge 27, 3) := by decide +kernel
theorem dX5_patternBy_40 : decode cX5_patternBy 40 = .ok (.iload_n 3, 1) := by decide +kernel
theorem dX5_patternBy_41 : decode cX5_patternBy 41 = .ok (.iload 6, 2) := by decide +kernel
theorem dX5_patternBy_43 : decode cX5_patternBy 43 = .ok (.invokestatic 139, 3) := by decide +kernel
theorem dX5_patternBy_46 : decode cX5_patternBy 46 = .ok (.iload 5, 2) := by decide +kernel
theorem dX5_patternBy_48 : decode cX5_patternBy 48 = .ok (.iconst 2, 1) := by decide +kernel
theorem dX5_patternBy_49 : decode cX5_patternBy 49 = .ok (.irem, 1) := by decide +kernel
theorem dX5_patternBy_50 : decode cX5_patternBy 50 = .ok (.ifCond .ne 7, 3) := by decide +kernel
theorem dX5_patternBy_53 : decode cX5_patternBy 53 = .ok (.iconst 1, 1) := by decide +kernel
theorem dX5_patternBy_54 : decode cX5_patternBy 54 = .ok (.goto 4, 3) := by decide +kernel
theorem dX5_patternBy_57 : decode cX5_patternBy 57 = .ok (.iconst 0, 1) := by decide +kernel
theorem dX5_patternBy_58 : decode cX5_patternBy 58 = .ok (.if_icmp .eq 6, 3) := by decide +kernel
theorem dX5_patternBy_61 : decode cX5_patternBy 61 = .ok (.bipush (-9), 2) := by decide +kernel
theorem dX5_patternBy_63 : decode cX5_patternBy 63 = .ok (.ireturn, 1) := by decide +kernel
theorem dX5_patternBy_64 : decode cX5_patternBy 64 = .ok (.iload_n 3, 1) := by decide +kernel
theorem dX5_patternBy_65 : decode cX5_patternBy 65 = .ok (.iload 6, 2) := by decide +kernel
theorem dX5_patternBy_67 : decode cX5_patternBy 67 = .ok (.bipush 8, 2) := by decide +kernel
theorem dX5_patternBy_69 : decode cX5_patternBy 69 = .ok (.if_icmp .ge 10, 3) := by decide +kernel
theorem dX5_patternBy_72 : decode cX5_patternBy 72 = .ok (.iconst 1, 1) := by decide +kernel
theorem dX5_patternBy_73 : decode cX5_patternBy 73 = .ok (.iload 6, 2) := by decide +kernel
theorem dX5_patternBy_75 : decode cX5_patternBy 75 = .ok (.ishl, 1) := by decide +kernel
theorem dX5_patternBy_76 : decode cX5_patternBy 76 = .ok (.goto 4, 3) := by decide +kernel
theorem dX5_patternBy_79 : decode cX5_patternBy 79 = .ok (.iconst 0, 1) := by decide +kernel
theorem dX5_patternBy_80 : decode cX5_patternBy 80 = .ok (.ixor, 1) := by decide +kernel
theorem dX5_patternBy_81 : decode cX5_patternBy 81 = .ok (.istore_n 3, 1) := by decide +kernel
theorem dX5_patternBy_82 : decode cX5_patternBy 82 = .ok (.iinc 5 1, 3) := by decide +kernel
theorem dX5_patternBy_85 : decode cX5_patternBy 85 = .ok (.goto (-72), 3) := by decide +kernel
theorem dX5_patternBy_88 : decode cX5_patternBy 88 = .ok (.iload_n 3, 1) := by decide +kernel
theorem dX5_patternBy_89 : decode cX5_patternBy 89 = .ok (.ireturn, 1) := by decide +kernel
theorem dX5_duel_0 : decode cX5_duel 0 = .ok (.iload_n 1, 1) := by decide +kernel
theorem dX5_duel_1 : decode cX5_duel 1 = .ok (.i2l, 1) := by decide +kernel
theorem dX5_duel_2 : decode cX5_duel 2 = .ok (.lconst 0, 1) := by decide +kernel
theorem dX5_duel_3 : decode cX5_duel 3 = .ok (.ldc2_w 217, 3) := by decide +kernel
theorem dX5_duel_6 : decode cX5_duel 6 = .ok (.invokestatic 75, 3) := by decide +kernel
theorem dX5_duel_9 : decode cX5_duel 9 = .ok (.ifCond .ne 5, 3) := by decide +kernel
theorem dX5_duel_12 : decode cX5_duel 12 = .ok (.iconst (-1), 1) := by decide +kernel
theorem dX5_duel_13 : decode cX5_duel 13 = .ok (.ireturn, 1) := by decide +kernel
theorem dX5_duel_14 : decode cX5_duel 14 = .ok (.aload_n 0, 1) := by decide +kernel
theorem dX5_duel_15 : decode cX5_duel 15 = .ok (.getfield 115, 3) := by decide +kernel
theorem dX5_duel_18 : decode cX5_duel 18 = .ok (.ifCond .ne 6, 3) := by decide +kernel
theorem dX5_duel_21 : decode cX5_duel 21 = .ok (.bipush (-4), 2) := by decide +kernel
theorem dX5_duel_23 : decode cX5_duel 23 = .ok (.ireturn, 1) := by decide +kernel
theorem dX5_duel_24 : decode cX5_duel 24 = .ok (.aload_n 0, 1) := by decide +kernel
theorem dX5_duel_25 : decode cX5_duel 25 = .ok (.invokevirtual 174, 3) := by decide +kernel
theorem dX5_duel_28 : decode cX5_duel 28 = .ok (.iconst 1, 1) := by decide +kernel
theorem dX5_duel_29 : decode cX5_duel 29 = .ok (.istore_n 2, 1) := by decide +kernel
theorem dX5_duel_30 : decode cX5_duel 30 = .ok (.iconst 0, 1) := by decide +kernel
theorem dX5_duel_31 : decode cX5_duel 31 = .ok (.istore_n 3, 1) := by decide +kernel
theorem dX5_duel_32 : decode cX5_duel 32 = .ok (.iload_n 3, 1) := by decide +kernel
theorem dX5_duel_33 : decode cX5_duel 33 = .ok (.iload_n 1, 1) := by decide +kernel
theorem dX5_duel_34 : decode cX5_duel 34 = .ok (.if_icmp .ge 14, 3) := by decide +kernel
theorem dX5_duel_37 : decode cX5_duel 37 = .ok (.iload_n 2, 1) := by decide +kernel
theorem dX5_duel_38 : decode cX5_duel 38 = .ok (.bipush 9, 2) := by decide +kernel
theorem dX5_duel_40 : decode cX5_duel 40 = .ok (.imul, 1) := by decide +kernel
theorem dX5_duel_41 : decode cX5_duel 41 = .ok (.istore_n 2, 1) := by decide +kernel
theorem dX5_duel_42 : decode cX5_duel 42 = .ok (.iinc 3 1, 3) := by decide +kernel
theorem dX5_duel_45 : decode cX5_duel 45 = .ok (.goto (-13), 3) := by decide +kernel
theorem dX5_duel_48 : decode cX5_duel 48 = .ok (.iconst 0, 1) := by decide +kernel
theorem dX5_duel_49 : decode cX5_duel 49 = .ok (.istore_n 3, 1) := by decide +kernel
theorem dX5_duel_50 : decode cX5_duel 50 = .ok (.iload_n 3, 1) := by decide +kernel
theorem dX5_duel_51 : decode cX5_duel 51 = .ok (.iload_n 2, 1) := by decide +kernel
theorem dX5_duel_52 : decode cX5_duel 52 = .ok (.if_icmp .ge 60, 3) := by decide +kernel
theorem dX5_duel_55 : decode cX5_duel 55 = .ok (.aload_n 0, 1) := by decide +kernel
theorem dX5_duel_56 : decode cX5_duel 56 = .ok (.iload_n 3, 1) := by decide +kernel
theorem dX5_duel_57 : decode cX5_duel 57 = .ok (.iload_n 1, 1) := by decide +kernel
theorem dX5_duel_58 : decode cX5_duel 58 = .ok (.invokevirtual 219, 3) := by decide +kernel
theorem dX5_duel_61 : decode cX5_duel 61 = .ok (.istore 4, 2) := by decide +kernel
theorem dX5_duel_63 : decode cX5_duel 63 = .ok (.iload 4, 2) := by decide +kernel
theorem dX5_duel_65 : decode cX5_duel 65 = .ok (.bipush (-9), 2) := by decide +kernel
theorem dX5_duel_67 : decode cX5_duel 67 = .ok (.if_icmp .ne 14, 3) := by decide +kernel
theorem dX5_duel_70 : decode cX5_duel 70 = .ok (.aload_n 0, 1) := by decide +kernel
theorem dX5_duel_71 : decode cX5_duel 71 = .ok (.getfield 63, 3) := by decide +kernel
theorem dX5_duel_74 : decode cX5_duel 74 = .ok (.iload_n 3, 1) := by decide +kernel
theorem dX5_duel_75 : decode cX5_duel 75 = .ok (.bipush (-9), 2) := by decide +kernel
theorem dX5_duel_77 : decode cX5_duel 77 = .ok (.iastore, 1) := by decide +kernel
theorem dX5_duel_78 : decode cX5_duel 78 = .ok (.goto 28, 3) := by decide +kernel
theorem dX5_duel_81 : decode cX5_duel 81 = .ok (.aload_n 0, 1) := by decide +kernel
theorem dX5_duel_82 : decode cX5_duel 82 = .ok (.invokevirtual 195, 3) := by decide +kernel
theorem dX5_duel_85 : decode cX5_duel 85 = .ok (.aload_n 0, 1) := by decide +kernel
theorem dX5_duel_86 : decode cX5_duel 86 = .ok (.getfield 31, 3) := by decide +kernel
theorem dX5_duel_89 : decode cX5_duel 89 = .ok (.iconst 3, 1) := by decide +kernel
theorem dX5_duel_90 : decode cX5_duel 90 = .ok (.iload 4, 2) := by decide +kernel
theorem dX5_duel_92 : decode cX5_duel 92 = .ok (.iastore, 1) := by decide +kernel
theorem dX5_duel_93 : decode cX5_duel 93 = .ok (.aload_n 0, 1) := by decide +kernel
theorem dX5_duel_94 : decode cX5_duel 94 = .ok (.getfield 63, 3) := by decide +kernel
theorem dX5_duel_97 : decode cX5_duel 97 = .ok (.iload_n 3, 1) := by decide +kernel
theorem dX5_duel_98 : decode cX5_duel 98 = .ok (.aload_n 0, 1) := by decide +kernel
theorem dX5_duel_99 : decode cX5_duel 99 = .ok (.bipush 8, 2) := by decide +kernel
theorem dX5_duel_101 : decode cX5_duel 101 = .ok (.iconst 0, 1) := by decide +kernel
theorem dX5_duel_102 : decode cX5_duel 102 = .ok (.invokevirtual 198, 3) := by decide +kernel
theorem dX5_duel_105 : decode cX5_duel 105 = .ok (.iastore, 1) := by decide +kernel
theorem dX5_duel_106 : decode cX5_duel 106 = .ok (.iinc 3 1, 3) := by decide +kernel
theorem dX5_duel_109 : decode cX5_duel 109 = .ok (.goto (-59), 3) := by decide +kernel
theorem dX5_duel_112 : decode cX5_duel 112 = .ok (.iload_n 1, 1) := by decide +kernel
theorem dX5_duel_113 : decode cX5_duel 113 = .ok (.iconst 1, 1) := by decide +kernel
theorem dX5_duel_114 : decode cX5_duel 114 = .ok (.isub, 1) := by decide +kernel
theorem dX5_duel_115 : decode cX5_duel 115 = .ok (.istore_n 3, 1) := by decide +kernel
theorem dX5_duel_116 : decode cX5_duel 116 = .ok (.iload_n 3, 1) := by decide +kernel
theorem dX5_duel_117 : decode cX5_duel 117 = .ok (.ifCond .lt 121, 3) := by decide +kernel
theorem dX5_duel_120 : decode cX5_duel 120 = .ok (.iload_n 2, 1) := by decide +kernel
theorem dX5_duel_121 : decode cX5_duel 121 = .ok (.bipush 9, 2) := by decide +kernel
theorem dX5_duel_123 : decode cX5_duel 123 = .ok (.idiv, 1) := by decide +kernel
theorem dX5_duel_124 : decode cX5_duel 124 = .ok (.istore_n 2, 1) := by decide +kernel
theorem dX5_duel_125 : decode cX5_duel 125 = .ok (.iconst 0, 1) := by decide +kernel
theorem dX5_duel_126 : decode cX5_duel 126 = .ok (.istore 4, 2) := by decide +kernel
theorem dX5_duel_128 : decode cX5_duel 128 = .ok (.iload 4, 2) := by decide +kernel
theorem dX5_duel_130 : decode cX5_duel 130 = .ok (.iload_n 2, 1) := by decide +kernel
theorem dX5_duel_131 : decode cX5_duel 131 = .ok (.if_icmp .ge 101, 3) := by decide +kernel
theorem dX5_duel_134 : decode cX5_duel 134 = .ok (.aload_n 0, 1) := by decide +kernel
theorem dX5_duel_135 : decode cX5_duel 135 = .ok (.getfield 63, 3) := by decide +kernel
theorem dX5_duel_138 : decode cX5_duel 138 = .ok (.iload 4, 2) := by decide +kernel
theorem dX5_duel_140 : decode cX5_duel 140 = .ok (.bipush 8, 2) := by decide +kernel
theorem dX5_duel_142 : decode cX5_duel 142 = .ok (.iload_n 2, 1) := by decide +kernel
theorem dX5_duel_143 : decode cX5_duel 143 = .ok (.imul, 1) := by decide +kernel
theorem dX5_duel_144 : decode cX5_duel 144 = .ok (.iadd, 1) := by decide +kernel
theorem dX5_duel_145 : decode cX5_duel 145 = .ok (.iaload, 1) := by decide +kernel
theorem dX5_duel_146 : decode cX5_duel 146 = .ok (.istore 5, 2) := by decide +kernel
theorem dX5_duel_148 : decode cX5_duel 148 = .ok (.iconst 0, 1) := by decide +kernel
theorem dX5_duel_149 : decode cX5_duel 149 = .ok (.istore 6, 2) := by decide +kernel
theorem dX5_duel_151 : decode cX5_duel 151 = .ok (.iload 6, 2) := by decide +kernel
theorem dX5_duel_153 : decode cX5_duel 153 = .ok (.bipush 8, 2) := by decide +kernel
theorem dX5_duel_155 : decode cX5_duel 155 = .ok (.if_icmp .ge 62, 3) := by decide +kernel
theorem dX5_duel_158 : decode cX5_duel 158 = .ok (.aload_n 0, 1) := by decide +kernel
theorem dX5_duel_159 : decode cX5_duel 159 = .ok (.getfield 63, 3) := by decide +kernel
theorem dX5_duel_162 : decode cX5_duel 162 = .ok (.iload 4, 2) := by decide +kernel
theorem dX5_duel_164 : decode cX5_duel 164 = .ok (.iload 6, 2) := by decide +kernel
theorem dX5_duel_166 : decode cX5_duel 166 = .ok (.iload_n 2, 1) := by decide +kernel
theorem dX5_duel_167 : decode cX5_duel 167 = .ok (.imul, 1) := by decide +kernel
theorem dX5_duel_168 : decode cX5_duel 168 = .ok (.iadd, 1) := by decide +kernel
theorem dX5_duel_169 : decode cX5_duel 169 = .ok (.iaload, 1) := by decide +kernel
theorem dX5_duel_170 : decode cX5_duel 170 = .ok (.istore 7, 2) := by decide +kernel
theorem dX5_duel_172 : decode cX5_duel 172 = .ok (.iload 7, 2) := by decide +kernel
theorem dX5_duel_174 : decode cX5_duel 174 = .ok (.bipush (-9), 2) := by decide +kernel
theorem dX5_duel_176 : decode cX5_duel 176 = .ok (.if_icmp .eq 31, 3) := by decide +kernel
theorem dX5_duel_179 : decode cX5_duel 179 = .ok (.iload_n 3, 1) := by decide +kernel
theorem dX5_duel_180 : decode cX5_duel 180 = .ok (.iconst 2, 1) := by decide +kernel
theorem dX5_duel_181 : decode cX5_duel 181 = .ok (.irem, 1) := by decide +kernel
theorem dX5_duel_182 : decode cX5_duel 182 = .ok (.ifCond .ne 13, 3) := by decide +kernel
theorem dX5_duel_185 : decode cX5_duel 185 = .ok (.iload 7, 2) := by decide +kernel
theorem dX5_duel_187 : decode cX5_duel 187 = .ok (.iload 5, 2) := by decide +kernel
theorem dX5_duel_189 : decode cX5_duel 189 = .ok (.if_icmp .ge 18, 3) := by decide +kernel
theorem dX5_duel_192 : decode cX5_duel 192 = .ok (.goto 10, 3) := by decide +kernel
theorem dX5_duel_195 : decode cX5_duel 195 = .ok (.iload 7, 2) := by decide +kernel
theorem dX5_duel_197 : decode cX5_duel 197 = .ok (.iload 5, 2) := by decide +kernel
theorem dX5_duel_199 : decode cX5_duel 199 = .ok (.if_icmp .le 8, 3) := by decide +kernel
theorem dX5_duel_202 : decode cX5_duel 202 = .ok (.iload 7, 2) := by decide +kernel
theorem dX5_duel_204 : decode cX5_duel 204 = .ok (.goto 5, 3) := by decide +kernel
theorem dX5_duel_207 : decode cX5_duel 207 = .ok (.iload 5, 2) := by decide +kernel
theorem dX5_duel_209 : decode cX5_duel 209 = .ok (.istore 5, 2) := by decide +kernel
theorem dX5_duel_211 : decode cX5_duel 211 = .ok (.iinc 6 1, 3) := by decide +kernel
theorem dX5_duel_214 : decode cX5_duel 214 = .ok (.goto (-63), 3) := by decide +kernel
theorem dX5_duel_217 : decode cX5_duel 217 = .ok (.aload_n 0, 1) := by decide +kernel
theorem dX5_duel_218 : decode cX5_duel 218 = .ok (.getfield 63, 3) := by decide +kernel
theorem dX5_duel_221 : decode cX5_duel 221 = .ok (.iload 4, 2) := by decide +kernel
theorem dX5_duel_223 : decode cX5_duel 223 = .ok (.iload 5, 2) := by decide +kernel
theorem dX5_duel_225 : decode cX5_duel 225 = .ok (.iastore, 1) := by decide +kernel
theorem dX5_duel_226 : decode cX5_duel 226 = .ok (.iinc 4 1, 3) := by decide +kernel
theorem dX5_duel_229 : decode cX5_duel 229 = .ok (.goto (-101), 3) := by decide +kernel
theorem dX5_duel_232 : decode cX5_duel 232 = .ok (.iinc 3 (-1), 3) := by decide +kernel
theorem dX5_duel_235 : decode cX5_duel 235 = .ok (.goto (-119), 3) := by decide +kernel
theorem dX5_duel_238 : decode cX5_duel 238 = .ok (.aload_n 0, 1) := by decide +kernel
theorem dX5_duel_239 : decode cX5_duel 239 = .ok (.getfield 63, 3) := by decide +kernel
theorem dX5_duel_242 : decode cX5_duel 242 = .ok (.iconst 0, 1) := by decide +kernel
theorem dX5_duel_243 : decode cX5_duel 243 = .ok (.iaload, 1) := by decide +kernel
theorem dX5_duel_244 : decode cX5_duel 244 = .ok (.ireturn, 1) := by decide +kernel
theorem dX5_tellsPart_0 : decode cX5_tellsPart 0 = .ok (.lload_n 1, 1) := by decide +kernel
theorem dX5_tellsPart_1 : decode cX5_tellsPart 1 = .ok (.lstore 5, 2) := by decide +kernel
theorem dX5_tellsPart_3 : decode cX5_tellsPart 3 = .ok (.lload_n 3, 1) := by decide +kernel
theorem dX5_tellsPart_4 : decode cX5_tellsPart 4 = .ok (.lstore 7, 2) := by decide +kernel
theorem dX5_tellsPart_6 : decode cX5_tellsPart 6 = .ok (.lload 7, 2) := by decide +kernel
theorem dX5_tellsPart_8 : decode cX5_tellsPart 8 = .ok (.lconst 0, 1) := by decide +kernel
theorem dX5_tellsPart_9 : decode cX5_tellsPart 9 = .ok (.lcmp, 1) := by decide +kernel
theorem dX5_tellsPart_10 : decode cX5_tellsPart 10 = .ok (.ifCond .eq 21, 3) := by decide +kernel
theorem dX5_tellsPart_13 : decode cX5_tellsPart 13 = .ok (.lload 5, 2) := by decide +kernel
theorem dX5_tellsPart_15 : decode cX5_tellsPart 15 = .ok (.lload 7, 2) := by decide +kernel
theorem dX5_tellsPart_17 : decode cX5_tellsPart 17 = .ok (.lrem, 1) := by decide +kernel
theorem dX5_tellsPart_18 : decode cX5_tellsPart 18 = .ok (.lstore 9, 2) := by decide +kernel
theorem dX5_tellsPart_20 : decode cX5_tellsPart 20 = .ok (.lload 7, 2) := by decide +kernel
theorem dX5_tellsPart_22 : decode cX5_tellsPart 22 = .ok (.lstore 5, 2) := by decide +kernel
theorem dX5_tellsPart_24 : decode cX5_tellsPart 24 = .ok (.lload 9, 2) := by decide +kernel
theorem dX5_tellsPart_26 : decode cX5_tellsPart 26 = .ok (.lstore 7, 2) := by decide +kernel
theorem dX5_tellsPart_28 : decode cX5_tellsPart 28 = .ok (.goto (-22), 3) := by decide +kernel
theorem dX5_tellsPart_31 : decode cX5_tellsPart 31 = .ok (.aload_n 0, 1) := by decide +kernel
theorem dX5_tellsPart_32 : decode cX5_tellsPart 32 = .ok (.lload_n 1, 1) := by decide +kernel
theorem dX5_tellsPart_33 : decode cX5_tellsPart 33 = .ok (.lload 5, 2) := by decide +kernel
theorem dX5_tellsPart_35 : decode cX5_tellsPart 35 = .ok (.ldiv, 1) := by decide +kernel
theorem dX5_tellsPart_36 : decode cX5_tellsPart 36 = .ok (.putfield 222, 3) := by decide +kernel
theorem dX5_tellsPart_39 : decode cX5_tellsPart 39 = .ok (.aload_n 0, 1) := by decide +kernel
theorem dX5_tellsPart_40 : decode cX5_tellsPart 40 = .ok (.lload_n 3, 1) := by decide +kernel
theorem dX5_tellsPart_41 : decode cX5_tellsPart 41 = .ok (.lload 5, 2) := by decide +kernel
theorem dX5_tellsPart_43 : decode cX5_tellsPart 43 = .ok (.ldiv, 1) := by decide +kernel
theorem dX5_tellsPart_44 : decode cX5_tellsPart 44 = .ok (.putfield 47, 3) := by decide +kernel
theorem dX5_tellsPart_47 : decode cX5_tellsPart 47 = .ok (.return_, 1) := by decide +kernel
theorem dX5_sixBy_0 : decode cX5_sixBy 0 = .ok (.aload_n 0, 1) := by decide +kernel
theorem dX5_sixBy_1 : decode cX5_sixBy 1 = .ok (.invokevirtual 195, 3) := by decide +kernel
theorem dX5_sixBy_4 : decode cX5_sixBy 4 = .ok (.iconst 0, 1) := by decide +kernel
theorem dX5_sixBy_5 : decode cX5_sixBy 5 = .ok (.istore_n 2, 1) := by decide +kernel
theorem dX5_sixBy_6 : decode cX5_sixBy 6 = .ok (.iconst 0, 1) := by decide +kernel
theorem dX5_sixBy_7 : decode cX5_sixBy 7 = .ok (.istore_n 3, 1) := by decide +kernel
theorem dX5_sixBy_8 : decode cX5_sixBy 8 = .ok (.iload_n 3, 1) := by decide +kernel
theorem dX5_sixBy_9 : decode cX5_sixBy 9 = .ok (.bipush 6, 2) := by decide +kernel
theorem dX5_sixBy_11 : decode cX5_sixBy 11 = .ok (.if_icmp .ge 45, 3) := by decide +kernel
theorem dX5_sixBy_14 : decode cX5_sixBy 14 = .ok (.iload_n 2, 1) := by decide +kernel
theorem dX5_sixBy_15 : decode cX5_sixBy 15 = .ok (.aload_n 0, 1) := by decide +kernel
theorem dX5_sixBy_16 : decode cX5_sixBy 16 = .ok (.aload_n 0, 1) := by decide +kernel
theorem dX5_sixBy_17 : decode cX5_sixBy 17 = .ok (.getfield 31, 3) := by decide +kernel
theorem dX5_sixBy_20 : decode cX5_sixBy 20 = .ok (.iconst 0, 1) := by decide +kernel
theorem dX5_sixBy_21 : decode cX5_sixBy 21 = .ok (.aload_n 0, 1) := by decide +kernel
theorem dX5_sixBy_22 : decode cX5_sixBy 22 = .ok (.aload_n 0, 1) := by decide +kernel
theorem dX5_sixBy_23 : decode cX5_sixBy 23 = .ok (.getfield 31, 3) := by decide +kernel
theorem dX5_sixBy_26 : decode cX5_sixBy 26 = .ok (.invokevirtual 158, 3) := by decide +kernel
theorem dX5_sixBy_29 : decode cX5_sixBy 29 = .ok (.ifCond .eq 15, 3) := by decide +kernel
theorem dX5_sixBy_32 : decode cX5_sixBy 32 = .ok (.iload_n 1, 1) := by decide +kernel
theorem dX5_sixBy_33 : decode cX5_sixBy 33 = .ok (.iload_n 3, 1) := by decide +kernel
theorem dX5_sixBy_34 : decode cX5_sixBy 34 = .ok (.invokestatic 139, 3) := by decide +kernel
theorem dX5_sixBy_37 : decode cX5_sixBy 37 = .ok (.ifCond .ne 7, 3) := by decide +kernel
theorem dX5_sixBy_40 : decode cX5_sixBy 40 = .ok (.iconst 1, 1) := by decide +kernel
theorem dX5_sixBy_41 : decode cX5_sixBy 41 = .ok (.goto 4, 3) := by decide +kernel
theorem dX5_sixBy_44 : decode cX5_sixBy 44 = .ok (.iconst 0, 1) := by decide +kernel
theorem dX5_sixBy_45 : decode cX5_sixBy 45 = .ok (.invokevirtual 162, 3) := by decide +kernel
theorem dX5_sixBy_48 : decode cX5_sixBy 48 = .ok (.iadd, 1) := by decide +kernel
theorem dX5_sixBy_49 : decode cX5_sixBy 49 = .ok (.istore_n 2, 1) := by decide +kernel
theorem dX5_sixBy_50 : decode cX5_sixBy 50 = .ok (.iinc 3 1, 3) := by decide +kernel
theorem dX5_sixBy_53 : decode cX5_sixBy 53 = .ok (.goto (-45), 3) := by decide +kernel
theorem dX5_sixBy_56 : decode cX5_sixBy 56 = .ok (.iload_n 2, 1) := by decide +kernel
theorem dX5_sixBy_57 : decode cX5_sixBy 57 = .ok (.ireturn, 1) := by decide +kernel
theorem dX5_weigh_0 : decode cX5_weigh 0 = .ok (.lconst 1, 1) := by decide +kernel
theorem dX5_weigh_1 : decode cX5_weigh 1 = .ok (.lstore_n 2, 1) := by decide +kernel
theorem dX5_weigh_2 : decode cX5_weigh 2 = .ok (.iconst 0, 1) := by decide +kernel
theorem dX5_weigh_3 : decode cX5_weigh 3 = .ok (.istore 4, 2) := by decide +kernel
theorem dX5_weigh_5 : decode cX5_weigh 5 = .ok (.iload 4, 2) := by decide +kernel
theorem dX5_weigh_7 : decode cX5_weigh 7 = .ok (.bipush 6, 2) := by decide +kernel
theorem dX5_weigh_9 : decode cX5_weigh 9 = .ok (.if_icmp .ge 31, 3) := by decide +kernel
theorem dX5_weigh_12 : decode cX5_weigh 12 = .ok (.lload_n 2, 1) := by decide +kernel
theorem dX5_weigh_13 : decode cX5_weigh 13 = .ok (.iload_n 0, 1) := by decide +kernel
theorem dX5_weigh_14 : decode cX5_weigh 14 = .ok (.iload 4, 2) := by decide +kernel
theorem dX5_weigh_16 : decode cX5_weigh 16 = .ok (.invokestatic 139, 3) := by decide +kernel
theorem dX5_weigh_19 : decode cX5_weigh 19 = .ok (.ifCond .eq 8, 3) := by decide +kernel
theorem dX5_weigh_22 : decode cX5_weigh 22 = .ok (.iload_n 1, 1) := by decide +kernel
theorem dX5_weigh_23 : decode cX5_weigh 23 = .ok (.i2l, 1) := by decide +kernel
theorem dX5_weigh_24 : decode cX5_weigh 24 = .ok (.goto 8, 3) := by decide +kernel
theorem dX5_weigh_27 : decode cX5_weigh 27 = .ok (.bipush 12, 2) := by decide +kernel
theorem dX5_weigh_29 : decode cX5_weigh 29 = .ok (.iload_n 1, 1) := by decide +kernel
theorem dX5_weigh_30 : decode cX5_weigh 30 = .ok (.isub, 1) := by decide +kernel
theorem dX5_weigh_31 : decode cX5_weigh 31 = .ok (.i2l, 1) := by decide +kernel
theorem dX5_weigh_32 : decode cX5_weigh 32 = .ok (.lmul, 1) := by decide +kernel
theorem dX5_weigh_33 : decode cX5_weigh 33 = .ok (.lstore_n 2, 1) := by decide +kernel
theorem dX5_weigh_34 : decode cX5_weigh 34 = .ok (.iinc 4 1, 3) := by decide +kernel
theorem dX5_weigh_37 : decode cX5_weigh 37 = .ok (.goto (-32), 3) := by decide +kernel
theorem dX5_weigh_40 : decode cX5_weigh 40 = .ok (.lload_n 2, 1) := by decide +kernel
theorem dX5_weigh_41 : decode cX5_weigh 41 = .ok (.lreturn, 1) := by decide +kernel
theorem dX5_chance_0 : decode cX5_chance 0 = .ok (.iload_n 2, 1) := by decide +kernel
theorem dX5_chance_1 : decode cX5_chance 1 = .ok (.i2l, 1) := by decide +kernel
theorem dX5_chance_2 : decode cX5_chance 2 = .ok (.lconst 0, 1) := by decide +kernel
theorem dX5_chance_3 : decode cX5_chance 3 = .ok (.ldc2_w 225, 3) := by decide +kernel
theorem dX5_chance_6 : decode cX5_chance 6 = .ok (.invokestatic 75, 3) := by decide +kernel
theorem dX5_chance_9 : decode cX5_chance 9 = .ok (.ifCond .eq 19, 3) := by decide +kernel
theorem dX5_chance_12 : decode cX5_chance 12 = .ok (.iload_n 3, 1) := by decide +kernel
theorem dX5_chance_13 : decode cX5_chance 13 = .ok (.ifCond .ne 17, 3) := by decide +kernel
theorem dX5_chance_16 : decode cX5_chance 16 = .ok (.iload_n 1, 1) := by decide +kernel
theorem dX5_chance_17 : decode cX5_chance 17 = .ok (.i2l, 1) := by decide +kernel
theorem dX5_chance_18 : decode cX5_chance 18 = .ok (.lconst 0, 1) := by decide +kernel
theorem dX5_chance_19 : decode cX5_chance 19 = .ok (.ldc2_w 227, 3) := by decide +kernel
theorem dX5_chance_22 : decode cX5_chance 22 = .ok (.invokestatic 75, 3) := by decide +kernel
theorem dX5_chance_25 : decode cX5_chance 25 = .ok (.ifCond .ne 5, 3) := by decide +kernel
theorem dX5_chance_28 : decode cX5_chance 28 = .ok (.iconst (-1), 1) := by decide +kernel
theorem dX5_chance_29 : decode cX5_chance 29 = .ok (.ireturn, 1) := by decide +kernel
theorem dX5_chance_30 : decode cX5_chance 30 = .ok (.aload_n 0, 1) := by decide +kernel
theorem dX5_chance_31 : decode cX5_chance 31 = .ok (.getfield 115, 3) := by decide +kernel
theorem dX5_chance_34 : decode cX5_chance 34 = .ok (.ifCond .ne 6, 3) := by decide +kernel
theorem dX5_chance_37 : decode cX5_chance 37 = .ok (.bipush (-4), 2) := by decide +kernel
theorem dX5_chance_39 : decode cX5_chance 39 = .ok (.ireturn, 1) := by decide +kernel
theorem dX5_chance_40 : decode cX5_chance 40 = .ok (.aload_n 0, 1) := by decide +kernel
theorem dX5_chance_41 : decode cX5_chance 41 = .ok (.invokevirtual 174, 3) := by decide +kernel
theorem dX5_chance_44 : decode cX5_chance 44 = .ok (.lconst 0, 1) := by decide +kernel
theorem dX5_chance_45 : decode cX5_chance 45 = .ok (.lstore 4, 2) := by decide +kernel
theorem dX5_chance_47 : decode cX5_chance 47 = .ok (.iconst 0, 1) := by decide +kernel
theorem dX5_chance_48 : decode cX5_chance 48 = .ok (.istore 6, 2) := by decide +kernel
theorem dX5_chance_50 : decode cX5_chance 50 = .ok (.iload 6, 2) := by decide +kernel
theorem dX5_chance_52 : decode cX5_chance 52 = .ok (.bipush 64, 2) := by decide +kernel
theorem dX5_chance_54 : decode cX5_chance 54 = .ok (.if_icmp .ge 50, 3) := by decide +kernel
theorem dX5_chance_57 : decode cX5_chance 57 = .ok (.aload_n 0, 1) := by decide +kernel
theorem dX5_chance_58 : decode cX5_chance 58 = .ok (.iload 6, 2) := by decide +kernel
theorem dX5_chance_60 : decode cX5_chance 60 = .ok (.invokevirtual 229, 3) := by decide +kernel
theorem dX5_chance_63 : decode cX5_chance 63 = .ok (.istore 7, 2) := by decide +kernel
theorem dX5_chance_65 : decode cX5_chance 65 = .ok (.lload 4, 2) := by decide +kernel
theorem dX5_chance_67 : decode cX5_chance 67 = .ok (.iload 6, 2) := by decide +kernel
theorem dX5_chance_69 : decode cX5_chance 69 = .ok (.iload_n 2, 1) := by decide +kernel
theorem dX5_chance_70 : decode cX5_chance 70 = .ok (.invokestatic 232, 3) := by decide +kernel
theorem dX5_chance_73 : decode cX5_chance 73 = .ok (.iload_n 3, 1) := by decide +kernel
theorem dX5_chance_74 : decode cX5_chance 74 = .ok (.ifCond .eq 8, 3) := by decide +kernel
theorem dX5_chance_77 : decode cX5_chance 77 = .ok (.iload 7, 2) := by decide +kernel
theorem dX5_chance_79 : decode cX5_chance 79 = .ok (.goto 14, 3) := by decide +kernel
theorem dX5_chance_82 : decode cX5_chance 82 = .ok (.iload 7, 2) := by decide +kernel
theorem dX5_chance_84 : decode cX5_chance 84 = .ok (.iload_n 1, 1) := by decide +kernel
theorem dX5_chance_85 : decode cX5_chance 85 = .ok (.if_icmp .lt 7, 3) := by decide +kernel
theorem dX5_chance_88 : decode cX5_chance 88 = .ok (.iconst 1, 1) := by decide +kernel
theorem dX5_chance_89 : decode cX5_chance 89 = .ok (.goto 4, 3) := by decide +kernel
theorem dX5_chance_92 : decode cX5_chance 92 = .ok (.iconst 0, 1) := by decide +kernel
theorem dX5_chance_93 : decode cX5_chance 93 = .ok (.i2l, 1) := by decide +kernel
theorem dX5_chance_94 : decode cX5_chance 94 = .ok (.lmul, 1) := by decide +kernel
theorem dX5_chance_95 : decode cX5_chance 95 = .ok (.ladd, 1) := by decide +kernel
theorem dX5_chance_96 : decode cX5_chance 96 = .ok (.lstore 4, 2) := by decide +kernel
theorem dX5_chance_98 : decode cX5_chance 98 = .ok (.iinc 6 1, 3) := by decide +kernel
theorem dX5_chance_101 : decode cX5_chance 101 = .ok (.goto (-51), 3) := by decide +kernel
theorem dX5_chance_104 : decode cX5_chance 104 = .ok (.aload_n 0, 1) := by decide +kernel
theorem dX5_chance_105 : decode cX5_chance 105 = .ok (.lload 4, 2) := by decide +kernel
theorem dX5_chance_107 : decode cX5_chance 107 = .ok (.ldc2_w 236, 3) := by decide +kernel
theorem dX5_chance_110 : decode cX5_chance 110 = .ok (.invokevirtual 238, 3) := by decide +kernel
theorem dX5_chance_113 : decode cX5_chance 113 = .ok (.iconst 1, 1) := by decide +kernel
theorem dX5_chance_114 : decode cX5_chance 114 = .ok (.ireturn, 1) := by decide +kernel
theorem dX5_odds_0 : decode cX5_odds 0 = .ok (.aload_n 0, 1) := by decide +kernel
theorem dX5_odds_1 : decode cX5_odds 1 = .ok (.iload_n 1, 1) := by decide +kernel
theorem dX5_odds_2 : decode cX5_odds 2 = .ok (.iload_n 2, 1) := by decide +kernel
theorem dX5_odds_3 : decode cX5_odds 3 = .ok (.iconst 0, 1) := by decide +kernel
theorem dX5_odds_4 : decode cX5_odds 4 = .ok (.invokevirtual 242, 3) := by decide +kernel
theorem dX5_odds_7 : decode cX5_odds 7 = .ok (.ireturn, 1) := by decide +kernel
theorem dX5_mid_0 : decode cX5_mid 0 = .ok (.aload_n 0, 1) := by decide +kernel
theorem dX5_mid_1 : decode cX5_mid 1 = .ok (.iconst 0, 1) := by decide +kernel
theorem dX5_mid_2 : decode cX5_mid 2 = .ok (.iload_n 1, 1) := by decide +kernel
theorem dX5_mid_3 : decode cX5_mid 3 = .ok (.iconst 1, 1) := by decide +kernel
theorem dX5_mid_4 : decode cX5_mid 4 = .ok (.invokevirtual 242, 3) := by decide +kernel
theorem dX5_mid_7 : decode cX5_mid 7 = .ok (.ireturn, 1) := by decide +kernel
theorem dX5_lots_0 : decode cX5_lots 0 = .ok (.iload_n 1, 1) := by decide +kernel
theorem dX5_lots_1 : decode cX5_lots 1 = .ok (.i2l, 1) := by decide +kernel
theorem dX5_lots_2 : decode cX5_lots 2 = .ok (.lconst 1, 1) := by decide +kernel
theorem dX5_lots_3 : decode cX5_lots 3 = .ok (.ldc2_w 206, 3) := by decide +kernel
theorem dX5_lots_6 : decode cX5_lots 6 = .ok (.invokestatic 75, 3) := by decide +kernel
theorem dX5_lots_9 : decode cX5_lots 9 = .ok (.ifCond .eq 15, 3) := by decide +kernel
theorem dX5_lots_12 : decode cX5_lots 12 = .ok (.iload_n 2, 1) := by decide +kernel
theorem dX5_lots_13 : decode cX5_lots 13 = .ok (.i2l, 1) := by decide +kernel
theorem dX5_lots_14 : decode cX5_lots 14 = .ok (.lconst 1, 1) := by decide +kernel
theorem dX5_lots_15 : decode cX5_lots 15 = .ok (.ldc2_w 246, 3) := by decide +kernel
theorem dX5_lots_18 : decode cX5_lots 18 = .ok (.invokestatic 75, 3) := by decide +kernel
theorem dX5_lots_21 : decode cX5_lots 21 = .ok (.ifCond .ne 5, 3) := by decide +kernel
theorem dX5_lots_24 : decode cX5_lots 24 = .ok (.iconst (-1), 1) := by decide +kernel
theorem dX5_lots_25 : decode cX5_lots 25 = .ok (.ireturn, 1) := by decide +kernel
theorem dX5_lots_26 : decode cX5_lots 26 = .ok (.aload_n 0, 1) := by decide +kernel
theorem dX5_lots_27 : decode cX5_lots 27 = .ok (.getfield 115, 3) := by decide +kernel
theorem dX5_lots_30 : decode cX5_lots 30 = .ok (.ifCond .ne 6, 3) := by decide +kernel
theorem dX5_lots_33 : decode cX5_lots 33 = .ok (.bipush (-4), 2) := by decide +kernel
theorem dX5_lots_35 : decode cX5_lots 35 = .ok (.ireturn, 1) := by decide +kernel
theorem dX5_lots_36 : decode cX5_lots 36 = .ok (.aload_n 0, 1) := by decide +kernel
theorem dX5_lots_37 : decode cX5_lots 37 = .ok (.getfield 126, 3) := by decide +kernel
theorem dX5_lots_40 : decode cX5_lots 40 = .ok (.iload_n 1, 1) := by decide +kernel
theorem dX5_lots_41 : decode cX5_lots 41 = .ok (.iadd, 1) := by decide +kernel
theorem dX5_lots_42 : decode cX5_lots 42 = .ok (.bipush 40, 2) := by decide +kernel
theorem dX5_lots_44 : decode cX5_lots 44 = .ok (.if_icmp .le 6, 3) := by decide +kernel
theorem dX5_lots_47 : decode cX5_lots 47 = .ok (.bipush (-2), 2) := by decide +kernel
theorem dX5_lots_49 : decode cX5_lots 49 = .ok (.ireturn, 1) := by decide +kernel
theorem dX5_lots_50 : decode cX5_lots 50 = .ok (.aload_n 0, 1) := by decide +kernel
theorem dX5_lots_51 : decode cX5_lots 51 = .ok (.invokevirtual 174, 3) := by decide +kernel
theorem dX5_lots_54 : decode cX5_lots 54 = .ok (.iload_n 2, 1) := by decide +kernel
theorem dX5_lots_55 : decode cX5_lots 55 = .ok (.i2l, 1) := by decide +kernel
theorem dX5_lots_56 : decode cX5_lots 56 = .ok (.lstore_n 3, 1) := by decide +kernel
theorem dX5_lots_57 : decode cX5_lots 57 = .ok (.iconst 0, 1) := by decide +kernel
theorem dX5_lots_58 : decode cX5_lots 58 = .ok (.istore 5, 2) := by decide +kernel
theorem dX5_lots_60 : decode cX5_lots 60 = .ok (.iload 5, 2) := by decide +kernel
theorem dX5_lots_62 : decode cX5_lots 62 = .ok (.iload_n 1, 1) := by decide +kernel
theorem dX5_lots_63 : decode cX5_lots 63 = .ok (.if_icmp .ge 115, 3) := by decide +kernel
theorem dX5_lots_66 : decode cX5_lots 66 = .ok (.lload_n 3, 1) := by decide +kernel
theorem dX5_lots_67 : decode cX5_lots 67 = .ok (.ldc2_w 248, 3) := by decide +kernel
theorem dX5_lots_70 : decode cX5_lots 70 = .ok (.lmul, 1) := by decide +kernel
theorem dX5_lots_71 : decode cX5_lots 71 = .ok (.ldc2_w 250, 3) := by decide +kernel
theorem dX5_lots_74 : decode cX5_lots 74 = .ok (.lrem, 1) := by decide +kernel
theorem dX5_lots_75 : decode cX5_lots 75 = .ok (.lstore_n 3, 1) := by decide +kernel
theorem dX5_lots_76 : decode cX5_lots 76 = .ok (.lload_n 3, 1) := by decide +kernel
theorem dX5_lots_77 : decode cX5_lots 77 = .ok (.ldc2_w 252, 3) := by decide +kernel
theorem dX5_lots_80 : decode cX5_lots 80 = .ok (.lrem, 1) := by decide +kernel
theorem dX5_lots_81 : decode cX5_lots 81 = .ok (.l2i, 1) := by decide +kernel
theorem dX5_lots_82 : decode cX5_lots 82 = .ok (.istore 6, 2) := by decide +kernel
theorem dX5_lots_84 : decode cX5_lots 84 = .ok (.aload_n 0, 1) := by decide +kernel
theorem dX5_lots_85 : decode cX5_lots 85 = .ok (.invokevirtual 171, 3) := by decide +kernel
theorem dX5_lots_88 : decode cX5_lots 88 = .ok (.iload 6, 2) := by decide +kernel
theorem dX5_lots_90 : decode cX5_lots 90 = .ok (.ifCond .ne 27, 3) := by decide +kernel
theorem dX5_lots_93 : decode cX5_lots 93 = .ok (.aload_n 0, 1) := by decide +kernel
theorem dX5_lots_94 : decode cX5_lots 94 = .ok (.getfield 28, 3) := by decide +kernel
theorem dX5_lots_97 : decode cX5_lots 97 = .ok (.iconst 3, 1) := by decide +kernel
theorem dX5_lots_98 : decode cX5_lots 98 = .ok (.dup2, 1) := by decide +kernel
theorem dX5_lots_99 : decode cX5_lots 99 = .ok (.iaload, 1) := by decide +kernel
theorem dX5_lots_100 : decode cX5_lots 100 = .ok (.iconst 1, 1) := by decide +kernel
theorem dX5_lots_101 : decode cX5_lots 101 = .ok (.lload_n 3, 1) := by decide +kernel
theorem dX5_lots_102 : decode cX5_lots 102 = .ok (.ldc2_w 252, 3) := by decide +kernel
theorem dX5_lots_105 : decode cX5_lots 105 = .ok (.ldiv, 1) := by decide +kernel
theorem dX5_lots_106 : decode cX5_lots 106 = .ok (.ldc2_w 252, 3) := by decide +kernel
theorem dX5_lots_109 : decode cX5_lots 109 = .ok (.lrem, 1) := by decide +kernel
theorem dX5_lots_110 : decode cX5_lots 110 = .ok (.l2i, 1) := by decide +kernel
theorem dX5_lots_111 : decode cX5_lots 111 = .ok (.ishl, 1) := by decide +kernel
theorem dX5_lots_112 : decode cX5_lots 112 = .ok (.ixor, 1) := by decide +kernel
theorem dX5_lots_113 : decode cX5_lots 113 = .ok (.iastore, 1) := by decide +kernel
theorem dX5_lots_114 : decode cX5_lots 114 = .ok (.goto 58, 3) := by decide +kernel
theorem dX5_lots_117 : decode cX5_lots 117 = .ok (.iload 6, 2) := by decide +kernel
theorem dX5_lots_119 : decode cX5_lots 119 = .ok (.iconst 1, 1) := by decide +kernel
theorem dX5_lots_120 : decode cX5_lots 120 = .ok (.if_icmp .ne 22, 3) := by decide +kernel
theorem dX5_lots_123 : decode cX5_lots 123 = .ok (.aload_n 0, 1) := by decide +kernel
theorem dX5_lots_124 : decode cX5_lots 124 = .ok (.lload_n 3, 1) := by decide +kernel
theorem dX5_lots_125 : decode cX5_lots 125 = .ok (.ldc2_w 252, 3) := by decide +kernel
theorem dX5_lots_128 : decode cX5_lots 128 = .ok (.ldiv, 1) := by decide +kernel
theorem dX5_lots_129 : decode cX5_lots 129 = .ok (.aload_n 0, 1) := by decide +kernel
theorem dX5_lots_130 : decode cX5_lots 130 = .ok (.getfield 115, 3) := by decide +kernel
theorem dX5_lots_133 : decode cX5_lots 133 = .ok (.i2l, 1) := by decide +kernel
theorem dX5_lots_134 : decode cX5_lots 134 = .ok (.lrem, 1) := by decide +kernel
theorem dX5_lots_135 : decode cX5_lots 135 = .ok (.l2i, 1) := by decide +kernel
theorem dX5_lots_136 : decode cX5_lots 136 = .ok (.invokevirtual 122, 3) := by decide +kernel
theorem dX5_lots_139 : decode cX5_lots 139 = .ok (.goto 33, 3) := by decide +kernel
theorem dX5_lots_142 : decode cX5_lots 142 = .ok (.aload_n 0, 1) := by decide +kernel
theorem dX5_lots_143 : decode cX5_lots 143 = .ok (.getfield 28, 3) := by decide +kernel
theorem dX5_lots_146 : decode cX5_lots 146 = .ok (.iconst 0, 1) := by decide +kernel
theorem dX5_lots_147 : decode cX5_lots 147 = .ok (.iaload, 1) := by decide +kernel
theorem dX5_lots_148 : decode cX5_lots 148 = .ok (.bipush 99, 2) := by decide +kernel
theorem dX5_lots_150 : decode cX5_lots 150 = .ok (.if_icmp .ge 22, 3) := by decide +kernel
theorem dX5_lots_153 : decode cX5_lots 153 = .ok (.aload_n 0, 1) := by decide +kernel
theorem dX5_lots_154 : decode cX5_lots 154 = .ok (.aload_n 0, 1) := by decide +kernel
theorem dX5_lots_155 : decode cX5_lots 155 = .ok (.getfield 28, 3) := by decide +kernel
theorem dX5_lots_158 : decode cX5_lots 158 = .ok (.iconst 0, 1) := by decide +kernel
theorem dX5_lots_159 : decode cX5_lots 159 = .ok (.aload_n 0, 1) := by decide +kernel
theorem dX5_lots_160 : decode cX5_lots 160 = .ok (.aload_n 0, 1) := by decide +kernel
theorem dX5_lots_161 : decode cX5_lots 161 = .ok (.getfield 28, 3) := by decide +kernel
theorem dX5_lots_164 : decode cX5_lots 164 = .ok (.invokevirtual 158, 3) := by decide +kernel
theorem dX5_lots_167 : decode cX5_lots 167 = .ok (.invokevirtual 162, 3) := by decide +kernel
theorem dX5_lots_170 : decode cX5_lots 170 = .ok (.istore 7, 2) := by decide +kernel
theorem dX5_lots_172 : decode cX5_lots 172 = .ok (.iinc 5 1, 3) := by decide +kernel
theorem dX5_lots_175 : decode cX5_lots 175 = .ok (.goto (-115), 3) := by decide +kernel
theorem dX5_lots_178 : decode cX5_lots 178 = .ok (.aload_n 0, 1) := by decide +kernel
theorem dX5_lots_179 : decode cX5_lots 179 = .ok (.getfield 28, 3) := by decide +kernel
theorem dX5_lots_182 : decode cX5_lots 182 = .ok (.iconst 1, 1) := by decide +kernel
theorem dX5_lots_183 : decode cX5_lots 183 = .ok (.iaload, 1) := by decide +kernel
theorem dX5_lots_184 : decode cX5_lots 184 = .ok (.ireturn, 1) := by decide +kernel
theorem dX5_asked_0 : decode cX5_asked 0 = .ok (.aload_n 0, 1) := by decide +kernel
theorem dX5_asked_1 : decode cX5_asked 1 = .ok (.getfield 70, 3) := by decide +kernel
theorem dX5_asked_4 : decode cX5_asked 4 = .ok (.ireturn, 1) := by decide +kernel
theorem dX5_upper_0 : decode cX5_upper 0 = .ok (.aload_n 0, 1) := by decide +kernel
theorem dX5_upper_1 : decode cX5_upper 1 = .ok (.getfield 222, 3) := by decide +kernel
theorem dX5_upper_4 : decode cX5_upper 4 = .ok (.lreturn, 1) := by decide +kernel
theorem dX5_lower_0 : decode cX5_lower 0 = .ok (.aload_n 0, 1) := by decide +kernel
theorem dX5_lower_1 : decode cX5_lower 1 = .ok (.getfield 47, 3) := by decide +kernel
theorem dX5_lower_4 : decode cX5_lower 4 = .ok (.lreturn, 1) := by decide +kernel
theorem dX5_opens_0 : decode cX5_opens 0 = .ok (.iconst 0, 1) := by decide +kernel
theorem dX5_opens_1 : decode cX5_opens 1 = .ok (.istore_n 1, 1) := by decide +kernel
theorem dX5_opens_2 : decode cX5_opens 2 = .ok (.iconst 0, 1) := by decide +kernel
theorem dX5_opens_3 : decode cX5_opens 3 = .ok (.istore_n 2, 1) := by decide +kernel
theorem dX5_opens_4 : decode cX5_opens 4 = .ok (.iload_n 2, 1) := by decide +kernel
theorem dX5_opens_5 : decode cX5_opens 5 = .ok (.aload_n 0, 1) := by decide +kernel
theorem dX5_opens_6 : decode cX5_opens 6 = .ok (.getfield 115, 3) := by decide +kernel
theorem dX5_opens_9 : decode cX5_opens 9 = .ok (.if_icmp .ge 32, 3) := by decide +kernel
theorem dX5_opens_12 : decode cX5_opens 12 = .ok (.iload_n 1, 1) := by decide +kernel
theorem dX5_opens_13 : decode cX5_opens 13 = .ok (.aload_n 0, 1) := by decide +kernel
theorem dX5_opens_14 : decode cX5_opens 14 = .ok (.getfield 28, 3) := by decide +kernel
theorem dX5_opens_17 : decode cX5_opens 17 = .ok (.bipush 12, 2) := by decide +kernel
theorem dX5_opens_19 : decode cX5_opens 19 = .ok (.iload_n 2, 1) := by decide +kernel
theorem dX5_opens_20 : decode cX5_opens 20 = .ok (.iadd, 1) := by decide +kernel
theorem dX5_opens_21 : decode cX5_opens 21 = .ok (.iaload, 1) := by decide +kernel
theorem dX5_opens_22 : decode cX5_opens 22 = .ok (.iconst 1, 1) := by decide +kernel
theorem dX5_opens_23 : decode cX5_opens 23 = .ok (.if_icmp .ne 9, 3) := by decide +kernel
theorem dX5_opens_26 : decode cX5_opens 26 = .ok (.iconst 1, 1) := by decide +kernel
theorem dX5_opens_27 : decode cX5_opens 27 = .ok (.iload_n 2, 1) := by decide +kernel
theorem dX5_opens_28 : decode cX5_opens 28 = .ok (.ishl, 1) := by decide +kernel
theorem dX5_opens_29 : decode cX5_opens 29 = .ok (.goto 4, 3) := by decide +kernel
theorem dX5_opens_32 : decode cX5_opens 32 = .ok (.iconst 0, 1) := by decide +kernel
theorem dX5_opens_33 : decode cX5_opens 33 = .ok (.ior, 1) := by decide +kernel
theorem dX5_opens_34 : decode cX5_opens 34 = .ok (.istore_n 1, 1) := by decide +kernel
theorem dX5_opens_35 : decode cX5_opens 35 = .ok (.iinc 2 1, 3) := by decide +kernel
theorem dX5_opens_38 : decode cX5_opens 38 = .ok (.goto (-34), 3) := by decide +kernel
theorem dX5_opens_41 : decode cX5_opens 41 = .ok (.iload_n 1, 1) := by decide +kernel
theorem dX5_opens_42 : decode cX5_opens 42 = .ok (.ireturn, 1) := by decide +kernel
theorem dX5_of_0 : decode cX5_of 0 = .ok (.iconst 0, 1) := by decide +kernel
theorem dX5_of_1 : decode cX5_of 1 = .ok (.istore_n 3, 1) := by decide +kernel
theorem dX5_of_2 : decode cX5_of 2 = .ok (.iconst 0, 1) := by decide +kernel
theorem dX5_of_3 : decode cX5_of 3 = .ok (.istore 4, 2) := by decide +kernel
theorem dX5_of_5 : decode cX5_of 5 = .ok (.iload 4, 2) := by decide +kernel
theorem dX5_of_7 : decode cX5_of 7 = .ok (.aload_n 0, 1) := by decide +kernel
theorem dX5_of_8 : decode cX5_of 8 = .ok (.getfield 115, 3) := by decide +kernel
theorem dX5_of_11 : decode cX5_of 11 = .ok (.if_icmp .ge 39, 3) := by decide +kernel
theorem dX5_of_14 : decode cX5_of 14 = .ok (.iload_n 3, 1) := by decide +kernel
theorem dX5_of_15 : decode cX5_of 15 = .ok (.aload_n 0, 1) := by decide +kernel
theorem dX5_of_16 : decode cX5_of 16 = .ok (.getfield 22, 3) := by decide +kernel
theorem dX5_of_19 : decode cX5_of 19 = .ok (.iload 4, 2) := by decide +kernel
theorem dX5_of_21 : decode cX5_of 21 = .ok (.iaload, 1) := by decide +kernel
theorem dX5_of_22 : decode cX5_of 22 = .ok (.iload_n 1, 1) := by decide +kernel
theorem dX5_of_23 : decode cX5_of 23 = .ok (.if_icmp .eq 14, 3) := by decide +kernel
theorem dX5_of_26 : decode cX5_of 26 = .ok (.aload_n 0, 1) := by decide +kernel
theorem dX5_of_27 : decode cX5_of 27 = .ok (.getfield 22, 3) := by decide +kernel
theorem dX5_of_30 : decode cX5_of 30 = .ok (.iload 4, 2) := by decide +kernel
theorem dX5_of_32 : decode cX5_of 32 = .ok (.iaload, 1) := by decide +kernel
theorem dX5_of_33 : decode cX5_of 33 = .ok (.iload_n 2, 1) := by decide +kernel
theorem dX5_of_34 : decode cX5_of 34 = .ok (.if_icmp .ne 7, 3) := by decide +kernel
theorem dX5_of_37 : decode cX5_of 37 = .ok (.iconst 1, 1) := by decide +kernel
theorem dX5_of_38 : decode cX5_of 38 = .ok (.goto 4, 3) := by decide +kernel
theorem dX5_of_41 : decode cX5_of 41 = .ok (.iconst 0, 1) := by decide +kernel
theorem dX5_of_42 : decode cX5_of 42 = .ok (.iadd, 1) := by decide +kernel
theorem dX5_of_43 : decode cX5_of 43 = .ok (.istore_n 3, 1) := by decide +kernel
theorem dX5_of_44 : decode cX5_of 44 = .ok (.iinc 4 1, 3) := by decide +kernel
theorem dX5_of_47 : decode cX5_of 47 = .ok (.goto (-42), 3) := by decide +kernel
theorem dX5_of_50 : decode cX5_of 50 = .ok (.iload_n 3, 1) := by decide +kernel
theorem dX5_of_51 : decode cX5_of 51 = .ok (.ireturn, 1) := by decide +kernel
theorem dX5_there_0 : decode cX5_there 0 = .ok (.iconst 0, 1) := by decide +kernel
theorem dX5_there_1 : decode cX5_there 1 = .ok (.istore_n 2, 1) := by decide +kernel
theorem dX5_there_2 : decode cX5_there 2 = .ok (.iconst 0, 1) := by decide +kernel
theorem dX5_there_3 : decode cX5_there 3 = .ok (.istore_n 3, 1) := by decide +kernel
theorem dX5_there_4 : decode cX5_there 4 = .ok (.iload_n 3, 1) := by decide +kernel
theorem dX5_there_5 : decode cX5_there 5 = .ok (.iload_n 1, 1) := by decide +kernel
theorem dX5_there_6 : decode cX5_there 6 = .ok (.if_icmp .ge 23, 3) := by decide +kernel
theorem dX5_there_9 : decode cX5_there 9 = .ok (.iload_n 2, 1) := by decide +kernel
theorem dX5_there_10 : decode cX5_there 10 = .ok (.aload_n 0, 1) := by decide +kernel
theorem dX5_there_11 : decode cX5_there 11 = .ok (.iload_n 3, 1) := by decide +kernel
theorem dX5_there_12 : decode cX5_there 12 = .ok (.iaload, 1) := by decide +kernel
theorem dX5_there_13 : decode cX5_there 13 = .ok (.ifCond .ge 7, 3) := by decide +kernel
theorem dX5_there_16 : decode cX5_there 16 = .ok (.iconst 0, 1) := by decide +kernel
theorem dX5_there_17 : decode cX5_there 17 = .ok (.goto 4, 3) := by decide +kernel
theorem dX5_there_20 : decode cX5_there 20 = .ok (.iconst 1, 1) := by decide +kernel
theorem dX5_there_21 : decode cX5_there 21 = .ok (.iadd, 1) := by decide +kernel
theorem dX5_there_22 : decode cX5_there 22 = .ok (.istore_n 2, 1) := by decide +kernel
theorem dX5_there_23 : decode cX5_there 23 = .ok (.iinc 3 1, 3) := by decide +kernel
theorem dX5_there_26 : decode cX5_there 26 = .ok (.goto (-22), 3) := by decide +kernel
theorem dX5_there_29 : decode cX5_there 29 = .ok (.iload_n 2, 1) := by decide +kernel
theorem dX5_there_30 : decode cX5_there 30 = .ok (.ireturn, 1) := by decide +kernel
theorem dX5_count_0 : decode cX5_count 0 = .ok (.iload_n 1, 1) := by decide +kernel
theorem dX5_count_1 : decode cX5_count 1 = .ok (.tableswitch 195 0 12 #[67, 72, 79, 84, 91, 98, 105, 112, 117, 127, 136, 181, 188], 67) := by decide +kernel
theorem dX5_count_68 : decode cX5_count 68 = .ok (.aload_n 0, 1) := by decide +kernel
theorem dX5_count_69 : decode cX5_count 69 = .ok (.getfield 115, 3) := by decide +kernel
theorem dX5_count_72 : decode cX5_count 72 = .ok (.ireturn, 1) := by decide +kernel
theorem dX5_count_73 : decode cX5_count 73 = .ok (.aload_n 0, 1) := by decide +kernel
theorem dX5_count_74 : decode cX5_count 74 = .ok (.getfield 28, 3) := by decide +kernel
theorem dX5_count_77 : decode cX5_count 77 = .ok (.iconst 0, 1) := by decide +kernel
theorem dX5_count_78 : decode cX5_count 78 = .ok (.iaload, 1) := by decide +kernel
theorem dX5_count_79 : decode cX5_count 79 = .ok (.ireturn, 1) := by decide +kernel
theorem dX5_count_80 : decode cX5_count 80 = .ok (.aload_n 0, 1) := by decide +kernel
theorem dX5_count_81 : decode cX5_count 81 = .ok (.getfield 126, 3) := by decide +kernel
theorem dX5_count_84 : decode cX5_count 84 = .ok (.ireturn, 1) := by decide +kernel
theorem dX5_count_85 : decode cX5_count 85 = .ok (.aload_n 0, 1) := by decide +kernel
theorem dX5_count_86 : decode cX5_count 86 = .ok (.getfield 28, 3) := by decide +kernel
theorem dX5_count_89 : decode cX5_count 89 = .ok (.iconst 1, 1) := by decide +kernel
theorem dX5_count_90 : decode cX5_count 90 = .ok (.iaload, 1) := by decide +kernel
theorem dX5_count_91 : decode cX5_count 91 = .ok (.ireturn, 1) := by decide +kernel
theorem dX5_count_92 : decode cX5_count 92 = .ok (.aload_n 0, 1) := by decide +kernel
theorem dX5_count_93 : decode cX5_count 93 = .ok (.getfield 28, 3) := by decide +kernel
theorem dX5_count_96 : decode cX5_count 96 = .ok (.iconst 2, 1) := by decide +kernel
theorem dX5_count_97 : decode cX5_count 97 = .ok (.iaload, 1) := by decide +kernel
theorem dX5_count_98 : decode cX5_count 98 = .ok (.ireturn, 1) := by decide +kernel
theorem dX5_count_99 : decode cX5_count 99 = .ok (.aload_n 0, 1) := by decide +kernel
theorem dX5_count_100 : decode cX5_count 100 = .ok (.getfield 28, 3) := by decide +kernel
theorem dX5_count_103 : decode cX5_count 103 = .ok (.iconst 3, 1) := by decide +kernel
theorem dX5_count_104 : decode cX5_count 104 = .ok (.iaload, 1) := by decide +kernel
theorem dX5_count_105 : decode cX5_count 105 = .ok (.ireturn, 1) := by decide +kernel
theorem dX5_count_106 : decode cX5_count 106 = .ok (.aload_n 0, 1) := by decide +kernel
theorem dX5_count_107 : decode cX5_count 107 = .ok (.getfield 28, 3) := by decide +kernel
theorem dX5_count_110 : decode cX5_count 110 = .ok (.iconst 4, 1) := by decide +kernel
theorem dX5_count_111 : decode cX5_count 111 = .ok (.iaload, 1) := by decide +kernel
theorem dX5_count_112 : decode cX5_count 112 = .ok (.ireturn, 1) := by decide +kernel
theorem dX5_count_113 : decode cX5_count 113 = .ok (.aload_n 0, 1) := by decide +kernel
theorem dX5_count_114 : decode cX5_count 114 = .ok (.invokevirtual 254, 3) := by decide +kernel
theorem dX5_count_117 : decode cX5_count 117 = .ok (.ireturn, 1) := by decide +kernel
theorem dX5_count_118 : decode cX5_count 118 = .ok (.aload_n 0, 1) := by decide +kernel
theorem dX5_count_119 : decode cX5_count 119 = .ok (.getfield 7, 3) := by decide +kernel
theorem dX5_count_122 : decode cX5_count 122 = .ok (.bipush 6, 2) := by decide +kernel
theorem dX5_count_124 : decode cX5_count 124 = .ok (.invokestatic 258, 3) := by decide +kernel
theorem dX5_count_127 : decode cX5_count 127 = .ok (.ireturn, 1) := by decide +kernel
theorem dX5_count_128 : decode cX5_count 128 = .ok (.aload_n 0, 1) := by decide +kernel
theorem dX5_count_129 : decode cX5_count 129 = .ok (.getfield 16, 3) := by decide +kernel
theorem dX5_count_132 : decode cX5_count 132 = .ok (.iconst 4, 1) := by decide +kernel
theorem dX5_count_133 : decode cX5_count 133 = .ok (.invokestatic 258, 3) := by decide +kernel
theorem dX5_count_136 : decode cX5_count 136 = .ok (.ireturn, 1) := by decide +kernel
theorem dX5_count_137 : decode cX5_count 137 = .ok (.aload_n 0, 1) := by decide +kernel
theorem dX5_count_138 : decode cX5_count 138 = .ok (.getfield 43, 3) := by decide +kernel
theorem dX5_count_141 : decode cX5_count 141 = .ok (.iconst 0, 1) := by decide +kernel
theorem dX5_count_142 : decode cX5_count 142 = .ok (.baload, 1) := by decide +kernel
theorem dX5_count_143 : decode cX5_count 143 = .ok (.ifCond .eq 7, 3) := by decide +kernel
theorem dX5_count_146 : decode cX5_count 146 = .ok (.iconst 1, 1) := by decide +kernel
theorem dX5_count_147 : decode cX5_count 147 = .ok (.goto 4, 3) := by decide +kernel
theorem dX5_count_150 : decode cX5_count 150 = .ok (.iconst 0, 1) := by decide +kernel
theorem dX5_count_151 : decode cX5_count 151 = .ok (.aload_n 0, 1) := by decide +kernel
theorem dX5_count_152 : decode cX5_count 152 = .ok (.getfield 43, 3) := by decide +kernel
theorem dX5_count_155 : decode cX5_count 155 = .ok (.iconst 1, 1) := by decide +kernel
theorem dX5_count_156 : decode cX5_count 156 = .ok (.baload, 1) := by decide +kernel
theorem dX5_count_157 : decode cX5_count 157 = .ok (.ifCond .eq 7, 3) := by decide +kernel
theorem dX5_count_160 : decode cX5_count 160 = .ok (.iconst 1, 1) := by decide +kernel
theorem dX5_count_161 : decode cX5_count 161 = .ok (.goto 4, 3) := by decide +kernel
theorem dX5_count_164 : decode cX5_count 164 = .ok (.iconst 0, 1) := by decide +kernel
theorem dX5_count_165 : decode cX5_count 165 = .ok (.iadd, 1) := by decide +kernel
theorem dX5_count_166 : decode cX5_count 166 = .ok (.aload_n 0, 1) := by decide +kernel
theorem dX5_count_167 : decode cX5_count 167 = .ok (.getfield 43, 3) := by decide +kernel
theorem dX5_count_170 : decode cX5_count 170 = .ok (.iconst 2, 1) := by decide +kernel
theorem dX5_count_171 : decode cX5_count 171 = .ok (.baload, 1) := by decide +kernel
theorem dX5_count_172 : decode cX5_count 172 = .ok (.ifCond .eq 7, 3) := by decide +kernel
theorem dX5_count_175 : decode cX5_count 175 = .ok (.iconst 1, 1) := by decide +kernel
theorem dX5_count_176 : decode cX5_count 176 = .ok (.goto 4, 3) := by decide +kernel
theorem dX5_count_179 : decode cX5_count 179 = .ok (.iconst 0, 1) := by decide +kernel
theorem dX5_count_180 : decode cX5_count 180 = .ok (.iadd, 1) := by decide +kernel
theorem dX5_count_181 : decode cX5_count 181 = .ok (.ireturn, 1) := by decide +kernel
theorem dX5_count_182 : decode cX5_count 182 = .ok (.aload_n 0, 1) := by decide +kernel
theorem dX5_count_183 : decode cX5_count 183 = .ok (.iconst 1, 1) := by decide +kernel
theorem dX5_count_184 : decode cX5_count 184 = .ok (.iconst 4, 1) := by decide +kernel
theorem dX5_count_185 : decode cX5_count 185 = .ok (.invokevirtual 261, 3) := by decide +kernel
theorem dX5_count_188 : decode cX5_count 188 = .ok (.ireturn, 1) := by decide +kernel
theorem dX5_count_189 : decode cX5_count 189 = .ok (.aload_n 0, 1) := by decide +kernel
theorem dX5_count_190 : decode cX5_count 190 = .ok (.iconst 2, 1) := by decide +kernel
theorem dX5_count_191 : decode cX5_count 191 = .ok (.iconst 5, 1) := by decide +kernel
theorem dX5_count_192 : decode cX5_count 192 = .ok (.invokevirtual 261, 3) := by decide +kernel
theorem dX5_count_195 : decode cX5_count 195 = .ok (.ireturn, 1) := by decide +kernel
theorem dX5_count_196 : decode cX5_count 196 = .ok (.iconst (-1), 1) := by decide +kernel
theorem dX5_count_197 : decode cX5_count 197 = .ok (.ireturn, 1) := by decide +kernel
theorem dX5_finding_0 : decode cX5_finding 0 = .ok (.aload_n 0, 1) := by decide +kernel
theorem dX5_finding_1 : decode cX5_finding 1 = .ok (.getfield 66, 3) := by decide +kernel
theorem dX5_finding_4 : decode cX5_finding 4 = .ok (.ireturn, 1) := by decide +kernel
theorem dX5_findings_0 : decode cX5_findings 0 = .ok (.iload_n 1, 1) := by decide +kernel
theorem dX5_findings_1 : decode cX5_findings 1 = .ok (.i2l, 1) := by decide +kernel
theorem dX5_findings_2 : decode cX5_findings 2 = .ok (.lconst 1, 1) := by decide +kernel
theorem dX5_findings_3 : decode cX5_findings 3 = .ok (.ldc2_w 73, 3) := by decide +kernel
theorem dX5_findings_6 : decode cX5_findings 6 = .ok (.invokestatic 75, 3) := by decide +kernel
theorem dX5_findings_9 : decode cX5_findings 9 = .ok (.ifCond .eq 12, 3) := by decide +kernel
theorem dX5_findings_12 : decode cX5_findings 12 = .ok (.aload_n 0, 1) := by decide +kernel
theorem dX5_findings_13 : decode cX5_findings 13 = .ok (.getfield 51, 3) := by decide +kernel
theorem dX5_findings_16 : decode cX5_findings 16 = .ok (.iload_n 1, 1) := by decide +kernel
theorem dX5_findings_17 : decode cX5_findings 17 = .ok (.iaload, 1) := by decide +kernel
theorem dX5_findings_18 : decode cX5_findings 18 = .ok (.goto 4, 3) := by decide +kernel
theorem dX5_findings_21 : decode cX5_findings 21 = .ok (.iconst (-1), 1) := by decide +kernel
theorem dX5_findings_22 : decode cX5_findings 22 = .ok (.ireturn, 1) := by decide +kernel
theorem dX5_digest_0 : decode cX5_digest 0 = .ok (.ldc2_w 264, 3) := by decide +kernel
theorem dX5_digest_3 : decode cX5_digest 3 = .ok (.lstore_n 1, 1) := by decide +kernel
theorem dX5_digest_4 : decode cX5_digest 4 = .ok (.iconst 0, 1) := by decide +kernel
theorem dX5_digest_5 : decode cX5_digest 5 = .ok (.istore_n 3, 1) := by decide +kernel
theorem dX5_digest_6 : decode cX5_digest 6 = .ok (.iload_n 3, 1) := by decide +kernel
theorem dX5_digest_7 : decode cX5_digest 7 = .ok (.bipush 13, 2) := by decide +kernel
theorem dX5_digest_9 : decode cX5_digest 9 = .ok (.if_icmp .ge 22, 3) := by decide +kernel
theorem dX5_digest_12 : decode cX5_digest 12 = .ok (.ldc2_w 266, 3) := by decide +kernel
theorem dX5_digest_15 : decode cX5_digest 15 = .ok (.lload_n 1, 1) := by decide +kernel
theorem dX5_digest_16 : decode cX5_digest 16 = .ok (.lmul, 1) := by decide +kernel
theorem dX5_digest_17 : decode cX5_digest 17 = .ok (.aload_n 0, 1) := by decide +kernel
theorem dX5_digest_18 : decode cX5_digest 18 = .ok (.iload_n 3, 1) := by decide +kernel
theorem dX5_digest_19 : decode cX5_digest 19 = .ok (.invokevirtual 268, 3) := by decide +kernel
theorem dX5_digest_22 : decode cX5_digest 22 = .ok (.i2l, 1) := by decide +kernel
theorem dX5_digest_23 : decode cX5_digest 23 = .ok (.ladd, 1) := by decide +kernel
theorem dX5_digest_24 : decode cX5_digest 24 = .ok (.lstore_n 1, 1) := by decide +kernel
theorem dX5_digest_25 : decode cX5_digest 25 = .ok (.iinc 3 1, 3) := by decide +kernel
theorem dX5_digest_28 : decode cX5_digest 28 = .ok (.goto (-22), 3) := by decide +kernel
theorem dX5_digest_31 : decode cX5_digest 31 = .ok (.iconst 0, 1) := by decide +kernel
theorem dX5_digest_32 : decode cX5_digest 32 = .ok (.istore_n 3, 1) := by decide +kernel
theorem dX5_digest_33 : decode cX5_digest 33 = .ok (.iload_n 3, 1) := by decide +kernel
theorem dX5_digest_34 : decode cX5_digest 34 = .ok (.aload_n 0, 1) := by decide +kernel
theorem dX5_digest_35 : decode cX5_digest 35 = .ok (.getfield 115, 3) := by decide +kernel
theorem dX5_digest_38 : decode cX5_digest 38 = .ok (.if_icmp .ge 121, 3) := by decide +kernel
theorem dX5_digest_41 : decode cX5_digest 41 = .ok (.ldc2_w 266, 3) := by decide +kernel
theorem dX5_digest_44 : decode cX5_digest 44 = .ok (.lload_n 1, 1) := by decide +kernel
theorem dX5_digest_45 : decode cX5_digest 45 = .ok (.lmul, 1) := by decide +kernel
theorem dX5_digest_46 : decode cX5_digest 46 = .ok (.aload_n 0, 1) := by decide +kernel
theorem dX5_digest_47 : decode cX5_digest 47 = .ok (.getfield 22, 3) := by decide +kernel
theorem dX5_digest_50 : decode cX5_digest 50 = .ok (.iload_n 3, 1) := by decide +kernel
theorem dX5_digest_51 : decode cX5_digest 51 = .ok (.iaload, 1) := by decide +kernel
theorem dX5_digest_52 : decode cX5_digest 52 = .ok (.i2l, 1) := by decide +kernel
theorem dX5_digest_53 : decode cX5_digest 53 = .ok (.ladd, 1) := by decide +kernel
theorem dX5_digest_54 : decode cX5_digest 54 = .ok (.lstore_n 1, 1) := by decide +kernel
theorem dX5_digest_55 : decode cX5_digest 55 = .ok (.ldc2_w 266, 3) := by decide +kernel
theorem dX5_digest_58 : decode cX5_digest 58 = .ok (.lload_n 1, 1) := by decide +kernel
theorem dX5_digest_59 : decode cX5_digest 59 = .ok (.lmul, 1) := by decide +kernel
theorem dX5_digest_60 : decode cX5_digest 60 = .ok (.aload_n 0, 1) := by decide +kernel
theorem dX5_digest_61 : decode cX5_digest 61 = .ok (.getfield 28, 3) := by decide +kernel
theorem dX5_digest_64 : decode cX5_digest 64 = .ok (.iconst 5, 1) := by decide +kernel
theorem dX5_digest_65 : decode cX5_digest 65 = .ok (.iload_n 3, 1) := by decide +kernel
theorem dX5_digest_66 : decode cX5_digest 66 = .ok (.iadd, 1) := by decide +kernel
theorem dX5_digest_67 : decode cX5_digest 67 = .ok (.iaload, 1) := by decide +kernel
theorem dX5_digest_68 : decode cX5_digest 68 = .ok (.i2l, 1) := by decide +kernel
theorem dX5_digest_69 : decode cX5_digest 69 = .ok (.ladd, 1) := by decide +kernel
theorem dX5_digest_70 : decode cX5_digest 70 = .ok (.lstore_n 1, 1) := by decide +kernel
theorem dX5_digest_71 : decode cX5_digest 71 = .ok (.ldc2_w 266, 3) := by decide +kernel
theorem dX5_digest_74 : decode cX5_digest 74 = .ok (.lload_n 1, 1) := by decide +kernel
theorem dX5_digest_75 : decode cX5_digest 75 = .ok (.lmul, 1) := by decide +kernel
theorem dX5_digest_76 : decode cX5_digest 76 = .ok (.aload_n 0, 1) := by decide +kernel
theorem dX5_digest_77 : decode cX5_digest 77 = .ok (.getfield 25, 3) := by decide +kernel
theorem dX5_digest_80 : decode cX5_digest 80 = .ok (.iload_n 3, 1) := by decide +kernel
theorem dX5_digest_81 : decode cX5_digest 81 = .ok (.iaload, 1) := by decide +kernel
theorem dX5_digest_82 : decode cX5_digest 82 = .ok (.i2l, 1) := by decide +kernel
theorem dX5_digest_83 : decode cX5_digest 83 = .ok (.ladd, 1) := by decide +kernel
theorem dX5_digest_84 : decode cX5_digest 84 = .ok (.lstore_n 1, 1) := by decide +kernel
theorem dX5_digest_85 : decode cX5_digest 85 = .ok (.ldc2_w 266, 3) := by decide +kernel
theorem dX5_digest_88 : decode cX5_digest 88 = .ok (.lload_n 1, 1) := by decide +kernel
theorem dX5_digest_89 : decode cX5_digest 89 = .ok (.lmul, 1) := by decide +kernel
theorem dX5_digest_90 : decode cX5_digest 90 = .ok (.aload_n 0, 1) := by decide +kernel
theorem dX5_digest_91 : decode cX5_digest 91 = .ok (.getfield 28, 3) := by decide +kernel
theorem dX5_digest_94 : decode cX5_digest 94 = .ok (.bipush 12, 2) := by decide +kernel
theorem dX5_digest_96 : decode cX5_digest 96 = .ok (.iload_n 3, 1) := by decide +kernel
theorem dX5_digest_97 : decode cX5_digest 97 = .ok (.iadd, 1) := by decide +kernel
theorem dX5_digest_98 : decode cX5_digest 98 = .ok (.iaload, 1) := by decide +kernel
theorem dX5_digest_99 : decode cX5_digest 99 = .ok (.i2l, 1) := by decide +kernel
theorem dX5_digest_100 : decode cX5_digest 100 = .ok (.ladd, 1) := by decide +kernel
theorem dX5_digest_101 : decode cX5_digest 101 = .ok (.lstore_n 1, 1) := by decide +kernel
theorem dX5_digest_102 : decode cX5_digest 102 = .ok (.ldc2_w 266, 3) := by decide +kernel
theorem dX5_digest_105 : decode cX5_digest 105 = .ok (.lload_n 1, 1) := by decide +kernel
theorem dX5_digest_106 : decode cX5_digest 106 = .ok (.lmul, 1) := by decide +kernel
theorem dX5_digest_107 : decode cX5_digest 107 = .ok (.aload_n 0, 1) := by decide +kernel
theorem dX5_digest_108 : decode cX5_digest 108 = .ok (.getfield 28, 3) := by decide +kernel
theorem dX5_digest_111 : decode cX5_digest 111 = .ok (.bipush 19, 2) := by decide +kernel
theorem dX5_digest_113 : decode cX5_digest 113 = .ok (.iload_n 3, 1) := by decide +kernel
theorem dX5_digest_114 : decode cX5_digest 114 = .ok (.iadd, 1) := by decide +kernel
theorem dX5_digest_115 : decode cX5_digest 115 = .ok (.iaload, 1) := by decide +kernel
theorem dX5_digest_116 : decode cX5_digest 116 = .ok (.i2l, 1) := by decide +kernel
theorem dX5_digest_117 : decode cX5_digest 117 = .ok (.ladd, 1) := by decide +kernel
theorem dX5_digest_118 : decode cX5_digest 118 = .ok (.lstore_n 1, 1) := by decide +kernel
theorem dX5_digest_119 : decode cX5_digest 119 = .ok (.ldc2_w 266, 3) := by decide +kernel
theorem dX5_digest_122 : decode cX5_digest 122 = .ok (.lload_n 1, 1) := by decide +kernel
theorem dX5_digest_123 : decode cX5_digest 123 = .ok (.lmul, 1) := by decide +kernel
theorem dX5_digest_124 : decode cX5_digest 124 = .ok (.aload_n 0, 1) := by decide +kernel
theorem dX5_digest_125 : decode cX5_digest 125 = .ok (.getfield 28, 3) := by decide +kernel
theorem dX5_digest_128 : decode cX5_digest 128 = .ok (.bipush 26, 2) := by decide +kernel
theorem dX5_digest_130 : decode cX5_digest 130 = .ok (.iload_n 3, 1) := by decide +kernel
theorem dX5_digest_131 : decode cX5_digest 131 = .ok (.iadd, 1) := by decide +kernel
theorem dX5_digest_132 : decode cX5_digest 132 = .ok (.iaload, 1) := by decide +kernel
theorem dX5_digest_133 : decode cX5_digest 133 = .ok (.i2l, 1) := by decide +kernel
theorem dX5_digest_134 : decode cX5_digest 134 = .ok (.ladd, 1) := by decide +kernel
theorem dX5_digest_135 : decode cX5_digest 135 = .ok (.lstore_n 1, 1) := by decide +kernel
theorem dX5_digest_136 : decode cX5_digest 136 = .ok (.ldc2_w 266, 3) := by decide +kernel
theorem dX5_digest_139 : decode cX5_digest 139 = .ok (.lload_n 1, 1) := by decide +kernel
theorem dX5_digest_140 : decode cX5_digest 140 = .ok (.lmul, 1) := by decide +kernel
theorem dX5_digest_141 : decode cX5_digest 141 = .ok (.aload_n 0, 1) := by decide +kernel
theorem dX5_digest_142 : decode cX5_digest 142 = .ok (.getfield 28, 3) := by decide +kernel
theorem dX5_digest_145 : decode cX5_digest 145 = .ok (.bipush 33, 2) := by decide +kernel
theorem dX5_digest_147 : decode cX5_digest 147 = .ok (.iload_n 3, 1) := by decide +kernel
theorem dX5_digest_148 : decode cX5_digest 148 = .ok (.iadd, 1) := by decide +kernel
theorem dX5_digest_149 : decode cX5_digest 149 = .ok (.iaload, 1) := by decide +kernel
theorem dX5_digest_150 : decode cX5_digest 150 = .ok (.i2l, 1) := by decide +kernel
theorem dX5_digest_151 : decode cX5_digest 151 = .ok (.ladd, 1) := by decide +kernel
theorem dX5_digest_152 : decode cX5_digest 152 = .ok (.lstore_n 1, 1) := by decide +kernel
theorem dX5_digest_153 : decode cX5_digest 153 = .ok (.iinc 3 1, 3) := by decide +kernel
theorem dX5_digest_156 : decode cX5_digest 156 = .ok (.goto (-123), 3) := by decide +kernel
theorem dX5_digest_159 : decode cX5_digest 159 = .ok (.iconst 0, 1) := by decide +kernel
theorem dX5_digest_160 : decode cX5_digest 160 = .ok (.istore_n 3, 1) := by decide +kernel
theorem dX5_digest_161 : decode cX5_digest 161 = .ok (.iload_n 3, 1) := by decide +kernel
theorem dX5_digest_162 : decode cX5_digest 162 = .ok (.iconst 3, 1) := by decide +kernel
theorem dX5_digest_163 : decode cX5_digest 163 = .ok (.if_icmp .ge 43, 3) := by decide +kernel
theorem dX5_digest_166 : decode cX5_digest 166 = .ok (.ldc2_w 266, 3) := by decide +kernel
theorem dX5_digest_169 : decode cX5_digest 169 = .ok (.lload_n 1, 1) := by decide +kernel
theorem dX5_digest_170 : decode cX5_digest 170 = .ok (.lmul, 1) := by decide +kernel
theorem dX5_digest_171 : decode cX5_digest 171 = .ok (.aload_n 0, 1) := by decide +kernel
theorem dX5_digest_172 : decode cX5_digest 172 = .ok (.getfield 43, 3) := by decide +kernel
theorem dX5_digest_175 : decode cX5_digest 175 = .ok (.iload_n 3, 1) := by decide +kernel
theorem dX5_digest_176 : decode cX5_digest 176 = .ok (.baload, 1) := by decide +kernel
theorem dX5_digest_177 : decode cX5_digest 177 = .ok (.ifCond .eq 19, 3) := by decide +kernel
theorem dX5_digest_180 : decode cX5_digest 180 = .ok (.aload_n 0, 1) := by decide +kernel
theorem dX5_digest_181 : decode cX5_digest 181 = .ok (.getfield 40, 3) := by decide +kernel
theorem dX5_digest_184 : decode cX5_digest 184 = .ok (.sipush 1641, 3) := by decide +kernel
theorem dX5_digest_187 : decode cX5_digest 187 = .ok (.iload_n 3, 1) := by decide +kernel
theorem dX5_digest_188 : decode cX5_digest 188 = .ok (.imul, 1) := by decide +kernel
theorem dX5_digest_189 : decode cX5_digest 189 = .ok (.bipush 40, 2) := by decide +kernel
theorem dX5_digest_191 : decode cX5_digest 191 = .ok (.iadd, 1) := by decide +kernel
theorem dX5_digest_192 : decode cX5_digest 192 = .ok (.iaload, 1) := by decide +kernel
theorem dX5_digest_193 : decode cX5_digest 193 = .ok (.goto 4, 3) := by decide +kernel
theorem dX5_digest_196 : decode cX5_digest 196 = .ok (.iconst (-1), 1) := by decide +kernel
theorem dX5_digest_197 : decode cX5_digest 197 = .ok (.i2l, 1) := by decide +kernel
theorem dX5_digest_198 : decode cX5_digest 198 = .ok (.ladd, 1) := by decide +kernel
theorem dX5_digest_199 : decode cX5_digest 199 = .ok (.lstore_n 1, 1) := by decide +kernel
theorem dX5_digest_200 : decode cX5_digest 200 = .ok (.iinc 3 1, 3) := by decide +kernel
theorem dX5_digest_203 : decode cX5_digest 203 = .ok (.goto (-42), 3) := by decide +kernel
theorem dX5_digest_206 : decode cX5_digest 206 = .ok (.iconst 0, 1) := by decide +kernel
theorem dX5_digest_207 : decode cX5_digest 207 = .ok (.istore_n 3, 1) := by decide +kernel
theorem dX5_digest_208 : decode cX5_digest 208 = .ok (.iload_n 3, 1) := by decide +kernel
theorem dX5_digest_209 : decode cX5_digest 209 = .ok (.bipush 6, 2) := by decide +kernel
theorem dX5_digest_211 : decode cX5_digest 211 = .ok (.if_icmp .ge 63, 3) := by decide +kernel
theorem dX5_digest_214 : decode cX5_digest 214 = .ok (.ldc2_w 266, 3) := by decide +kernel
theorem dX5_digest_217 : decode cX5_digest 217 = .ok (.lload_n 1, 1) := by decide +kernel
theorem dX5_digest_218 : decode cX5_digest 218 = .ok (.lmul, 1) := by decide +kernel
theorem dX5_digest_219 : decode cX5_digest 219 = .ok (.aload_n 0, 1) := by decide +kernel
theorem dX5_digest_220 : decode cX5_digest 220 = .ok (.getfield 7, 3) := by decide +kernel
theorem dX5_digest_223 : decode cX5_digest 223 = .ok (.iload_n 3, 1) := by decide +kernel
theorem dX5_digest_224 : decode cX5_digest 224 = .ok (.iaload, 1) := by decide +kernel
theorem dX5_digest_225 : decode cX5_digest 225 = .ok (.i2l, 1) := by decide +kernel
theorem dX5_digest_226 : decode cX5_digest 226 = .ok (.ladd, 1) := by decide +kernel
theorem dX5_digest_227 : decode cX5_digest 227 = .ok (.lstore_n 1, 1) := by decide +kernel
theorem dX5_digest_228 : decode cX5_digest 228 = .ok (.iconst 0, 1) := by decide +kernel
theorem dX5_digest_229 : decode cX5_digest 229 = .ok (.istore 4, 2) := by decide +kernel
theorem dX5_digest_231 : decode cX5_digest 231 = .ok (.iload 4, 2) := by decide +kernel
theorem dX5_digest_233 : decode cX5_digest 233 = .ok (.aload_n 0, 1) := by decide +kernel
theorem dX5_digest_234 : decode cX5_digest 234 = .ok (.getfield 7, 3) := by decide +kernel
theorem dX5_digest_237 : decode cX5_digest 237 = .ok (.iload_n 3, 1) := by decide +kernel
theorem dX5_digest_238 : decode cX5_digest 238 = .ok (.iaload, 1) := by decide +kernel
theorem dX5_digest_239 : decode cX5_digest 239 = .ok (.if_icmp .ge 29, 3) := by decide +kernel
theorem dX5_digest_242 : decode cX5_digest 242 = .ok (.ldc2_w 266, 3) := by decide +kernel
theorem dX5_digest_245 : decode cX5_digest 245 = .ok (.lload_n 1, 1) := by decide +kernel
theorem dX5_digest_246 : decode cX5_digest 246 = .ok (.lmul, 1) := by decide +kernel
theorem dX5_digest_247 : decode cX5_digest 247 = .ok (.aload_n 0, 1) := by decide +kernel
theorem dX5_digest_248 : decode cX5_digest 248 = .ok (.getfield 13, 3) := by decide +kernel
theorem dX5_digest_251 : decode cX5_digest 251 = .ok (.bipush 40, 2) := by decide +kernel
theorem dX5_digest_253 : decode cX5_digest 253 = .ok (.iload_n 3, 1) := by decide +kernel
theorem dX5_digest_254 : decode cX5_digest 254 = .ok (.imul, 1) := by decide +kernel
theorem dX5_digest_255 : decode cX5_digest 255 = .ok (.iload 4, 2) := by decide +kernel
theorem dX5_digest_257 : decode cX5_digest 257 = .ok (.iadd, 1) := by decide +kernel
theorem dX5_digest_258 : decode cX5_digest 258 = .ok (.iaload, 1) := by decide +kernel
theorem dX5_digest_259 : decode cX5_digest 259 = .ok (.i2l, 1) := by decide +kernel
theorem dX5_digest_260 : decode cX5_digest 260 = .ok (.ladd, 1) := by decide +kernel
theorem dX5_digest_261 : decode cX5_digest 261 = .ok (.lstore_n 1, 1) := by decide +kernel
theorem dX5_digest_262 : decode cX5_digest 262 = .ok (.iinc 4 1, 3) := by decide +kernel
theorem dX5_digest_265 : decode cX5_digest 265 = .ok (.goto (-34), 3) := by decide +kernel
theorem dX5_digest_268 : decode cX5_digest 268 = .ok (.iinc 3 1, 3) := by decide +kernel
theorem dX5_digest_271 : decode cX5_digest 271 = .ok (.goto (-63), 3) := by decide +kernel
theorem dX5_digest_274 : decode cX5_digest 274 = .ok (.iconst 0, 1) := by decide +kernel
theorem dX5_digest_275 : decode cX5_digest 275 = .ok (.istore_n 3, 1) := by decide +kernel
theorem dX5_digest_276 : decode cX5_digest 276 = .ok (.iload_n 3, 1) := by decide +kernel
theorem dX5_digest_277 : decode cX5_digest 277 = .ok (.iconst 4, 1) := by decide +kernel
theorem dX5_digest_278 : decode cX5_digest 278 = .ok (.if_icmp .ge 63, 3) := by decide +kernel
theorem dX5_digest_281 : decode cX5_digest 281 = .ok (.ldc2_w 266, 3) := by decide +kernel
theorem dX5_digest_284 : decode cX5_digest 284 = .ok (.lload_n 1, 1) := by decide +kernel
theorem dX5_digest_285 : decode cX5_digest 285 = .ok (.lmul, 1) := by decide +kernel
theorem dX5_digest_286 : decode cX5_digest 286 = .ok (.aload_n 0, 1) := by decide +kernel
theorem dX5_digest_287 : decode cX5_digest 287 = .ok (.getfield 16, 3) := by decide +kernel
theorem dX5_digest_290 : decode cX5_digest 290 = .ok (.iload_n 3, 1) := by decide +kernel
theorem dX5_digest_291 : decode cX5_digest 291 = .ok (.iaload, 1) := by decide +kernel
theorem dX5_digest_292 : decode cX5_digest 292 = .ok (.i2l, 1) := by decide +kernel
theorem dX5_digest_293 : decode cX5_digest 293 = .ok (.ladd, 1) := by decide +kernel
theorem dX5_digest_294 : decode cX5_digest 294 = .ok (.lstore_n 1, 1) := by decide +kernel
theorem dX5_digest_295 : decode cX5_digest 295 = .ok (.iconst 0, 1) := by decide +kernel
theorem dX5_digest_296 : decode cX5_digest 296 = .ok (.istore 4, 2) := by decide +kernel
theorem dX5_digest_298 : decode cX5_digest 298 = .ok (.iload 4, 2) := by decide +kernel
theorem dX5_digest_300 : decode cX5_digest 300 = .ok (.aload_n 0, 1) := by decide +kernel
theorem dX5_digest_301 : decode cX5_digest 301 = .ok (.getfield 16, 3) := by decide +kernel
theorem dX5_digest_304 : decode cX5_digest 304 = .ok (.iload_n 3, 1) := by decide +kernel
theorem dX5_digest_305 : decode cX5_digest 305 = .ok (.iaload, 1) := by decide +kernel
theorem dX5_digest_306 : decode cX5_digest 306 = .ok (.if_icmp .ge 29, 3) := by decide +kernel
theorem dX5_digest_309 : decode cX5_digest 309 = .ok (.ldc2_w 266, 3) := by decide +kernel
theorem dX5_digest_312 : decode cX5_digest 312 = .ok (.lload_n 1, 1) := by decide +kernel
theorem dX5_digest_313 : decode cX5_digest 313 = .ok (.lmul, 1) := by decide +kernel
theorem dX5_digest_314 : decode cX5_digest 314 = .ok (.aload_n 0, 1) := by decide +kernel
theorem dX5_digest_315 : decode cX5_digest 315 = .ok (.getfield 19, 3) := by decide +kernel
theorem dX5_digest_318 : decode cX5_digest 318 = .ok (.bipush 60, 2) := by decide +kernel
theorem dX5_digest_320 : decode cX5_digest 320 = .ok (.iload_n 3, 1) := by decide +kernel
theorem dX5_digest_321 : decode cX5_digest 321 = .ok (.imul, 1) := by decide +kernel
theorem dX5_digest_322 : decode cX5_digest 322 = .ok (.iload 4, 2) := by decide +kernel
theorem dX5_digest_324 : decode cX5_digest 324 = .ok (.iadd, 1) := by decide +kernel
theorem dX5_digest_325 : decode cX5_digest 325 = .ok (.iaload, 1) := by decide +kernel
theorem dX5_digest_326 : decode cX5_digest 326 = .ok (.i2l, 1) := by decide +kernel
theorem dX5_digest_327 : decode cX5_digest 327 = .ok (.ladd, 1) := by decide +kernel
theorem dX5_digest_328 : decode cX5_digest 328 = .ok (.lstore_n 1, 1) := by decide +kernel
theorem dX5_digest_329 : decode cX5_digest 329 = .ok (.iinc 4 1, 3) := by decide +kernel
theorem dX5_digest_332 : decode cX5_digest 332 = .ok (.goto (-34), 3) := by decide +kernel
theorem dX5_digest_335 : decode cX5_digest 335 = .ok (.iinc 3 1, 3) := by decide +kernel
theorem dX5_digest_338 : decode cX5_digest 338 = .ok (.goto (-62), 3) := by decide +kernel
theorem dX5_digest_341 : decode cX5_digest 341 = .ok (.lload_n 1, 1) := by decide +kernel
theorem dX5_digest_342 : decode cX5_digest 342 = .ok (.lreturn, 1) := by decide +kernel
theorem dJ6_bitCount_0f7a4_0 : decode cJ6_bitCount_0f7a4 0 = .ok (.iload_n 0, 1) := by decide +kernel
theorem dJ6_bitCount_0f7a4_1 : decode cJ6_bitCount_0f7a4 1 = .ok (.iload_n 0, 1) := by decide +kernel
theorem dJ6_bitCount_0f7a4_2 : decode cJ6_bitCount_0f7a4 2 = .ok (.iconst 1, 1) := by decide +kernel
theorem dJ6_bitCount_0f7a4_3 : decode cJ6_bitCount_0f7a4 3 = .ok (.iushr, 1) := by decide +kernel
theorem dJ6_bitCount_0f7a4_4 : decode cJ6_bitCount_0f7a4 4 = .ok (.ldc_w 265, 3) := by decide +kernel
theorem dJ6_bitCount_0f7a4_7 : decode cJ6_bitCount_0f7a4 7 = .ok (.iand, 1) := by decide +kernel
theorem dJ6_bitCount_0f7a4_8 : decode cJ6_bitCount_0f7a4 8 = .ok (.isub, 1) := by decide +kernel
theorem dJ6_bitCount_0f7a4_9 : decode cJ6_bitCount_0f7a4 9 = .ok (.istore_n 0, 1) := by decide +kernel
theorem dJ6_bitCount_0f7a4_10 : decode cJ6_bitCount_0f7a4 10 = .ok (.iload_n 0, 1) := by decide +kernel
theorem dJ6_bitCount_0f7a4_11 : decode cJ6_bitCount_0f7a4 11 = .ok (.ldc_w 266, 3) := by decide +kernel
theorem dJ6_bitCount_0f7a4_14 : decode cJ6_bitCount_0f7a4 14 = .ok (.iand, 1) := by decide +kernel
theorem dJ6_bitCount_0f7a4_15 : decode cJ6_bitCount_0f7a4 15 = .ok (.iload_n 0, 1) := by decide +kernel
theorem dJ6_bitCount_0f7a4_16 : decode cJ6_bitCount_0f7a4 16 = .ok (.iconst 2, 1) := by decide +kernel
theorem dJ6_bitCount_0f7a4_17 : decode cJ6_bitCount_0f7a4 17 = .ok (.iushr, 1) := by decide +kernel
theorem dJ6_bitCount_0f7a4_18 : decode cJ6_bitCount_0f7a4 18 = .ok (.ldc_w 266, 3) := by decide +kernel
theorem dJ6_bitCount_0f7a4_21 : decode cJ6_bitCount_0f7a4 21 = .ok (.iand, 1) := by decide +kernel
theorem dJ6_bitCount_0f7a4_22 : decode cJ6_bitCount_0f7a4 22 = .ok (.iadd, 1) := by decide +kernel
theorem dJ6_bitCount_0f7a4_23 : decode cJ6_bitCount_0f7a4 23 = .ok (.istore_n 0, 1) := by decide +kernel
theorem dJ6_bitCount_0f7a4_24 : decode cJ6_bitCount_0f7a4 24 = .ok (.iload_n 0, 1) := by decide +kernel
theorem dJ6_bitCount_0f7a4_25 : decode cJ6_bitCount_0f7a4 25 = .ok (.iload_n 0, 1) := by decide +kernel
theorem dJ6_bitCount_0f7a4_26 : decode cJ6_bitCount_0f7a4 26 = .ok (.iconst 4, 1) := by decide +kernel
theorem dJ6_bitCount_0f7a4_27 : decode cJ6_bitCount_0f7a4 27 = .ok (.iushr, 1) := by decide +kernel
theorem dJ6_bitCount_0f7a4_28 : decode cJ6_bitCount_0f7a4 28 = .ok (.iadd, 1) := by decide +kernel
theorem dJ6_bitCount_0f7a4_29 : decode cJ6_bitCount_0f7a4 29 = .ok (.ldc_w 267, 3) := by decide +kernel
theorem dJ6_bitCount_0f7a4_32 : decode cJ6_bitCount_0f7a4 32 = .ok (.iand, 1) := by decide +kernel
theorem dJ6_bitCount_0f7a4_33 : decode cJ6_bitCount_0f7a4 33 = .ok (.istore_n 0, 1) := by decide +kernel
theorem dJ6_bitCount_0f7a4_34 : decode cJ6_bitCount_0f7a4 34 = .ok (.iload_n 0, 1) := by decide +kernel
theorem dJ6_bitCount_0f7a4_35 : decode cJ6_bitCount_0f7a4 35 = .ok (.iload_n 0, 1) := by decide +kernel
theorem dJ6_bitCount_0f7a4_36 : decode cJ6_bitCount_0f7a4 36 = .ok (.bipush 8, 2) := by decide +kernel
theorem dJ6_bitCount_0f7a4_38 : decode cJ6_bitCount_0f7a4 38 = .ok (.iushr, 1) := by decide +kernel
theorem dJ6_bitCount_0f7a4_39 : decode cJ6_bitCount_0f7a4 39 = .ok (.iadd, 1) := by decide +kernel
theorem dJ6_bitCount_0f7a4_40 : decode cJ6_bitCount_0f7a4 40 = .ok (.istore_n 0, 1) := by decide +kernel
theorem dJ6_bitCount_0f7a4_41 : decode cJ6_bitCount_0f7a4 41 = .ok (.iload_n 0, 1) := by decide +kernel
theorem dJ6_bitCount_0f7a4_42 : decode cJ6_bitCount_0f7a4 42 = .ok (.iload_n 0, 1) := by decide +kernel
theorem dJ6_bitCount_0f7a4_43 : decode cJ6_bitCount_0f7a4 43 = .ok (.bipush 16, 2) := by decide +kernel
theorem dJ6_bitCount_0f7a4_45 : decode cJ6_bitCount_0f7a4 45 = .ok (.iushr, 1) := by decide +kernel
theorem dJ6_bitCount_0f7a4_46 : decode cJ6_bitCount_0f7a4 46 = .ok (.iadd, 1) := by decide +kernel
theorem dJ6_bitCount_0f7a4_47 : decode cJ6_bitCount_0f7a4 47 = .ok (.istore_n 0, 1) := by decide +kernel
theorem dJ6_bitCount_0f7a4_48 : decode cJ6_bitCount_0f7a4 48 = .ok (.iload_n 0, 1) := by decide +kernel
theorem dJ6_bitCount_0f7a4_49 : decode cJ6_bitCount_0f7a4 49 = .ok (.bipush 63, 2) := by decide +kernel
theorem dJ6_bitCount_0f7a4_51 : decode cJ6_bitCount_0f7a4 51 = .ok (.iand, 1) := by decide +kernel
theorem dJ6_bitCount_0f7a4_52 : decode cJ6_bitCount_0f7a4 52 = .ok (.ireturn, 1) := by decide +kernel
theorem dJ9_floorMod_7cf53_0 : decode cJ9_floorMod_7cf53 0 = .ok (.iload_n 0, 1) := by decide +kernel
theorem dJ9_floorMod_7cf53_1 : decode cJ9_floorMod_7cf53 1 = .ok (.iload_n 1, 1) := by decide +kernel
theorem dJ9_floorMod_7cf53_2 : decode cJ9_floorMod_7cf53 2 = .ok (.irem, 1) := by decide +kernel
theorem dJ9_floorMod_7cf53_3 : decode cJ9_floorMod_7cf53 3 = .ok (.istore_n 2, 1) := by decide +kernel
theorem dJ9_floorMod_7cf53_4 : decode cJ9_floorMod_7cf53 4 = .ok (.iload_n 0, 1) := by decide +kernel
theorem dJ9_floorMod_7cf53_5 : decode cJ9_floorMod_7cf53 5 = .ok (.iload_n 1, 1) := by decide +kernel
theorem dJ9_floorMod_7cf53_6 : decode cJ9_floorMod_7cf53 6 = .ok (.ixor, 1) := by decide +kernel
theorem dJ9_floorMod_7cf53_7 : decode cJ9_floorMod_7cf53 7 = .ok (.ifCond .ge 11, 3) := by decide +kernel
theorem dJ9_floorMod_7cf53_10 : decode cJ9_floorMod_7cf53 10 = .ok (.iload_n 2, 1) := by decide +kernel
theorem dJ9_floorMod_7cf53_11 : decode cJ9_floorMod_7cf53 11 = .ok (.ifCond .eq 7, 3) := by decide +kernel
theorem dJ9_floorMod_7cf53_14 : decode cJ9_floorMod_7cf53 14 = .ok (.iload_n 2, 1) := by decide +kernel
theorem dJ9_floorMod_7cf53_15 : decode cJ9_floorMod_7cf53 15 = .ok (.iload_n 1, 1) := by decide +kernel
theorem dJ9_floorMod_7cf53_16 : decode cJ9_floorMod_7cf53 16 = .ok (.iadd, 1) := by decide +kernel
theorem dJ9_floorMod_7cf53_17 : decode cJ9_floorMod_7cf53 17 = .ok (.ireturn, 1) := by decide +kernel
theorem dJ9_floorMod_7cf53_18 : decode cJ9_floorMod_7cf53 18 = .ok (.iload_n 2, 1) := by decide +kernel
theorem dJ9_floorMod_7cf53_19 : decode cJ9_floorMod_7cf53 19 = .ok (.ireturn, 1) := by decide +kernel
theorem dJ9_max_7cf53_0 : decode cJ9_max_7cf53 0 = .ok (.iload_n 0, 1) := by decide +kernel
theorem dJ9_max_7cf53_1 : decode cJ9_max_7cf53 1 = .ok (.iload_n 1, 1) := by decide +kernel
theorem dJ9_max_7cf53_2 : decode cJ9_max_7cf53 2 = .ok (.if_icmp .lt 7, 3) := by decide +kernel
theorem dJ9_max_7cf53_5 : decode cJ9_max_7cf53 5 = .ok (.iload_n 0, 1) := by decide +kernel
theorem dJ9_max_7cf53_6 : decode cJ9_max_7cf53 6 = .ok (.goto 4, 3) := by decide +kernel
theorem dJ9_max_7cf53_9 : decode cJ9_max_7cf53 9 = .ok (.iload_n 1, 1) := by decide +kernel
theorem dJ9_max_7cf53_10 : decode cJ9_max_7cf53 10 = .ok (.ireturn, 1) := by decide +kernel
theorem dJ9_max_f86c9_0 : decode cJ9_max_f86c9 0 = .ok (.lload_n 0, 1) := by decide +kernel
theorem dJ9_max_f86c9_1 : decode cJ9_max_f86c9 1 = .ok (.lload_n 2, 1) := by decide +kernel
theorem dJ9_max_f86c9_2 : decode cJ9_max_f86c9 2 = .ok (.lcmp, 1) := by decide +kernel
theorem dJ9_max_f86c9_3 : decode cJ9_max_f86c9 3 = .ok (.ifCond .lt 7, 3) := by decide +kernel
theorem dJ9_max_f86c9_6 : decode cJ9_max_f86c9 6 = .ok (.lload_n 0, 1) := by decide +kernel
theorem dJ9_max_f86c9_7 : decode cJ9_max_f86c9 7 = .ok (.goto 4, 3) := by decide +kernel
theorem dJ9_max_f86c9_10 : decode cJ9_max_f86c9 10 = .ok (.lload_n 2, 1) := by decide +kernel
theorem dJ9_max_f86c9_11 : decode cJ9_max_f86c9 11 = .ok (.lreturn, 1) := by decide +kernel
theorem dJ9_min_7cf53_0 : decode cJ9_min_7cf53 0 = .ok (.iload_n 0, 1) := by decide +kernel
theorem dJ9_min_7cf53_1 : decode cJ9_min_7cf53 1 = .ok (.iload_n 1, 1) := by decide +kernel
theorem dJ9_min_7cf53_2 : decode cJ9_min_7cf53 2 = .ok (.if_icmp .gt 7, 3) := by decide +kernel
theorem dJ9_min_7cf53_5 : decode cJ9_min_7cf53 5 = .ok (.iload_n 0, 1) := by decide +kernel
theorem dJ9_min_7cf53_6 : decode cJ9_min_7cf53 6 = .ok (.goto 4, 3) := by decide +kernel
theorem dJ9_min_7cf53_9 : decode cJ9_min_7cf53 9 = .ok (.iload_n 1, 1) := by decide +kernel
theorem dJ9_min_7cf53_10 : decode cJ9_min_7cf53 10 = .ok (.ireturn, 1) := by decide +kernel
theorem dJ7_fill_53178_0 : decode cJ7_fill_53178 0 = .ok (.iconst 0, 1) := by decide +kernel
theorem dJ7_fill_53178_1 : decode cJ7_fill_53178 1 = .ok (.istore_n 2, 1) := by decide +kernel
theorem dJ7_fill_53178_2 : decode cJ7_fill_53178 2 = .ok (.aload_n 0, 1) := by decide +kernel
theorem dJ7_fill_53178_3 : decode cJ7_fill_53178 3 = .ok (.arraylength, 1) := by decide +kernel
theorem dJ7_fill_53178_4 : decode cJ7_fill_53178 4 = .ok (.istore_n 3, 1) := by decide +kernel
theorem dJ7_fill_53178_5 : decode cJ7_fill_53178 5 = .ok (.iload_n 2, 1) := by decide +kernel
theorem dJ7_fill_53178_6 : decode cJ7_fill_53178 6 = .ok (.iload_n 3, 1) := by decide +kernel
theorem dJ7_fill_53178_7 : decode cJ7_fill_53178 7 = .ok (.if_icmp .ge 13, 3) := by decide +kernel
theorem dJ7_fill_53178_10 : decode cJ7_fill_53178 10 = .ok (.aload_n 0, 1) := by decide +kernel
theorem dJ7_fill_53178_11 : decode cJ7_fill_53178 11 = .ok (.iload_n 2, 1) := by decide +kernel
theorem dJ7_fill_53178_12 : decode cJ7_fill_53178 12 = .ok (.iload_n 1, 1) := by decide +kernel
theorem dJ7_fill_53178_13 : decode cJ7_fill_53178 13 = .ok (.iastore, 1) := by decide +kernel
theorem dJ7_fill_53178_14 : decode cJ7_fill_53178 14 = .ok (.iinc 2 1, 3) := by decide +kernel
theorem dJ7_fill_53178_17 : decode cJ7_fill_53178 17 = .ok (.goto (-12), 3) := by decide +kernel
theorem dJ7_fill_53178_20 : decode cJ7_fill_53178 20 = .ok (.return_, 1) := by decide +kernel
theorem dJ7_fill_031fb_0 : decode cJ7_fill_031fb 0 = .ok (.iconst 0, 1) := by decide +kernel
theorem dJ7_fill_031fb_1 : decode cJ7_fill_031fb 1 = .ok (.istore_n 2, 1) := by decide +kernel
theorem dJ7_fill_031fb_2 : decode cJ7_fill_031fb 2 = .ok (.aload_n 0, 1) := by decide +kernel
theorem dJ7_fill_031fb_3 : decode cJ7_fill_031fb 3 = .ok (.arraylength, 1) := by decide +kernel
theorem dJ7_fill_031fb_4 : decode cJ7_fill_031fb 4 = .ok (.istore_n 3, 1) := by decide +kernel
theorem dJ7_fill_031fb_5 : decode cJ7_fill_031fb 5 = .ok (.iload_n 2, 1) := by decide +kernel
theorem dJ7_fill_031fb_6 : decode cJ7_fill_031fb 6 = .ok (.iload_n 3, 1) := by decide +kernel
theorem dJ7_fill_031fb_7 : decode cJ7_fill_031fb 7 = .ok (.if_icmp .ge 13, 3) := by decide +kernel
theorem dJ7_fill_031fb_10 : decode cJ7_fill_031fb 10 = .ok (.aload_n 0, 1) := by decide +kernel
theorem dJ7_fill_031fb_11 : decode cJ7_fill_031fb 11 = .ok (.iload_n 2, 1) := by decide +kernel
theorem dJ7_fill_031fb_12 : decode cJ7_fill_031fb 12 = .ok (.iload_n 1, 1) := by decide +kernel
theorem dJ7_fill_031fb_13 : decode cJ7_fill_031fb 13 = .ok (.bastore, 1) := by decide +kernel
theorem dJ7_fill_031fb_14 : decode cJ7_fill_031fb 14 = .ok (.iinc 2 1, 3) := by decide +kernel
theorem dJ7_fill_031fb_17 : decode cJ7_fill_031fb 17 = .ok (.goto (-12), 3) := by decide +kernel
theorem dJ7_fill_031fb_20 : decode cJ7_fill_031fb 20 = .ok (.return_, 1) := by decide +kernel
theorem dL_law_0 : decode cL_law 0 = .ok (.new 7, 3) := by decide +kernel
theorem dL_law_3 : decode cL_law 3 = .ok (.dup, 1) := by decide +kernel
theorem dL_law_4 : decode cL_law 4 = .ok (.invokespecial 9, 3) := by decide +kernel
theorem dL_law_7 : decode cL_law 7 = .ok (.astore_n 1, 1) := by decide +kernel
theorem dL_law_8 : decode cL_law 8 = .ok (.new 10, 3) := by decide +kernel
theorem dL_law_11 : decode cL_law 11 = .ok (.dup, 1) := by decide +kernel
theorem dL_law_12 : decode cL_law 12 = .ok (.invokespecial 12, 3) := by decide +kernel
theorem dL_law_15 : decode cL_law 15 = .ok (.astore_n 2, 1) := by decide +kernel
theorem dL_law_16 : decode cL_law 16 = .ok (.iconst 0, 1) := by decide +kernel
theorem dL_law_17 : decode cL_law 17 = .ok (.istore_n 3, 1) := by decide +kernel
theorem dL_law_18 : decode cL_law 18 = .ok (.iload_n 3, 1) := by decide +kernel
theorem dL_law_19 : decode cL_law 19 = .ok (.aload_n 0, 1) := by decide +kernel
theorem dL_law_20 : decode cL_law 20 = .ok (.arraylength, 1) := by decide +kernel
theorem dL_law_21 : decode cL_law 21 = .ok (.bipush 6, 2) := by decide +kernel
theorem dL_law_23 : decode cL_law 23 = .ok (.isub, 1) := by decide +kernel
theorem dL_law_24 : decode cL_law 24 = .ok (.if_icmp .gt 1314, 3) := by decide +kernel
theorem dL_law_27 : decode cL_law 27 = .ok (.aload_n 0, 1) := by decide +kernel
theorem dL_law_28 : decode cL_law 28 = .ok (.iload_n 3, 1) := by decide +kernel
theorem dL_law_29 : decode cL_law 29 = .ok (.iaload, 1) := by decide +kernel
theorem dL_law_30 : decode cL_law 30 = .ok (.bipush 63, 2) := by decide +kernel
theorem dL_law_32 : decode cL_law 32 = .ok (.iand, 1) := by decide +kernel
theorem dL_law_33 : decode cL_law 33 = .ok (.tableswitch 1299 0 42 #[187, 220, 263, 296, 319, 382, 405, 438, 481, 504, 527, 560, 593, 616, 629, 652, 675, 708, 731, 754, 777, 800, 813, 846, 869, 882, 905, 928, 961, 984, 1007, 1040, 1073, 1096, 1129, 1152, 1185, 1198, 1212, 1226, 1249, 1262, 1285], 187) := by decide +kernel
theorem dL_law_220 : decode cL_law 220 = .ok (.aload_n 1, 1) := by decide +kernel
theorem dL_law_221 : decode cL_law 221 = .ok (.aload_n 0, 1) := by decide +kernel
theorem dL_law_222 : decode cL_law 222 = .ok (.iload_n 3, 1) := by decide +kernel
theorem dL_law_223 : decode cL_law 223 = .ok (.iconst 1, 1) := by decide +kernel
theorem dL_law_224 : decode cL_law 224 = .ok (.iadd, 1) := by decide +kernel
theorem dL_law_225 : decode cL_law 225 = .ok (.iaload, 1) := by decide +kernel
theorem dL_law_226 : decode cL_law 226 = .ok (.aload_n 0, 1) := by decide +kernel
theorem dL_law_227 : decode cL_law 227 = .ok (.iload_n 3, 1) := by decide +kernel
theorem dL_law_228 : decode cL_law 228 = .ok (.iconst 2, 1) := by decide +kernel
theorem dL_law_229 : decode cL_law 229 = .ok (.iadd, 1) := by decide +kernel
theorem dL_law_230 : decode cL_law 230 = .ok (.iaload, 1) := by decide +kernel
theorem dL_law_231 : decode cL_law 231 = .ok (.invokevirtual 13, 3) := by decide +kernel
theorem dL_law_234 : decode cL_law 234 = .ok (.aload_n 2, 1) := by decide +kernel
theorem dL_law_235 : decode cL_law 235 = .ok (.aload_n 0, 1) := by decide +kernel
theorem dL_law_236 : decode cL_law 236 = .ok (.iload_n 3, 1) := by decide +kernel
theorem dL_law_237 : decode cL_law 237 = .ok (.iconst 1, 1) := by decide +kernel
theorem dL_law_238 : decode cL_law 238 = .ok (.iadd, 1) := by decide +kernel
theorem dL_law_239 : decode cL_law 239 = .ok (.iaload, 1) := by decide +kernel
theorem dL_law_240 : decode cL_law 240 = .ok (.aload_n 0, 1) := by decide +kernel
theorem dL_law_241 : decode cL_law 241 = .ok (.iload_n 3, 1) := by decide +kernel
theorem dL_law_242 : decode cL_law 242 = .ok (.iconst 2, 1) := by decide +kernel
theorem dL_law_243 : decode cL_law 243 = .ok (.iadd, 1) := by decide +kernel
theorem dL_law_244 : decode cL_law 244 = .ok (.iaload, 1) := by decide +kernel
theorem dL_law_245 : decode cL_law 245 = .ok (.invokevirtual 17, 3) := by decide +kernel
theorem dL_law_248 : decode cL_law 248 = .ok (.if_icmp .eq 1084, 3) := by decide +kernel
theorem dL_law_251 : decode cL_law 251 = .ok (.iconst 0, 1) := by decide +kernel
theorem dL_law_252 : decode cL_law 252 = .ok (.ireturn, 1) := by decide +kernel
theorem dL_law_253 : decode cL_law 253 = .ok (.aload_n 1, 1) := by decide +kernel
theorem dL_law_254 : decode cL_law 254 = .ok (.aload_n 0, 1) := by decide +kernel
theorem dL_law_255 : decode cL_law 255 = .ok (.iload_n 3, 1) := by decide +kernel
theorem dL_law_256 : decode cL_law 256 = .ok (.iconst 1, 1) := by decide +kernel
theorem dL_law_257 : decode cL_law 257 = .ok (.iadd, 1) := by decide +kernel
theorem dL_law_258 : decode cL_law 258 = .ok (.iaload, 1) := by decide +kernel
theorem dL_law_259 : decode cL_law 259 = .ok (.aload_n 0, 1) := by decide +kernel
theorem dL_law_260 : decode cL_law 260 = .ok (.iload_n 3, 1) := by decide +kernel
theorem dL_law_261 : decode cL_law 261 = .ok (.iconst 2, 1) := by decide +kernel
theorem dL_law_262 : decode cL_law 262 = .ok (.iadd, 1) := by decide +kernel
theorem dL_law_263 : decode cL_law 263 = .ok (.iaload, 1) := by decide +kernel
theorem dL_law_264 : decode cL_law 264 = .ok (.aload_n 0, 1) := by decide +kernel
theorem dL_law_265 : decode cL_law 265 = .ok (.iload_n 3, 1) := by decide +kernel
theorem dL_law_266 : decode cL_law 266 = .ok (.iconst 3, 1) := by decide +kernel
theorem dL_law_267 : decode cL_law 267 = .ok (.iadd, 1) := by decide +kernel
theorem dL_law_268 : decode cL_law 268 = .ok (.iaload, 1) := by decide +kernel
theorem dL_law_269 : decode cL_law 269 = .ok (.invokevirtual 18, 3) := by decide +kernel
theorem dL_law_272 : decode cL_law 272 = .ok (.aload_n 2, 1) := by decide +kernel
theorem dL_law_273 : decode cL_law 273 = .ok (.aload_n 0, 1) := by decide +kernel
theorem dL_law_274 : decode cL_law 274 = .ok (.iload_n 3, 1) := by decide +kernel
theorem dL_law_275 : decode cL_law 275 = .ok (.iconst 1, 1) := by decide +kernel
theorem dL_law_276 : decode cL_law 276 = .ok (.iadd, 1) := by decide +kernel
theorem dL_law_277 : decode cL_law 277 = .ok (.iaload, 1) := by decide +kernel
theorem dL_law_278 : decode cL_law 278 = .ok (.aload_n 0, 1) := by decide +kernel
theorem dL_law_279 : decode cL_law 279 = .ok (.iload_n 3, 1) := by decide +kernel
theorem dL_law_280 : decode cL_law 280 = .ok (.iconst 2, 1) := by decide +kernel
theorem dL_law_281 : decode cL_law 281 = .ok (.iadd, 1) := by decide +kernel
theorem dL_law_282 : decode cL_law 282 = .ok (.iaload, 1) := by decide +kernel
theorem dL_law_283 : decode cL_law 283 = .ok (.aload_n 0, 1) := by decide +kernel
theorem dL_law_284 : decode cL_law 284 = .ok (.iload_n 3, 1) := by decide +kernel
theorem dL_law_285 : decode cL_law 285 = .ok (.iconst 3, 1) := by decide +kernel
theorem dL_law_286 : decode cL_law 286 = .ok (.iadd, 1) := by decide +kernel
theorem dL_law_287 : decode cL_law 287 = .ok (.iaload, 1) := by decide +kernel
theorem dL_law_288 : decode cL_law 288 = .ok (.invokevirtual 22, 3) := by decide +kernel
theorem dL_law_291 : decode cL_law 291 = .ok (.if_icmp .eq 1041, 3) := by decide +kernel
theorem dL_law_294 : decode cL_law 294 = .ok (.iconst 0, 1) := by decide +kernel
theorem dL_law_295 : decode cL_law 295 = .ok (.ireturn, 1) := by decide +kernel
theorem dL_law_296 : decode cL_law 296 = .ok (.aload_n 1, 1) := by decide +kernel
theorem dL_law_297 : decode cL_law 297 = .ok (.aload_n 0, 1) := by decide +kernel
theorem dL_law_298 : decode cL_law 298 = .ok (.iload_n 3, 1) := by decide +kernel
theorem dL_law_299 : decode cL_law 299 = .ok (.iconst 1, 1) := by decide +kernel
theorem dL_law_300 : decode cL_law 300 = .ok (.iadd, 1) := by decide +kernel
theorem dL_law_301 : decode cL_law 301 = .ok (.iaload, 1) := by decide +kernel
theorem dL_law_302 : decode cL_law 302 = .ok (.aload_n 0, 1) := by decide +kernel
theorem dL_law_303 : decode cL_law 303 = .ok (.iload_n 3, 1) := by decide +kernel
theorem dL_law_304 : decode cL_law 304 = .ok (.iconst 2, 1) := by decide +kernel
theorem dL_law_305 : decode cL_law 305 = .ok (.iadd, 1) := by decide +kernel
theorem dL_law_306 : decode cL_law 306 = .ok (.iaload, 1) := by decide +kernel
theorem dL_law_307 : decode cL_law 307 = .ok (.invokevirtual 23, 3) := by decide +kernel
theorem dL_law_310 : decode cL_law 310 = .ok (.aload_n 2, 1) := by decide +kernel
theorem dL_law_311 : decode cL_law 311 = .ok (.aload_n 0, 1) := by decide +kernel
theorem dL_law_312 : decode cL_law 312 = .ok (.iload_n 3, 1) := by decide +kernel
theorem dL_law_313 : decode cL_law 313 = .ok (.iconst 1, 1) := by decide +kernel
theorem dL_law_314 : decode cL_law 314 = .ok (.iadd, 1) := by decide +kernel
theorem dL_law_315 : decode cL_law 315 = .ok (.iaload, 1) := by decide +kernel
theorem dL_law_316 : decode cL_law 316 = .ok (.aload_n 0, 1) := by decide +kernel
theorem dL_law_317 : decode cL_law 317 = .ok (.iload_n 3, 1) := by decide +kernel
theorem dL_law_318 : decode cL_law 318 = .ok (.iconst 2, 1) := by decide +kernel
theorem dL_law_319 : decode cL_law 319 = .ok (.iadd, 1) := by decide +kernel
theorem dL_law_320 : decode cL_law 320 = .ok (.iaload, 1) := by decide +kernel
theorem dL_law_321 : decode cL_law 321 = .ok (.invokevirtual 26, 3) := by decide +kernel
theorem dL_law_324 : decode cL_law 324 = .ok (.if_icmp .eq 1008, 3) := by decide +kernel
theorem dL_law_327 : decode cL_law 327 = .ok (.iconst 0, 1) := by decide +kernel
theorem dL_law_328 : decode cL_law 328 = .ok (.ireturn, 1) := by decide +kernel
theorem dL_law_329 : decode cL_law 329 = .ok (.aload_n 1, 1) := by decide +kernel
theorem dL_law_330 : decode cL_law 330 = .ok (.aload_n 0, 1) := by decide +kernel
theorem dL_law_331 : decode cL_law 331 = .ok (.iload_n 3, 1) := by decide +kernel
theorem dL_law_332 : decode cL_law 332 = .ok (.iconst 1, 1) := by decide +kernel
theorem dL_law_333 : decode cL_law 333 = .ok (.iadd, 1) := by decide +kernel
theorem dL_law_334 : decode cL_law 334 = .ok (.iaload, 1) := by decide +kernel
theorem dL_law_335 : decode cL_law 335 = .ok (.invokevirtual 27, 3) := by decide +kernel
theorem dL_law_338 : decode cL_law 338 = .ok (.aload_n 2, 1) := by decide +kernel
theorem dL_law_339 : decode cL_law 339 = .ok (.aload_n 0, 1) := by decide +kernel
theorem dL_law_340 : decode cL_law 340 = .ok (.iload_n 3, 1) := by decide +kernel
theorem dL_law_341 : decode cL_law 341 = .ok (.iconst 1, 1) := by decide +kernel
theorem dL_law_342 : decode cL_law 342 = .ok (.iadd, 1) := by decide +kernel
theorem dL_law_343 : decode cL_law 343 = .ok (.iaload, 1) := by decide +kernel
theorem dL_law_344 : decode cL_law 344 = .ok (.invokevirtual 31, 3) := by decide +kernel
theorem dL_law_347 : decode cL_law 347 = .ok (.if_icmp .eq 985, 3) := by decide +kernel
theorem dL_law_350 : decode cL_law 350 = .ok (.iconst 0, 1) := by decide +kernel
theorem dL_law_351 : decode cL_law 351 = .ok (.ireturn, 1) := by decide +kernel
theorem dL_law_352 : decode cL_law 352 = .ok (.aload_n 1, 1) := by decide +kernel
theorem dL_law_353 : decode cL_law 353 = .ok (.aload_n 0, 1) := by decide +kernel
theorem dL_law_354 : decode cL_law 354 = .ok (.iload_n 3, 1) := by decide +kernel
theorem dL_law_355 : decode cL_law 355 = .ok (.iconst 1, 1) := by decide +kernel
theorem dL_law_356 : decode cL_law 356 = .ok (.iadd, 1) := by decide +kernel
theorem dL_law_357 : decode cL_law 357 = .ok (.iaload, 1) := by decide +kernel
theorem dL_law_358 : decode cL_law 358 = .ok (.aload_n 0, 1) := by decide +kernel
theorem dL_law_359 : decode cL_law 359 = .ok (.iload_n 3, 1) := by decide +kernel
theorem dL_law_360 : decode cL_law 360 = .ok (.iconst 2, 1) := by decide +kernel
theorem dL_law_361 : decode cL_law 361 = .ok (.iadd, 1) := by decide +kernel
theorem dL_law_362 : decode cL_law 362 = .ok (.iaload, 1) := by decide +kernel
theorem dL_law_363 : decode cL_law 363 = .ok (.aload_n 0, 1) := by decide +kernel
theorem dL_law_364 : decode cL_law 364 = .ok (.iload_n 3, 1) := by decide +kernel
theorem dL_law_365 : decode cL_law 365 = .ok (.iconst 3, 1) := by decide +kernel
theorem dL_law_366 : decode cL_law 366 = .ok (.iadd, 1) := by decide +kernel
theorem dL_law_367 : decode cL_law 367 = .ok (.iaload, 1) := by decide +kernel
theorem dL_law_368 : decode cL_law 368 = .ok (.aload_n 0, 1) := by decide +kernel
theorem dL_law_369 : decode cL_law 369 = .ok (.iload_n 3, 1) := by decide +kernel
theorem dL_law_370 : decode cL_law 370 = .ok (.iconst 4, 1) := by decide +kernel
theorem dL_law_371 : decode cL_law 371 = .ok (.iadd, 1) := by decide +kernel
theorem dL_law_372 : decode cL_law 372 = .ok (.iaload, 1) := by decide +kernel
theorem dL_law_373 : decode cL_law 373 = .ok (.aload_n 0, 1) := by decide +kernel
theorem dL_law_374 : decode cL_law 374 = .ok (.iload_n 3, 1) := by decide +kernel
theorem dL_law_375 : decode cL_law 375 = .ok (.iconst 5, 1) := by decide +kernel
theorem dL_law_376 : decode cL_law 376 = .ok (.iadd, 1) := by decide +kernel
theorem dL_law_377 : decode cL_law 377 = .ok (.iaload, 1) := by decide +kernel
theorem dL_law_378 : decode cL_law 378 = .ok (.invokevirtual 32, 3) := by decide +kernel
theorem dL_law_381 : decode cL_law 381 = .ok (.aload_n 2, 1) := by decide +kernel
theorem dL_law_382 : decode cL_law 382 = .ok (.aload_n 0, 1) := by decide +kernel
theorem dL_law_383 : decode cL_law 383 = .ok (.iload_n 3, 1) := by decide +kernel
theorem dL_law_384 : decode cL_law 384 = .ok (.iconst 1, 1) := by decide +kernel
theorem dL_law_385 : decode cL_law 385 = .ok (.iadd, 1) := by decide +kernel
theorem dL_law_386 : decode cL_law 386 = .ok (.iaload, 1) := by decide +kernel
theorem dL_law_387 : decode cL_law 387 = .ok (.aload_n 0, 1) := by decide +kernel
theorem dL_law_388 : decode cL_law 388 = .ok (.iload_n 3, 1) := by decide +kernel
theorem dL_law_389 : decode cL_law 389 = .ok (.iconst 2, 1) := by decide +kernel
theorem dL_law_390 : decode cL_law 390 = .ok (.iadd, 1) := by decide +kernel
theorem dL_law_391 : decode cL_law 391 = .ok (.iaload, 1) := by decide +kernel
theorem dL_law_392 : decode cL_law 392 = .ok (.aload_n 0, 1) := by decide +kernel
theorem dL_law_393 : decode cL_law 393 = .ok (.iload_n 3, 1) := by decide +kernel
theorem dL_law_394 : decode cL_law 394 = .ok (.iconst 3, 1) := by decide +kernel
theorem dL_law_395 : decode cL_law 395 = .ok (.iadd, 1) := by decide +kernel
theorem dL_law_396 : decode cL_law 396 = .ok (.iaload, 1) := by decide +kernel
theorem dL_law_397 : decode cL_law 397 = .ok (.aload_n 0, 1) := by decide +kernel
theorem dL_law_398 : decode cL_law 398 = .ok (.iload_n 3, 1) := by decide +kernel
theorem dL_law_399 : decode cL_law 399 = .ok (.iconst 4, 1) := by decide +kernel
theorem dL_law_400 : decode cL_law 400 = .ok (.iadd, 1) := by decide +kernel
theorem dL_law_401 : decode cL_law 401 = .ok (.iaload, 1) := by decide +kernel
theorem dL_law_402 : decode cL_law 402 = .ok (.aload_n 0, 1) := by decide +kernel
theorem dL_law_403 : decode cL_law 403 = .ok (.iload_n 3, 1) := by decide +kernel
theorem dL_law_404 : decode cL_law 404 = .ok (.iconst 5, 1) := by decide +kernel
theorem dL_law_405 : decode cL_law 405 = .ok (.iadd, 1) := by decide +kernel
theorem dL_law_406 : decode cL_law 406 = .ok (.iaload, 1) := by decide +kernel
theorem dL_law_407 : decode cL_law 407 = .ok (.invokevirtual 36, 3) := by decide +kernel
theorem dL_law_410 : decode cL_law 410 = .ok (.if_icmp .eq 922, 3) := by decide +kernel
theorem dL_law_413 : decode cL_law 413 = .ok (.iconst 0, 1) := by decide +kernel
theorem dL_law_414 : decode cL_law 414 = .ok (.ireturn, 1) := by decide +kernel
theorem dL_law_415 : decode cL_law 415 = .ok (.aload_n 1, 1) := by decide +kernel
theorem dL_law_416 : decode cL_law 416 = .ok (.aload_n 0, 1) := by decide +kernel
theorem dL_law_417 : decode cL_law 417 = .ok (.iload_n 3, 1) := by decide +kernel
theorem dL_law_418 : decode cL_law 418 = .ok (.iconst 1, 1) := by decide +kernel
theorem dL_law_419 : decode cL_law 419 = .ok (.iadd, 1) := by decide +kernel
theorem dL_law_420 : decode cL_law 420 = .ok (.iaload, 1) := by decide +kernel
theorem dL_law_421 : decode cL_law 421 = .ok (.invokevirtual 37, 3) := by decide +kernel
theorem dL_law_424 : decode cL_law 424 = .ok (.aload_n 2, 1) := by decide +kernel
theorem dL_law_425 : decode cL_law 425 = .ok (.aload_n 0, 1) := by decide +kernel
theorem dL_law_426 : decode cL_law 426 = .ok (.iload_n 3, 1) := by decide +kernel
theorem dL_law_427 : decode cL_law 427 = .ok (.iconst 1, 1) := by decide +kernel
theorem dL_law_428 : decode cL_law 428 = .ok (.iadd, 1) := by decide +kernel
theorem dL_law_429 : decode cL_law 429 = .ok (.iaload, 1) := by decide +kernel
theorem dL_law_430 : decode cL_law 430 = .ok (.invokevirtual 40, 3) := by decide +kernel
theorem dL_law_433 : decode cL_law 433 = .ok (.if_icmp .eq 899, 3) := by decide +kernel
theorem dL_law_436 : decode cL_law 436 = .ok (.iconst 0, 1) := by decide +kernel
theorem dL_law_437 : decode cL_law 437 = .ok (.ireturn, 1) := by decide +kernel
theorem dL_law_438 : decode cL_law 438 = .ok (.aload_n 1, 1) := by decide +kernel
theorem dL_law_439 : decode cL_law 439 = .ok (.aload_n 0, 1) := by decide +kernel
theorem dL_law_440 : decode cL_law 440 = .ok (.iload_n 3, 1) := by decide +kernel
theorem dL_law_441 : decode cL_law 441 = .ok (.iconst 1, 1) := by decide +kernel
theorem dL_law_442 : decode cL_law 442 = .ok (.iadd, 1) := by decide +kernel
theorem dL_law_443 : decode cL_law 443 = .ok (.iaload, 1) := by decide +kernel
theorem dL_law_444 : decode cL_law 444 = .ok (.aload_n 0, 1) := by decide +kernel
theorem dL_law_445 : decode cL_law 445 = .ok (.iload_n 3, 1) := by decide +kernel
theorem dL_law_446 : decode cL_law 446 = .ok (.iconst 2, 1) := by decide +kernel
theorem dL_law_447 : decode cL_law 447 = .ok (.iadd, 1) := by decide +kernel
theorem dL_law_448 : decode cL_law 448 = .ok (.iaload, 1) := by decide +kernel
theorem dL_law_449 : decode cL_law 449 = .ok (.invokevirtual 41, 3) := by decide +kernel
theorem dL_law_452 : decode cL_law 452 = .ok (.aload_n 2, 1) := by decide +kernel
theorem dL_law_453 : decode cL_law 453 = .ok (.aload_n 0, 1) := by decide +kernel
theorem dL_law_454 : decode cL_law 454 = .ok (.iload_n 3, 1) := by decide +kernel
theorem dL_law_455 : decode cL_law 455 = .ok (.iconst 1, 1) := by decide +kernel
theorem dL_law_456 : decode cL_law 456 = .ok (.iadd, 1) := by decide +kernel
theorem dL_law_457 : decode cL_law 457 = .ok (.iaload, 1) := by decide +kernel
theorem dL_law_458 : decode cL_law 458 = .ok (.aload_n 0, 1) := by decide +kernel
theorem dL_law_459 : decode cL_law 459 = .ok (.iload_n 3, 1) := by decide +kernel
theorem dL_law_460 : decode cL_law 460 = .ok (.iconst 2, 1) := by decide +kernel
theorem dL_law_461 : decode cL_law 461 = .ok (.iadd, 1) := by decide +kernel
theorem dL_law_462 : decode cL_law 462 = .ok (.iaload, 1) := by decide +kernel
theorem dL_law_463 : decode cL_law 463 = .ok (.invokevirtual 44, 3) := by decide +kernel
theorem dL_law_466 : decode cL_law 466 = .ok (.if_icmp .eq 866, 3) := by decide +kernel
theorem dL_law_469 : decode cL_law 469 = .ok (.iconst 0, 1) := by decide +kernel
theorem dL_law_470 : decode cL_law 470 = .ok (.ireturn, 1) := by decide +kernel
theorem dL_law_471 : decode cL_law 471 = .ok (.aload_n 1, 1) := by decide +kernel
theorem dL_law_472 : decode cL_law 472 = .ok (.aload_n 0, 1) := by decide +kernel
theorem dL_law_473 : decode cL_law 473 = .ok (.iload_n 3, 1) := by decide +kernel
theorem dL_law_474 : decode cL_law 474 = .ok (.iconst 1, 1) := by decide +kernel
theorem dL_law_475 : decode cL_law 475 = .ok (.iadd, 1) := by decide +kernel
theorem dL_law_476 : decode cL_law 476 = .ok (.iaload, 1) := by decide +kernel
theorem dL_law_477 : decode cL_law 477 = .ok (.aload_n 0, 1) := by decide +kernel
theorem dL_law_478 : decode cL_law 478 = .ok (.iload_n 3, 1) := by decide +kernel
theorem dL_law_479 : decode cL_law 479 = .ok (.iconst 2, 1) := by decide +kernel
theorem dL_law_480 : decode cL_law 480 = .ok (.iadd, 1) := by decide +kernel
theorem dL_law_481 : decode cL_law 481 = .ok (.iaload, 1) := by decide +kernel
theorem dL_law_482 : decode cL_law 482 = .ok (.aload_n 0, 1) := by decide +kernel
theorem dL_law_483 : decode cL_law 483 = .ok (.iload_n 3, 1) := by decide +kernel
theorem dL_law_484 : decode cL_law 484 = .ok (.iconst 3, 1) := by decide +kernel
theorem dL_law_485 : decode cL_law 485 = .ok (.iadd, 1) := by decide +kernel
theorem dL_law_486 : decode cL_law 486 = .ok (.iaload, 1) := by decide +kernel
theorem dL_law_487 : decode cL_law 487 = .ok (.invokevirtual 45, 3) := by decide +kernel
theorem dL_law_490 : decode cL_law 490 = .ok (.aload_n 2, 1) := by decide +kernel
theorem dL_law_491 : decode cL_law 491 = .ok (.aload_n 0, 1) := by decide +kernel
theorem dL_law_492 : decode cL_law 492 = .ok (.iload_n 3, 1) := by decide +kernel
theorem dL_law_493 : decode cL_law 493 = .ok (.iconst 1, 1) := by decide +kernel
theorem dL_law_494 : decode cL_law 494 = .ok (.iadd, 1) := by decide +kernel
theorem dL_law_495 : decode cL_law 495 = .ok (.iaload, 1) := by decide +kernel
theorem dL_law_496 : decode cL_law 496 = .ok (.aload_n 0, 1) := by decide +kernel
theorem dL_law_497 : decode cL_law 497 = .ok (.iload_n 3, 1) := by decide +kernel
theorem dL_law_498 : decode cL_law 498 = .ok (.iconst 2, 1) := by decide +kernel
theorem dL_law_499 : decode cL_law 499 = .ok (.iadd, 1) := by decide +kernel
theorem dL_law_500 : decode cL_law 500 = .ok (.iaload, 1) := by decide +kernel
theorem dL_law_501 : decode cL_law 501 = .ok (.aload_n 0, 1) := by decide +kernel
theorem dL_law_502 : decode cL_law 502 = .ok (.iload_n 3, 1) := by decide +kernel
theorem dL_law_503 : decode cL_law 503 = .ok (.iconst 3, 1) := by decide +kernel
theorem dL_law_504 : decode cL_law 504 = .ok (.iadd, 1) := by decide +kernel
theorem dL_law_505 : decode cL_law 505 = .ok (.iaload, 1) := by decide +kernel
theorem dL_law_506 : decode cL_law 506 = .ok (.invokevirtual 48, 3) := by decide +kernel
theorem dL_law_509 : decode cL_law 509 = .ok (.if_icmp .eq 823, 3) := by decide +kernel
theorem dL_law_512 : decode cL_law 512 = .ok (.iconst 0, 1) := by decide +kernel
theorem dL_law_513 : decode cL_law 513 = .ok (.ireturn, 1) := by decide +kernel
theorem dL_law_514 : decode cL_law 514 = .ok (.aload_n 1, 1) := by decide +kernel
theorem dL_law_515 : decode cL_law 515 = .ok (.aload_n 0, 1) := by decide +kernel
theorem dL_law_516 : decode cL_law 516 = .ok (.iload_n 3, 1) := by decide +kernel
theorem dL_law_517 : decode cL_law 517 = .ok (.iconst 1, 1) := by decide +kernel
theorem dL_law_518 : decode cL_law 518 = .ok (.iadd, 1) := by decide +kernel
theorem dL_law_519 : decode cL_law 519 = .ok (.iaload, 1) := by decide +kernel
theorem dL_law_520 : decode cL_law 520 = .ok (.invokevirtual 49, 3) := by decide +kernel
theorem dL_law_523 : decode cL_law 523 = .ok (.aload_n 2, 1) := by decide +kernel
theorem dL_law_524 : decode cL_law 524 = .ok (.aload_n 0, 1) := by decide +kernel
theorem dL_law_525 : decode cL_law 525 = .ok (.iload_n 3, 1) := by decide +kernel
theorem dL_law_526 : decode cL_law 526 = .ok (.iconst 1, 1) := by decide +kernel
theorem dL_law_527 : decode cL_law 527 = .ok (.iadd, 1) := by decide +kernel
theorem dL_law_528 : decode cL_law 528 = .ok (.iaload, 1) := by decide +kernel
theorem dL_law_529 : decode cL_law 529 = .ok (.invokevirtual 52, 3) := by decide +kernel
theorem dL_law_532 : decode cL_law 532 = .ok (.if_icmp .eq 800, 3) := by decide +kernel
theorem dL_law_535 : decode cL_law 535 = .ok (.iconst 0, 1) := by decide +kernel
theorem dL_law_536 : decode cL_law 536 = .ok (.ireturn, 1) := by decide +kernel
theorem dL_law_537 : decode cL_law 537 = .ok (.aload_n 1, 1) := by decide +kernel
theorem dL_law_538 : decode cL_law 538 = .ok (.aload_n 0, 1) := by decide +kernel
theorem dL_law_539 : decode cL_law 539 = .ok (.iload_n 3, 1) := by decide +kernel
theorem dL_law_540 : decode cL_law 540 = .ok (.iconst 1, 1) := by decide +kernel
theorem dL_law_541 : decode cL_law 541 = .ok (.iadd, 1) := by decide +kernel
theorem dL_law_542 : decode cL_law 542 = .ok (.iaload, 1) := by decide +kernel
theorem dL_law_543 : decode cL_law 543 = .ok (.invokevirtual 53, 3) := by decide +kernel
theorem dL_law_546 : decode cL_law 546 = .ok (.aload_n 2, 1) := by decide +kernel
theorem dL_law_547 : decode cL_law 547 = .ok (.aload_n 0, 1) := by decide +kernel
theorem dL_law_548 : decode cL_law 548 = .ok (.iload_n 3, 1) := by decide +kernel
theorem dL_law_549 : decode cL_law 549 = .ok (.iconst 1, 1) := by decide +kernel
theorem dL_law_550 : decode cL_law 550 = .ok (.iadd, 1) := by decide +kernel
theorem dL_law_551 : decode cL_law 551 = .ok (.iaload, 1) := by decide +kernel
theorem dL_law_552 : decode cL_law 552 = .ok (.invokevirtual 56, 3) := by decide +kernel
theorem dL_law_555 : decode cL_law 555 = .ok (.if_icmp .eq 777, 3) := by decide +kernel
theorem dL_law_558 : decode cL_law 558 = .ok (.iconst 0, 1) := by decide +kernel
theorem dL_law_559 : decode cL_law 559 = .ok (.ireturn, 1) := by decide +kernel
theorem dL_law_560 : decode cL_law 560 = .ok (.aload_n 1, 1) := by decide +kernel
theorem dL_law_561 : decode cL_law 561 = .ok (.aload_n 0, 1) := by decide +kernel
theorem dL_law_562 : decode cL_law 562 = .ok (.iload_n 3, 1) := by decide +kernel
theorem dL_law_563 : decode cL_law 563 = .ok (.iconst 1, 1) := by decide +kernel
theorem dL_law_564 : decode cL_law 564 = .ok (.iadd, 1) := by decide +kernel
theorem dL_law_565 : decode cL_law 565 = .ok (.iaload, 1) := by decide +kernel
theorem dL_law_566 : decode cL_law 566 = .ok (.aload_n 0, 1) := by decide +kernel
theorem dL_law_567 : decode cL_law 567 = .ok (.iload_n 3, 1) := by decide +kernel
theorem dL_law_568 : decode cL_law 568 = .ok (.iconst 2, 1) := by decide +kernel
theorem dL_law_569 : decode cL_law 569 = .ok (.iadd, 1) := by decide +kernel
theorem dL_law_570 : decode cL_law 570 = .ok (.iaload, 1) := by decide +kernel
theorem dL_law_571 : decode cL_law 571 = .ok (.invokevirtual 57, 3) := by decide +kernel
theorem dL_law_574 : decode cL_law 574 = .ok (.aload_n 2, 1) := by decide +kernel
theorem dL_law_575 : decode cL_law 575 = .ok (.aload_n 0, 1) := by decide +kernel
theorem dL_law_576 : decode cL_law 576 = .ok (.iload_n 3, 1) := by decide +kernel
theorem dL_law_577 : decode cL_law 577 = .ok (.iconst 1, 1) := by decide +kernel
theorem dL_law_578 : decode cL_law 578 = .ok (.iadd, 1) := by decide +kernel
theorem dL_law_579 : decode cL_law 579 = .ok (.iaload, 1) := by decide +kernel
theorem dL_law_580 : decode cL_law 580 = .ok (.aload_n 0, 1) := by decide +kernel
theorem dL_law_581 : decode cL_law 581 = .ok (.iload_n 3, 1) := by decide +kernel
theorem dL_law_582 : decode cL_law 582 = .ok (.iconst 2, 1) := by decide +kernel
theorem dL_law_583 : decode cL_law 583 = .ok (.iadd, 1) := by decide +kernel
theorem dL_law_584 : decode cL_law 584 = .ok (.iaload, 1) := by decide +kernel
theorem dL_law_585 : decode cL_law 585 = .ok (.invokevirtual 60, 3) := by decide +kernel
theorem dL_law_588 : decode cL_law 588 = .ok (.if_icmp .eq 744, 3) := by decide +kernel
theorem dL_law_591 : decode cL_law 591 = .ok (.iconst 0, 1) := by decide +kernel
theorem dL_law_592 : decode cL_law 592 = .ok (.ireturn, 1) := by decide +kernel
theorem dL_law_593 : decode cL_law 593 = .ok (.aload_n 1, 1) := by decide +kernel
theorem dL_law_594 : decode cL_law 594 = .ok (.aload_n 0, 1) := by decide +kernel
theorem dL_law_595 : decode cL_law 595 = .ok (.iload_n 3, 1) := by decide +kernel
theorem dL_law_596 : decode cL_law 596 = .ok (.iconst 1, 1) := by decide +kernel
theorem dL_law_597 : decode cL_law 597 = .ok (.iadd, 1) := by decide +kernel
theorem dL_law_598 : decode cL_law 598 = .ok (.iaload, 1) := by decide +kernel
theorem dL_law_599 : decode cL_law 599 = .ok (.aload_n 0, 1) := by decide +kernel
theorem dL_law_600 : decode cL_law 600 = .ok (.iload_n 3, 1) := by decide +kernel
theorem dL_law_601 : decode cL_law 601 = .ok (.iconst 2, 1) := by decide +kernel
theorem dL_law_602 : decode cL_law 602 = .ok (.iadd, 1) := by decide +kernel
theorem dL_law_603 : decode cL_law 603 = .ok (.iaload, 1) := by decide +kernel
theorem dL_law_604 : decode cL_law 604 = .ok (.invokevirtual 61, 3) := by decide +kernel
theorem dL_law_607 : decode cL_law 607 = .ok (.aload_n 2, 1) := by decide +kernel
theorem dL_law_608 : decode cL_law 608 = .ok (.aload_n 0, 1) := by decide +kernel
theorem dL_law_609 : decode cL_law 609 = .ok (.iload_n 3, 1) := by decide +kernel
theorem dL_law_610 : decode cL_law 610 = .ok (.iconst 1, 1) := by decide +kernel
theorem dL_law_611 : decode cL_law 611 = .ok (.iadd, 1) := by decide +kernel
theorem dL_law_612 : decode cL_law 612 = .ok (.iaload, 1) := by decide +kernel
theorem dL_law_613 : decode cL_law 613 = .ok (.aload_n 0, 1) := by decide +kernel
theorem dL_law_614 : decode cL_law 614 = .ok (.iload_n 3, 1) := by decide +kernel
theorem dL_law_615 : decode cL_law 615 = .ok (.iconst 2, 1) := by decide +kernel
theorem dL_law_616 : decode cL_law 616 = .ok (.iadd, 1) := by decide +kernel
theorem dL_law_617 : decode cL_law 617 = .ok (.iaload, 1) := by decide +kernel
theorem dL_law_618 : decode cL_law 618 = .ok (.invokevirtual 64, 3) := by decide +kernel
theorem dL_law_621 : decode cL_law 621 = .ok (.if_icmp .eq 711, 3) := by decide +kernel
theorem dL_law_624 : decode cL_law 624 = .ok (.iconst 0, 1) := by decide +kernel
theorem dL_law_625 : decode cL_law 625 = .ok (.ireturn, 1) := by decide +kernel
theorem dL_law_626 : decode cL_law 626 = .ok (.aload_n 1, 1) := by decide +kernel
theorem dL_law_627 : decode cL_law 627 = .ok (.aload_n 0, 1) := by decide +kernel
theorem dL_law_628 : decode cL_law 628 = .ok (.iload_n 3, 1) := by decide +kernel
theorem dL_law_629 : decode cL_law 629 = .ok (.iconst 1, 1) := by decide +kernel
theorem dL_law_630 : decode cL_law 630 = .ok (.iadd, 1) := by decide +kernel
theorem dL_law_631 : decode cL_law 631 = .ok (.iaload, 1) := by decide +kernel
theorem dL_law_632 : decode cL_law 632 = .ok (.invokevirtual 65, 3) := by decide +kernel
theorem dL_law_635 : decode cL_law 635 = .ok (.aload_n 2, 1) := by decide +kernel
theorem dL_law_636 : decode cL_law 636 = .ok (.aload_n 0, 1) := by decide +kernel
theorem dL_law_637 : decode cL_law 637 = .ok (.iload_n 3, 1) := by decide +kernel
theorem dL_law_638 : decode cL_law 638 = .ok (.iconst 1, 1) := by decide +kernel
theorem dL_law_639 : decode cL_law 639 = .ok (.iadd, 1) := by decide +kernel
theorem dL_law_640 : decode cL_law 640 = .ok (.iaload, 1) := by decide +kernel
theorem dL_law_641 : decode cL_law 641 = .ok (.invokevirtual 68, 3) := by decide +kernel
theorem dL_law_644 : decode cL_law 644 = .ok (.if_icmp .eq 688, 3) := by decide +kernel
theorem dL_law_647 : decode cL_law 647 = .ok (.iconst 0, 1) := by decide +kernel
theorem dL_law_648 : decode cL_law 648 = .ok (.ireturn, 1) := by decide +kernel
theorem dL_law_649 : decode cL_law 649 = .ok (.aload_n 1, 1) := by decide +kernel
theorem dL_law_650 : decode cL_law 650 = .ok (.invokevirtual 69, 3) := by decide +kernel
theorem dL_law_653 : decode cL_law 653 = .ok (.aload_n 2, 1) := by decide +kernel
theorem dL_law_654 : decode cL_law 654 = .ok (.invokevirtual 73, 3) := by decide +kernel
theorem dL_law_657 : decode cL_law 657 = .ok (.if_icmp .eq 675, 3) := by decide +kernel
theorem dL_law_660 : decode cL_law 660 = .ok (.iconst 0, 1) := by decide +kernel
theorem dL_law_661 : decode cL_law 661 = .ok (.ireturn, 1) := by decide +kernel
theorem dL_law_662 : decode cL_law 662 = .ok (.aload_n 1, 1) := by decide +kernel
theorem dL_law_663 : decode cL_law 663 = .ok (.aload_n 0, 1) := by decide +kernel
theorem dL_law_664 : decode cL_law 664 = .ok (.iload_n 3, 1) := by decide +kernel
theorem dL_law_665 : decode cL_law 665 = .ok (.iconst 1, 1) := by decide +kernel
theorem dL_law_666 : decode cL_law 666 = .ok (.iadd, 1) := by decide +kernel
theorem dL_law_667 : decode cL_law 667 = .ok (.iaload, 1) := by decide +kernel
theorem dL_law_668 : decode cL_law 668 = .ok (.invokevirtual 74, 3) := by decide +kernel
theorem dL_law_671 : decode cL_law 671 = .ok (.aload_n 2, 1) := by decide +kernel
theorem dL_law_672 : decode cL_law 672 = .ok (.aload_n 0, 1) := by decide +kernel
theorem dL_law_673 : decode cL_law 673 = .ok (.iload_n 3, 1) := by decide +kernel
theorem dL_law_674 : decode cL_law 674 = .ok (.iconst 1, 1) := by decide +kernel
theorem dL_law_675 : decode cL_law 675 = .ok (.iadd, 1) := by decide +kernel
theorem dL_law_676 : decode cL_law 676 = .ok (.iaload, 1) := by decide +kernel
theorem dL_law_677 : decode cL_law 677 = .ok (.invokevirtual 77, 3) := by decide +kernel
theorem dL_law_680 : decode cL_law 680 = .ok (.if_icmp .eq 652, 3) := by decide +kernel
theorem dL_law_683 : decode cL_law 683 = .ok (.iconst 0, 1) := by decide +kernel
theorem dL_law_684 : decode cL_law 684 = .ok (.ireturn, 1) := by decide +kernel
theorem dL_law_685 : decode cL_law 685 = .ok (.aload_n 1, 1) := by decide +kernel
theorem dL_law_686 : decode cL_law 686 = .ok (.aload_n 0, 1) := by decide +kernel
theorem dL_law_687 : decode cL_law 687 = .ok (.iload_n 3, 1) := by decide +kernel
theorem dL_law_688 : decode cL_law 688 = .ok (.iconst 1, 1) := by decide +kernel
theorem dL_law_689 : decode cL_law 689 = .ok (.iadd, 1) := by decide +kernel
theorem dL_law_690 : decode cL_law 690 = .ok (.iaload, 1) := by decide +kernel
theorem dL_law_691 : decode cL_law 691 = .ok (.invokevirtual 78, 3) := by decide +kernel
theorem dL_law_694 : decode cL_law 694 = .ok (.aload_n 2, 1) := by decide +kernel
theorem dL_law_695 : decode cL_law 695 = .ok (.aload_n 0, 1) := by decide +kernel
theorem dL_law_696 : decode cL_law 696 = .ok (.iload_n 3, 1) := by decide +kernel
theorem dL_law_697 : decode cL_law 697 = .ok (.iconst 1, 1) := by decide +kernel
theorem dL_law_698 : decode cL_law 698 = .ok (.iadd, 1) := by decide +kernel
theorem dL_law_699 : decode cL_law 699 = .ok (.iaload, 1) := by decide +kernel
theorem dL_law_700 : decode cL_law 700 = .ok (.invokevirtual 81, 3) := by decide +kernel
theorem dL_law_703 : decode cL_law 703 = .ok (.if_icmp .eq 629, 3) := by decide +kernel
theorem dL_law_706 : decode cL_law 706 = .ok (.iconst 0, 1) := by decide +kernel
theorem dL_law_707 : decode cL_law 707 = .ok (.ireturn, 1) := by decide +kernel
theorem dL_law_708 : decode cL_law 708 = .ok (.aload_n 1, 1) := by decide +kernel
theorem dL_law_709 : decode cL_law 709 = .ok (.aload_n 0, 1) := by decide +kernel
theorem dL_law_710 : decode cL_law 710 = .ok (.iload_n 3, 1) := by decide +kernel
theorem dL_law_711 : decode cL_law 711 = .ok (.iconst 1, 1) := by decide +kernel
theorem dL_law_712 : decode cL_law 712 = .ok (.iadd, 1) := by decide +kernel
theorem dL_law_713 : decode cL_law 713 = .ok (.iaload, 1) := by decide +kernel
theorem dL_law_714 : decode cL_law 714 = .ok (.aload_n 0, 1) := by decide +kernel
theorem dL_law_715 : decode cL_law 715 = .ok (.iload_n 3, 1) := by decide +kernel
theorem dL_law_716 : decode cL_law 716 = .ok (.iconst 2, 1) := by decide +kernel
theorem dL_law_717 : decode cL_law 717 = .ok (.iadd, 1) := by decide +kernel
theorem dL_law_718 : decode cL_law 718 = .ok (.iaload, 1) := by decide +kernel
theorem dL_law_719 : decode cL_law 719 = .ok (.invokevirtual 82, 3) := by decide +kernel
theorem dL_law_722 : decode cL_law 722 = .ok (.aload_n 2, 1) := by decide +kernel
theorem dL_law_723 : decode cL_law 723 = .ok (.aload_n 0, 1) := by decide +kernel
theorem dL_law_724 : decode cL_law 724 = .ok (.iload_n 3, 1) := by decide +kernel
theorem dL_law_725 : decode cL_law 725 = .ok (.iconst 1, 1) := by decide +kernel
theorem dL_law_726 : decode cL_law 726 = .ok (.iadd, 1) := by decide +kernel
theorem dL_law_727 : decode cL_law 727 = .ok (.iaload, 1) := by decide +kernel
theorem dL_law_728 : decode cL_law 728 = .ok (.aload_n 0, 1) := by decide +kernel
theorem dL_law_729 : decode cL_law 729 = .ok (.iload_n 3, 1) := by decide +kernel
theorem dL_law_730 : decode cL_law 730 = .ok (.iconst 2, 1) := by decide +kernel
theorem dL_law_731 : decode cL_law 731 = .ok (.iadd, 1) := by decide +kernel
theorem dL_law_732 : decode cL_law 732 = .ok (.iaload, 1) := by decide +kernel
theorem dL_law_733 : decode cL_law 733 = .ok (.invokevirtual 85, 3) := by decide +kernel
theorem dL_law_736 : decode cL_law 736 = .ok (.if_icmp .eq 596, 3) := by decide +kernel
theorem dL_law_739 : decode cL_law 739 = .ok (.iconst 0, 1) := by decide +kernel
theorem dL_law_740 : decode cL_law 740 = .ok (.ireturn, 1) := by decide +kernel
theorem dL_law_741 : decode cL_law 741 = .ok (.aload_n 1, 1) := by decide +kernel
theorem dL_law_742 : decode cL_law 742 = .ok (.aload_n 0, 1) := by decide +kernel
theorem dL_law_743 : decode cL_law 743 = .ok (.iload_n 3, 1) := by decide +kernel
theorem dL_law_744 : decode cL_law 744 = .ok (.iconst 1, 1) := by decide +kernel
theorem dL_law_745 : decode cL_law 745 = .ok (.iadd, 1) := by decide +kernel
theorem dL_law_746 : decode cL_law 746 = .ok (.iaload, 1) := by decide +kernel
theorem dL_law_747 : decode cL_law 747 = .ok (.invokevirtual 86, 3) := by decide +kernel
theorem dL_law_750 : decode cL_law 750 = .ok (.aload_n 2, 1) := by decide +kernel
theorem dL_law_751 : decode cL_law 751 = .ok (.aload_n 0, 1) := by decide +kernel
theorem dL_law_752 : decode cL_law 752 = .ok (.iload_n 3, 1) := by decide +kernel
theorem dL_law_753 : decode cL_law 753 = .ok (.iconst 1, 1) := by decide +kernel
theorem dL_law_754 : decode cL_law 754 = .ok (.iadd, 1) := by decide +kernel
theorem dL_law_755 : decode cL_law 755 = .ok (.iaload, 1) := by decide +kernel
theorem dL_law_756 : decode cL_law 756 = .ok (.invokevirtual 89, 3) := by decide +kernel
theorem dL_law_759 : decode cL_law 759 = .ok (.if_icmp .eq 573, 3) := by decide +kernel
theorem dL_law_762 : decode cL_law 762 = .ok (.iconst 0, 1) := by decide +kernel
theorem dL_law_763 : decode cL_law 763 = .ok (.ireturn, 1) := by decide +kernel
theorem dL_law_764 : decode cL_law 764 = .ok (.aload_n 1, 1) := by decide +kernel
theorem dL_law_765 : decode cL_law 765 = .ok (.aload_n 0, 1) := by decide +kernel
theorem dL_law_766 : decode cL_law 766 = .ok (.iload_n 3, 1) := by decide +kernel
theorem dL_law_767 : decode cL_law 767 = .ok (.iconst 1, 1) := by decide +kernel
theorem dL_law_768 : decode cL_law 768 = .ok (.iadd, 1) := by decide +kernel
theorem dL_law_769 : decode cL_law 769 = .ok (.iaload, 1) := by decide +kernel
theorem dL_law_770 : decode cL_law 770 = .ok (.invokevirtual 90, 3) := by decide +kernel
theorem dL_law_773 : decode cL_law 773 = .ok (.aload_n 2, 1) := by decide +kernel
theorem dL_law_774 : decode cL_law 774 = .ok (.aload_n 0, 1) := by decide +kernel
theorem dL_law_775 : decode cL_law 775 = .ok (.iload_n 3, 1) := by decide +kernel
theorem dL_law_776 : decode cL_law 776 = .ok (.iconst 1, 1) := by decide +kernel
theorem dL_law_777 : decode cL_law 777 = .ok (.iadd, 1) := by decide +kernel
theorem dL_law_778 : decode cL_law 778 = .ok (.iaload, 1) := by decide +kernel
theorem dL_law_779 : decode cL_law 779 = .ok (.invokevirtual 93, 3) := by decide +kernel
theorem dL_law_782 : decode cL_law 782 = .ok (.if_icmp .eq 550, 3) := by decide +kernel
theorem dL_law_785 : decode cL_law 785 = .ok (.iconst 0, 1) := by decide +kernel
theorem dL_law_786 : decode cL_law 786 = .ok (.ireturn, 1) := by decide +kernel
theorem dL_law_787 : decode cL_law 787 = .ok (.aload_n 1, 1) := by decide +kernel
theorem dL_law_788 : decode cL_law 788 = .ok (.aload_n 0, 1) := by decide +kernel
theorem dL_law_789 : decode cL_law 789 = .ok (.iload_n 3, 1) := by decide +kernel
theorem dL_law_790 : decode cL_law 790 = .ok (.iconst 1, 1) := by decide +kernel
theorem dL_law_791 : decode cL_law 791 = .ok (.iadd, 1) := by decide +kernel
theorem dL_law_792 : decode cL_law 792 = .ok (.iaload, 1) := by decide +kernel
theorem dL_law_793 : decode cL_law 793 = .ok (.invokevirtual 94, 3) := by decide +kernel
theorem dL_law_796 : decode cL_law 796 = .ok (.aload_n 2, 1) := by decide +kernel
theorem dL_law_797 : decode cL_law 797 = .ok (.aload_n 0, 1) := by decide +kernel
theorem dL_law_798 : decode cL_law 798 = .ok (.iload_n 3, 1) := by decide +kernel
theorem dL_law_799 : decode cL_law 799 = .ok (.iconst 1, 1) := by decide +kernel
theorem dL_law_800 : decode cL_law 800 = .ok (.iadd, 1) := by decide +kernel
theorem dL_law_801 : decode cL_law 801 = .ok (.iaload, 1) := by decide +kernel
theorem dL_law_802 : decode cL_law 802 = .ok (.invokevirtual 97, 3) := by decide +kernel
theorem dL_law_805 : decode cL_law 805 = .ok (.if_icmp .eq 527, 3) := by decide +kernel
theorem dL_law_808 : decode cL_law 808 = .ok (.iconst 0, 1) := by decide +kernel
theorem dL_law_809 : decode cL_law 809 = .ok (.ireturn, 1) := by decide +kernel
theorem dL_law_810 : decode cL_law 810 = .ok (.aload_n 1, 1) := by decide +kernel
theorem dL_law_811 : decode cL_law 811 = .ok (.aload_n 0, 1) := by decide +kernel
theorem dL_law_812 : decode cL_law 812 = .ok (.iload_n 3, 1) := by decide +kernel
theorem dL_law_813 : decode cL_law 813 = .ok (.iconst 1, 1) := by decide +kernel
theorem dL_law_814 : decode cL_law 814 = .ok (.iadd, 1) := by decide +kernel
theorem dL_law_815 : decode cL_law 815 = .ok (.iaload, 1) := by decide +kernel
theorem dL_law_816 : decode cL_law 816 = .ok (.invokevirtual 98, 3) := by decide +kernel
theorem dL_law_819 : decode cL_law 819 = .ok (.aload_n 2, 1) := by decide +kernel
theorem dL_law_820 : decode cL_law 820 = .ok (.aload_n 0, 1) := by decide +kernel
theorem dL_law_821 : decode cL_law 821 = .ok (.iload_n 3, 1) := by decide +kernel
theorem dL_law_822 : decode cL_law 822 = .ok (.iconst 1, 1) := by decide +kernel
theorem dL_law_823 : decode cL_law 823 = .ok (.iadd, 1) := by decide +kernel
theorem dL_law_824 : decode cL_law 824 = .ok (.iaload, 1) := by decide +kernel
theorem dL_law_825 : decode cL_law 825 = .ok (.invokevirtual 101, 3) := by decide +kernel
theorem dL_law_828 : decode cL_law 828 = .ok (.if_icmp .eq 504, 3) := by decide +kernel
theorem dL_law_831 : decode cL_law 831 = .ok (.iconst 0, 1) := by decide +kernel
theorem dL_law_832 : decode cL_law 832 = .ok (.ireturn, 1) := by decide +kernel
theorem dL_law_833 : decode cL_law 833 = .ok (.aload_n 1, 1) := by decide +kernel
theorem dL_law_834 : decode cL_law 834 = .ok (.invokevirtual 102, 3) := by decide +kernel
theorem dL_law_837 : decode cL_law 837 = .ok (.aload_n 2, 1) := by decide +kernel
theorem dL_law_838 : decode cL_law 838 = .ok (.invokevirtual 105, 3) := by decide +kernel
theorem dL_law_841 : decode cL_law 841 = .ok (.if_icmp .eq 491, 3) := by decide +kernel
theorem dL_law_844 : decode cL_law 844 = .ok (.iconst 0, 1) := by decide +kernel
theorem dL_law_845 : decode cL_law 845 = .ok (.ireturn, 1) := by decide +kernel
theorem dL_law_846 : decode cL_law 846 = .ok (.aload_n 1, 1) := by decide +kernel
theorem dL_law_847 : decode cL_law 847 = .ok (.aload_n 0, 1) := by decide +kernel
theorem dL_law_848 : decode cL_law 848 = .ok (.iload_n 3, 1) := by decide +kernel
theorem dL_law_849 : decode cL_law 849 = .ok (.iconst 1, 1) := by decide +kernel
theorem dL_law_850 : decode cL_law 850 = .ok (.iadd, 1) := by decide +kernel
theorem dL_law_851 : decode cL_law 851 = .ok (.iaload, 1) := by decide +kernel
theorem dL_law_852 : decode cL_law 852 = .ok (.aload_n 0, 1) := by decide +kernel
theorem dL_law_853 : decode cL_law 853 = .ok (.iload_n 3, 1) := by decide +kernel
theorem dL_law_854 : decode cL_law 854 = .ok (.iconst 2, 1) := by decide +kernel
theorem dL_law_855 : decode cL_law 855 = .ok (.iadd, 1) := by decide +kernel
theorem dL_law_856 : decode cL_law 856 = .ok (.iaload, 1) := by decide +kernel
theorem dL_law_857 : decode cL_law 857 = .ok (.invokevirtual 106, 3) := by decide +kernel
theorem dL_law_860 : decode cL_law 860 = .ok (.aload_n 2, 1) := by decide +kernel
theorem dL_law_861 : decode cL_law 861 = .ok (.aload_n 0, 1) := by decide +kernel
theorem dL_law_862 : decode cL_law 862 = .ok (.iload_n 3, 1) := by decide +kernel
theorem dL_law_863 : decode cL_law 863 = .ok (.iconst 1, 1) := by decide +kernel
theorem dL_law_864 : decode cL_law 864 = .ok (.iadd, 1) := by decide +kernel
theorem dL_law_865 : decode cL_law 865 = .ok (.iaload, 1) := by decide +kernel
theorem dL_law_866 : decode cL_law 866 = .ok (.aload_n 0, 1) := by decide +kernel
theorem dL_law_867 : decode cL_law 867 = .ok (.iload_n 3, 1) := by decide +kernel
theorem dL_law_868 : decode cL_law 868 = .ok (.iconst 2, 1) := by decide +kernel
theorem dL_law_869 : decode cL_law 869 = .ok (.iadd, 1) := by decide +kernel
theorem dL_law_870 : decode cL_law 870 = .ok (.iaload, 1) := by decide +kernel
theorem dL_law_871 : decode cL_law 871 = .ok (.invokevirtual 109, 3) := by decide +kernel
theorem dL_law_874 : decode cL_law 874 = .ok (.if_icmp .eq 458, 3) := by decide +kernel
theorem dL_law_877 : decode cL_law 877 = .ok (.iconst 0, 1) := by decide +kernel
theorem dL_law_878 : decode cL_law 878 = .ok (.ireturn, 1) := by decide +kernel
theorem dL_law_879 : decode cL_law 879 = .ok (.aload_n 1, 1) := by decide +kernel
theorem dL_law_880 : decode cL_law 880 = .ok (.aload_n 0, 1) := by decide +kernel
theorem dL_law_881 : decode cL_law 881 = .ok (.iload_n 3, 1) := by decide +kernel
theorem dL_law_882 : decode cL_law 882 = .ok (.iconst 1, 1) := by decide +kernel
theorem dL_law_883 : decode cL_law 883 = .ok (.iadd, 1) := by decide +kernel
theorem dL_law_884 : decode cL_law 884 = .ok (.iaload, 1) := by decide +kernel
theorem dL_law_885 : decode cL_law 885 = .ok (.invokevirtual 110, 3) := by decide +kernel
theorem dL_law_888 : decode cL_law 888 = .ok (.aload_n 2, 1) := by decide +kernel
theorem dL_law_889 : decode cL_law 889 = .ok (.aload_n 0, 1) := by decide +kernel
theorem dL_law_890 : decode cL_law 890 = .ok (.iload_n 3, 1) := by decide +kernel
theorem dL_law_891 : decode cL_law 891 = .ok (.iconst 1, 1) := by decide +kernel
theorem dL_law_892 : decode cL_law 892 = .ok (.iadd, 1) := by decide +kernel
theorem dL_law_893 : decode cL_law 893 = .ok (.iaload, 1) := by decide +kernel
theorem dL_law_894 : decode cL_law 894 = .ok (.invokevirtual 113, 3) := by decide +kernel
theorem dL_law_897 : decode cL_law 897 = .ok (.if_icmp .eq 435, 3) := by decide +kernel
theorem dL_law_900 : decode cL_law 900 = .ok (.iconst 0, 1) := by decide +kernel
theorem dL_law_901 : decode cL_law 901 = .ok (.ireturn, 1) := by decide +kernel
theorem dL_law_902 : decode cL_law 902 = .ok (.aload_n 1, 1) := by decide +kernel
theorem dL_law_903 : decode cL_law 903 = .ok (.invokevirtual 114, 3) := by decide +kernel
theorem dL_law_906 : decode cL_law 906 = .ok (.aload_n 2, 1) := by decide +kernel
theorem dL_law_907 : decode cL_law 907 = .ok (.invokevirtual 117, 3) := by decide +kernel
theorem dL_law_910 : decode cL_law 910 = .ok (.if_icmp .eq 422, 3) := by decide +kernel
theorem dL_law_913 : decode cL_law 913 = .ok (.iconst 0, 1) := by decide +kernel
theorem dL_law_914 : decode cL_law 914 = .ok (.ireturn, 1) := by decide +kernel
theorem dL_law_915 : decode cL_law 915 = .ok (.aload_n 1, 1) := by decide +kernel
theorem dL_law_916 : decode cL_law 916 = .ok (.aload_n 0, 1) := by decide +kernel
theorem dL_law_917 : decode cL_law 917 = .ok (.iload_n 3, 1) := by decide +kernel
theorem dL_law_918 : decode cL_law 918 = .ok (.iconst 1, 1) := by decide +kernel
theorem dL_law_919 : decode cL_law 919 = .ok (.iadd, 1) := by decide +kernel
theorem dL_law_920 : decode cL_law 920 = .ok (.iaload, 1) := by decide +kernel
theorem dL_law_921 : decode cL_law 921 = .ok (.invokevirtual 118, 3) := by decide +kernel
theorem dL_law_924 : decode cL_law 924 = .ok (.aload_n 2, 1) := by decide +kernel
theorem dL_law_925 : decode cL_law 925 = .ok (.aload_n 0, 1) := by decide +kernel
theorem dL_law_926 : decode cL_law 926 = .ok (.iload_n 3, 1) := by decide +kernel
theorem dL_law_927 : decode cL_law 927 = .ok (.iconst 1, 1) := by decide +kernel
theorem dL_law_928 : decode cL_law 928 = .ok (.iadd, 1) := by decide +kernel
theorem dL_law_929 : decode cL_law 929 = .ok (.iaload, 1) := by decide +kernel
theorem dL_law_930 : decode cL_law 930 = .ok (.invokevirtual 121, 3) := by decide +kernel
theorem dL_law_933 : decode cL_law 933 = .ok (.if_icmp .eq 399, 3) := by decide +kernel
theorem dL_law_936 : decode cL_law 936 = .ok (.iconst 0, 1) := by decide +kernel
theorem dL_law_937 : decode cL_law 937 = .ok (.ireturn, 1) := by decide +kernel
theorem dL_law_938 : decode cL_law 938 = .ok (.aload_n 1, 1) := by decide +kernel
theorem dL_law_939 : decode cL_law 939 = .ok (.aload_n 0, 1) := by decide +kernel
theorem dL_law_940 : decode cL_law 940 = .ok (.iload_n 3, 1) := by decide +kernel
theorem dL_law_941 : decode cL_law 941 = .ok (.iconst 1, 1) := by decide +kernel
theorem dL_law_942 : decode cL_law 942 = .ok (.iadd, 1) := by decide +kernel
theorem dL_law_943 : decode cL_law 943 = .ok (.iaload, 1) := by decide +kernel
theorem dL_law_944 : decode cL_law 944 = .ok (.invokevirtual 122, 3) := by decide +kernel
theorem dL_law_947 : decode cL_law 947 = .ok (.aload_n 2, 1) := by decide +kernel
theorem dL_law_948 : decode cL_law 948 = .ok (.aload_n 0, 1) := by decide +kernel
theorem dL_law_949 : decode cL_law 949 = .ok (.iload_n 3, 1) := by decide +kernel
theorem dL_law_950 : decode cL_law 950 = .ok (.iconst 1, 1) := by decide +kernel
theorem dL_law_951 : decode cL_law 951 = .ok (.iadd, 1) := by decide +kernel
theorem dL_law_952 : decode cL_law 952 = .ok (.iaload, 1) := by decide +kernel
theorem dL_law_953 : decode cL_law 953 = .ok (.invokevirtual 125, 3) := by decide +kernel
theorem dL_law_956 : decode cL_law 956 = .ok (.if_icmp .eq 376, 3) := by decide +kernel
theorem dL_law_959 : decode cL_law 959 = .ok (.iconst 0, 1) := by decide +kernel
theorem dL_law_960 : decode cL_law 960 = .ok (.ireturn, 1) := by decide +kernel
theorem dL_law_961 : decode cL_law 961 = .ok (.aload_n 1, 1) := by decide +kernel
theorem dL_law_962 : decode cL_law 962 = .ok (.aload_n 0, 1) := by decide +kernel
theorem dL_law_963 : decode cL_law 963 = .ok (.iload_n 3, 1) := by decide +kernel
theorem dL_law_964 : decode cL_law 964 = .ok (.iconst 1, 1) := by decide +kernel
theorem dL_law_965 : decode cL_law 965 = .ok (.iadd, 1) := by decide +kernel
theorem dL_law_966 : decode cL_law 966 = .ok (.iaload, 1) := by decide +kernel
theorem dL_law_967 : decode cL_law 967 = .ok (.aload_n 0, 1) := by decide +kernel
theorem dL_law_968 : decode cL_law 968 = .ok (.iload_n 3, 1) := by decide +kernel
theorem dL_law_969 : decode cL_law 969 = .ok (.iconst 2, 1) := by decide +kernel
theorem dL_law_970 : decode cL_law 970 = .ok (.iadd, 1) := by decide +kernel
theorem dL_law_971 : decode cL_law 971 = .ok (.iaload, 1) := by decide +kernel
theorem dL_law_972 : decode cL_law 972 = .ok (.invokevirtual 126, 3) := by decide +kernel
theorem dL_law_975 : decode cL_law 975 = .ok (.aload_n 2, 1) := by decide +kernel
theorem dL_law_976 : decode cL_law 976 = .ok (.aload_n 0, 1) := by decide +kernel
theorem dL_law_977 : decode cL_law 977 = .ok (.iload_n 3, 1) := by decide +kernel
theorem dL_law_978 : decode cL_law 978 = .ok (.iconst 1, 1) := by decide +kernel
theorem dL_law_979 : decode cL_law 979 = .ok (.iadd, 1) := by decide +kernel
theorem dL_law_980 : decode cL_law 980 = .ok (.iaload, 1) := by decide +kernel
theorem dL_law_981 : decode cL_law 981 = .ok (.aload_n 0, 1) := by decide +kernel
theorem dL_law_982 : decode cL_law 982 = .ok (.iload_n 3, 1) := by decide +kernel
theorem dL_law_983 : decode cL_law 983 = .ok (.iconst 2, 1) := by decide +kernel
theorem dL_law_984 : decode cL_law 984 = .ok (.iadd, 1) := by decide +kernel
theorem dL_law_985 : decode cL_law 985 = .ok (.iaload, 1) := by decide +kernel
theorem dL_law_986 : decode cL_law 986 = .ok (.invokevirtual 129, 3) := by decide +kernel
theorem dL_law_989 : decode cL_law 989 = .ok (.if_icmp .eq 343, 3) := by decide +kernel
theorem dL_law_992 : decode cL_law 992 = .ok (.iconst 0, 1) := by decide +kernel
theorem dL_law_993 : decode cL_law 993 = .ok (.ireturn, 1) := by decide +kernel
theorem dL_law_994 : decode cL_law 994 = .ok (.aload_n 1, 1) := by decide +kernel
theorem dL_law_995 : decode cL_law 995 = .ok (.aload_n 0, 1) := by decide +kernel
theorem dL_law_996 : decode cL_law 996 = .ok (.iload_n 3, 1) := by decide +kernel
theorem dL_law_997 : decode cL_law 997 = .ok (.iconst 1, 1) := by decide +kernel
theorem dL_law_998 : decode cL_law 998 = .ok (.iadd, 1) := by decide +kernel
theorem dL_law_999 : decode cL_law 999 = .ok (.iaload, 1) := by decide +kernel
theorem dL_law_1000 : decode cL_law 1000 = .ok (.invokevirtual 130, 3) := by decide +kernel
theorem dL_law_1003 : decode cL_law 1003 = .ok (.aload_n 2, 1) := by decide +kernel
theorem dL_law_1004 : decode cL_law 1004 = .ok (.aload_n 0, 1) := by decide +kernel
theorem dL_law_1005 : decode cL_law 1005 = .ok (.iload_n 3, 1) := by decide +kernel
theorem dL_law_1006 : decode cL_law 1006 = .ok (.iconst 1, 1) := by decide +kernel
theorem dL_law_1007 : decode cL_law 1007 = .ok (.iadd, 1) := by decide +kernel
theorem dL_law_1008 : decode cL_law 1008 = .ok (.iaload, 1) := by decide +kernel
theorem dL_law_1009 : decode cL_law 1009 = .ok (.invokevirtual 133, 3) := by decide +kernel
theorem dL_law_1012 : decode cL_law 1012 = .ok (.if_icmp .eq 320, 3) := by decide +kernel
theorem dL_law_1015 : decode cL_law 1015 = .ok (.iconst 0, 1) := by decide +kernel
theorem dL_law_1016 : decode cL_law 1016 = .ok (.ireturn, 1) := by decide +kernel
theorem dL_law_1017 : decode cL_law 1017 = .ok (.aload_n 1, 1) := by decide +kernel
theorem dL_law_1018 : decode cL_law 1018 = .ok (.aload_n 0, 1) := by decide +kernel
theorem dL_law_1019 : decode cL_law 1019 = .ok (.iload_n 3, 1) := by decide +kernel
theorem dL_law_1020 : decode cL_law 1020 = .ok (.iconst 1, 1) := by decide +kernel
theorem dL_law_1021 : decode cL_law 1021 = .ok (.iadd, 1) := by decide +kernel
theorem dL_law_1022 : decode cL_law 1022 = .ok (.iaload, 1) := by decide +kernel
theorem dL_law_1023 : decode cL_law 1023 = .ok (.invokevirtual 134, 3) := by decide +kernel
theorem dL_law_1026 : decode cL_law 1026 = .ok (.aload_n 2, 1) := by decide +kernel
theorem dL_law_1027 : decode cL_law 1027 = .ok (.aload_n 0, 1) := by decide +kernel
theorem dL_law_1028 : decode cL_law 1028 = .ok (.iload_n 3, 1) := by decide +kernel
theorem dL_law_1029 : decode cL_law 1029 = .ok (.iconst 1, 1) := by decide +kernel
theorem dL_law_1030 : decode cL_law 1030 = .ok (.iadd, 1) := by decide +kernel
theorem dL_law_1031 : decode cL_law 1031 = .ok (.iaload, 1) := by decide +kernel
theorem dL_law_1032 : decode cL_law 1032 = .ok (.invokevirtual 137, 3) := by decide +kernel
theorem dL_law_1035 : decode cL_law 1035 = .ok (.if_icmp .eq 297, 3) := by decide +kernel
theorem dL_law_1038 : decode cL_law 1038 = .ok (.iconst 0, 1) := by decide +kernel
theorem dL_law_1039 : decode cL_law 1039 = .ok (.ireturn, 1) := by decide +kernel
theorem dL_law_1040 : decode cL_law 1040 = .ok (.aload_n 1, 1) := by decide +kernel
theorem dL_law_1041 : decode cL_law 1041 = .ok (.aload_n 0, 1) := by decide +kernel
theorem dL_law_1042 : decode cL_law 1042 = .ok (.iload_n 3, 1) := by decide +kernel
theorem dL_law_1043 : decode cL_law 1043 = .ok (.iconst 1, 1) := by decide +kernel
theorem dL_law_1044 : decode cL_law 1044 = .ok (.iadd, 1) := by decide +kernel
theorem dL_law_1045 : decode cL_law 1045 = .ok (.iaload, 1) := by decide +kernel
theorem dL_law_1046 : decode cL_law 1046 = .ok (.aload_n 0, 1) := by decide +kernel
theorem dL_law_1047 : decode cL_law 1047 = .ok (.iload_n 3, 1) := by decide +kernel
theorem dL_law_1048 : decode cL_law 1048 = .ok (.iconst 2, 1) := by decide +kernel
theorem dL_law_1049 : decode cL_law 1049 = .ok (.iadd, 1) := by decide +kernel
theorem dL_law_1050 : decode cL_law 1050 = .ok (.iaload, 1) := by decide +kernel
theorem dL_law_1051 : decode cL_law 1051 = .ok (.invokevirtual 138, 3) := by decide +kernel
theorem dL_law_1054 : decode cL_law 1054 = .ok (.aload_n 2, 1) := by decide +kernel
theorem dL_law_1055 : decode cL_law 1055 = .ok (.aload_n 0, 1) := by decide +kernel
theorem dL_law_1056 : decode cL_law 1056 = .ok (.iload_n 3, 1) := by decide +kernel
theorem dL_law_1057 : decode cL_law 1057 = .ok (.iconst 1, 1) := by decide +kernel
theorem dL_law_1058 : decode cL_law 1058 = .ok (.iadd, 1) := by decide +kernel
theorem dL_law_1059 : decode cL_law 1059 = .ok (.iaload, 1) := by decide +kernel
theorem dL_law_1060 : decode cL_law 1060 = .ok (.aload_n 0, 1) := by decide +kernel
theorem dL_law_1061 : decode cL_law 1061 = .ok (.iload_n 3, 1) := by decide +kernel
theorem dL_law_1062 : decode cL_law 1062 = .ok (.iconst 2, 1) := by decide +kernel
theorem dL_law_1063 : decode cL_law 1063 = .ok (.iadd, 1) := by decide +kernel
theorem dL_law_1064 : decode cL_law 1064 = .ok (.iaload, 1) := by decide +kernel
theorem dL_law_1065 : decode cL_law 1065 = .ok (.invokevirtual 141, 3) := by decide +kernel
theorem dL_law_1068 : decode cL_law 1068 = .ok (.if_icmp .eq 264, 3) := by decide +kernel
theorem dL_law_1071 : decode cL_law 1071 = .ok (.iconst 0, 1) := by decide +kernel
theorem dL_law_1072 : decode cL_law 1072 = .ok (.ireturn, 1) := by decide +kernel
theorem dL_law_1073 : decode cL_law 1073 = .ok (.aload_n 1, 1) := by decide +kernel
theorem dL_law_1074 : decode cL_law 1074 = .ok (.aload_n 0, 1) := by decide +kernel
theorem dL_law_1075 : decode cL_law 1075 = .ok (.iload_n 3, 1) := by decide +kernel
theorem dL_law_1076 : decode cL_law 1076 = .ok (.iconst 1, 1) := by decide +kernel
theorem dL_law_1077 : decode cL_law 1077 = .ok (.iadd, 1) := by decide +kernel
theorem dL_law_1078 : decode cL_law 1078 = .ok (.iaload, 1) := by decide +kernel
theorem dL_law_1079 : decode cL_law 1079 = .ok (.aload_n 0, 1) := by decide +kernel
theorem dL_law_1080 : decode cL_law 1080 = .ok (.iload_n 3, 1) := by decide +kernel
theorem dL_law_1081 : decode cL_law 1081 = .ok (.iconst 2, 1) := by decide +kernel
theorem dL_law_1082 : decode cL_law 1082 = .ok (.iadd, 1) := by decide +kernel
theorem dL_law_1083 : decode cL_law 1083 = .ok (.iaload, 1) := by decide +kernel
theorem dL_law_1084 : decode cL_law 1084 = .ok (.invokevirtual 142, 3) := by decide +kernel
theorem dL_law_1087 : decode cL_law 1087 = .ok (.aload_n 2, 1) := by decide +kernel
theorem dL_law_1088 : decode cL_law 1088 = .ok (.aload_n 0, 1) := by decide +kernel
theorem dL_law_1089 : decode cL_law 1089 = .ok (.iload_n 3, 1) := by decide +kernel
theorem dL_law_1090 : decode cL_law 1090 = .ok (.iconst 1, 1) := by decide +kernel
theorem dL_law_1091 : decode cL_law 1091 = .ok (.iadd, 1) := by decide +kernel
theorem dL_law_1092 : decode cL_law 1092 = .ok (.iaload, 1) := by decide +kernel
theorem dL_law_1093 : decode cL_law 1093 = .ok (.aload_n 0, 1) := by decide +kernel
theorem dL_law_1094 : decode cL_law 1094 = .ok (.iload_n 3, 1) := by decide +kernel
theorem dL_law_1095 : decode cL_law 1095 = .ok (.iconst 2, 1) := by decide +kernel
theorem dL_law_1096 : decode cL_law 1096 = .ok (.iadd, 1) := by decide +kernel
theorem dL_law_1097 : decode cL_law 1097 = .ok (.iaload, 1) := by decide +kernel
theorem dL_law_1098 : decode cL_law 1098 = .ok (.invokevirtual 145, 3) := by decide +kernel
theorem dL_law_1101 : decode cL_law 1101 = .ok (.if_icmp .eq 231, 3) := by decide +kernel
theorem dL_law_1104 : decode cL_law 1104 = .ok (.iconst 0, 1) := by decide +kernel
theorem dL_law_1105 : decode cL_law 1105 = .ok (.ireturn, 1) := by decide +kernel
theorem dL_law_1106 : decode cL_law 1106 = .ok (.aload_n 1, 1) := by decide +kernel
theorem dL_law_1107 : decode cL_law 1107 = .ok (.aload_n 0, 1) := by decide +kernel
theorem dL_law_1108 : decode cL_law 1108 = .ok (.iload_n 3, 1) := by decide +kernel
theorem dL_law_1109 : decode cL_law 1109 = .ok (.iconst 1, 1) := by decide +kernel
theorem dL_law_1110 : decode cL_law 1110 = .ok (.iadd, 1) := by decide +kernel
theorem dL_law_1111 : decode cL_law 1111 = .ok (.iaload, 1) := by decide +kernel
theorem dL_law_1112 : decode cL_law 1112 = .ok (.invokevirtual 146, 3) := by decide +kernel
theorem dL_law_1115 : decode cL_law 1115 = .ok (.aload_n 2, 1) := by decide +kernel
theorem dL_law_1116 : decode cL_law 1116 = .ok (.aload_n 0, 1) := by decide +kernel
theorem dL_law_1117 : decode cL_law 1117 = .ok (.iload_n 3, 1) := by decide +kernel
theorem dL_law_1118 : decode cL_law 1118 = .ok (.iconst 1, 1) := by decide +kernel
theorem dL_law_1119 : decode cL_law 1119 = .ok (.iadd, 1) := by decide +kernel
theorem dL_law_1120 : decode cL_law 1120 = .ok (.iaload, 1) := by decide +kernel
theorem dL_law_1121 : decode cL_law 1121 = .ok (.invokevirtual 149, 3) := by decide +kernel
theorem dL_law_1124 : decode cL_law 1124 = .ok (.if_icmp .eq 208, 3) := by decide +kernel
theorem dL_law_1127 : decode cL_law 1127 = .ok (.iconst 0, 1) := by decide +kernel
theorem dL_law_1128 : decode cL_law 1128 = .ok (.ireturn, 1) := by decide +kernel
theorem dL_law_1129 : decode cL_law 1129 = .ok (.aload_n 1, 1) := by decide +kernel
theorem dL_law_1130 : decode cL_law 1130 = .ok (.aload_n 0, 1) := by decide +kernel
theorem dL_law_1131 : decode cL_law 1131 = .ok (.iload_n 3, 1) := by decide +kernel
theorem dL_law_1132 : decode cL_law 1132 = .ok (.iconst 1, 1) := by decide +kernel
theorem dL_law_1133 : decode cL_law 1133 = .ok (.iadd, 1) := by decide +kernel
theorem dL_law_1134 : decode cL_law 1134 = .ok (.iaload, 1) := by decide +kernel
theorem dL_law_1135 : decode cL_law 1135 = .ok (.aload_n 0, 1) := by decide +kernel
theorem dL_law_1136 : decode cL_law 1136 = .ok (.iload_n 3, 1) := by decide +kernel
theorem dL_law_1137 : decode cL_law 1137 = .ok (.iconst 2, 1) := by decide +kernel
theorem dL_law_1138 : decode cL_law 1138 = .ok (.iadd, 1) := by decide +kernel
theorem dL_law_1139 : decode cL_law 1139 = .ok (.iaload, 1) := by decide +kernel
theorem dL_law_1140 : decode cL_law 1140 = .ok (.invokevirtual 150, 3) := by decide +kernel
theorem dL_law_1143 : decode cL_law 1143 = .ok (.aload_n 2, 1) := by decide +kernel
theorem dL_law_1144 : decode cL_law 1144 = .ok (.aload_n 0, 1) := by decide +kernel
theorem dL_law_1145 : decode cL_law 1145 = .ok (.iload_n 3, 1) := by decide +kernel
theorem dL_law_1146 : decode cL_law 1146 = .ok (.iconst 1, 1) := by decide +kernel
theorem dL_law_1147 : decode cL_law 1147 = .ok (.iadd, 1) := by decide +kernel
theorem dL_law_1148 : decode cL_law 1148 = .ok (.iaload, 1) := by decide +kernel
theorem dL_law_1149 : decode cL_law 1149 = .ok (.aload_n 0, 1) := by decide +kernel
theorem dL_law_1150 : decode cL_law 1150 = .ok (.iload_n 3, 1) := by decide +kernel
theorem dL_law_1151 : decode cL_law 1151 = .ok (.iconst 2, 1) := by decide +kernel
theorem dL_law_1152 : decode cL_law 1152 = .ok (.iadd, 1) := by decide +kernel
theorem dL_law_1153 : decode cL_law 1153 = .ok (.iaload, 1) := by decide +kernel
theorem dL_law_1154 : decode cL_law 1154 = .ok (.invokevirtual 153, 3) := by decide +kernel
theorem dL_law_1157 : decode cL_law 1157 = .ok (.if_icmp .eq 175, 3) := by decide +kernel
theorem dL_law_1160 : decode cL_law 1160 = .ok (.iconst 0, 1) := by decide +kernel
theorem dL_law_1161 : decode cL_law 1161 = .ok (.ireturn, 1) := by decide +kernel
theorem dL_law_1162 : decode cL_law 1162 = .ok (.aload_n 1, 1) := by decide +kernel
theorem dL_law_1163 : decode cL_law 1163 = .ok (.aload_n 0, 1) := by decide +kernel
theorem dL_law_1164 : decode cL_law 1164 = .ok (.iload_n 3, 1) := by decide +kernel
theorem dL_law_1165 : decode cL_law 1165 = .ok (.iconst 1, 1) := by decide +kernel
theorem dL_law_1166 : decode cL_law 1166 = .ok (.iadd, 1) := by decide +kernel
theorem dL_law_1167 : decode cL_law 1167 = .ok (.iaload, 1) := by decide +kernel
theorem dL_law_1168 : decode cL_law 1168 = .ok (.invokevirtual 154, 3) := by decide +kernel
theorem dL_law_1171 : decode cL_law 1171 = .ok (.aload_n 2, 1) := by decide +kernel
theorem dL_law_1172 : decode cL_law 1172 = .ok (.aload_n 0, 1) := by decide +kernel
theorem dL_law_1173 : decode cL_law 1173 = .ok (.iload_n 3, 1) := by decide +kernel
theorem dL_law_1174 : decode cL_law 1174 = .ok (.iconst 1, 1) := by decide +kernel
theorem dL_law_1175 : decode cL_law 1175 = .ok (.iadd, 1) := by decide +kernel
theorem dL_law_1176 : decode cL_law 1176 = .ok (.iaload, 1) := by decide +kernel
theorem dL_law_1177 : decode cL_law 1177 = .ok (.invokevirtual 157, 3) := by decide +kernel
theorem dL_law_1180 : decode cL_law 1180 = .ok (.if_icmp .eq 152, 3) := by decide +kernel
theorem dL_law_1183 : decode cL_law 1183 = .ok (.iconst 0, 1) := by decide +kernel
theorem dL_law_1184 : decode cL_law 1184 = .ok (.ireturn, 1) := by decide +kernel
theorem dL_law_1185 : decode cL_law 1185 = .ok (.aload_n 1, 1) := by decide +kernel
theorem dL_law_1186 : decode cL_law 1186 = .ok (.aload_n 0, 1) := by decide +kernel
theorem dL_law_1187 : decode cL_law 1187 = .ok (.iload_n 3, 1) := by decide +kernel
theorem dL_law_1188 : decode cL_law 1188 = .ok (.iconst 1, 1) := by decide +kernel
theorem dL_law_1189 : decode cL_law 1189 = .ok (.iadd, 1) := by decide +kernel
theorem dL_law_1190 : decode cL_law 1190 = .ok (.iaload, 1) := by decide +kernel
theorem dL_law_1191 : decode cL_law 1191 = .ok (.aload_n 0, 1) := by decide +kernel
theorem dL_law_1192 : decode cL_law 1192 = .ok (.iload_n 3, 1) := by decide +kernel
theorem dL_law_1193 : decode cL_law 1193 = .ok (.iconst 2, 1) := by decide +kernel
theorem dL_law_1194 : decode cL_law 1194 = .ok (.iadd, 1) := by decide +kernel
theorem dL_law_1195 : decode cL_law 1195 = .ok (.iaload, 1) := by decide +kernel
theorem dL_law_1196 : decode cL_law 1196 = .ok (.invokevirtual 158, 3) := by decide +kernel
theorem dL_law_1199 : decode cL_law 1199 = .ok (.aload_n 2, 1) := by decide +kernel
theorem dL_law_1200 : decode cL_law 1200 = .ok (.aload_n 0, 1) := by decide +kernel
theorem dL_law_1201 : decode cL_law 1201 = .ok (.iload_n 3, 1) := by decide +kernel
theorem dL_law_1202 : decode cL_law 1202 = .ok (.iconst 1, 1) := by decide +kernel
theorem dL_law_1203 : decode cL_law 1203 = .ok (.iadd, 1) := by decide +kernel
theorem dL_law_1204 : decode cL_law 1204 = .ok (.iaload, 1) := by decide +kernel
theorem dL_law_1205 : decode cL_law 1205 = .ok (.aload_n 0, 1) := by decide +kernel
theorem dL_law_1206 : decode cL_law 1206 = .ok (.iload_n 3, 1) := by decide +kernel
theorem dL_law_1207 : decode cL_law 1207 = .ok (.iconst 2, 1) := by decide +kernel
theorem dL_law_1208 : decode cL_law 1208 = .ok (.iadd, 1) := by decide +kernel
theorem dL_law_1209 : decode cL_law 1209 = .ok (.iaload, 1) := by decide +kernel
theorem dL_law_1210 : decode cL_law 1210 = .ok (.invokevirtual 161, 3) := by decide +kernel
theorem dL_law_1213 : decode cL_law 1213 = .ok (.if_icmp .eq 119, 3) := by decide +kernel
theorem dL_law_1216 : decode cL_law 1216 = .ok (.iconst 0, 1) := by decide +kernel
theorem dL_law_1217 : decode cL_law 1217 = .ok (.ireturn, 1) := by decide +kernel
theorem dL_law_1218 : decode cL_law 1218 = .ok (.aload_n 1, 1) := by decide +kernel
theorem dL_law_1219 : decode cL_law 1219 = .ok (.invokevirtual 162, 3) := by decide +kernel
theorem dL_law_1222 : decode cL_law 1222 = .ok (.aload_n 2, 1) := by decide +kernel
theorem dL_law_1223 : decode cL_law 1223 = .ok (.invokevirtual 165, 3) := by decide +kernel
theorem dL_law_1226 : decode cL_law 1226 = .ok (.if_icmp .eq 106, 3) := by decide +kernel
theorem dL_law_1229 : decode cL_law 1229 = .ok (.iconst 0, 1) := by decide +kernel
theorem dL_law_1230 : decode cL_law 1230 = .ok (.ireturn, 1) := by decide +kernel
theorem dL_law_1231 : decode cL_law 1231 = .ok (.aload_n 1, 1) := by decide +kernel
theorem dL_law_1232 : decode cL_law 1232 = .ok (.invokevirtual 166, 3) := by decide +kernel
theorem dL_law_1235 : decode cL_law 1235 = .ok (.aload_n 2, 1) := by decide +kernel
theorem dL_law_1236 : decode cL_law 1236 = .ok (.invokevirtual 170, 3) := by decide +kernel
theorem dL_law_1239 : decode cL_law 1239 = .ok (.lcmp, 1) := by decide +kernel
theorem dL_law_1240 : decode cL_law 1240 = .ok (.ifCond .eq 92, 3) := by decide +kernel
theorem dL_law_1243 : decode cL_law 1243 = .ok (.iconst 0, 1) := by decide +kernel
theorem dL_law_1244 : decode cL_law 1244 = .ok (.ireturn, 1) := by decide +kernel
theorem dL_law_1245 : decode cL_law 1245 = .ok (.aload_n 1, 1) := by decide +kernel
theorem dL_law_1246 : decode cL_law 1246 = .ok (.invokevirtual 171, 3) := by decide +kernel
theorem dL_law_1249 : decode cL_law 1249 = .ok (.aload_n 2, 1) := by decide +kernel
theorem dL_law_1250 : decode cL_law 1250 = .ok (.invokevirtual 174, 3) := by decide +kernel
theorem dL_law_1253 : decode cL_law 1253 = .ok (.lcmp, 1) := by decide +kernel
theorem dL_law_1254 : decode cL_law 1254 = .ok (.ifCond .eq 78, 3) := by decide +kernel
theorem dL_law_1257 : decode cL_law 1257 = .ok (.iconst 0, 1) := by decide +kernel
theorem dL_law_1258 : decode cL_law 1258 = .ok (.ireturn, 1) := by decide +kernel
theorem dL_law_1259 : decode cL_law 1259 = .ok (.aload_n 1, 1) := by decide +kernel
theorem dL_law_1260 : decode cL_law 1260 = .ok (.aload_n 0, 1) := by decide +kernel
theorem dL_law_1261 : decode cL_law 1261 = .ok (.iload_n 3, 1) := by decide +kernel
theorem dL_law_1262 : decode cL_law 1262 = .ok (.iconst 1, 1) := by decide +kernel
theorem dL_law_1263 : decode cL_law 1263 = .ok (.iadd, 1) := by decide +kernel
theorem dL_law_1264 : decode cL_law 1264 = .ok (.iaload, 1) := by decide +kernel
theorem dL_law_1265 : decode cL_law 1265 = .ok (.invokevirtual 175, 3) := by decide +kernel
theorem dL_law_1268 : decode cL_law 1268 = .ok (.aload_n 2, 1) := by decide +kernel
theorem dL_law_1269 : decode cL_law 1269 = .ok (.aload_n 0, 1) := by decide +kernel
theorem dL_law_1270 : decode cL_law 1270 = .ok (.iload_n 3, 1) := by decide +kernel
theorem dL_law_1271 : decode cL_law 1271 = .ok (.iconst 1, 1) := by decide +kernel
theorem dL_law_1272 : decode cL_law 1272 = .ok (.iadd, 1) := by decide +kernel
theorem dL_law_1273 : decode cL_law 1273 = .ok (.iaload, 1) := by decide +kernel
theorem dL_law_1274 : decode cL_law 1274 = .ok (.invokevirtual 178, 3) := by decide +kernel
theorem dL_law_1277 : decode cL_law 1277 = .ok (.if_icmp .eq 55, 3) := by decide +kernel
theorem dL_law_1280 : decode cL_law 1280 = .ok (.iconst 0, 1) := by decide +kernel
theorem dL_law_1281 : decode cL_law 1281 = .ok (.ireturn, 1) := by decide +kernel
theorem dL_law_1282 : decode cL_law 1282 = .ok (.aload_n 1, 1) := by decide +kernel
theorem dL_law_1283 : decode cL_law 1283 = .ok (.invokevirtual 179, 3) := by decide +kernel
theorem dL_law_1286 : decode cL_law 1286 = .ok (.aload_n 2, 1) := by decide +kernel
theorem dL_law_1287 : decode cL_law 1287 = .ok (.invokevirtual 182, 3) := by decide +kernel
theorem dL_law_1290 : decode cL_law 1290 = .ok (.if_icmp .eq 42, 3) := by decide +kernel
theorem dL_law_1293 : decode cL_law 1293 = .ok (.iconst 0, 1) := by decide +kernel
theorem dL_law_1294 : decode cL_law 1294 = .ok (.ireturn, 1) := by decide +kernel
theorem dL_law_1295 : decode cL_law 1295 = .ok (.aload_n 1, 1) := by decide +kernel
theorem dL_law_1296 : decode cL_law 1296 = .ok (.aload_n 0, 1) := by decide +kernel
theorem dL_law_1297 : decode cL_law 1297 = .ok (.iload_n 3, 1) := by decide +kernel
theorem dL_law_1298 : decode cL_law 1298 = .ok (.iconst 1, 1) := by decide +kernel
theorem dL_law_1299 : decode cL_law 1299 = .ok (.iadd, 1) := by decide +kernel
theorem dL_law_1300 : decode cL_law 1300 = .ok (.iaload, 1) := by decide +kernel
theorem dL_law_1301 : decode cL_law 1301 = .ok (.invokevirtual 183, 3) := by decide +kernel
theorem dL_law_1304 : decode cL_law 1304 = .ok (.aload_n 2, 1) := by decide +kernel
theorem dL_law_1305 : decode cL_law 1305 = .ok (.aload_n 0, 1) := by decide +kernel
theorem dL_law_1306 : decode cL_law 1306 = .ok (.iload_n 3, 1) := by decide +kernel
theorem dL_law_1307 : decode cL_law 1307 = .ok (.iconst 1, 1) := by decide +kernel
theorem dL_law_1308 : decode cL_law 1308 = .ok (.iadd, 1) := by decide +kernel
theorem dL_law_1309 : decode cL_law 1309 = .ok (.iaload, 1) := by decide +kernel
theorem dL_law_1310 : decode cL_law 1310 = .ok (.invokevirtual 186, 3) := by decide +kernel
theorem dL_law_1313 : decode cL_law 1313 = .ok (.if_icmp .eq 19, 3) := by decide +kernel
theorem dL_law_1316 : decode cL_law 1316 = .ok (.iconst 0, 1) := by decide +kernel
theorem dL_law_1317 : decode cL_law 1317 = .ok (.ireturn, 1) := by decide +kernel
theorem dL_law_1318 : decode cL_law 1318 = .ok (.aload_n 1, 1) := by decide +kernel
theorem dL_law_1319 : decode cL_law 1319 = .ok (.invokevirtual 187, 3) := by decide +kernel
theorem dL_law_1322 : decode cL_law 1322 = .ok (.aload_n 2, 1) := by decide +kernel
theorem dL_law_1323 : decode cL_law 1323 = .ok (.invokevirtual 190, 3) := by decide +kernel
theorem dL_law_1326 : decode cL_law 1326 = .ok (.lcmp, 1) := by decide +kernel
theorem dL_law_1327 : decode cL_law 1327 = .ok (.ifCond .eq 5, 3) := by decide +kernel
theorem dL_law_1330 : decode cL_law 1330 = .ok (.iconst 0, 1) := by decide +kernel
theorem dL_law_1331 : decode cL_law 1331 = .ok (.ireturn, 1) := by decide +kernel
theorem dL_law_1332 : decode cL_law 1332 = .ok (.iinc 3 6, 3) := by decide +kernel
theorem dL_law_1335 : decode cL_law 1335 = .ok (.goto (-1317), 3) := by decide +kernel
theorem dL_law_1338 : decode cL_law 1338 = .ok (.iconst 1, 1) := by decide +kernel
theorem dL_law_1339 : decode cL_law 1339 = .ok (.ireturn, 1) := by decide +kernel
end
section
def k_tbl : List Cond := lw_tbl.filter goodWord
theorem k_in {w : Cond} (h : w ∈ lw_tbl) (hg : goodWord w = true) : w ∈ k_tbl := List.mem_filter.mpr ⟨h, hg⟩
theorem kinX0 : ∀ w ∈ wsX00, w ∈ k_tbl := fun w h => k_in (inX0 w h) (List.all_eq_true.mp (show wsX00.all goodWord = true by decide +kernel) w h)
theorem kinX1 : ∀ w ∈ wsX10, w ∈ k_tbl := fun w h => k_in (inX1 w h) (List.all_eq_true.mp (show wsX10.all goodWord = true by decide +kernel) w h)
theorem kinX2 : ∀ w ∈ wsX20, w ∈ k_tbl := fun w h => k_in (inX2 w h) (List.all_eq_true.mp (show wsX20.all goodWord = true by decide +kernel) w h)
theorem kinX3 : ∀ w ∈ wsX30, w ∈ k_tbl := fun w h => k_in (inX3 w h) (List.all_eq_true.mp (show wsX30.all goodWord = true by decide +kernel) w h)
theorem kinX4 : ∀ w ∈ wsX40, w ∈ k_tbl := fun w h => k_in (inX4 w h) (List.all_eq_true.mp (show wsX40.all goodWord = true by decide +kernel) w h)
theorem kinX5 : ∀ w ∈ wsX50, w ∈ k_tbl := fun w h => k_in (inX5 w h) (List.all_eq_true.mp (show wsX50.all goodWord = true by decide +kernel) w h)
/-! the worlds of this system: 81 cells of fixed shape; a store says what numbers they hold -/
abbrev StI : Type := Nat → Nat → Int32
abbrev StL : Type := Nat → Nat → Int64
def k_up (I : StI) (b k : Nat) (v : Int32) : StI := fun i j => if i = b ∧ j = k then v else I i j
def k_upL (L : StL) (b k : Nat) (v : Int64) : StL := fun i j => if i = b ∧ j = k then v else L i j
def k_cpA (I : StI) (a b sp dp n : Nat) : StI := fun i j => if i = b then va_cpy (I a) (I b) sp dp n j else I i j
def k_shL : List (Nat × Nat) := [(4, 17), (15, 6), (10, 40), (10, 40), (10, 40), (10, 40), (10, 40), (10, 40), (10, 6), (16, 4), (11, 60), (11, 60), (11, 60), (11, 60), (10, 4),
  (3, 8), (13, 7), (0, 7), (0, 7), (0, 7), (0, 7), (0, 7), (0, 7), (0, 7), (3, 8), (13, 7), (0, 7), (0, 7), (0, 7), (0, 7), (0, 7), (0, 7), (0, 7), (3, 8), (13, 7), (0, 7), (0, 7), (0, 7), (0, 7), (0, 7), (0, 7), (0, 7),
  (2, 4), (10, 40), (10, 40), (10, 40), (14, 3), (10, 6), (1, 2), (10, 256), (10, 60), (2, 4), (10, 40), (10, 40), (10, 40), (2, 4), (10, 40), (10, 40), (10, 40), (2, 4), (10, 40), (10, 40), (10, 40),
  (5, 27), (10, 6), (10, 240), (10, 4), (10, 240), (10, 7), (10, 7), (10, 40), (10, 40), (10, 7), (10, 1600), (10, 4923), (12, 3), (10, 6), (10, 7), (10, 14), (10, 126), (10, 6561)]
def k_sh (i : Nat) : Nat × Nat := (k_shL[i]?).getD (99, 0)
def k_rf (i j : Nat) : Nat :=
  if i = 0 then (([1, 8, 9, 14, 15, 24, 33, 42, 46, 0, 0, 0, 0, 47, 48, 49, 50] : List Nat)[j]?).getD 0
  else if i = 1 then 2 + j else if i = 9 then 10 + j else if i = 46 then 51 + 4 * j
  else if i = 63 then (([64, 65, 66, 67, 0, 68, 69, 70, 71, 72, 73, 0, 74, 75, 0, 0, 0, 0, 76, 0, 0, 77, 78, 0, 0, 79, 80] : List Nat)[j]?).getD 0
  else i + 1 + j
def k_fk (ci k : Nat) : Nat := match ci with
  | 2 => if k < 3 then 2 else 0
  | 3 => if k = 0 then 2 else 0
  | 4 => (([2, 2, 2, 2, 2, 2, 2, 2, 2, 0, 1, 1, 0, 2, 2, 2, 2] : List Nat)[k]?).getD 0
  | 5 => (([2, 2, 2, 2, 0, 2, 2, 2, 2, 2, 2, 0, 2, 2, 0, 1, 1, 0, 2, 0, 0, 2, 2, 0, 0, 2, 2] : List Nat)[k]?).getD 0
  | _ => 0
def k_ty (t : Nat) : FieldType := match t with
  | 10 => .int
  | 11 => .byte
  | 12 => .boolean
  | 13 => .object "TripCalls$Caller"
  | 14 => .object "TripCalls$Deeds"
  | 15 => .array .int
  | _ => .array .byte
def k_val (ad : Nat → Nat) (I : StI) (L : StL) (i k : Nat) : Value := match k_fk (k_sh i).1 k with
  | 0 => .int (I i k)
  | 1 => .long (L i k)
  | _ => .ref (ad (k_rf i k))
def k_cell (cA : Nat → ClassId) (ad : Nat → Nat) (I : StI) (L : StL) (i : Nat) : va_E :=
  if (k_sh i).1 < 6 then .inr ((k_sh i).1, (List.range (k_sh i).2).map (fun k => k_val ad I L i k))
  else if (k_sh i).1 < 13 then .inl (cA i, (k_sh i).2, .inl (I i))
  else .inl (cA i, (k_sh i).2, .inr (.inr (.inr (.inr (fun j => some (ad (k_rf i j)))))))
def k_wl (cA : Nat → ClassId) (ad : Nat → Nat) (I : StI) (L : StL) : va_W := (List.range 81).map (fun i => (ad i, k_cell cA ad I L i))
theorem k_wl_at {cA : Nat → ClassId} {ad : Nat → Nat} {I : StI} {L : StL} {i : Nat} (h : i < 81) : (k_wl cA ad I L)[i]? = some (ad i, k_cell cA ad I L i) := by
  simp [k_wl, h]
theorem k_sh_lt {i : Nat} (h : (k_sh i).1 < 90) : i < 81 := by
  rcases Nat.lt_or_ge i 81 with h1 | h1
  · exact h1
  · have : k_shL[i]? = none := List.getElem?_eq_none (by show 81 ≤ i; exact h1)
    unfold k_sh at h
    rw [this] at h
    simp at h
theorem k_wl_set {cA : Nat → ClassId} {ad : Nat → Nat} {I I' : StI} {L L' : StL} {b : Nat} {e : va_E} (hb : k_cell cA ad I' L' b = e) (ho : ∀ i, i ≠ b → k_cell cA ad I' L' i = k_cell cA ad I L i) : (k_wl cA ad I L).set b (ad b, e) = k_wl cA ad I' L' := by
  apply List.ext_getElem?
  intro i
  rw [List.getElem?_set]
  by_cases h : i < 81
  · rw [k_wl_at h, k_wl_at h]
    by_cases hi : b = i
    · subst hi
      simp [k_wl, h, hb]
    · simp [hi, ho i (Ne.symm hi)]
  · have e1 : ∀ J K, (k_wl cA ad J K)[i]? = none := fun J K => List.getElem?_eq_none (by simp [k_wl]; omega)
    rw [e1, e1]
    by_cases hi : b = i
    · subst hi
      simp [k_wl, h]
    · simp [hi]
theorem k_up_ne {I : StI} {b k i : Nat} {v : Int32} (h : i ≠ b) : k_up I b k v i = I i := by
  funext j
  simp [k_up, h]
theorem k_upL_ne {L : StL} {b k i : Nat} {v : Int64} (h : i ≠ b) : k_upL L b k v i = L i := by
  funext j
  simp [k_upL, h]
theorem k_up_eq {I : StI} {b k : Nat} {v : Int32} : k_up I b k v b = upd (I b) k v := by
  funext j
  simp [k_up, upd]
theorem k_cell_I {cA : Nat → ClassId} {ad : Nat → Nat} {I I' : StI} {L L' : StL} {i : Nat} (h : I' i = I i) (h2 : L' i = L i) : k_cell cA ad I' L' i = k_cell cA ad I L i := by
  unfold k_cell k_val
  rw [h, h2]
theorem k_cell_o {cA : Nat → ClassId} {ad : Nat → Nat} {I : StI} {L : StL} {i ci N : Nat} (h : k_sh i = (ci, N)) (hc : ci < 6) : k_cell cA ad I L i = .inr (ci, (List.range N).map (fun k => k_val ad I L i k)) := by
  unfold k_cell
  rw [h]
  simp [hc]
theorem k_cell_a {cA : Nat → ClassId} {ad : Nat → Nat} {I : StI} {L : StL} {i t N : Nat} (h : k_sh i = (t, N)) (h1 : 6 ≤ t) (h2 : t < 13) : k_cell cA ad I L i = .inl (cA i, N, .inl (I i)) := by
  unfold k_cell
  rw [h]
  simp [h2, Nat.not_lt.mpr h1]
theorem k_cell_r {cA : Nat → ClassId} {ad : Nat → Nat} {I : StI} {L : StL} {i t N : Nat} (h : k_sh i = (t, N)) (h1 : 13 ≤ t) : k_cell cA ad I L i = .inl (cA i, N, .inr (.inr (.inr (.inr (fun j => some (ad (k_rf i j))))))) := by
  unfold k_cell
  rw [h]
  simp [Nat.not_lt.mpr h1, show ¬ t < 6 by omega]
theorem k_set_f {cA : Nat → ClassId} {ad : Nat → Nat} {I : StI} {L : StL} {b ci N k : Nat} {v : Int32} (h : k_sh b = (ci, N)) (hc : ci < 6) (hf : k_fk ci k = 0) : (k_wl cA ad I L).set b (ad b, .inr (ci, ((List.range N).map (fun k => k_val ad I L b k)).set k (.int v))) = k_wl cA ad (k_up I b k v) L := by
  refine k_wl_set ?_ (fun i hi => k_cell_I (k_up_ne hi) rfl)
  rw [k_cell_o h hc]
  congr 2
  apply List.ext_getElem?
  intro j
  rw [List.getElem?_set]
  by_cases hj : k = j
  · subst hj
    by_cases hN : k < N
    · simp [hN, k_val, h, hf, k_up]
    · simp [hN]
  · have : k_val ad (k_up I b k v) L b j = k_val ad I L b j := by
      unfold k_val
      simp [k_up, Ne.symm hj]
    by_cases hN : j < N
    · simp [hj, hN, this]
    · simp [hj, hN]
theorem k_set_L {cA : Nat → ClassId} {ad : Nat → Nat} {I : StI} {L : StL} {b ci N k : Nat} {v : Int64} (h : k_sh b = (ci, N)) (hc : ci < 6) (hf : k_fk ci k = 1) : (k_wl cA ad I L).set b (ad b, .inr (ci, ((List.range N).map (fun k => k_val ad I L b k)).set k (.long v))) = k_wl cA ad I (k_upL L b k v) := by
  refine k_wl_set ?_ (fun i hi => k_cell_I rfl (k_upL_ne hi))
  rw [k_cell_o h hc]
  congr 2
  apply List.ext_getElem?
  intro j
  rw [List.getElem?_set]
  by_cases hj : k = j
  · subst hj
    by_cases hN : k < N
    · simp [hN, k_val, h, hf, k_upL]
    · simp [hN]
  · have : k_val ad I (k_upL L b k v) b j = k_val ad I L b j := by
      unfold k_val
      simp [k_upL, Ne.symm hj]
    by_cases hN : j < N
    · simp [hj, hN, this]
    · simp [hj, hN]
theorem k_set_a {cA : Nat → ClassId} {ad : Nat → Nat} {I : StI} {L : StL} {b t N k : Nat} {v : Int32} (h : k_sh b = (t, N)) (h1 : 6 ≤ t) (h2 : t < 13) : (k_wl cA ad I L).set b (ad b, .inl (cA b, N, .inl (upd (I b) k v))) = k_wl cA ad (k_up I b k v) L := by
  refine k_wl_set ?_ (fun i hi => k_cell_I (k_up_ne hi) rfl)
  rw [k_cell_a h h1 h2, k_up_eq]
theorem k_set_c {cA : Nat → ClassId} {ad : Nat → Nat} {I : StI} {L : StL} {a b t N sp dp n : Nat} (h : k_sh b = (t, N)) (h1 : 6 ≤ t) (h2 : t < 13) : (k_wl cA ad I L).set b (ad b, .inl (cA b, N, .inl (va_cpy (I a) (I b) sp dp n))) = k_wl cA ad (k_cpA I a b sp dp n) L := by
  refine k_wl_set ?_ (fun i hi => k_cell_I (by funext j; simp [k_cpA, hi]) rfl)
  rw [k_cell_a h h1 h2]
  congr 4
  funext j
  simp [k_cpA]
/-- the tables, of the classes and of each array -/
def k_K (D : va_G) (cA : Nat → ClassId) (s : State) : Prop := va_K D vwCl [] s ∧ ∀ i, 6 ≤ (k_sh i).1 → i < 81 → ArrOfT s (cA i) (k_ty (k_sh i).1) ∧ va_RA s (cA i) (k_ty (k_sh i).1)
theorem k_K.moved {D : va_G} {cA : Nat → ClassId} {u U : State} (hvm : u.vm.Alike U.vm) (h : k_K D cA u) : k_K D cA U := ⟨va_K.moved hvm h.1, fun i h1 h2 => ⟨arrOfT_moved hvm (h.2 i h1 h2).1, (h.2 i h1 h2).2.moved hvm⟩⟩
theorem k_K.one {D : va_G} {cA : Nat → ClassId} {s : State} (h : k_K D cA s) {i t N : Nat} (hs : k_sh i = (t, N)) (h1 : 6 ≤ t) (h2 : t < 90) : va_K D vwCl [(cA i, k_ty t)] s := by
  refine ⟨h.1.1, fun k q hk => ?_⟩
  have hi : i < 81 := k_sh_lt (by rw [hs]; exact h2)
  have := h.2 i (by rw [hs]; exact h1) hi
  rw [hs] at this
  match k, hk with
  | 0, hk => cases hk; exact this
  | k + 1, hk => simp at hk
def k_letters (j : Nat) : Int32 := (([112, 108, 116, 101, 115, 98] : List Int32)[j]?).getD 0
/-- the constant array LETTERS -/
def k_Z (A : Nat → Prop) (s : State) (H : Heap) : Prop := ∃ t : Nat, va_Z "TripCalls" "LETTERS" "[I" (.ref t) A s H ∧ va_T .int t 6 (fun j => .int (k_letters j)) A s H
theorem k_Z.moved {A : Nat → Prop} {u U : State} {H : Heap} (hvm : u.vm.Alike U.vm) (h : k_Z A u H) : k_Z A U H := by
  obtain ⟨t, h1, h2⟩ := h
  exact ⟨t, h1.moved hvm, h2.moved hvm⟩
theorem k_Z.kept {A : Nat → Prop} {U : State} {H H1 : Heap} (h : k_Z A U H) (hq : ∀ a : Nat, a < H.size → ¬ A a → H1[a]? = H[a]?) : k_Z A U H1 := by
  obtain ⟨t, h1, h2⟩ := h
  exact ⟨t, h1.kept hq, h2.kept hq⟩
theorem k_Z.narrow {A B : Nat → Prop} {U : State} {H : Heap} (h : k_Z A U H) (hAB : ∀ q, B q → A q) : k_Z B U H := by
  obtain ⟨t, h1, h2⟩ := h
  exact ⟨t, h1.narrow hAB, h2.narrow hAB⟩
abbrev k_C : Type := Program × Launch × Env × Room × State × MethodId × Array Value × List Frame × Method × Code × (State → Prop) × va_G × (Nat → ClassId) × (Nat → Prop)
def k_rm (d : Nat) : Room := { frames := d, cells := 0, slots := 0, locals := 40 * d }
def k_Wd (X : k_C) (ad : Nat → Nat) (I : StI) (L : StL) (H : Heap) (locs : List Loc) : Prop := match X with
  | (_, _, _, _, s, _, _, _, _, _, _, D, cA, A) => va_P D vwCl (k_wl cA ad I L) H ∧ va_D A (k_wl cA ad I L) ∧ va_S A s.heap H locs
/-- the machine at pc, with these locals, this stack, this store, comes to the method's end as it should -/
def J (X : k_C) (ad : Nat → Nat) (nL : Nat) (I : StI) (L : StL) (pc : Nat) (lv : List (Nat × Value)) (st : List Value) : Prop := match X with
  | (p, l, e, R, s, m, args, below, meth, c, Q, _, _, _) => ∀ (H : Heap) (locs : List Loc) (ls : Array Slot), k_Wd X ad I L H locs → lv_has ls nL lv → W p l e R s m args below meth c H locs 0 0 Q (F0 m pc ls st)
/-- what a method's end must be: P of its answer and of the store -/
def k_Q (D : va_G) (cA : Nat → ClassId) (ad : Nat → Nat) (P : Option Value → StI → StL → Prop) (A : Nat → Prop) : Array Value → State → Outcome → State → Prop := fun _ st oc t =>
  (∃ (v : Option Value) (I : StI) (L : StL), oc = .returned v ∧ P v I L ∧ k_K D cA t ∧ va_P D vwCl (k_wl cA ad I L) t.heap ∧ va_D A (k_wl cA ad I L)) ∧ va_F A st t
/-- the frame of a walk: code, tables, room, the method's end -/
def Ok (X : k_C) (ad : Nat → Nat) (cc : ByteArray) (own : String) (nL : Nat) (ret : Option FieldType) (d : Nat) (P : Option Value → StI → StL → Prop) : Prop := match X with
  | (p, _, _, R, s, m, args, below, meth, c, Q, D, cA, A) => p.tables.exec = Jvm.exec ∧ c.code = cc ∧ c.maxLocals = nL ∧ s.vm.findClass own = some m.cls ∧ (∀ w ∈ k_tbl, w.before args s = true) ∧ meth.locks = false ∧ meth.sig.returnType = ret ∧ (∀ q, s.heap.size ≤ q → A q) ∧ k_Z A s s.heap ∧ k_K D cA s ∧ Q = MQ below (k_Q D cA ad P A) args s 0 0 A ∧ d ≤ R.frames ∧ 40 * d ≤ R.locals
def k_lau (X : k_C) : Launch := X.2.1
def k_Pre (D : va_G) (cA : Nat → ClassId) (ad : Nat → Nat) (sz : Nat) (I : StI) (L : StL) (U : State) : Prop := U.heap.size = sz ∧ k_K D cA U ∧ va_P D vwCl (k_wl cA ad I L) U.heap ∧ va_D (fun _ => True) (k_wl cA ad I L) ∧ k_Z (va_A (k_wl cA ad I L) sz) U U.heap
/-- a method's contract: from this store, these arguments, it comes to an end with P -/
def k_Met (l : Launch) (ad : Nat → Nat) (d : Nat) (y : MethodName) (cc : ByteArray) (maxL : Nat) (ret : Option FieldType) (as : List Value) (I : StI) (L : StL) (P : Option Value → StI → StL → Prop) : Prop :=
  ∀ (D : va_G) (cA : Nat → ClassId) (sz : Nat), Met l y (.code y cc maxL ret :: k_tbl) (k_rm d) (va_Pc as (k_Pre D cA ad sz I L)) (k_Q D cA ad P (va_A (k_wl cA ad I L) sz)) 0 0 (va_A (k_wl cA ad I L) sz)
end
section
theorem J_iconst {X : k_C} {ad : Nat → Nat} {cc : ByteArray} {own : String} {nL : Nat} {ret : Option FieldType} {d : Nat} {P : Option Value → StI → StL → Prop} {I : StI} {L : StL} {pc : Nat} {lv : List (Nat × Value)} {st : List Value} {n : Int} {v : Int32} (hx : Ok X ad cc own nL ret d P) (hd : decode cc pc = .ok (.iconst n, 1)) (hv : Int32.ofInt n = v) (k : J X ad nL I L (pc + 1) lv (.int v :: st)) : J X ad nL I L pc lv st := by
  obtain ⟨p, l, e, R, s, m, args, below, meth, c, Q, D, cA, A⟩ := X
  obtain ⟨hexec, hb, hml, hown, hts, hlk, hr, hA, hZ, hK, hQ, hfr, hlo⟩ := hx
  intro H locs ls hW hl
  exact lv_iconst hexec hb hd hv (k H locs ls hW hl)

theorem J_bipush {X : k_C} {ad : Nat → Nat} {cc : ByteArray} {own : String} {nL : Nat} {ret : Option FieldType} {d : Nat} {P : Option Value → StI → StL → Prop} {I : StI} {L : StL} {pc : Nat} {lv : List (Nat × Value)} {st : List Value} {n : Int} {v : Int32} (hx : Ok X ad cc own nL ret d P) (hd : decode cc pc = .ok (.bipush n, 2)) (hv : (Int8.ofInt n).toInt32 = v) (k : J X ad nL I L (pc + 2) lv (.int v :: st)) : J X ad nL I L pc lv st := by
  obtain ⟨p, l, e, R, s, m, args, below, meth, c, Q, D, cA, A⟩ := X
  obtain ⟨hexec, hb, hml, hown, hts, hlk, hr, hA, hZ, hK, hQ, hfr, hlo⟩ := hx
  intro H locs ls hW hl
  exact lv_bipush hexec hb hd hv (k H locs ls hW hl)

theorem J_sipush {X : k_C} {ad : Nat → Nat} {cc : ByteArray} {own : String} {nL : Nat} {ret : Option FieldType} {d : Nat} {P : Option Value → StI → StL → Prop} {I : StI} {L : StL} {pc : Nat} {lv : List (Nat × Value)} {st : List Value} {n : Int} {v : Int32} (hx : Ok X ad cc own nL ret d P) (hd : decode cc pc = .ok (.sipush n, 3)) (hv : (Int16.ofInt n).toInt32 = v) (k : J X ad nL I L (pc + 3) lv (.int v :: st)) : J X ad nL I L pc lv st := by
  obtain ⟨p, l, e, R, s, m, args, below, meth, c, Q, D, cA, A⟩ := X
  obtain ⟨hexec, hb, hml, hown, hts, hlk, hr, hA, hZ, hK, hQ, hfr, hlo⟩ := hx
  intro H locs ls hW hl
  exact lv_sipush hexec hb hd hv (k H locs ls hW hl)

theorem J_lconst {X : k_C} {ad : Nat → Nat} {cc : ByteArray} {own : String} {nL : Nat} {ret : Option FieldType} {d : Nat} {P : Option Value → StI → StL → Prop} {I : StI} {L : StL} {pc : Nat} {lv : List (Nat × Value)} {st : List Value} {n : Fin 2} {v : Int64} (hx : Ok X ad cc own nL ret d P) (hd : decode cc pc = .ok (.lconst n, 1)) (hv : Int64.ofNat (n : Nat) = v) (k : J X ad nL I L (pc + 1) lv (.long v :: st)) : J X ad nL I L pc lv st := by
  obtain ⟨p, l, e, R, s, m, args, below, meth, c, Q, D, cA, A⟩ := X
  obtain ⟨hexec, hb, hml, hown, hts, hlk, hr, hA, hZ, hK, hQ, hfr, hlo⟩ := hx
  intro H locs ls hW hl
  exact lv_lconst hexec hb hd hv (k H locs ls hW hl)

theorem J_ldcw {X : k_C} {ad : Nat → Nat} {cc : ByteArray} {own : String} {nL : Nat} {ret : Option FieldType} {d : Nat} {P : Option Value → StI → StL → Prop} {I : StI} {L : StL} {pc : Nat} {lv : List (Nat × Value)} {st : List Value} {index : Nat} {v : Int32} (hx : Ok X ad cc own nL ret d P) (hc : Cond.constant own index v ∈ k_tbl) (hd : decode cc pc = .ok (.ldc_w index, 3)) (k : J X ad nL I L (pc + 3) lv (.int v :: st)) : J X ad nL I L pc lv st := by
  obtain ⟨p, l, e, R, s, m, args, below, meth, c, Q, D, cA, A⟩ := X
  obtain ⟨hexec, hb, hml, hown, hts, hlk, hr, hA, hZ, hK, hQ, hfr, hlo⟩ := hx
  intro H locs ls hW hl
  exact lv_ldcw hexec hb hown (hts _ hc) hd (k H locs ls hW hl)

theorem J_ldc {X : k_C} {ad : Nat → Nat} {cc : ByteArray} {own : String} {nL : Nat} {ret : Option FieldType} {d : Nat} {P : Option Value → StI → StL → Prop} {I : StI} {L : StL} {pc : Nat} {lv : List (Nat × Value)} {st : List Value} {index : Nat} {v : Int32} (hx : Ok X ad cc own nL ret d P) (hc : Cond.constant own index v ∈ k_tbl) (hd : decode cc pc = .ok (.ldc index, 2)) (k : J X ad nL I L (pc + 2) lv (.int v :: st)) : J X ad nL I L pc lv st := by
  obtain ⟨p, l, e, R, s, m, args, below, meth, c, Q, D, cA, A⟩ := X
  obtain ⟨hexec, hb, hml, hown, hts, hlk, hr, hA, hZ, hK, hQ, hfr, hlo⟩ := hx
  intro H locs ls hW hl
  exact lv_ldc hexec hb hown (hts _ hc) hd (k H locs ls hW hl)

theorem J_ldc2 {X : k_C} {ad : Nat → Nat} {cc : ByteArray} {own : String} {nL : Nat} {ret : Option FieldType} {d : Nat} {P : Option Value → StI → StL → Prop} {I : StI} {L : StL} {pc : Nat} {lv : List (Nat × Value)} {st : List Value} {index : Nat} {v : Int64} (hx : Ok X ad cc own nL ret d P) (hc : Cond.constantLong own index v ∈ k_tbl) (hd : decode cc pc = .ok (.ldc2_w index, 3)) (k : J X ad nL I L (pc + 3) lv (.long v :: st)) : J X ad nL I L pc lv st := by
  obtain ⟨p, l, e, R, s, m, args, below, meth, c, Q, D, cA, A⟩ := X
  obtain ⟨hexec, hb, hml, hown, hts, hlk, hr, hA, hZ, hK, hQ, hfr, hlo⟩ := hx
  intro H locs ls hW hl
  exact lv_ldc2 hexec hb hown (hts _ hc) hd (k H locs ls hW hl)

theorem J_iload_n {X : k_C} {ad : Nat → Nat} {cc : ByteArray} {own : String} {nL : Nat} {ret : Option FieldType} {d : Nat} {P : Option Value → StI → StL → Prop} {I : StI} {L : StL} {pc : Nat} {lv : List (Nat × Value)} {st : List Value} {kf : Fin 4} {x : Int32} (hx : Ok X ad cc own nL ret d P) (hd : decode cc pc = .ok (.iload_n kf, 1)) (q : Nat) (hq : lv[q]? = some ((kf : Nat), .int x)) (k : J X ad nL I L (pc + 1) lv (.int x :: st)) : J X ad nL I L pc lv st := by
  obtain ⟨p, l, e, R, s, m, args, below, meth, c, Q, D, cA, A⟩ := X
  obtain ⟨hexec, hb, hml, hown, hts, hlk, hr, hA, hZ, hK, hQ, hfr, hlo⟩ := hx
  intro H locs ls hW hl
  exact lv_iload_n hexec hb hd rfl (lv_at hl q hq) (k H locs ls hW hl)

theorem J_iload {X : k_C} {ad : Nat → Nat} {cc : ByteArray} {own : String} {nL : Nat} {ret : Option FieldType} {d : Nat} {P : Option Value → StI → StL → Prop} {I : StI} {L : StL} {pc : Nat} {lv : List (Nat × Value)} {st : List Value} {i : Nat} {x : Int32} (hx : Ok X ad cc own nL ret d P) (hd : decode cc pc = .ok (.iload i, 2)) (q : Nat) (hq : lv[q]? = some (i, .int x)) (k : J X ad nL I L (pc + 2) lv (.int x :: st)) : J X ad nL I L pc lv st := by
  obtain ⟨p, l, e, R, s, m, args, below, meth, c, Q, D, cA, A⟩ := X
  obtain ⟨hexec, hb, hml, hown, hts, hlk, hr, hA, hZ, hK, hQ, hfr, hlo⟩ := hx
  intro H locs ls hW hl
  exact lv_iload hexec hb hd (lv_at hl q hq) (k H locs ls hW hl)

theorem J_lload_n {X : k_C} {ad : Nat → Nat} {cc : ByteArray} {own : String} {nL : Nat} {ret : Option FieldType} {d : Nat} {P : Option Value → StI → StL → Prop} {I : StI} {L : StL} {pc : Nat} {lv : List (Nat × Value)} {st : List Value} {kf : Fin 4} {x : Int64} (hx : Ok X ad cc own nL ret d P) (hd : decode cc pc = .ok (.lload_n kf, 1)) (q : Nat) (hq : lv[q]? = some ((kf : Nat), .long x)) (k : J X ad nL I L (pc + 1) lv (.long x :: st)) : J X ad nL I L pc lv st := by
  obtain ⟨p, l, e, R, s, m, args, below, meth, c, Q, D, cA, A⟩ := X
  obtain ⟨hexec, hb, hml, hown, hts, hlk, hr, hA, hZ, hK, hQ, hfr, hlo⟩ := hx
  intro H locs ls hW hl
  exact lv_lload_n hexec hb hd rfl (lv_at hl q hq) (k H locs ls hW hl)

theorem J_lload {X : k_C} {ad : Nat → Nat} {cc : ByteArray} {own : String} {nL : Nat} {ret : Option FieldType} {d : Nat} {P : Option Value → StI → StL → Prop} {I : StI} {L : StL} {pc : Nat} {lv : List (Nat × Value)} {st : List Value} {i : Nat} {x : Int64} (hx : Ok X ad cc own nL ret d P) (hd : decode cc pc = .ok (.lload i, 2)) (q : Nat) (hq : lv[q]? = some (i, .long x)) (k : J X ad nL I L (pc + 2) lv (.long x :: st)) : J X ad nL I L pc lv st := by
  obtain ⟨p, l, e, R, s, m, args, below, meth, c, Q, D, cA, A⟩ := X
  obtain ⟨hexec, hb, hml, hown, hts, hlk, hr, hA, hZ, hK, hQ, hfr, hlo⟩ := hx
  intro H locs ls hW hl
  exact lv_lload hexec hb hd (lv_at hl q hq) (k H locs ls hW hl)

theorem J_aload_n {X : k_C} {ad : Nat → Nat} {cc : ByteArray} {own : String} {nL : Nat} {ret : Option FieldType} {d : Nat} {P : Option Value → StI → StL → Prop} {I : StI} {L : StL} {pc : Nat} {lv : List (Nat × Value)} {st : List Value} {kf : Fin 4} {x : Nat} (hx : Ok X ad cc own nL ret d P) (hd : decode cc pc = .ok (.aload_n kf, 1)) (q : Nat) (hq : lv[q]? = some ((kf : Nat), .ref x)) (k : J X ad nL I L (pc + 1) lv (.ref x :: st)) : J X ad nL I L pc lv st := by
  obtain ⟨p, l, e, R, s, m, args, below, meth, c, Q, D, cA, A⟩ := X
  obtain ⟨hexec, hb, hml, hown, hts, hlk, hr, hA, hZ, hK, hQ, hfr, hlo⟩ := hx
  intro H locs ls hW hl
  exact lv_aload_n hexec hb hd rfl (lv_at hl q hq) (k H locs ls hW hl)

theorem J_aload {X : k_C} {ad : Nat → Nat} {cc : ByteArray} {own : String} {nL : Nat} {ret : Option FieldType} {d : Nat} {P : Option Value → StI → StL → Prop} {I : StI} {L : StL} {pc : Nat} {lv : List (Nat × Value)} {st : List Value} {i : Nat} {x : Nat} (hx : Ok X ad cc own nL ret d P) (hd : decode cc pc = .ok (.aload i, 2)) (q : Nat) (hq : lv[q]? = some (i, .ref x)) (k : J X ad nL I L (pc + 2) lv (.ref x :: st)) : J X ad nL I L pc lv st := by
  obtain ⟨p, l, e, R, s, m, args, below, meth, c, Q, D, cA, A⟩ := X
  obtain ⟨hexec, hb, hml, hown, hts, hlk, hr, hA, hZ, hK, hQ, hfr, hlo⟩ := hx
  intro H locs ls hW hl
  exact lv_aload hexec hb hd (lv_at hl q hq) (k H locs ls hW hl)

theorem J_istore_n {X : k_C} {ad : Nat → Nat} {cc : ByteArray} {own : String} {nL : Nat} {ret : Option FieldType} {d : Nat} {P : Option Value → StI → StL → Prop} {I : StI} {L : StL} {pc : Nat} {lv : List (Nat × Value)} {st : List Value} {kf : Fin 4} {x x' : Int32} {lv' : List (Nat × Value)} (hx : Ok X ad cc own nL ret d P) (hd : decode cc pc = .ok (.istore_n kf, 1)) (hxx : x = x') (hn : (kf : Nat) < nL) (hl2 : ((kf : Nat), Value.int x) :: lv.filter (fun q => !(q.1 == (kf : Nat)) && !(q.1 + 1 == (kf : Nat) && q.2.category == 2)) = lv') (k : J X ad nL I L (pc + 1) lv' st) : J X ad nL I L pc lv (.int x' :: st) := by
  obtain ⟨p, l, e, R, s, m, args, below, meth, c, Q, D, cA, A⟩ := X
  obtain ⟨hexec, hb, hml, hown, hts, hlk, hr, hA, hZ, hK, hQ, hfr, hlo⟩ := hx
  intro H locs ls hW hl
  subst hxx
  exact lv_istore_n hexec hb hd rfl hl hn hl2 (fun ls' hl' => k H locs ls' hW hl')

theorem J_istore {X : k_C} {ad : Nat → Nat} {cc : ByteArray} {own : String} {nL : Nat} {ret : Option FieldType} {d : Nat} {P : Option Value → StI → StL → Prop} {I : StI} {L : StL} {pc : Nat} {lv : List (Nat × Value)} {st : List Value} {i : Nat} {x x' : Int32} {lv' : List (Nat × Value)} (hx : Ok X ad cc own nL ret d P) (hd : decode cc pc = .ok (.istore i, 2)) (hxx : x = x') (hn : i < nL) (hl2 : (i, Value.int x) :: lv.filter (fun q => !(q.1 == i) && !(q.1 + 1 == i && q.2.category == 2)) = lv') (k : J X ad nL I L (pc + 2) lv' st) : J X ad nL I L pc lv (.int x' :: st) := by
  obtain ⟨p, l, e, R, s, m, args, below, meth, c, Q, D, cA, A⟩ := X
  obtain ⟨hexec, hb, hml, hown, hts, hlk, hr, hA, hZ, hK, hQ, hfr, hlo⟩ := hx
  intro H locs ls hW hl
  subst hxx
  exact lv_istore hexec hb hd hl hn hl2 (fun ls' hl' => k H locs ls' hW hl')

theorem J_astore_n {X : k_C} {ad : Nat → Nat} {cc : ByteArray} {own : String} {nL : Nat} {ret : Option FieldType} {d : Nat} {P : Option Value → StI → StL → Prop} {I : StI} {L : StL} {pc : Nat} {lv : List (Nat × Value)} {st : List Value} {kf : Fin 4} {x x' : Nat} {lv' : List (Nat × Value)} (hx : Ok X ad cc own nL ret d P) (hd : decode cc pc = .ok (.astore_n kf, 1)) (hxx : x = x') (hn : (kf : Nat) < nL) (hl2 : ((kf : Nat), Value.ref x) :: lv.filter (fun q => !(q.1 == (kf : Nat)) && !(q.1 + 1 == (kf : Nat) && q.2.category == 2)) = lv') (k : J X ad nL I L (pc + 1) lv' st) : J X ad nL I L pc lv (.ref x' :: st) := by
  obtain ⟨p, l, e, R, s, m, args, below, meth, c, Q, D, cA, A⟩ := X
  obtain ⟨hexec, hb, hml, hown, hts, hlk, hr, hA, hZ, hK, hQ, hfr, hlo⟩ := hx
  intro H locs ls hW hl
  subst hxx
  exact lv_astore_n hexec hb hd rfl hl hn hl2 (fun ls' hl' => k H locs ls' hW hl')

theorem J_astore {X : k_C} {ad : Nat → Nat} {cc : ByteArray} {own : String} {nL : Nat} {ret : Option FieldType} {d : Nat} {P : Option Value → StI → StL → Prop} {I : StI} {L : StL} {pc : Nat} {lv : List (Nat × Value)} {st : List Value} {i : Nat} {x x' : Nat} {lv' : List (Nat × Value)} (hx : Ok X ad cc own nL ret d P) (hd : decode cc pc = .ok (.astore i, 2)) (hxx : x = x') (hn : i < nL) (hl2 : (i, Value.ref x) :: lv.filter (fun q => !(q.1 == i) && !(q.1 + 1 == i && q.2.category == 2)) = lv') (k : J X ad nL I L (pc + 2) lv' st) : J X ad nL I L pc lv (.ref x' :: st) := by
  obtain ⟨p, l, e, R, s, m, args, below, meth, c, Q, D, cA, A⟩ := X
  obtain ⟨hexec, hb, hml, hown, hts, hlk, hr, hA, hZ, hK, hQ, hfr, hlo⟩ := hx
  intro H locs ls hW hl
  subst hxx
  exact lv_astore hexec hb hd hl hn hl2 (fun ls' hl' => k H locs ls' hW hl')

theorem J_lstore_n {X : k_C} {ad : Nat → Nat} {cc : ByteArray} {own : String} {nL : Nat} {ret : Option FieldType} {d : Nat} {P : Option Value → StI → StL → Prop} {I : StI} {L : StL} {pc : Nat} {lv : List (Nat × Value)} {st : List Value} {kf : Fin 4} {x x' : Int64} {lv' : List (Nat × Value)} (hx : Ok X ad cc own nL ret d P) (hd : decode cc pc = .ok (.lstore_n kf, 1)) (hxx : x = x') (hn : (kf : Nat) + 1 < nL) (hl2 : ((kf : Nat), Value.long x) :: lv.filter (fun q => !(q.1 == (kf : Nat)) && (!(q.1 == (kf : Nat) + 1) && !(q.1 + 1 == (kf : Nat) && q.2.category == 2))) = lv') (k : J X ad nL I L (pc + 1) lv' st) : J X ad nL I L pc lv (.long x' :: st) := by
  obtain ⟨p, l, e, R, s, m, args, below, meth, c, Q, D, cA, A⟩ := X
  obtain ⟨hexec, hb, hml, hown, hts, hlk, hr, hA, hZ, hK, hQ, hfr, hlo⟩ := hx
  intro H locs ls hW hl
  subst hxx
  exact lv_lstore_n hexec hb hd rfl hl hn hl2 (fun ls' hl' => k H locs ls' hW hl')

theorem J_lstore {X : k_C} {ad : Nat → Nat} {cc : ByteArray} {own : String} {nL : Nat} {ret : Option FieldType} {d : Nat} {P : Option Value → StI → StL → Prop} {I : StI} {L : StL} {pc : Nat} {lv : List (Nat × Value)} {st : List Value} {i : Nat} {x x' : Int64} {lv' : List (Nat × Value)} (hx : Ok X ad cc own nL ret d P) (hd : decode cc pc = .ok (.lstore i, 2)) (hxx : x = x') (hn : i + 1 < nL) (hl2 : (i, Value.long x) :: lv.filter (fun q => !(q.1 == i) && (!(q.1 == i + 1) && !(q.1 + 1 == i && q.2.category == 2))) = lv') (k : J X ad nL I L (pc + 2) lv' st) : J X ad nL I L pc lv (.long x' :: st) := by
  obtain ⟨p, l, e, R, s, m, args, below, meth, c, Q, D, cA, A⟩ := X
  obtain ⟨hexec, hb, hml, hown, hts, hlk, hr, hA, hZ, hK, hQ, hfr, hlo⟩ := hx
  intro H locs ls hW hl
  subst hxx
  exact lv_lstore hexec hb hd hl hn hl2 (fun ls' hl' => k H locs ls' hW hl')

theorem J_iinc {X : k_C} {ad : Nat → Nat} {cc : ByteArray} {own : String} {nL : Nat} {ret : Option FieldType} {d : Nat} {P : Option Value → StI → StL → Prop} {I : StI} {L : StL} {pc : Nat} {lv : List (Nat × Value)} {st : List Value} {i : Nat} {n : Int} {x x' : Int32} {lv' : List (Nat × Value)} (hx : Ok X ad cc own nL ret d P) (hd : decode cc pc = .ok (.iinc i n, 3)) (q : Nat) (hq : lv[q]? = some (i, .int x')) (hv : x' + Int32.ofInt n = x) (hn : i < nL) (hl2 : (i, Value.int x) :: lv.filter (fun q => !(q.1 == i) && !(q.1 + 1 == i && q.2.category == 2)) = lv') (k : J X ad nL I L (pc + 3) lv' st) : J X ad nL I L pc lv st := by
  obtain ⟨p, l, e, R, s, m, args, below, meth, c, Q, D, cA, A⟩ := X
  obtain ⟨hexec, hb, hml, hown, hts, hlk, hr, hA, hZ, hK, hQ, hfr, hlo⟩ := hx
  intro H locs ls hW hl
  exact lv_iinc hexec hb hd hl hq hv hn hl2 (fun ls' hl' => k H locs ls' hW hl')

theorem J_iadd {X : k_C} {ad : Nat → Nat} {cc : ByteArray} {own : String} {nL : Nat} {ret : Option FieldType} {d : Nat} {P : Option Value → StI → StL → Prop} {I : StI} {L : StL} {pc : Nat} {lv : List (Nat × Value)} {st : List Value} {x y : Int32} (hx : Ok X ad cc own nL ret d P) (hd : decode cc pc = .ok (.iadd, 1)) (k : J X ad nL I L (pc + 1) lv (.int (x + y) :: st)) : J X ad nL I L pc lv (.int y :: .int x :: st) := by
  obtain ⟨p, l, e, R, s, m, args, below, meth, c, Q, D, cA, A⟩ := X
  obtain ⟨hexec, hb, hml, hown, hts, hlk, hr, hA, hZ, hK, hQ, hfr, hlo⟩ := hx
  intro H locs ls hW hl
  exact lv_iadd hexec hb hd (k H locs ls hW hl)

theorem J_isub {X : k_C} {ad : Nat → Nat} {cc : ByteArray} {own : String} {nL : Nat} {ret : Option FieldType} {d : Nat} {P : Option Value → StI → StL → Prop} {I : StI} {L : StL} {pc : Nat} {lv : List (Nat × Value)} {st : List Value} {x y : Int32} (hx : Ok X ad cc own nL ret d P) (hd : decode cc pc = .ok (.isub, 1)) (k : J X ad nL I L (pc + 1) lv (.int (x - y) :: st)) : J X ad nL I L pc lv (.int y :: .int x :: st) := by
  obtain ⟨p, l, e, R, s, m, args, below, meth, c, Q, D, cA, A⟩ := X
  obtain ⟨hexec, hb, hml, hown, hts, hlk, hr, hA, hZ, hK, hQ, hfr, hlo⟩ := hx
  intro H locs ls hW hl
  exact lv_isub hexec hb hd (k H locs ls hW hl)

theorem J_imul {X : k_C} {ad : Nat → Nat} {cc : ByteArray} {own : String} {nL : Nat} {ret : Option FieldType} {d : Nat} {P : Option Value → StI → StL → Prop} {I : StI} {L : StL} {pc : Nat} {lv : List (Nat × Value)} {st : List Value} {x y : Int32} (hx : Ok X ad cc own nL ret d P) (hd : decode cc pc = .ok (.imul, 1)) (k : J X ad nL I L (pc + 1) lv (.int (x * y) :: st)) : J X ad nL I L pc lv (.int y :: .int x :: st) := by
  obtain ⟨p, l, e, R, s, m, args, below, meth, c, Q, D, cA, A⟩ := X
  obtain ⟨hexec, hb, hml, hown, hts, hlk, hr, hA, hZ, hK, hQ, hfr, hlo⟩ := hx
  intro H locs ls hW hl
  exact lv_imul hexec hb hd (k H locs ls hW hl)

theorem J_iand {X : k_C} {ad : Nat → Nat} {cc : ByteArray} {own : String} {nL : Nat} {ret : Option FieldType} {d : Nat} {P : Option Value → StI → StL → Prop} {I : StI} {L : StL} {pc : Nat} {lv : List (Nat × Value)} {st : List Value} {x y : Int32} (hx : Ok X ad cc own nL ret d P) (hd : decode cc pc = .ok (.iand, 1)) (k : J X ad nL I L (pc + 1) lv (.int (x &&& y) :: st)) : J X ad nL I L pc lv (.int y :: .int x :: st) := by
  obtain ⟨p, l, e, R, s, m, args, below, meth, c, Q, D, cA, A⟩ := X
  obtain ⟨hexec, hb, hml, hown, hts, hlk, hr, hA, hZ, hK, hQ, hfr, hlo⟩ := hx
  intro H locs ls hW hl
  exact lv_iand hexec hb hd (k H locs ls hW hl)

theorem J_ior {X : k_C} {ad : Nat → Nat} {cc : ByteArray} {own : String} {nL : Nat} {ret : Option FieldType} {d : Nat} {P : Option Value → StI → StL → Prop} {I : StI} {L : StL} {pc : Nat} {lv : List (Nat × Value)} {st : List Value} {x y : Int32} (hx : Ok X ad cc own nL ret d P) (hd : decode cc pc = .ok (.ior, 1)) (k : J X ad nL I L (pc + 1) lv (.int (x ||| y) :: st)) : J X ad nL I L pc lv (.int y :: .int x :: st) := by
  obtain ⟨p, l, e, R, s, m, args, below, meth, c, Q, D, cA, A⟩ := X
  obtain ⟨hexec, hb, hml, hown, hts, hlk, hr, hA, hZ, hK, hQ, hfr, hlo⟩ := hx
  intro H locs ls hW hl
  exact lv_ior hexec hb hd (k H locs ls hW hl)

theorem J_ixor {X : k_C} {ad : Nat → Nat} {cc : ByteArray} {own : String} {nL : Nat} {ret : Option FieldType} {d : Nat} {P : Option Value → StI → StL → Prop} {I : StI} {L : StL} {pc : Nat} {lv : List (Nat × Value)} {st : List Value} {x y : Int32} (hx : Ok X ad cc own nL ret d P) (hd : decode cc pc = .ok (.ixor, 1)) (k : J X ad nL I L (pc + 1) lv (.int (x ^^^ y) :: st)) : J X ad nL I L pc lv (.int y :: .int x :: st) := by
  obtain ⟨p, l, e, R, s, m, args, below, meth, c, Q, D, cA, A⟩ := X
  obtain ⟨hexec, hb, hml, hown, hts, hlk, hr, hA, hZ, hK, hQ, hfr, hlo⟩ := hx
  intro H locs ls hW hl
  exact lv_ixor hexec hb hd (k H locs ls hW hl)

theorem J_ishl {X : k_C} {ad : Nat → Nat} {cc : ByteArray} {own : String} {nL : Nat} {ret : Option FieldType} {d : Nat} {P : Option Value → StI → StL → Prop} {I : StI} {L : StL} {pc : Nat} {lv : List (Nat × Value)} {st : List Value} {x y : Int32} (hx : Ok X ad cc own nL ret d P) (hd : decode cc pc = .ok (.ishl, 1)) (k : J X ad nL I L (pc + 1) lv (.int (x <<< (y &&& 31)) :: st)) : J X ad nL I L pc lv (.int y :: .int x :: st) := by
  obtain ⟨p, l, e, R, s, m, args, below, meth, c, Q, D, cA, A⟩ := X
  obtain ⟨hexec, hb, hml, hown, hts, hlk, hr, hA, hZ, hK, hQ, hfr, hlo⟩ := hx
  intro H locs ls hW hl
  exact lv_ishl hexec hb hd (k H locs ls hW hl)

theorem J_ishr {X : k_C} {ad : Nat → Nat} {cc : ByteArray} {own : String} {nL : Nat} {ret : Option FieldType} {d : Nat} {P : Option Value → StI → StL → Prop} {I : StI} {L : StL} {pc : Nat} {lv : List (Nat × Value)} {st : List Value} {x y : Int32} (hx : Ok X ad cc own nL ret d P) (hd : decode cc pc = .ok (.ishr, 1)) (k : J X ad nL I L (pc + 1) lv (.int (x >>> (y &&& 31)) :: st)) : J X ad nL I L pc lv (.int y :: .int x :: st) := by
  obtain ⟨p, l, e, R, s, m, args, below, meth, c, Q, D, cA, A⟩ := X
  obtain ⟨hexec, hb, hml, hown, hts, hlk, hr, hA, hZ, hK, hQ, hfr, hlo⟩ := hx
  intro H locs ls hW hl
  exact lv_ishr hexec hb hd (k H locs ls hW hl)

theorem J_iushr {X : k_C} {ad : Nat → Nat} {cc : ByteArray} {own : String} {nL : Nat} {ret : Option FieldType} {d : Nat} {P : Option Value → StI → StL → Prop} {I : StI} {L : StL} {pc : Nat} {lv : List (Nat × Value)} {st : List Value} {x y : Int32} (hx : Ok X ad cc own nL ret d P) (hd : decode cc pc = .ok (.iushr, 1)) (k : J X ad nL I L (pc + 1) lv (.int ((x.toUInt32 >>> (y.toUInt32 &&& Int32.toUInt32 31)).toInt32) :: st)) : J X ad nL I L pc lv (.int y :: .int x :: st) := by
  obtain ⟨p, l, e, R, s, m, args, below, meth, c, Q, D, cA, A⟩ := X
  obtain ⟨hexec, hb, hml, hown, hts, hlk, hr, hA, hZ, hK, hQ, hfr, hlo⟩ := hx
  intro H locs ls hW hl
  exact lv_iushr hexec hb hd rfl (k H locs ls hW hl)

theorem J_idiv {X : k_C} {ad : Nat → Nat} {cc : ByteArray} {own : String} {nL : Nat} {ret : Option FieldType} {d : Nat} {P : Option Value → StI → StL → Prop} {I : StI} {L : StL} {pc : Nat} {lv : List (Nat × Value)} {st : List Value} {x y : Int32} (hx : Ok X ad cc own nL ret d P) (hne : ¬ y = 0) (hd : decode cc pc = .ok (.idiv, 1)) (k : J X ad nL I L (pc + 1) lv (.int (x / y) :: st)) : J X ad nL I L pc lv (.int y :: .int x :: st) := by
  obtain ⟨p, l, e, R, s, m, args, below, meth, c, Q, D, cA, A⟩ := X
  obtain ⟨hexec, hb, hml, hown, hts, hlk, hr, hA, hZ, hK, hQ, hfr, hlo⟩ := hx
  intro H locs ls hW hl
  exact lv_idiv hexec hb hd hne (k H locs ls hW hl)

theorem J_irem {X : k_C} {ad : Nat → Nat} {cc : ByteArray} {own : String} {nL : Nat} {ret : Option FieldType} {d : Nat} {P : Option Value → StI → StL → Prop} {I : StI} {L : StL} {pc : Nat} {lv : List (Nat × Value)} {st : List Value} {x y : Int32} (hx : Ok X ad cc own nL ret d P) (hne : ¬ y = 0) (hd : decode cc pc = .ok (.irem, 1)) (k : J X ad nL I L (pc + 1) lv (.int (x - x / y * y) :: st)) : J X ad nL I L pc lv (.int y :: .int x :: st) := by
  obtain ⟨p, l, e, R, s, m, args, below, meth, c, Q, D, cA, A⟩ := X
  obtain ⟨hexec, hb, hml, hown, hts, hlk, hr, hA, hZ, hK, hQ, hfr, hlo⟩ := hx
  intro H locs ls hW hl
  exact lv_irem hexec hb hd hne (k H locs ls hW hl)

theorem J_ineg {X : k_C} {ad : Nat → Nat} {cc : ByteArray} {own : String} {nL : Nat} {ret : Option FieldType} {d : Nat} {P : Option Value → StI → StL → Prop} {I : StI} {L : StL} {pc : Nat} {lv : List (Nat × Value)} {st : List Value} {x : Int32} (hx : Ok X ad cc own nL ret d P) (hd : decode cc pc = .ok (.ineg, 1)) (k : J X ad nL I L (pc + 1) lv (.int (-x) :: st)) : J X ad nL I L pc lv (.int x :: st) := by
  obtain ⟨p, l, e, R, s, m, args, below, meth, c, Q, D, cA, A⟩ := X
  obtain ⟨hexec, hb, hml, hown, hts, hlk, hr, hA, hZ, hK, hQ, hfr, hlo⟩ := hx
  intro H locs ls hW hl
  exact lv_ineg hexec hb hd (k H locs ls hW hl)

theorem J_ladd {X : k_C} {ad : Nat → Nat} {cc : ByteArray} {own : String} {nL : Nat} {ret : Option FieldType} {d : Nat} {P : Option Value → StI → StL → Prop} {I : StI} {L : StL} {pc : Nat} {lv : List (Nat × Value)} {st : List Value} {x y : Int64} (hx : Ok X ad cc own nL ret d P) (hd : decode cc pc = .ok (.ladd, 1)) (k : J X ad nL I L (pc + 1) lv (.long (x + y) :: st)) : J X ad nL I L pc lv (.long y :: .long x :: st) := by
  obtain ⟨p, l, e, R, s, m, args, below, meth, c, Q, D, cA, A⟩ := X
  obtain ⟨hexec, hb, hml, hown, hts, hlk, hr, hA, hZ, hK, hQ, hfr, hlo⟩ := hx
  intro H locs ls hW hl
  exact lv_ladd hexec hb hd (k H locs ls hW hl)

theorem J_lsub {X : k_C} {ad : Nat → Nat} {cc : ByteArray} {own : String} {nL : Nat} {ret : Option FieldType} {d : Nat} {P : Option Value → StI → StL → Prop} {I : StI} {L : StL} {pc : Nat} {lv : List (Nat × Value)} {st : List Value} {x y : Int64} (hx : Ok X ad cc own nL ret d P) (hd : decode cc pc = .ok (.lsub, 1)) (k : J X ad nL I L (pc + 1) lv (.long (x - y) :: st)) : J X ad nL I L pc lv (.long y :: .long x :: st) := by
  obtain ⟨p, l, e, R, s, m, args, below, meth, c, Q, D, cA, A⟩ := X
  obtain ⟨hexec, hb, hml, hown, hts, hlk, hr, hA, hZ, hK, hQ, hfr, hlo⟩ := hx
  intro H locs ls hW hl
  exact lv_lsub hexec hb hd (k H locs ls hW hl)

theorem J_lmul {X : k_C} {ad : Nat → Nat} {cc : ByteArray} {own : String} {nL : Nat} {ret : Option FieldType} {d : Nat} {P : Option Value → StI → StL → Prop} {I : StI} {L : StL} {pc : Nat} {lv : List (Nat × Value)} {st : List Value} {x y : Int64} (hx : Ok X ad cc own nL ret d P) (hd : decode cc pc = .ok (.lmul, 1)) (k : J X ad nL I L (pc + 1) lv (.long (x * y) :: st)) : J X ad nL I L pc lv (.long y :: .long x :: st) := by
  obtain ⟨p, l, e, R, s, m, args, below, meth, c, Q, D, cA, A⟩ := X
  obtain ⟨hexec, hb, hml, hown, hts, hlk, hr, hA, hZ, hK, hQ, hfr, hlo⟩ := hx
  intro H locs ls hW hl
  exact lv_lmul hexec hb hd (k H locs ls hW hl)

theorem J_ldiv {X : k_C} {ad : Nat → Nat} {cc : ByteArray} {own : String} {nL : Nat} {ret : Option FieldType} {d : Nat} {P : Option Value → StI → StL → Prop} {I : StI} {L : StL} {pc : Nat} {lv : List (Nat × Value)} {st : List Value} {x y : Int64} (hx : Ok X ad cc own nL ret d P) (hne : ¬ y = 0) (hd : decode cc pc = .ok (.ldiv, 1)) (k : J X ad nL I L (pc + 1) lv (.long (x / y) :: st)) : J X ad nL I L pc lv (.long y :: .long x :: st) := by
  obtain ⟨p, l, e, R, s, m, args, below, meth, c, Q, D, cA, A⟩ := X
  obtain ⟨hexec, hb, hml, hown, hts, hlk, hr, hA, hZ, hK, hQ, hfr, hlo⟩ := hx
  intro H locs ls hW hl
  exact lv_ldiv hexec hb hd hne (k H locs ls hW hl)

theorem J_lrem {X : k_C} {ad : Nat → Nat} {cc : ByteArray} {own : String} {nL : Nat} {ret : Option FieldType} {d : Nat} {P : Option Value → StI → StL → Prop} {I : StI} {L : StL} {pc : Nat} {lv : List (Nat × Value)} {st : List Value} {x y : Int64} (hx : Ok X ad cc own nL ret d P) (hne : ¬ y = 0) (hd : decode cc pc = .ok (.lrem, 1)) (k : J X ad nL I L (pc + 1) lv (.long (x - x / y * y) :: st)) : J X ad nL I L pc lv (.long y :: .long x :: st) := by
  obtain ⟨p, l, e, R, s, m, args, below, meth, c, Q, D, cA, A⟩ := X
  obtain ⟨hexec, hb, hml, hown, hts, hlk, hr, hA, hZ, hK, hQ, hfr, hlo⟩ := hx
  intro H locs ls hW hl
  exact lv_lrem hexec hb hd hne (k H locs ls hW hl)

theorem J_lcmp {X : k_C} {ad : Nat → Nat} {cc : ByteArray} {own : String} {nL : Nat} {ret : Option FieldType} {d : Nat} {P : Option Value → StI → StL → Prop} {I : StI} {L : StL} {pc : Nat} {lv : List (Nat × Value)} {st : List Value} {x y : Int64} (hx : Ok X ad cc own nL ret d P) (hd : decode cc pc = .ok (.lcmp, 1)) (k : J X ad nL I L (pc + 1) lv (.int (lg_cmp x y) :: st)) : J X ad nL I L pc lv (.long y :: .long x :: st) := by
  obtain ⟨p, l, e, R, s, m, args, below, meth, c, Q, D, cA, A⟩ := X
  obtain ⟨hexec, hb, hml, hown, hts, hlk, hr, hA, hZ, hK, hQ, hfr, hlo⟩ := hx
  intro H locs ls hW hl
  exact W.lcmp hexec hb hd (k H locs ls hW hl)

theorem J_i2l {X : k_C} {ad : Nat → Nat} {cc : ByteArray} {own : String} {nL : Nat} {ret : Option FieldType} {d : Nat} {P : Option Value → StI → StL → Prop} {I : StI} {L : StL} {pc : Nat} {lv : List (Nat × Value)} {st : List Value} {x : Int32} (hx : Ok X ad cc own nL ret d P) (hd : decode cc pc = .ok (.i2l, 1)) (k : J X ad nL I L (pc + 1) lv (.long x.toInt64 :: st)) : J X ad nL I L pc lv (.int x :: st) := by
  obtain ⟨p, l, e, R, s, m, args, below, meth, c, Q, D, cA, A⟩ := X
  obtain ⟨hexec, hb, hml, hown, hts, hlk, hr, hA, hZ, hK, hQ, hfr, hlo⟩ := hx
  intro H locs ls hW hl
  exact lv_i2l hexec hb hd rfl (k H locs ls hW hl)

theorem J_l2i {X : k_C} {ad : Nat → Nat} {cc : ByteArray} {own : String} {nL : Nat} {ret : Option FieldType} {d : Nat} {P : Option Value → StI → StL → Prop} {I : StI} {L : StL} {pc : Nat} {lv : List (Nat × Value)} {st : List Value} {x : Int64} (hx : Ok X ad cc own nL ret d P) (hd : decode cc pc = .ok (.l2i, 1)) (k : J X ad nL I L (pc + 1) lv (.int x.toInt32 :: st)) : J X ad nL I L pc lv (.long x :: st) := by
  obtain ⟨p, l, e, R, s, m, args, below, meth, c, Q, D, cA, A⟩ := X
  obtain ⟨hexec, hb, hml, hown, hts, hlk, hr, hA, hZ, hK, hQ, hfr, hlo⟩ := hx
  intro H locs ls hW hl
  exact lv_l2i hexec hb hd rfl (k H locs ls hW hl)

theorem J_i2b {X : k_C} {ad : Nat → Nat} {cc : ByteArray} {own : String} {nL : Nat} {ret : Option FieldType} {d : Nat} {P : Option Value → StI → StL → Prop} {I : StI} {L : StL} {pc : Nat} {lv : List (Nat × Value)} {st : List Value} {x : Int32} (hx : Ok X ad cc own nL ret d P) (hd : decode cc pc = .ok (.i2b, 1)) (k : J X ad nL I L (pc + 1) lv (.int x.toInt8.toInt32 :: st)) : J X ad nL I L pc lv (.int x :: st) := by
  obtain ⟨p, l, e, R, s, m, args, below, meth, c, Q, D, cA, A⟩ := X
  obtain ⟨hexec, hb, hml, hown, hts, hlk, hr, hA, hZ, hK, hQ, hfr, hlo⟩ := hx
  intro H locs ls hW hl
  exact lv_i2b hexec hb hd rfl (k H locs ls hW hl)

theorem J_dup {X : k_C} {ad : Nat → Nat} {cc : ByteArray} {own : String} {nL : Nat} {ret : Option FieldType} {d : Nat} {P : Option Value → StI → StL → Prop} {I : StI} {L : StL} {pc : Nat} {lv : List (Nat × Value)} {st : List Value} {v : Value} (hx : Ok X ad cc own nL ret d P) (hd : decode cc pc = .ok (.dup, 1)) (hc : v.category = 1) (k : J X ad nL I L (pc + 1) lv (v :: v :: st)) : J X ad nL I L pc lv (v :: st) := by
  obtain ⟨p, l, e, R, s, m, args, below, meth, c, Q, D, cA, A⟩ := X
  obtain ⟨hexec, hb, hml, hown, hts, hlk, hr, hA, hZ, hK, hQ, hfr, hlo⟩ := hx
  intro H locs ls hW hl
  exact lv_dup hexec hb hd hc (k H locs ls hW hl)

theorem J_pop {X : k_C} {ad : Nat → Nat} {cc : ByteArray} {own : String} {nL : Nat} {ret : Option FieldType} {d : Nat} {P : Option Value → StI → StL → Prop} {I : StI} {L : StL} {pc : Nat} {lv : List (Nat × Value)} {st : List Value} {v : Value} (hx : Ok X ad cc own nL ret d P) (hd : decode cc pc = .ok (.pop, 1)) (hc : v.category = 1) (k : J X ad nL I L (pc + 1) lv st) : J X ad nL I L pc lv (v :: st) := by
  obtain ⟨p, l, e, R, s, m, args, below, meth, c, Q, D, cA, A⟩ := X
  obtain ⟨hexec, hb, hml, hown, hts, hlk, hr, hA, hZ, hK, hQ, hfr, hlo⟩ := hx
  intro H locs ls hW hl
  exact lv_pop hexec hb hd hc (k H locs ls hW hl)

theorem J_dup2 {X : k_C} {ad : Nat → Nat} {cc : ByteArray} {own : String} {nL : Nat} {ret : Option FieldType} {d : Nat} {P : Option Value → StI → StL → Prop} {I : StI} {L : StL} {pc : Nat} {lv : List (Nat × Value)} {st : List Value} {v v2 : Value} (hx : Ok X ad cc own nL ret d P) (hd : decode cc pc = .ok (.dup2, 1)) (hc : v.category = 1) (hc2 : v2.category = 1) (k : J X ad nL I L (pc + 1) lv (v :: v2 :: v :: v2 :: st)) : J X ad nL I L pc lv (v :: v2 :: st) := by
  obtain ⟨p, l, e, R, s, m, args, below, meth, c, Q, D, cA, A⟩ := X
  obtain ⟨hexec, hb, hml, hown, hts, hlk, hr, hA, hZ, hK, hQ, hfr, hlo⟩ := hx
  intro H locs ls hW hl
  exact lv_dup2_11 hexec hb hd hc hc2 (k H locs ls hW hl)

theorem J_if_eq {X : k_C} {ad : Nat → Nat} {cc : ByteArray} {own : String} {nL : Nat} {ret : Option FieldType} {d : Nat} {P : Option Value → StI → StL → Prop} {I : StI} {L : StL} {pc : Nat} {lv : List (Nat × Value)} {st : List Value} {x : Int32} {off : Int} (hx : Ok X ad cc own nL ret d P) (hd : decode cc pc = .ok (.ifCond .eq off, 3)) (tgt : Nat) (ht : (pc : Int) + off = (tgt : Int)) (kt : x = 0 → J X ad nL I L tgt lv st) (kf : ¬ x = 0 → J X ad nL I L (pc + 3) lv st) : J X ad nL I L pc lv (.int x :: st) := by
  obtain ⟨p, l, e, R, s, m, args, below, meth, c, Q, D, cA, A⟩ := X
  obtain ⟨hexec, hb, hml, hown, hts, hlk, hr, hA, hZ, hK, hQ, hfr, hlo⟩ := hx
  intro H locs ls hW hl
  exact lv_if_eq hexec hb hd ht (fun z => kt z H locs ls hW hl) (fun z => kf z H locs ls hW hl)

theorem J_ic_eq {X : k_C} {ad : Nat → Nat} {cc : ByteArray} {own : String} {nL : Nat} {ret : Option FieldType} {d : Nat} {P : Option Value → StI → StL → Prop} {I : StI} {L : StL} {pc : Nat} {lv : List (Nat × Value)} {st : List Value} {x y : Int32} {off : Int} (hx : Ok X ad cc own nL ret d P) (hd : decode cc pc = .ok (.if_icmp .eq off, 3)) (tgt : Nat) (ht : (pc : Int) + off = (tgt : Int)) (kt : x = y → J X ad nL I L tgt lv st) (kf : ¬ x = y → J X ad nL I L (pc + 3) lv st) : J X ad nL I L pc lv (.int y :: .int x :: st) := by
  obtain ⟨p, l, e, R, s, m, args, below, meth, c, Q, D, cA, A⟩ := X
  obtain ⟨hexec, hb, hml, hown, hts, hlk, hr, hA, hZ, hK, hQ, hfr, hlo⟩ := hx
  intro H locs ls hW hl
  exact lv_icmp_eq hexec hb hd ht (fun z => kt z H locs ls hW hl) (fun z => kf z H locs ls hW hl)

theorem J_if_ne {X : k_C} {ad : Nat → Nat} {cc : ByteArray} {own : String} {nL : Nat} {ret : Option FieldType} {d : Nat} {P : Option Value → StI → StL → Prop} {I : StI} {L : StL} {pc : Nat} {lv : List (Nat × Value)} {st : List Value} {x : Int32} {off : Int} (hx : Ok X ad cc own nL ret d P) (hd : decode cc pc = .ok (.ifCond .ne off, 3)) (tgt : Nat) (ht : (pc : Int) + off = (tgt : Int)) (kt : ¬ x = 0 → J X ad nL I L tgt lv st) (kf : x = 0 → J X ad nL I L (pc + 3) lv st) : J X ad nL I L pc lv (.int x :: st) := by
  obtain ⟨p, l, e, R, s, m, args, below, meth, c, Q, D, cA, A⟩ := X
  obtain ⟨hexec, hb, hml, hown, hts, hlk, hr, hA, hZ, hK, hQ, hfr, hlo⟩ := hx
  intro H locs ls hW hl
  exact lv_if_ne hexec hb hd ht (fun z => kt z H locs ls hW hl) (fun z => kf z H locs ls hW hl)

theorem J_ic_ne {X : k_C} {ad : Nat → Nat} {cc : ByteArray} {own : String} {nL : Nat} {ret : Option FieldType} {d : Nat} {P : Option Value → StI → StL → Prop} {I : StI} {L : StL} {pc : Nat} {lv : List (Nat × Value)} {st : List Value} {x y : Int32} {off : Int} (hx : Ok X ad cc own nL ret d P) (hd : decode cc pc = .ok (.if_icmp .ne off, 3)) (tgt : Nat) (ht : (pc : Int) + off = (tgt : Int)) (kt : ¬ x = y → J X ad nL I L tgt lv st) (kf : x = y → J X ad nL I L (pc + 3) lv st) : J X ad nL I L pc lv (.int y :: .int x :: st) := by
  obtain ⟨p, l, e, R, s, m, args, below, meth, c, Q, D, cA, A⟩ := X
  obtain ⟨hexec, hb, hml, hown, hts, hlk, hr, hA, hZ, hK, hQ, hfr, hlo⟩ := hx
  intro H locs ls hW hl
  exact lv_icmp_ne hexec hb hd ht (fun z => kt z H locs ls hW hl) (fun z => kf z H locs ls hW hl)

theorem J_if_lt {X : k_C} {ad : Nat → Nat} {cc : ByteArray} {own : String} {nL : Nat} {ret : Option FieldType} {d : Nat} {P : Option Value → StI → StL → Prop} {I : StI} {L : StL} {pc : Nat} {lv : List (Nat × Value)} {st : List Value} {x : Int32} {off : Int} (hx : Ok X ad cc own nL ret d P) (hd : decode cc pc = .ok (.ifCond .lt off, 3)) (tgt : Nat) (ht : (pc : Int) + off = (tgt : Int)) (kt : x < 0 → J X ad nL I L tgt lv st) (kf : ¬ x < 0 → J X ad nL I L (pc + 3) lv st) : J X ad nL I L pc lv (.int x :: st) := by
  obtain ⟨p, l, e, R, s, m, args, below, meth, c, Q, D, cA, A⟩ := X
  obtain ⟨hexec, hb, hml, hown, hts, hlk, hr, hA, hZ, hK, hQ, hfr, hlo⟩ := hx
  intro H locs ls hW hl
  exact lv_if_lt hexec hb hd ht (fun z => kt z H locs ls hW hl) (fun z => kf z H locs ls hW hl)

theorem J_ic_lt {X : k_C} {ad : Nat → Nat} {cc : ByteArray} {own : String} {nL : Nat} {ret : Option FieldType} {d : Nat} {P : Option Value → StI → StL → Prop} {I : StI} {L : StL} {pc : Nat} {lv : List (Nat × Value)} {st : List Value} {x y : Int32} {off : Int} (hx : Ok X ad cc own nL ret d P) (hd : decode cc pc = .ok (.if_icmp .lt off, 3)) (tgt : Nat) (ht : (pc : Int) + off = (tgt : Int)) (kt : x < y → J X ad nL I L tgt lv st) (kf : ¬ x < y → J X ad nL I L (pc + 3) lv st) : J X ad nL I L pc lv (.int y :: .int x :: st) := by
  obtain ⟨p, l, e, R, s, m, args, below, meth, c, Q, D, cA, A⟩ := X
  obtain ⟨hexec, hb, hml, hown, hts, hlk, hr, hA, hZ, hK, hQ, hfr, hlo⟩ := hx
  intro H locs ls hW hl
  exact lv_icmp_lt hexec hb hd ht (fun z => kt z H locs ls hW hl) (fun z => kf z H locs ls hW hl)

theorem J_if_ge {X : k_C} {ad : Nat → Nat} {cc : ByteArray} {own : String} {nL : Nat} {ret : Option FieldType} {d : Nat} {P : Option Value → StI → StL → Prop} {I : StI} {L : StL} {pc : Nat} {lv : List (Nat × Value)} {st : List Value} {x : Int32} {off : Int} (hx : Ok X ad cc own nL ret d P) (hd : decode cc pc = .ok (.ifCond .ge off, 3)) (tgt : Nat) (ht : (pc : Int) + off = (tgt : Int)) (kt : 0 ≤ x → J X ad nL I L tgt lv st) (kf : ¬ 0 ≤ x → J X ad nL I L (pc + 3) lv st) : J X ad nL I L pc lv (.int x :: st) := by
  obtain ⟨p, l, e, R, s, m, args, below, meth, c, Q, D, cA, A⟩ := X
  obtain ⟨hexec, hb, hml, hown, hts, hlk, hr, hA, hZ, hK, hQ, hfr, hlo⟩ := hx
  intro H locs ls hW hl
  exact lv_if_ge hexec hb hd ht (fun z => kt z H locs ls hW hl) (fun z => kf z H locs ls hW hl)

theorem J_ic_ge {X : k_C} {ad : Nat → Nat} {cc : ByteArray} {own : String} {nL : Nat} {ret : Option FieldType} {d : Nat} {P : Option Value → StI → StL → Prop} {I : StI} {L : StL} {pc : Nat} {lv : List (Nat × Value)} {st : List Value} {x y : Int32} {off : Int} (hx : Ok X ad cc own nL ret d P) (hd : decode cc pc = .ok (.if_icmp .ge off, 3)) (tgt : Nat) (ht : (pc : Int) + off = (tgt : Int)) (kt : y ≤ x → J X ad nL I L tgt lv st) (kf : ¬ y ≤ x → J X ad nL I L (pc + 3) lv st) : J X ad nL I L pc lv (.int y :: .int x :: st) := by
  obtain ⟨p, l, e, R, s, m, args, below, meth, c, Q, D, cA, A⟩ := X
  obtain ⟨hexec, hb, hml, hown, hts, hlk, hr, hA, hZ, hK, hQ, hfr, hlo⟩ := hx
  intro H locs ls hW hl
  exact lv_icmp_ge hexec hb hd ht (fun z => kt z H locs ls hW hl) (fun z => kf z H locs ls hW hl)

theorem J_if_gt {X : k_C} {ad : Nat → Nat} {cc : ByteArray} {own : String} {nL : Nat} {ret : Option FieldType} {d : Nat} {P : Option Value → StI → StL → Prop} {I : StI} {L : StL} {pc : Nat} {lv : List (Nat × Value)} {st : List Value} {x : Int32} {off : Int} (hx : Ok X ad cc own nL ret d P) (hd : decode cc pc = .ok (.ifCond .gt off, 3)) (tgt : Nat) (ht : (pc : Int) + off = (tgt : Int)) (kt : 0 < x → J X ad nL I L tgt lv st) (kf : ¬ 0 < x → J X ad nL I L (pc + 3) lv st) : J X ad nL I L pc lv (.int x :: st) := by
  obtain ⟨p, l, e, R, s, m, args, below, meth, c, Q, D, cA, A⟩ := X
  obtain ⟨hexec, hb, hml, hown, hts, hlk, hr, hA, hZ, hK, hQ, hfr, hlo⟩ := hx
  intro H locs ls hW hl
  exact lv_if_gt hexec hb hd ht (fun z => kt z H locs ls hW hl) (fun z => kf z H locs ls hW hl)

theorem J_ic_gt {X : k_C} {ad : Nat → Nat} {cc : ByteArray} {own : String} {nL : Nat} {ret : Option FieldType} {d : Nat} {P : Option Value → StI → StL → Prop} {I : StI} {L : StL} {pc : Nat} {lv : List (Nat × Value)} {st : List Value} {x y : Int32} {off : Int} (hx : Ok X ad cc own nL ret d P) (hd : decode cc pc = .ok (.if_icmp .gt off, 3)) (tgt : Nat) (ht : (pc : Int) + off = (tgt : Int)) (kt : y < x → J X ad nL I L tgt lv st) (kf : ¬ y < x → J X ad nL I L (pc + 3) lv st) : J X ad nL I L pc lv (.int y :: .int x :: st) := by
  obtain ⟨p, l, e, R, s, m, args, below, meth, c, Q, D, cA, A⟩ := X
  obtain ⟨hexec, hb, hml, hown, hts, hlk, hr, hA, hZ, hK, hQ, hfr, hlo⟩ := hx
  intro H locs ls hW hl
  exact lv_icmp_gt hexec hb hd ht (fun z => kt z H locs ls hW hl) (fun z => kf z H locs ls hW hl)

theorem J_if_le {X : k_C} {ad : Nat → Nat} {cc : ByteArray} {own : String} {nL : Nat} {ret : Option FieldType} {d : Nat} {P : Option Value → StI → StL → Prop} {I : StI} {L : StL} {pc : Nat} {lv : List (Nat × Value)} {st : List Value} {x : Int32} {off : Int} (hx : Ok X ad cc own nL ret d P) (hd : decode cc pc = .ok (.ifCond .le off, 3)) (tgt : Nat) (ht : (pc : Int) + off = (tgt : Int)) (kt : x ≤ 0 → J X ad nL I L tgt lv st) (kf : ¬ x ≤ 0 → J X ad nL I L (pc + 3) lv st) : J X ad nL I L pc lv (.int x :: st) := by
  obtain ⟨p, l, e, R, s, m, args, below, meth, c, Q, D, cA, A⟩ := X
  obtain ⟨hexec, hb, hml, hown, hts, hlk, hr, hA, hZ, hK, hQ, hfr, hlo⟩ := hx
  intro H locs ls hW hl
  exact lv_if_le hexec hb hd ht (fun z => kt z H locs ls hW hl) (fun z => kf z H locs ls hW hl)

theorem J_ic_le {X : k_C} {ad : Nat → Nat} {cc : ByteArray} {own : String} {nL : Nat} {ret : Option FieldType} {d : Nat} {P : Option Value → StI → StL → Prop} {I : StI} {L : StL} {pc : Nat} {lv : List (Nat × Value)} {st : List Value} {x y : Int32} {off : Int} (hx : Ok X ad cc own nL ret d P) (hd : decode cc pc = .ok (.if_icmp .le off, 3)) (tgt : Nat) (ht : (pc : Int) + off = (tgt : Int)) (kt : x ≤ y → J X ad nL I L tgt lv st) (kf : ¬ x ≤ y → J X ad nL I L (pc + 3) lv st) : J X ad nL I L pc lv (.int y :: .int x :: st) := by
  obtain ⟨p, l, e, R, s, m, args, below, meth, c, Q, D, cA, A⟩ := X
  obtain ⟨hexec, hb, hml, hown, hts, hlk, hr, hA, hZ, hK, hQ, hfr, hlo⟩ := hx
  intro H locs ls hW hl
  exact lv_icmp_le hexec hb hd ht (fun z => kt z H locs ls hW hl) (fun z => kf z H locs ls hW hl)

theorem J_goto {X : k_C} {ad : Nat → Nat} {cc : ByteArray} {own : String} {nL : Nat} {ret : Option FieldType} {d : Nat} {P : Option Value → StI → StL → Prop} {I : StI} {L : StL} {pc : Nat} {lv : List (Nat × Value)} {st : List Value} {off : Int} (hx : Ok X ad cc own nL ret d P) (hd : decode cc pc = .ok (.goto off, 3)) (tgt : Nat) (ht : (pc : Int) + off = (tgt : Int)) (k : J X ad nL I L tgt lv st) : J X ad nL I L pc lv st := by
  obtain ⟨p, l, e, R, s, m, args, below, meth, c, Q, D, cA, A⟩ := X
  obtain ⟨hexec, hb, hml, hown, hts, hlk, hr, hA, hZ, hK, hQ, hfr, hlo⟩ := hx
  intro H locs ls hW hl
  exact lv_goto hexec hb hd ht (k H locs ls hW hl)

theorem J_tIn {X : k_C} {ad : Nat → Nat} {cc : ByteArray} {own : String} {nL : Nat} {ret : Option FieldType} {d : Nat} {P : Option Value → StI → StL → Prop} {I : StI} {L : StL} {pc : Nat} {lv : List (Nat × Value)} {st : List Value} {dflt lo hi : Int} {offs : Array Int} {len : Nat} {x x' : Int32} {off : Int} (hx : Ok X ad cc own nL ret d P) (hd : decode cc pc = .ok (.tableswitch dflt lo hi offs, len)) (hxe : x = x') (h1 : ¬ x'.toInt < lo) (h2 : ¬ hi < x'.toInt) (ho : offs[(x'.toInt - lo).toNat]? = some off) (tgt : Nat) (ht : (pc : Int) + off = (tgt : Int)) (k : J X ad nL I L tgt lv st) : J X ad nL I L pc lv (.int x :: st) := by
  obtain ⟨p, l, e, R, s, m, args, below, meth, c, Q, D, cA, A⟩ := X
  obtain ⟨hexec, hb, hml, hown, hts, hlk, hr, hA, hZ, hK, hQ, hfr, hlo⟩ := hx
  intro H locs ls hW hl
  subst hxe
  exact lv_tableIn hexec hb hd h1 h2 ho ht (k H locs ls hW hl)

theorem J_tOut {X : k_C} {ad : Nat → Nat} {cc : ByteArray} {own : String} {nL : Nat} {ret : Option FieldType} {d : Nat} {P : Option Value → StI → StL → Prop} {I : StI} {L : StL} {pc : Nat} {lv : List (Nat × Value)} {st : List Value} {dflt lo hi : Int} {offs : Array Int} {len : Nat} {x : Int32} (hx : Ok X ad cc own nL ret d P) (hd : decode cc pc = .ok (.tableswitch dflt lo hi offs, len)) (h1 : x.toInt < lo ∨ hi < x.toInt) (tgt : Nat) (ht : (pc : Int) + dflt = (tgt : Int)) (k : J X ad nL I L tgt lv st) : J X ad nL I L pc lv (.int x :: st) := by
  obtain ⟨p, l, e, R, s, m, args, below, meth, c, Q, D, cA, A⟩ := X
  obtain ⟨hexec, hb, hml, hown, hts, hlk, hr, hA, hZ, hK, hQ, hfr, hlo⟩ := hx
  intro H locs ls hW hl
  exact lv_tableOut hexec hb hd h1 ht (k H locs ls hW hl)

theorem J_sub {X : k_C} {ad : Nat → Nat} {cc : ByteArray} {own : String} {nL : Nat} {ret : Option FieldType} {d : Nat} {P : Option Value → StI → StL → Prop} {I : StI} {L : StL} {pc : Nat} {lv : List (Nat × Value)} {st : List Value} {lv' : List (Nat × Value)} (hx : Ok X ad cc own nL ret d P) (is : List Nat) (hs : lv_pick lv is = lv') (k : J X ad nL I L pc lv' st) : J X ad nL I L pc lv st := by
  obtain ⟨p, l, e, R, s, m, args, below, meth, c, Q, D, cA, A⟩ := X
  obtain ⟨hexec, hb, hml, hown, hts, hlk, hr, hA, hZ, hK, hQ, hfr, hlo⟩ := hx
  intro H locs ls hW hl
  exact k H locs ls hW (lv_sub hl is hs)

/-- a field's link: own's pool has at index the field k of class ci -/
def k_fl (own : String) (index ci k : Nat) : Prop := ∃ (C : String) (T : u_T) (N : Nat), vwCl[ci]? = some (C, T, N) ∧ (∀ w ∈ u_ws C T N, w ∈ k_tbl) ∧ k < N ∧ Cond.fieldLink own index (T k).1 (T k).2.1 (T k).2.2.1 ∈ k_tbl
/-- and it may be written: its type -/
def k_flW (own : String) (index ci k : Nat) (ty : FieldType) : Prop := ∃ (C : String) (T : u_T) (N : Nat) (t0 : Nat → FieldType), vwCl[ci]? = some (C, T, N) ∧ (∀ w ∈ u_ws C T N, w ∈ k_tbl) ∧ (∀ k, k < N → parseFieldDescriptor (T k).2.2.1 = some (t0 k)) ∧ (∀ a, a < N → ∀ b, b < N → a ≠ b → (T a).2.1 ≠ (T b).2.1) ∧ k < N ∧ Cond.fieldLink own index (T k).1 (T k).2.1 (T k).2.2.1 ∈ k_tbl ∧ (T k).2.2.2 = false ∧ parseFieldDescriptor (T k).2.2.1 = some ty
def k_N (ci : Nat) : Nat := match ci with | 0 => 7 | 1 => 2 | 2 => 4 | 3 => 8 | 4 => 17 | _ => 27
theorem k_N_ok {ci N : Nat} {C : String} {T : u_T} (h : vwCl[ci]? = some (C, T, N)) : N = k_N ci ∧ ci < 6 := by
  match ci, h with
  | 0, h => cases h; exact ⟨rfl, by decide⟩
  | 1, h => cases h; exact ⟨rfl, by decide⟩
  | 2, h => cases h; exact ⟨rfl, by decide⟩
  | 3, h => cases h; exact ⟨rfl, by decide⟩
  | 4, h => cases h; exact ⟨rfl, by decide⟩
  | 5, h => cases h; exact ⟨rfl, by decide⟩
  | n + 6, h => simp [vwCl] at h
theorem k_sh_n {b ci : Nat} (h : k_sh b = (ci, k_N ci)) (hc : ci < 6) : b < 81 := k_sh_lt (by rw [h]; show ci < 90; omega)

theorem J_getI {X : k_C} {ad : Nat → Nat} {cc : ByteArray} {own : String} {nL : Nat} {ret : Option FieldType} {d : Nat} {P : Option Value → StI → StL → Prop} {I : StI} {L : StL} {pc : Nat} {lv : List (Nat × Value)} {st : List Value} {index ci k b : Nat} (hx : Ok X ad cc own nL ret d P) (hf : k_fl own index ci k) (hs : k_sh b = (ci, k_N ci)) (hk : k_fk ci k = 0) (hd : decode cc pc = .ok (.getfield index, 3)) (kk : J X ad nL I L (pc + 3) lv (.int (I b k) :: st)) : J X ad nL I L pc lv (.ref (ad b) :: st) := by
  obtain ⟨p, l, e, R, s, m, args, below, meth, c, Q, D, cA, A⟩ := X
  obtain ⟨hexec, hb, hml, hown, hts, hlk, hr, hA, hZ, hK, hQ, hfr, hlo⟩ := hx
  intro H locs ls hW hl
  obtain ⟨C, T, N, h1, h2, h3, h4⟩ := hf
  obtain ⟨rfl, hc⟩ := k_N_ok h1
  obtain ⟨hP, hD, hS⟩ := hW
  refine va_get hexec hb hts h2 hown hK.1 hP b (fs := (List.range (k_N ci)).map (fun k => k_val ad I L b k)) ((k_wl_at (k_sh_n hs hc)).trans (by rw [k_cell_o hs hc])) h1 k h3 (hts _ h4) (fun _ h9 => h9) (v := .int (I b k)) ?_ hd (kk H locs ls ⟨hP, hD, hS⟩ hl)
  simp [h3, k_val, hs, hk]

theorem J_getL {X : k_C} {ad : Nat → Nat} {cc : ByteArray} {own : String} {nL : Nat} {ret : Option FieldType} {d : Nat} {P : Option Value → StI → StL → Prop} {I : StI} {L : StL} {pc : Nat} {lv : List (Nat × Value)} {st : List Value} {index ci k b : Nat} (hx : Ok X ad cc own nL ret d P) (hf : k_fl own index ci k) (hs : k_sh b = (ci, k_N ci)) (hk : k_fk ci k = 1) (hd : decode cc pc = .ok (.getfield index, 3)) (kk : J X ad nL I L (pc + 3) lv (.long (L b k) :: st)) : J X ad nL I L pc lv (.ref (ad b) :: st) := by
  obtain ⟨p, l, e, R, s, m, args, below, meth, c, Q, D, cA, A⟩ := X
  obtain ⟨hexec, hb, hml, hown, hts, hlk, hr, hA, hZ, hK, hQ, hfr, hlo⟩ := hx
  intro H locs ls hW hl
  obtain ⟨C, T, N, h1, h2, h3, h4⟩ := hf
  obtain ⟨rfl, hc⟩ := k_N_ok h1
  obtain ⟨hP, hD, hS⟩ := hW
  refine va_get hexec hb hts h2 hown hK.1 hP b (fs := (List.range (k_N ci)).map (fun k => k_val ad I L b k)) ((k_wl_at (k_sh_n hs hc)).trans (by rw [k_cell_o hs hc])) h1 k h3 (hts _ h4) (fun _ h9 => h9) (v := .long (L b k)) ?_ hd (kk H locs ls ⟨hP, hD, hS⟩ hl)
  simp [h3, k_val, hs, hk]

theorem J_getR {X : k_C} {ad : Nat → Nat} {cc : ByteArray} {own : String} {nL : Nat} {ret : Option FieldType} {d : Nat} {P : Option Value → StI → StL → Prop} {I : StI} {L : StL} {pc : Nat} {lv : List (Nat × Value)} {st : List Value} {index ci k b q : Nat} (hx : Ok X ad cc own nL ret d P) (hf : k_fl own index ci k) (hs : k_sh b = (ci, k_N ci)) (hk : k_fk ci k = 2) (hq : k_rf b k = q) (hd : decode cc pc = .ok (.getfield index, 3)) (kk : J X ad nL I L (pc + 3) lv (.ref (ad q) :: st)) : J X ad nL I L pc lv (.ref (ad b) :: st) := by
  obtain ⟨p, l, e, R, s, m, args, below, meth, c, Q, D, cA, A⟩ := X
  obtain ⟨hexec, hb, hml, hown, hts, hlk, hr, hA, hZ, hK, hQ, hfr, hlo⟩ := hx
  intro H locs ls hW hl
  obtain ⟨C, T, N, h1, h2, h3, h4⟩ := hf
  obtain ⟨rfl, hc⟩ := k_N_ok h1
  obtain ⟨hP, hD, hS⟩ := hW
  refine va_get hexec hb hts h2 hown hK.1 hP b (fs := (List.range (k_N ci)).map (fun k => k_val ad I L b k)) ((k_wl_at (k_sh_n hs hc)).trans (by rw [k_cell_o hs hc])) h1 k h3 (hts _ h4) (fun _ h9 => h9) (v := .ref (ad q)) ?_ hd (kk H locs ls ⟨hP, hD, hS⟩ hl)
  simp [h3, k_val, hs, hk, hq]

theorem J_putI {X : k_C} {ad : Nat → Nat} {cc : ByteArray} {own : String} {nL : Nat} {ret : Option FieldType} {d : Nat} {P : Option Value → StI → StL → Prop} {I : StI} {L : StL} {pc : Nat} {lv : List (Nat × Value)} {st : List Value} {index ci k b : Nat} {v : Int32} {I1 : StI} (hx : Ok X ad cc own nL ret d P) (hf : k_flW own index ci k .int) (hs : k_sh b = (ci, k_N ci)) (hk : k_fk ci k = 0) (hd : decode cc pc = .ok (.putfield index, 3)) (hI : I1 = k_up I b k v) (kk : J X ad nL I1 L (pc + 3) lv st) : J X ad nL I L pc lv (.int v :: .ref (ad b) :: st) := by
  obtain ⟨p, l, e, R, s, m, args, below, meth, c, Q, D, cA, A⟩ := X
  obtain ⟨hexec, hb, hml, hown, hts, hlk, hr, hA, hZ, hK, hQ, hfr, hlo⟩ := hx
  intro H locs ls hW hl
  obtain ⟨C, T, N, t0, h1, h2, h5, h6, h3, h4, h7, h8⟩ := hf
  obtain ⟨rfl, hc⟩ := k_N_ok h1
  obtain ⟨hP, hD, hS⟩ := hW
  subst hI
  refine va_put hexec hb hts h2 t0 h5 h6 hown hK.1 hP hD hS b (fs := (List.range (k_N ci)).map (fun k => k_val ad I L b k)) ((k_wl_at (k_sh_n hs hc)).trans (by rw [k_cell_o hs hc])) h1 k h3 (hts _ h4) (fun _ h9 => h9) h7 (ty := .int) (v := .int v) h8 rfl rfl (by simpa using h3) hd (fun H1 locs1 hP hD hS => ?_)
  rw [k_set_f hs hc hk] at hP hD
  exact kk H1 locs1 ls ⟨hP, hD, hS⟩ hl

theorem J_putL {X : k_C} {ad : Nat → Nat} {cc : ByteArray} {own : String} {nL : Nat} {ret : Option FieldType} {d : Nat} {P : Option Value → StI → StL → Prop} {I : StI} {L : StL} {pc : Nat} {lv : List (Nat × Value)} {st : List Value} {index ci k b : Nat} {v : Int64} {L1 : StL} (hx : Ok X ad cc own nL ret d P) (hf : k_flW own index ci k .long) (hs : k_sh b = (ci, k_N ci)) (hk : k_fk ci k = 1) (hd : decode cc pc = .ok (.putfield index, 3)) (hI : L1 = k_upL L b k v) (kk : J X ad nL I L1 (pc + 3) lv st) : J X ad nL I L pc lv (.long v :: .ref (ad b) :: st) := by
  obtain ⟨p, l, e, R, s, m, args, below, meth, c, Q, D, cA, A⟩ := X
  obtain ⟨hexec, hb, hml, hown, hts, hlk, hr, hA, hZ, hK, hQ, hfr, hlo⟩ := hx
  intro H locs ls hW hl
  obtain ⟨C, T, N, t0, h1, h2, h5, h6, h3, h4, h7, h8⟩ := hf
  obtain ⟨rfl, hc⟩ := k_N_ok h1
  obtain ⟨hP, hD, hS⟩ := hW
  subst hI
  refine va_put hexec hb hts h2 t0 h5 h6 hown hK.1 hP hD hS b (fs := (List.range (k_N ci)).map (fun k => k_val ad I L b k)) ((k_wl_at (k_sh_n hs hc)).trans (by rw [k_cell_o hs hc])) h1 k h3 (hts _ h4) (fun _ h9 => h9) h7 (ty := .long) (v := .long v) h8 rfl rfl (by simpa using h3) hd (fun H1 locs1 hP hD hS => ?_)
  rw [k_set_L hs hc hk] at hP hD
  exact kk H1 locs1 ls ⟨hP, hD, hS⟩ hl

theorem J_iald {X : k_C} {ad : Nat → Nat} {cc : ByteArray} {own : String} {nL : Nat} {ret : Option FieldType} {d : Nat} {P : Option Value → StI → StL → Prop} {I : StI} {L : StL} {pc : Nat} {lv : List (Nat × Value)} {st : List Value} {b N : Nat} {i : Int32} (hx : Ok X ad cc own nL ret d P) (hs : k_sh b = (10, N)) (hin : vp_in i N) (hd : decode cc pc = .ok (.iaload, 1)) (kk : J X ad nL I L (pc + 1) lv (.int (I b i.toNatClampNeg) :: st)) : J X ad nL I L pc lv (.int i :: .ref (ad b) :: st) := by
  obtain ⟨p, l, e, R, s, m, args, below, meth, c, Q, D, cA, A⟩ := X
  obtain ⟨hexec, hb, hml, hown, hts, hlk, hr, hA, hZ, hK, hQ, hfr, hlo⟩ := hx
  intro H locs ls hW hl
  obtain ⟨hP, hD, hS⟩ := hW
  exact va_iald hexec hb (hK.one hs (by decide) (by decide)) hP b 0 ((k_wl_at (k_sh_lt (by rw [hs]; show 10 < 90; decide))).trans (by rw [k_cell_a hs (by decide) (by decide)])) rfl hin hd (kk H locs ls ⟨hP, hD, hS⟩ hl)

theorem J_bald {X : k_C} {ad : Nat → Nat} {cc : ByteArray} {own : String} {nL : Nat} {ret : Option FieldType} {d : Nat} {P : Option Value → StI → StL → Prop} {I : StI} {L : StL} {pc : Nat} {lv : List (Nat × Value)} {st : List Value} {b N : Nat} {i : Int32} (hx : Ok X ad cc own nL ret d P) (hs : k_sh b = (11, N)) (hin : vp_in i N) (hd : decode cc pc = .ok (.baload, 1)) (kk : J X ad nL I L (pc + 1) lv (.int (I b i.toNatClampNeg) :: st)) : J X ad nL I L pc lv (.int i :: .ref (ad b) :: st) := by
  obtain ⟨p, l, e, R, s, m, args, below, meth, c, Q, D, cA, A⟩ := X
  obtain ⟨hexec, hb, hml, hown, hts, hlk, hr, hA, hZ, hK, hQ, hfr, hlo⟩ := hx
  intro H locs ls hW hl
  obtain ⟨hP, hD, hS⟩ := hW
  exact va_bald hexec hb (hK.one hs (by decide) (by decide)) hP b 0 ((k_wl_at (k_sh_lt (by rw [hs]; show 11 < 90; decide))).trans (by rw [k_cell_a hs (by decide) (by decide)])) rfl hin hd (kk H locs ls ⟨hP, hD, hS⟩ hl)

theorem J_zald {X : k_C} {ad : Nat → Nat} {cc : ByteArray} {own : String} {nL : Nat} {ret : Option FieldType} {d : Nat} {P : Option Value → StI → StL → Prop} {I : StI} {L : StL} {pc : Nat} {lv : List (Nat × Value)} {st : List Value} {b N : Nat} {i : Int32} (hx : Ok X ad cc own nL ret d P) (hs : k_sh b = (12, N)) (hin : vp_in i N) (hd : decode cc pc = .ok (.baload, 1)) (kk : J X ad nL I L (pc + 1) lv (.int (I b i.toNatClampNeg) :: st)) : J X ad nL I L pc lv (.int i :: .ref (ad b) :: st) := by
  obtain ⟨p, l, e, R, s, m, args, below, meth, c, Q, D, cA, A⟩ := X
  obtain ⟨hexec, hb, hml, hown, hts, hlk, hr, hA, hZ, hK, hQ, hfr, hlo⟩ := hx
  intro H locs ls hW hl
  obtain ⟨hP, hD, hS⟩ := hW
  exact va_zald hexec hb (hK.one hs (by decide) (by decide)) hP b 0 ((k_wl_at (k_sh_lt (by rw [hs]; show 12 < 90; decide))).trans (by rw [k_cell_a hs (by decide) (by decide)])) rfl hin hd (kk H locs ls ⟨hP, hD, hS⟩ hl)

theorem J_iast {X : k_C} {ad : Nat → Nat} {cc : ByteArray} {own : String} {nL : Nat} {ret : Option FieldType} {d : Nat} {P : Option Value → StI → StL → Prop} {I : StI} {L : StL} {pc : Nat} {lv : List (Nat × Value)} {st : List Value} {b N : Nat} {i x : Int32} {I1 : StI} (hx : Ok X ad cc own nL ret d P) (hs : k_sh b = (10, N)) (hin : vp_in i N) (hd : decode cc pc = .ok (.iastore, 1)) (hI : I1 = k_up I b i.toNatClampNeg x) (kk : J X ad nL I1 L (pc + 1) lv st) : J X ad nL I L pc lv (.int x :: .int i :: .ref (ad b) :: st) := by
  obtain ⟨p, l, e, R, s, m, args, below, meth, c, Q, D, cA, A⟩ := X
  obtain ⟨hexec, hb, hml, hown, hts, hlk, hr, hA, hZ, hK, hQ, hfr, hlo⟩ := hx
  intro H locs ls hW hl
  obtain ⟨hP, hD, hS⟩ := hW
  subst hI
  refine va_iast hexec hb (hK.one hs (by decide) (by decide)) hP hD hS b 0 ((k_wl_at (k_sh_lt (by rw [hs]; show 10 < 90; decide))).trans (by rw [k_cell_a hs (by decide) (by decide)])) rfl hin hd (fun H1 locs1 hP hD hS => ?_)
  rw [k_set_a hs (by decide) (by decide)] at hP hD
  exact kk H1 locs1 ls ⟨hP, hD, hS⟩ hl

theorem J_bast {X : k_C} {ad : Nat → Nat} {cc : ByteArray} {own : String} {nL : Nat} {ret : Option FieldType} {d : Nat} {P : Option Value → StI → StL → Prop} {I : StI} {L : StL} {pc : Nat} {lv : List (Nat × Value)} {st : List Value} {b N : Nat} {i x : Int32} {I1 : StI} (hx : Ok X ad cc own nL ret d P) (hs : k_sh b = (11, N)) (hin : vp_in i N) (hd : decode cc pc = .ok (.bastore, 1)) (hI : I1 = k_up I b i.toNatClampNeg (vp_nar .byte x)) (kk : J X ad nL I1 L (pc + 1) lv st) : J X ad nL I L pc lv (.int x :: .int i :: .ref (ad b) :: st) := by
  obtain ⟨p, l, e, R, s, m, args, below, meth, c, Q, D, cA, A⟩ := X
  obtain ⟨hexec, hb, hml, hown, hts, hlk, hr, hA, hZ, hK, hQ, hfr, hlo⟩ := hx
  intro H locs ls hW hl
  obtain ⟨hP, hD, hS⟩ := hW
  subst hI
  refine va_bast hexec hb (hK.one hs (by decide) (by decide)) hP hD hS b 0 ((k_wl_at (k_sh_lt (by rw [hs]; show 11 < 90; decide))).trans (by rw [k_cell_a hs (by decide) (by decide)])) rfl hin hd (fun H1 locs1 hP hD hS => ?_)
  rw [k_set_a hs (by decide) (by decide)] at hP hD
  exact kk H1 locs1 ls ⟨hP, hD, hS⟩ hl

theorem J_zast {X : k_C} {ad : Nat → Nat} {cc : ByteArray} {own : String} {nL : Nat} {ret : Option FieldType} {d : Nat} {P : Option Value → StI → StL → Prop} {I : StI} {L : StL} {pc : Nat} {lv : List (Nat × Value)} {st : List Value} {b N : Nat} {i x : Int32} {I1 : StI} (hx : Ok X ad cc own nL ret d P) (hs : k_sh b = (12, N)) (hin : vp_in i N) (hd : decode cc pc = .ok (.bastore, 1)) (hI : I1 = k_up I b i.toNatClampNeg (vp_nar .boolean x)) (kk : J X ad nL I1 L (pc + 1) lv st) : J X ad nL I L pc lv (.int x :: .int i :: .ref (ad b) :: st) := by
  obtain ⟨p, l, e, R, s, m, args, below, meth, c, Q, D, cA, A⟩ := X
  obtain ⟨hexec, hb, hml, hown, hts, hlk, hr, hA, hZ, hK, hQ, hfr, hlo⟩ := hx
  intro H locs ls hW hl
  obtain ⟨hP, hD, hS⟩ := hW
  subst hI
  refine va_zast hexec hb (hK.one hs (by decide) (by decide)) hP hD hS b 0 ((k_wl_at (k_sh_lt (by rw [hs]; show 12 < 90; decide))).trans (by rw [k_cell_a hs (by decide) (by decide)])) rfl hin hd (fun H1 locs1 hP hD hS => ?_)
  rw [k_set_a hs (by decide) (by decide)] at hP hD
  exact kk H1 locs1 ls ⟨hP, hD, hS⟩ hl

theorem J_aald {X : k_C} {ad : Nat → Nat} {cc : ByteArray} {own : String} {nL : Nat} {ret : Option FieldType} {d : Nat} {P : Option Value → StI → StL → Prop} {I : StI} {L : StL} {pc : Nat} {lv : List (Nat × Value)} {st : List Value} {b N t q : Nat} {i : Int32} (hx : Ok X ad cc own nL ret d P) (hs : k_sh b = (t, N)) (ht : 13 ≤ t) (ht2 : t < 20) (hin : vp_in i N) (hq : k_rf b i.toNatClampNeg = q) (hd : decode cc pc = .ok (.aaload, 1)) (kk : J X ad nL I L (pc + 1) lv (.ref (ad q) :: st)) : J X ad nL I L pc lv (.int i :: .ref (ad b) :: st) := by
  obtain ⟨p, l, e, R, s, m, args, below, meth, c, Q, D, cA, A⟩ := X
  obtain ⟨hexec, hb, hml, hown, hts, hlk, hr, hA, hZ, hK, hQ, hfr, hlo⟩ := hx
  intro H locs ls hW hl
  obtain ⟨hP, hD, hS⟩ := hW
  have hlt : i.toNatClampNeg < N := Nat.not_le.mp fun q => hin (Or.inr q)
  have hbl : b < 81 := k_sh_lt (by rw [hs]; show t < 90; omega)
  have ha := hP b _ ((k_wl_at hbl).trans (by rw [k_cell_r hs ht]))
  have hk := (hK.2 b (by rw [hs]; show 6 ≤ t; omega) hbl).1
  rw [hs] at hk
  refine W.aald (v := .ref (ad q)) (ty := k_ty t) hexec hb ha (hk N (fun j => va_rf (some (ad (k_rf b j))))) ?_ (fun q => by cases q) (by show ¬ (i < 0 ∨ (arrV _ _ _).slots.size ≤ _); rw [arrV_size]; exact hin) (by show (arrV _ _ _).slots[_]? = _; rw [arrV_read _ _ hlt]; exact congrArg (fun z => some (Value.ref (ad z))) hq) rfl rfl hd (kk H locs ls ⟨hP, hD, hS⟩ hl)
  rcases (show t = 13 ∨ t = 14 ∨ t = 15 ∨ 16 ≤ t by omega) with rfl | rfl | rfl | h
  · rfl
  · rfl
  · rfl
  · match t, h with
    | n + 16, _ => rfl

theorem J_alen {X : k_C} {ad : Nat → Nat} {cc : ByteArray} {own : String} {nL : Nat} {ret : Option FieldType} {d : Nat} {P : Option Value → StI → StL → Prop} {I : StI} {L : StL} {pc : Nat} {lv : List (Nat × Value)} {st : List Value} {b N : Nat} {v : Int32} (hx : Ok X ad cc own nL ret d P) (hs : k_sh b = (10, N)) (hv : Int32.ofNat N = v) (hd : decode cc pc = .ok (.arraylength, 1)) (kk : J X ad nL I L (pc + 1) lv (.int v :: st)) : J X ad nL I L pc lv (.ref (ad b) :: st) := by
  obtain ⟨p, l, e, R, s, m, args, below, meth, c, Q, D, cA, A⟩ := X
  obtain ⟨hexec, hb, hml, hown, hts, hlk, hr, hA, hZ, hK, hQ, hfr, hlo⟩ := hx
  intro H locs ls hW hl
  obtain ⟨hP, hD, hS⟩ := hW
  exact va_alen hexec hb (hK.one hs (by decide) (by decide)) hP b 0 ((k_wl_at (k_sh_lt (by rw [hs]; show 10 < 90; decide))).trans (by rw [k_cell_a hs (by decide) (by decide)])) rfl hv hd (kk H locs ls ⟨hP, hD, hS⟩ hl)

theorem J_alenB {X : k_C} {ad : Nat → Nat} {cc : ByteArray} {own : String} {nL : Nat} {ret : Option FieldType} {d : Nat} {P : Option Value → StI → StL → Prop} {I : StI} {L : StL} {pc : Nat} {lv : List (Nat × Value)} {st : List Value} {b N : Nat} {v : Int32} (hx : Ok X ad cc own nL ret d P) (hs : k_sh b = (11, N)) (hv : Int32.ofNat N = v) (hd : decode cc pc = .ok (.arraylength, 1)) (kk : J X ad nL I L (pc + 1) lv (.int v :: st)) : J X ad nL I L pc lv (.ref (ad b) :: st) := by
  obtain ⟨p, l, e, R, s, m, args, below, meth, c, Q, D, cA, A⟩ := X
  obtain ⟨hexec, hb, hml, hown, hts, hlk, hr, hA, hZ, hK, hQ, hfr, hlo⟩ := hx
  intro H locs ls hW hl
  obtain ⟨hP, hD, hS⟩ := hW
  exact va_alen hexec hb (hK.one hs (by decide) (by decide)) hP b 0 ((k_wl_at (k_sh_lt (by rw [hs]; show 11 < 90; decide))).trans (by rw [k_cell_a hs (by decide) (by decide)])) rfl hv hd (kk H locs ls ⟨hP, hD, hS⟩ hl)

theorem J_letters {X : k_C} {ad : Nat → Nat} {cc : ByteArray} {own : String} {nL : Nat} {ret : Option FieldType} {d : Nat} {P : Option Value → StI → StL → Prop} {I : StI} {L : StL} {pc : Nat} {lv : List (Nat × Value)} {st : List Value} {index kf : Nat} {i : Int32} (hx : Ok X ad cc own nL ret d P) (hf : Cond.fieldLink own index "TripCalls" "LETTERS" "[I" ∈ k_tbl) (hd : decode cc pc = .ok (.getstatic index, 3)) {k3 : Fin 4} (hd2 : decode cc (pc + 3) = .ok (.iload_n k3, 1)) (q : Nat) (hq : lv[q]? = some ((k3 : Nat), .int i)) (hin : vp_in i 6) (hd3 : decode cc (pc + 4) = .ok (.iaload, 1)) (kk : J X ad nL I L (pc + 5) lv (.int (k_letters i.toNatClampNeg) :: st)) : J X ad nL I L pc lv st := by
  obtain ⟨p, l, e, R, s, m, args, below, meth, c, Q, D, cA, A⟩ := X
  obtain ⟨hexec, hb, hml, hown, hts, hlk, hr, hA, hZ, hK, hQ, hfr, hlo⟩ := hx
  intro H locs ls hW hl
  obtain ⟨t, hZ1, hT⟩ := hZ
  refine va_gets hexec hb hZ1 hW.2.2 hown (hts _ hf) (fun _ h9 => h9) hd ?_
  refine lv_iload_n hexec hb hd2 rfl (lv_at hl q hq) ?_
  exact va_ti hexec hb hT hW.2.2 hin rfl hd3 (kk H locs ls hW hl)

theorem J_iret {X : k_C} {ad : Nat → Nat} {cc : ByteArray} {own : String} {nL : Nat} {d : Nat} {P : Option Value → StI → StL → Prop} {I : StI} {L : StL} {pc : Nat} {lv : List (Nat × Value)} {v : Int32} (hx : Ok X ad cc own nL (some .int) d P) (hd : decode cc pc = .ok (.ireturn, 1)) (h : P (some (.int v)) I L) : J X ad nL I L pc lv [.int v] := by
  obtain ⟨p, l, e, R, s, m, args, below, meth, c, Q, D, cA, A⟩ := X
  obtain ⟨hexec, hb, hml, hown, hts, hlk, hr, hA, hZ, hK, hQ, hfr, hlo⟩ := hx
  intro H locs ls hW hl
  obtain ⟨hP, hD, hS⟩ := hW
  subst hQ
  exact W.iret (v := v) hexec hb hr (fun t ht hw => ⟨⟨_, I, L, rfl, h, hK.moved hw.alike, by rw [ht]; exact hP, hD⟩, hS.F ht⟩) hS.2.2 hd

theorem J_lret {X : k_C} {ad : Nat → Nat} {cc : ByteArray} {own : String} {nL : Nat} {d : Nat} {P : Option Value → StI → StL → Prop} {I : StI} {L : StL} {pc : Nat} {lv : List (Nat × Value)} {v : Int64} (hx : Ok X ad cc own nL (some .long) d P) (hd : decode cc pc = .ok (.lreturn, 1)) (h : P (some (.long v)) I L) : J X ad nL I L pc lv [.long v] := by
  obtain ⟨p, l, e, R, s, m, args, below, meth, c, Q, D, cA, A⟩ := X
  obtain ⟨hexec, hb, hml, hown, hts, hlk, hr, hA, hZ, hK, hQ, hfr, hlo⟩ := hx
  intro H locs ls hW hl
  obtain ⟨hP, hD, hS⟩ := hW
  subst hQ
  exact W.lret (v := v) hexec hb hr (fun t ht hw => ⟨⟨_, I, L, rfl, h, hK.moved hw.alike, by rw [ht]; exact hP, hD⟩, hS.F ht⟩) hS.2.2 hd

theorem J_zret {X : k_C} {ad : Nat → Nat} {cc : ByteArray} {own : String} {nL : Nat} {d : Nat} {P : Option Value → StI → StL → Prop} {I : StI} {L : StL} {pc : Nat} {lv : List (Nat × Value)} {v : Int32} (hx : Ok X ad cc own nL (some .boolean) d P) (hd : decode cc pc = .ok (.ireturn, 1)) (hn : narrow .boolean (.int v) = .int v) (h : P (some (.int v)) I L) : J X ad nL I L pc lv [.int v] := by
  obtain ⟨p, l, e, R, s, m, args, below, meth, c, Q, D, cA, A⟩ := X
  obtain ⟨hexec, hb, hml, hown, hts, hlk, hr, hA, hZ, hK, hQ, hfr, hlo⟩ := hx
  intro H locs ls hW hl
  obtain ⟨hP, hD, hS⟩ := hW
  subst hQ
  exact W.zret (v := v) hexec hb hr hn (fun t ht hw => ⟨⟨_, I, L, rfl, h, hK.moved hw.alike, by rw [ht]; exact hP, hD⟩, hS.F ht⟩) hS.2.2 hd
theorem J_vret {X : k_C} {ad : Nat → Nat} {cc : ByteArray} {own : String} {nL : Nat} {d : Nat} {P : Option Value → StI → StL → Prop} {I : StI} {L : StL} {pc : Nat} {lv : List (Nat × Value)} (hx : Ok X ad cc own nL none d P) (hd : decode cc pc = .ok (.return_, 1)) (h : P none I L) : J X ad nL I L pc lv [] := by
  obtain ⟨p, l, e, R, s, m, args, below, meth, c, Q, D, cA, A⟩ := X
  obtain ⟨hexec, hb, hml, hown, hts, hlk, hr, hA, hZ, hK, hQ, hfr, hlo⟩ := hx
  intro H locs ls hW hl
  obtain ⟨hP, hD, hS⟩ := hW
  subst hQ
  exact W.vret hexec hb hr (fun t ht hw => ⟨⟨_, I, L, rfl, h, hK.moved hw.alike, by rw [ht]; exact hP, hD⟩, hS.F ht⟩) hS.2.2 hd
end
section
/-! entry, calls, and the words of the printed functions -/
theorem k_goodIn {y : MethodName} {cc : ByteArray} {maxL : Nat} {ret : Option FieldType} (h : Cond.code y cc maxL ret ∈ k_tbl) : GoodIn k_tbl (.code y cc maxL ret :: k_tbl) := by
  intro w hw
  have hm : w ∈ k_tbl := by
    rcases List.mem_cons.mp hw with rfl | hw
    · exact h
    · exact hw
  exact ⟨hm, good_of_word (List.mem_filter.mp hm).2⟩
theorem k_enter {l : Launch} {ad : Nat → Nat} {d : Nat} {y : MethodName} {cc : ByteArray} {maxL : Nat} {ret : Option FieldType} {as : List Value} {I : StI} {L : StL} {P : Option Value → StI → StL → Prop} (hy : plainName y.cls = true) (hn : (lg_sl as).length ≤ maxL)
    (body : ∀ X : k_C, k_lau X = l → Ok X ad cc y.cls maxL ret d P → J X ad maxL I L 0 (lv_args 0 as) []) : k_Met l ad d y cc maxL ret as I L P := by
  intro D cA sz
  refine Met.ofW (cc := cc) (maxL := maxL) (ret := ret) hy rfl ?_
  intro p e s m args below meth c s₁ B hml hv
  obtain ⟨rfl, hsz, hK, hP, hD0, hZ⟩ := hv
  subst hsz
  have hD := hD0.self (sz := s.heap.size)
  have hts := atoms_spec (ws := .code y cc maxL ret :: k_tbl) B.pre
  have hA0 : ∀ q : Nat, s.heap.size ≤ q → va_A (k_wl cA ad I L) s.heap.size q := fun q h => Or.inr h
  generalize va_A (k_wl cA ad I L) s.heap.size = A at hD hZ hA0 ⊢
  have h := body (p, l, e, (headSpec (.code y cc maxL ret :: k_tbl) (k_rm d)).room, s, m, as.toArray, below, meth, c, MQ below (k_Q D cA ad P A) as.toArray s 0 0 A, D, cA, A) rfl
    ⟨B.exec, B.bytes, hml, findClass_of_methodNamed B.named, fun w hw => hts w (List.mem_cons_of_mem _ hw), B.notSynchronized, B.returns, hA0, hZ, hK, rfl, Nat.le_refl _, Nat.le_refl _⟩
  have hl := lv_entry as (n := maxL) hn
  rw [lg_entry_eq]
  exact h s.heap [] _ ⟨hP, hD, va_S.rf⟩ hl
theorem k_blind {D : va_G} {cA : Nat → ClassId} {ad : Nat → Nat} {sz : Nat} {I : StI} {L : StL} {as : List Value} : FrameBlind (va_Pc as (k_Pre D cA ad sz I L)) := by
  intro a U g mk q
  obtain ⟨q0, q1, qK, qP, qD, qZ⟩ := q
  exact ⟨q0, q1, k_K.moved (u := U) (U := U.calling g mk a) (Vm.Alike.refl U.vm) qK, qP, qD, k_Z.moved (u := U) (U := U.calling g mk a) (Vm.Alike.refl U.vm) qZ⟩
theorem k_free {A : Nat → Prop} {cA : Nat → ClassId} {ad : Nat → Nat} {I : StI} {L : StL} {H0 H : Heap} {locs : List Loc} (hD : va_D A (k_wl cA ad I L)) (hS : va_S A H0 H locs) (hA : ∀ q, H0.size ≤ q → A q) : ∀ q, va_A (k_wl cA ad I L) H.size q → A q := by
  intro q h
  rcases h with ⟨k, e, h⟩ | h
  · exact hD.2 k (q, e) h
  · exact hA q (Nat.le_trans hS.1 h)
theorem k_pre {D : va_G} {A : Nat → Prop} {cA : Nat → ClassId} {ad : Nat → Nat} {I : StI} {L : StL} {s : State} {H : Heap} {locs : List Loc} (hP : va_P D vwCl (k_wl cA ad I L) H) (hD : va_D A (k_wl cA ad I L)) (hS : va_S A s.heap H locs) (hA : ∀ q, s.heap.size ≤ q → A q) (hZ : k_Z A s s.heap) (hK : k_K D cA s)
    (U : State) (hU : U.heap = H) (hw : s.WarmedH U.vm) : k_Pre D cA ad H.size I L U := by
  refine ⟨by rw [hU], hK.moved hw.alike, by rw [hU]; exact hP, hD.weaken (fun _ _ _ _ => trivial), ?_⟩
  rw [hU]
  exact ((hZ.kept hS.2.1).narrow (k_free hD hS hA)).moved hw.alike
section KB
variable {p : Program} {l : Launch} {e : Env} {R : Room} {s : State} {m : MethodId} {args : Array Value} {below : List Frame} {meth : Method} {c : Code} {H : Heap} {locs : List Loc} {Q : State → Prop} {D : va_G} {cA : Nat → ClassId} {A : Nat → Prop}
theorem k_back {ad : Nat → Nat} {I I1 : StI} {L L1 : StL} {nL pc : Nat} {lv : List (Nat × Value)} {ls : Array Slot} {st rest : List Value} {rv : Option Value} {a : Array Value} (hA : ∀ q, s.heap.size ≤ q → A q) (hD : va_D A (k_wl cA ad I L)) (hS : va_S A s.heap H locs) (hl : lv_has ls nL lv)
    (hr : va_Run p l e R s m args below meth c H locs 0 0 0 0 (F0 m pc ls st) rest (k_Q D cA ad (fun v I' L' => v = rv ∧ I' = I1 ∧ L' = L1) (va_A (k_wl cA ad I L) H.size) a) (va_A (k_wl cA ad I L) H.size))
    (k : J (p, l, e, R, s, m, args, below, meth, c, Q, D, cA, A) ad nL I1 L1 (pc + 3) lv (rv.toList ++ rest)) : W p l e R s m args below meth c H locs 0 0 Q (F0 m pc ls st) := by
  intro T hT XX
  obtain ⟨v, st₀, t, T', L', h0, X', hL, e1, e2, ⟨⟨v', I', L2, hv, ⟨rfl, rfl, rfl⟩, hK1, hP1, hD1⟩, hz, hk⟩, stp⟩ := hr T hT XX
  cases hv
  rw [h0] at hz hk
  have hF := k_free hD hS hA
  have hS' : va_S A s.heap T'.heap (locs ++ L') := ⟨Nat.le_trans hS.1 (by rw [e1]; exact hz), fun q h1 h2 => by rw [e1, hk q (Nat.lt_of_lt_of_le h1 hS.1) (fun z => h2 (hF q z))]; exact hS.2.1 q h1 h2, fun q hq => by
      rcases List.mem_append.mp hq with h | h
      · exact hS.2.2 q h
      · exact hF _ (hL q h)⟩
  obtain ⟨t2, a1, b1⟩ := k T'.heap (locs ++ L') ls ⟨by rw [e1]; exact hP1, hD1.weaken (fun _ _ _ z => hF _ z), hS'⟩ hl T' rfl X'
  exact ⟨t2, stp t2 a1, b1⟩
end KB
/-- a call's words: by its link, the callee's code and name -/
def k_lk (own : String) (index : Nat) (y : MethodName) (bytes : ByteArray) (maxL : Nat) (ret : Option FieldType) (n : Nat) : Prop := Cond.methodLink own index y ∈ k_tbl ∧ Cond.initialized y.cls ∈ k_tbl ∧ Cond.code y bytes maxL ret ∈ k_tbl ∧ (y.cls ≠ "java/lang/invoke/MethodHandle" ∧ y.cls ≠ "java/lang/invoke/VarHandle" ∧ (parseMethodDescriptor y.desc).map (fun d => d.parameters.length) = some n) ∧ maxL ≤ 21
def k_lkV (own : String) (index ci : Nat) (y : MethodName) (bytes : ByteArray) (maxL : Nat) (ret : Option FieldType) (n : Nat) : Prop := k_lk own index y bytes maxL ret n ∧ Cond.instanceMethod y ∈ k_tbl ∧ Cond.selects y.cls y y ∈ k_tbl ∧ ∃ T N, vwCl[ci]? = some (y.cls, T, N)
def k_lkS (own : String) (index : Nat) (y : MethodName) (bytes : ByteArray) (maxL : Nat) (ret : Option FieldType) (n : Nat) : Prop := k_lk own index y bytes maxL ret n ∧ Cond.static y ∈ k_tbl
theorem k_callB {R : Room} {s : State} {args : Array Value} {own : String} {index : Nat} {y : MethodName} {bytes : ByteArray} {maxL : Nat} {ret : Option FieldType} {n d dc : Nat} (hts : ∀ w ∈ k_tbl, w.before args s = true) (h : k_lk own index y bytes maxL ret n) (hfr : d ≤ R.frames) (hlo : 40 * d ≤ R.locals) (hdc : dc + 1 ≤ d) : CallB R s args own index y bytes maxL ret (.code y bytes maxL ret :: k_tbl) (k_rm dc) 0 0 n := by
  obtain ⟨h1, h2, h3, h4, h5⟩ := h
  refine callB_of n hts (k_goodIn h3) rfl rfl rfl (hts _ h2) (hts _ h1) h4 ⟨?_, ?_⟩
  · show dc + 1 ≤ R.frames
    omega
  · show 8 + (maxL + 11) + 40 * dc ≤ R.locals
    omega
theorem J_callV0 {X : k_C} {ad : Nat → Nat} {cc : ByteArray} {own : String} {nL : Nat} {ret : Option FieldType} {d : Nat} {P : Option Value → StI → StL → Prop} {I I1 : StI} {L L1 : StL} {pc : Nat} {lv : List (Nat × Value)} {st : List Value} {index ci b : Nat} {y : MethodName} {bytes : ByteArray} {maxL : Nat} {retc : Option FieldType} {n dc : Nat} {rv : Option Value}
    (hx : Ok X ad cc own nL ret d P) (hlk : k_lkV own index ci y bytes maxL retc n) (hs : k_sh b = (ci, k_N ci)) (As rest : List Value) (hst : st = As.reverse ++ .ref (ad b) :: rest) (hn : As.length = n) (hcat : (rest.map fun v => v.category).sum ≤ 8) (hdc : dc + 1 ≤ d)
    (hM : k_Met (k_lau X) ad dc y bytes maxL retc (.ref (ad b) :: As) I L (fun v I' L' => v = rv ∧ I' = I1 ∧ L' = L1)) (hd : decode cc pc = .ok (.invokevirtual index, 3)) (k : J X ad nL I1 L1 (pc + 3) lv (rv.toList ++ rest)) : J X ad nL I L pc lv st := by
  obtain ⟨p, l, e, R, s, m, args, below, meth, c, Q, D, cA, A⟩ := X
  obtain ⟨hexec, hb, hml, hown, hts, hlo', hr, hA, hZ, hK, hQ, hfr, hlo⟩ := hx
  intro H locs ls hW hl
  obtain ⟨hP, hD, hS⟩ := hW
  obtain ⟨h1, h2, h3, T, N, h4⟩ := hlk
  obtain ⟨rfl, hc⟩ := k_N_ok h4
  have hPre := k_pre hP hD hS hA hZ hK
  refine k_back hA hD hS hl (va_runV (As := As) (rest := rest) (Ts := k_tbl) ⟨hexec, hb, hml, hown, hts⟩ (hM D cA H.size) ⟨k_callB hts h1 hfr hlo hdc, hts _ h2, hts _ h3⟩ ⟨k_blind, va_recv hK.1 hP h4 ((k_wl_at (k_sh_n hs hc)).trans (by rw [k_cell_o hs hc])), fun U hU hw => ⟨rfl, hPre U hU hw⟩⟩ rfl hn hl.1 hst (by simpa [JFrame.monitorRoom] using hcat) hd ⟨Nat.zero_le _, Nat.zero_le _⟩) k
theorem J_callS0 {X : k_C} {ad : Nat → Nat} {cc : ByteArray} {own : String} {nL : Nat} {ret : Option FieldType} {d : Nat} {P : Option Value → StI → StL → Prop} {I I1 : StI} {L L1 : StL} {pc : Nat} {lv : List (Nat × Value)} {st : List Value} {index : Nat} {y : MethodName} {bytes : ByteArray} {maxL : Nat} {retc : Option FieldType} {n dc : Nat} {rv : Option Value}
    (hx : Ok X ad cc own nL ret d P) (hlk : k_lkS own index y bytes maxL retc n) (As rest : List Value) (hst : st = As.reverse ++ rest) (hn : As.length = n) (hcat : (rest.map fun v => v.category).sum ≤ 8) (hdc : dc + 1 ≤ d)
    (hM : k_Met (k_lau X) ad dc y bytes maxL retc As I L (fun v I' L' => v = rv ∧ I' = I1 ∧ L' = L1)) (hd : decode cc pc = .ok (.invokestatic index, 3)) (k : J X ad nL I1 L1 (pc + 3) lv (rv.toList ++ rest)) : J X ad nL I L pc lv st := by
  obtain ⟨p, l, e, R, s, m, args, below, meth, c, Q, D, cA, A⟩ := X
  obtain ⟨hexec, hb, hml, hown, hts, hlo', hr, hA, hZ, hK, hQ, hfr, hlo⟩ := hx
  intro H locs ls hW hl
  obtain ⟨hP, hD, hS⟩ := hW
  obtain ⟨h1, h2⟩ := hlk
  have hPre := k_pre hP hD hS hA hZ hK
  refine k_back hA hD hS hl (va_runS (As := As) (rest := rest) (Ts := k_tbl) ⟨hexec, hb, hml, hown, hts⟩ (hM D cA H.size) ⟨k_callB hts h1 hfr hlo hdc, hts _ h2⟩ ⟨k_blind, fun U hU hw => ⟨rfl, hPre U hU hw⟩⟩ rfl hn hl.1 hst (by simpa [JFrame.monitorRoom] using hcat) hd ⟨Nat.zero_le _, Nat.zero_le _⟩) k
theorem J_acopy {X : k_C} {ad : Nat → Nat} {cc : ByteArray} {own : String} {nL : Nat} {ret : Option FieldType} {d : Nat} {P : Option Value → StI → StL → Prop} {I I1 : StI} {L : StL} {pc : Nat} {lv : List (Nat × Value)} {index a b N0 N1 : Nat} {sp dp n : Int32}
    (hx : Ok X ad cc own nL ret d P) (hlink : Cond.methodLink own index arraycopyName ∈ k_tbl ∧ Cond.native arraycopyName ∈ k_tbl ∧ Cond.static arraycopyName ∈ k_tbl ∧ Cond.initialized "java/lang/System" ∈ k_tbl) (ha : k_sh a = (10, N0)) (hb' : k_sh b = (10, N1)) (h1 : ¬ sp < 0) (h2 : ¬ dp < 0) (h3 : ¬ n < 0) (h4 : sp.toNatClampNeg + n.toNatClampNeg ≤ N0) (h5 : dp.toNatClampNeg + n.toNatClampNeg ≤ N1) (hdd : 1 ≤ d)
    (hd : decode cc pc = .ok (.invokestatic index, 3)) (hI : I1 = k_cpA I a b sp.toNatClampNeg dp.toNatClampNeg n.toNatClampNeg) (kk : J X ad nL I1 L (pc + 3) lv []) : J X ad nL I L pc lv [.int n, .int dp, .ref (ad b), .int sp, .ref (ad a)] := by
  obtain ⟨p, l, e, R, s, m, args, below, meth, c, Q, D, cA, A⟩ := X
  obtain ⟨hexec, hb, hml, hown, hts, hlo', hr, hA, hZ, hK, hQ, hfr, hlo⟩ := hx
  intro H locs ls hW hl
  obtain ⟨hP, hD, hS⟩ := hW
  subst hI
  have e0 := (k_wl_at (cA := cA) (ad := ad) (I := I) (L := L) (k_sh_lt (by rw [ha]; show 10 < 90; decide))).trans (by rw [k_cell_a ha (by decide) (by decide)])
  have e1 := (k_wl_at (cA := cA) (ad := ad) (I := I) (L := L) (k_sh_lt (by rw [hb']; show 10 < 90; decide))).trans (by rw [k_cell_a hb' (by decide) (by decide)])
  refine va_copyi (ty := .int) hexec hb (hml.trans hl.1.symm) hown (hts _ hlink.1) (hts _ hlink.2.1) (hts _ hlink.2.2.1) (hts _ hlink.2.2.2) ((hK.one ha (by decide) (by decide)).app (hK.one hb' (by decide) (by decide))) hP hD hS a b 0 1 e0 e1 rfl rfl rfl h1 h2 h3 h4 h5 (fun _ _ => rfl) (Nat.le_trans hdd hfr) (Nat.le_trans ?_ hlo) hd (fun H1 locs1 hP hD hS => ?_)
  · show 0 + _ ≤ 40 * d
    exact Nat.le_trans (show 0 + _ ≤ 40 * 1 by decide) (Nat.mul_le_mul_left 40 hdd)
  · rw [k_set_c hb' (by decide) (by decide)] at hP hD
    exact kk H1 locs1 ls ⟨hP, hD, hS⟩ hl
/-! the printed functions' own words -/
def Ho {T : Type} (o : Option T) (K : T → Prop) : Prop := ∃ t, o = some t ∧ K t
def k_let {α β : Type} (a : α) (f : α → β) : β := f a
def k_gd {T : Type} (i : Int32) (n : Nat) (o : Option T) : Option T := if 0 ≤ i.toInt ∧ i.toInt < n then o else none
def k_nz {T : Type} (y : Int32) (o : Option T) : Option T := if y = 0 then none else o
def k_nzL {T : Type} (y : Int64) (o : Option T) : Option T := if y = 0 then none else o
def k_fu : Nat := 10000
theorem Ho_some {T : Type} {t : T} {K : T → Prop} (h : Ho (some t) K) : K t := by
  obtain ⟨t', e, hk⟩ := h
  cases e
  exact hk
theorem Ho_none {T : Type} {K : T → Prop} (h : Ho none K) : False := by
  obtain ⟨t', e, hk⟩ := h
  cases e
theorem Ho_t {T : Type} {c : Prop} [Decidable c] {A B : Option T} {K : T → Prop} (hc : c) (h : Ho (if c then A else B) K) : Ho A K := by
  rw [if_pos hc] at h
  exact h
theorem Ho_f {T : Type} {c : Prop} [Decidable c] {A B : Option T} {K : T → Prop} (hc : ¬ c) (h : Ho (if c then A else B) K) : Ho B K := by
  rw [if_neg hc] at h
  exact h
theorem Ho_gd {T : Type} {i : Int32} {n : Nat} {A : Option T} {K : T → Prop} (h : Ho (k_gd i n A) K) : vp_in i n ∧ Ho A K := by
  unfold k_gd at h
  by_cases hc : 0 ≤ i.toInt ∧ i.toInt < n
  · rw [if_pos hc] at h
    exact ⟨vp_in_iff.mpr hc, h⟩
  · rw [if_neg hc] at h
    exact (Ho_none h).elim
theorem Ho_nz {T : Type} {y : Int32} {A : Option T} {K : T → Prop} (h : Ho (k_nz y A) K) : ¬ y = 0 ∧ Ho A K := by
  unfold k_nz at h
  by_cases hc : y = 0
  · rw [if_pos hc] at h
    exact (Ho_none h).elim
  · rw [if_neg hc] at h
    exact ⟨hc, h⟩
theorem Ho_nzL {T : Type} {y : Int64} {A : Option T} {K : T → Prop} (h : Ho (k_nzL y A) K) : ¬ y = 0 ∧ Ho A K := by
  unfold k_nzL at h
  by_cases hc : y = 0
  · rw [if_pos hc] at h
    exact (Ho_none h).elim
  · rw [if_neg hc] at h
    exact ⟨hc, h⟩
theorem Ho_let {α T : Type} {a : α} {f : α → Option T} {K : T → Prop} (h : Ho (k_let a f) K) : ∃ x, x = a ∧ Ho (f x) K := ⟨a, rfl, h⟩
theorem Ho_bind {α T : Type} {o : Option α} {f : α → Option T} {K : T → Prop} (h : Ho (o.bind f) K) : ∃ x, o = some x ∧ Ho (f x) K := by
  obtain ⟨t, e, hk⟩ := h
  cases o with
  | none => cases e
  | some x => exact ⟨x, rfl, t, e, hk⟩
theorem Ho_map {α T : Type} {o : Option α} {f : α → T} {K : T → Prop} (h : Ho (o.map f) K) : Ho o (fun a => K (f a)) := by
  obtain ⟨t, e, hk⟩ := h
  cases o with
  | none => cases e
  | some x =>
    cases e
    exact ⟨x, rfl, hk⟩
def k_acp {T : Type} (sp dp n : Int32) (N0 N1 : Nat) (o : Option T) : Option T := if ¬ sp < 0 ∧ ¬ dp < 0 ∧ ¬ n < 0 ∧ sp.toNatClampNeg + n.toNatClampNeg ≤ N0 ∧ dp.toNatClampNeg + n.toNatClampNeg ≤ N1 then o else none
theorem Ho_acp {T : Type} {sp dp n : Int32} {N0 N1 : Nat} {A : Option T} {K : T → Prop} (h : Ho (k_acp sp dp n N0 N1 A) K) : (¬ sp < 0 ∧ ¬ dp < 0 ∧ ¬ n < 0 ∧ sp.toNatClampNeg + n.toNatClampNeg ≤ N0 ∧ dp.toNatClampNeg + n.toNatClampNeg ≤ N1) ∧ Ho A K := by
  unfold k_acp at h
  by_cases hc : ¬ sp < 0 ∧ ¬ dp < 0 ∧ ¬ n < 0 ∧ sp.toNatClampNeg + n.toNatClampNeg ≤ N0 ∧ dp.toNatClampNeg + n.toNatClampNeg ≤ N1
  · rw [if_pos hc] at h
    exact ⟨hc, h⟩
  · rw [if_neg hc] at h
    exact (Ho_none h).elim
def k_loop {σ T : Type} (f : σ → Option (σ ⊕ T)) : Nat → σ → Option T
  | 0, _ => none
  | n + 1, x => (f x).bind (fun t => Sum.elim (k_loop f n) some t)
end
