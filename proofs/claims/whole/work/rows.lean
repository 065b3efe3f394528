section
-- ===== PART A: goes FIRST, ahead of the names: the tables' words, and 'selects' of the private methods out of them =====
/-- a private method of a class that the tables say can be made, by its rows of tables_1 -/
def lw_okq (q : MethodName × Nat) : Prop := (q.1.cls ≠ "java/lang/invoke/MethodHandle" ∧ q.1.cls ≠ "java/lang/invoke/VarHandle") ∧ Cond.instantiable q.1.cls q.2 ∈ tables_1 ∧ Cond.privateMethod q.1 ∈ tables_1 ∧ Cond.instanceMethod q.1 ∈ tables_1
theorem lw_p0 : lw_okq (⟨"SecondHelping", "refuse", "(I)I"⟩, 14) := ⟨⟨by decide +kernel, by decide +kernel⟩, List.mem_of_getElem? (i := 19) (by decide +kernel), List.mem_of_getElem? (i := 324) (by decide +kernel), List.mem_of_getElem? (i := 325) (by decide +kernel)⟩
theorem lw_p1 : lw_okq (⟨"SecondHelping$Letters", "hear", "(LSecondHelping$Board;)I"⟩, 3) := ⟨⟨by decide +kernel, by decide +kernel⟩, List.mem_of_getElem? (i := 111) (by decide +kernel), List.mem_of_getElem? (i := 340) (by decide +kernel), List.mem_of_getElem? (i := 341) (by decide +kernel)⟩
theorem lw_p2 : lw_okq (⟨"SecondHelping$Letters", "firstWithoutForm", "()I"⟩, 3) := ⟨⟨by decide +kernel, by decide +kernel⟩, List.mem_of_getElem? (i := 111) (by decide +kernel), List.mem_of_getElem? (i := 344) (by decide +kernel), List.mem_of_getElem? (i := 345) (by decide +kernel)⟩
theorem lw_p3 : lw_okq (⟨"SecondHelping$Letters", "letterAt", "(I)I"⟩, 3) := ⟨⟨by decide +kernel, by decide +kernel⟩, List.mem_of_getElem? (i := 111) (by decide +kernel), List.mem_of_getElem? (i := 348) (by decide +kernel), List.mem_of_getElem? (i := 349) (by decide +kernel)⟩
theorem lw_p4 : lw_okq (⟨"SecondHelping$Letters", "comes", "(I)Z"⟩, 3) := ⟨⟨by decide +kernel, by decide +kernel⟩, List.mem_of_getElem? (i := 111) (by decide +kernel), List.mem_of_getElem? (i := 369) (by decide +kernel), List.mem_of_getElem? (i := 370) (by decide +kernel)⟩
theorem lw_p5 : lw_okq (⟨"SecondHelping$Letters", "digitAt", "(I)I"⟩, 3) := ⟨⟨by decide +kernel, by decide +kernel⟩, List.mem_of_getElem? (i := 111) (by decide +kernel), List.mem_of_getElem? (i := 373) (by decide +kernel), List.mem_of_getElem? (i := 374) (by decide +kernel)⟩
theorem lw_p6 : lw_okq (⟨"SecondHelping$Letters", "comesDoing", "(III)Z"⟩, 3) := ⟨⟨by decide +kernel, by decide +kernel⟩, List.mem_of_getElem? (i := 111) (by decide +kernel), List.mem_of_getElem? (i := 377) (by decide +kernel), List.mem_of_getElem? (i := 378) (by decide +kernel)⟩
theorem lw_p7 : lw_okq (⟨"SecondHelping$Letters", "comesDone", "(I)Z"⟩, 3) := ⟨⟨by decide +kernel, by decide +kernel⟩, List.mem_of_getElem? (i := 111) (by decide +kernel), List.mem_of_getElem? (i := 397) (by decide +kernel), List.mem_of_getElem? (i := 398) (by decide +kernel)⟩
theorem lw_p8 : lw_okq (⟨"SecondHelping$Letters", "comesLaw", "(II)Z"⟩, 3) := ⟨⟨by decide +kernel, by decide +kernel⟩, List.mem_of_getElem? (i := 111) (by decide +kernel), List.mem_of_getElem? (i := 414) (by decide +kernel), List.mem_of_getElem? (i := 415) (by decide +kernel)⟩
theorem lw_p9 : lw_okq (⟨"SecondHelping$Letters", "comesMark", "(II)Z"⟩, 3) := ⟨⟨by decide +kernel, by decide +kernel⟩, List.mem_of_getElem? (i := 111) (by decide +kernel), List.mem_of_getElem? (i := 422) (by decide +kernel), List.mem_of_getElem? (i := 423) (by decide +kernel)⟩
theorem lw_p10 : lw_okq (⟨"SecondHelping$Takebacks", "dropOldest", "()V"⟩, 5) := ⟨⟨by decide +kernel, by decide +kernel⟩, List.mem_of_getElem? (i := 88) (by decide +kernel), List.mem_of_getElem? (i := 512) (by decide +kernel), List.mem_of_getElem? (i := 513) (by decide +kernel)⟩
theorem lw_p11 : lw_okq (⟨"SecondHelping$LogBook", "reckonPlaces", "()V"⟩, 5) := ⟨⟨by decide +kernel, by decide +kernel⟩, List.mem_of_getElem? (i := 167) (by decide +kernel), List.mem_of_getElem? (i := 569) (by decide +kernel), List.mem_of_getElem? (i := 570) (by decide +kernel)⟩
theorem lw_p12 : lw_okq (⟨"SecondHelping$Plans", "reckonRests", "(I)V"⟩, 3) := ⟨⟨by decide +kernel, by decide +kernel⟩, List.mem_of_getElem? (i := 208) (by decide +kernel), List.mem_of_getElem? (i := 626) (by decide +kernel), List.mem_of_getElem? (i := 627) (by decide +kernel)⟩
theorem lw_p13 : lw_okq (⟨"SecondHelping$Plans", "leastRest", "(II)I"⟩, 3) := ⟨⟨by decide +kernel, by decide +kernel⟩, List.mem_of_getElem? (i := 208) (by decide +kernel), List.mem_of_getElem? (i := 630) (by decide +kernel), List.mem_of_getElem? (i := 631) (by decide +kernel)⟩
theorem lw_p14 : lw_okq (⟨"SecondHelping$Plans", "dueBehind", "(II)I"⟩, 3) := ⟨⟨by decide +kernel, by decide +kernel⟩, List.mem_of_getElem? (i := 208) (by decide +kernel), List.mem_of_getElem? (i := 635) (by decide +kernel), List.mem_of_getElem? (i := 636) (by decide +kernel)⟩
theorem lw_p15 : lw_okq (⟨"SecondHelping$Plans", "ithDone", "(II)I"⟩, 3) := ⟨⟨by decide +kernel, by decide +kernel⟩, List.mem_of_getElem? (i := 208) (by decide +kernel), List.mem_of_getElem? (i := 644) (by decide +kernel), List.mem_of_getElem? (i := 645) (by decide +kernel)⟩
def lw_privs_1 : List (MethodName × Nat) := [(⟨"SecondHelping", "refuse", "(I)I"⟩, 14), (⟨"SecondHelping$Letters", "hear", "(LSecondHelping$Board;)I"⟩, 3), (⟨"SecondHelping$Letters", "firstWithoutForm", "()I"⟩, 3), (⟨"SecondHelping$Letters", "letterAt", "(I)I"⟩, 3), (⟨"SecondHelping$Letters", "comes", "(I)Z"⟩, 3), (⟨"SecondHelping$Letters", "digitAt", "(I)I"⟩, 3), (⟨"SecondHelping$Letters", "comesDoing", "(III)Z"⟩, 3), (⟨"SecondHelping$Letters", "comesDone", "(I)Z"⟩, 3), (⟨"SecondHelping$Letters", "comesLaw", "(II)Z"⟩, 3), (⟨"SecondHelping$Letters", "comesMark", "(II)Z"⟩, 3), (⟨"SecondHelping$Takebacks", "dropOldest", "()V"⟩, 5), (⟨"SecondHelping$LogBook", "reckonPlaces", "()V"⟩, 5), (⟨"SecondHelping$Plans", "reckonRests", "(I)V"⟩, 3), (⟨"SecondHelping$Plans", "leastRest", "(II)I"⟩, 3), (⟨"SecondHelping$Plans", "dueBehind", "(II)I"⟩, 3), (⟨"SecondHelping$Plans", "ithDone", "(II)I"⟩, 3)]
theorem lw_r1 : ∀ q ∈ lw_privs_1, lw_okq q := List.forall_mem_cons.mpr ⟨lw_p0, List.forall_mem_cons.mpr ⟨lw_p1, List.forall_mem_cons.mpr ⟨lw_p2, List.forall_mem_cons.mpr ⟨lw_p3, List.forall_mem_cons.mpr ⟨lw_p4, List.forall_mem_cons.mpr ⟨lw_p5, List.forall_mem_cons.mpr ⟨lw_p6, List.forall_mem_cons.mpr ⟨lw_p7, List.forall_mem_cons.mpr ⟨lw_p8, List.forall_mem_cons.mpr ⟨lw_p9, List.forall_mem_cons.mpr ⟨lw_p10, List.forall_mem_cons.mpr ⟨lw_p11, List.forall_mem_cons.mpr ⟨lw_p12, List.forall_mem_cons.mpr ⟨lw_p13, List.forall_mem_cons.mpr ⟨lw_p14, List.forall_mem_cons.mpr ⟨lw_p15, fun _ h => absurd h List.not_mem_nil⟩⟩⟩⟩⟩⟩⟩⟩⟩⟩⟩⟩⟩⟩⟩⟩
theorem lw_p16 : lw_okq (⟨"SecondHelping$Plans", "firstOnBestWay", "(II)I"⟩, 3) := ⟨⟨by decide +kernel, by decide +kernel⟩, List.mem_of_getElem? (i := 208) (by decide +kernel), List.mem_of_getElem? (i := 648) (by decide +kernel), List.mem_of_getElem? (i := 649) (by decide +kernel)⟩
theorem lw_p17 : lw_okq (⟨"SecondHelping$Likeness", "sets", "()I"⟩, 6) := ⟨⟨by decide +kernel, by decide +kernel⟩, List.mem_of_getElem? (i := 224) (by decide +kernel), List.mem_of_getElem? (i := 661) (by decide +kernel), List.mem_of_getElem? (i := 662) (by decide +kernel)⟩
theorem lw_p18 : lw_okq (⟨"SecondHelping$Likeness", "areApart", "(I)Z"⟩, 6) := ⟨⟨by decide +kernel, by decide +kernel⟩, List.mem_of_getElem? (i := 224) (by decide +kernel), List.mem_of_getElem? (i := 666) (by decide +kernel), List.mem_of_getElem? (i := 667) (by decide +kernel)⟩
theorem lw_p19 : lw_okq (⟨"SecondHelping$Likeness", "fewestFor", "(I)I"⟩, 6) := ⟨⟨by decide +kernel, by decide +kernel⟩, List.mem_of_getElem? (i := 224) (by decide +kernel), List.mem_of_getElem? (i := 678) (by decide +kernel), List.mem_of_getElem? (i := 679) (by decide +kernel)⟩
theorem lw_p20 : lw_okq (⟨"SecondHelping$Likeness", "tiesOf", "(I)I"⟩, 6) := ⟨⟨by decide +kernel, by decide +kernel⟩, List.mem_of_getElem? (i := 224) (by decide +kernel), List.mem_of_getElem? (i := 691) (by decide +kernel), List.mem_of_getElem? (i := 692) (by decide +kernel)⟩
theorem lw_p21 : lw_okq (⟨"SecondHelping$Readings", "isAsTold", "(II)Z"⟩, 4) := ⟨⟨by decide +kernel, by decide +kernel⟩, List.mem_of_getElem? (i := 189) (by decide +kernel), List.mem_of_getElem? (i := 720) (by decide +kernel), List.mem_of_getElem? (i := 721) (by decide +kernel)⟩
theorem lw_p22 : lw_okq (⟨"SecondHelping$Readings", "gatherNexts", "()I"⟩, 4) := ⟨⟨by decide +kernel, by decide +kernel⟩, List.mem_of_getElem? (i := 189) (by decide +kernel), List.mem_of_getElem? (i := 739) (by decide +kernel), List.mem_of_getElem? (i := 740) (by decide +kernel)⟩
theorem lw_p23 : lw_okq (⟨"SecondHelping$Readings", "keepNexts", "(I)V"⟩, 4) := ⟨⟨by decide +kernel, by decide +kernel⟩, List.mem_of_getElem? (i := 189) (by decide +kernel), List.mem_of_getElem? (i := 743) (by decide +kernel), List.mem_of_getElem? (i := 744) (by decide +kernel)⟩
theorem lw_p24 : lw_okq (⟨"SecondHelping$Readings", "unlikeNexts", "(II)I"⟩, 4) := ⟨⟨by decide +kernel, by decide +kernel⟩, List.mem_of_getElem? (i := 189) (by decide +kernel), List.mem_of_getElem? (i := 748) (by decide +kernel), List.mem_of_getElem? (i := 749) (by decide +kernel)⟩
theorem lw_p25 : lw_okq (⟨"SecondHelping$Readings", "isNewNext", "(II)Z"⟩, 4) := ⟨⟨by decide +kernel, by decide +kernel⟩, List.mem_of_getElem? (i := 189) (by decide +kernel), List.mem_of_getElem? (i := 752) (by decide +kernel), List.mem_of_getElem? (i := 753) (by decide +kernel)⟩
theorem lw_p26 : lw_okq (⟨"SecondHelping$Marking", "totalFlipped", "(II)I"⟩, 2) := ⟨⟨by decide +kernel, by decide +kernel⟩, List.mem_of_getElem? (i := 251) (by decide +kernel), List.mem_of_getElem? (i := 765) (by decide +kernel), List.mem_of_getElem? (i := 766) (by decide +kernel)⟩
theorem lw_p27 : lw_okq (⟨"SecondHelping$LogBook", "readAhead", "()V"⟩, 5) := ⟨⟨by decide +kernel, by decide +kernel⟩, List.mem_of_getElem? (i := 167) (by decide +kernel), List.mem_of_getElem? (i := 778) (by decide +kernel), List.mem_of_getElem? (i := 779) (by decide +kernel)⟩
theorem lw_p28 : lw_okq (⟨"SecondHelping$LogBook", "areAlikePlaces", "(II)Z"⟩, 5) := ⟨⟨by decide +kernel, by decide +kernel⟩, List.mem_of_getElem? (i := 167) (by decide +kernel), List.mem_of_getElem? (i := 782) (by decide +kernel), List.mem_of_getElem? (i := 783) (by decide +kernel)⟩
theorem lw_p29 : lw_okq (⟨"SecondHelping$LogBook", "sumSplit", "(II)I"⟩, 5) := ⟨⟨by decide +kernel, by decide +kernel⟩, List.mem_of_getElem? (i := 167) (by decide +kernel), List.mem_of_getElem? (i := 788) (by decide +kernel), List.mem_of_getElem? (i := 789) (by decide +kernel)⟩
theorem lw_p30 : lw_okq (⟨"SecondHelping$LogBook", "sumWithout", "(I)I"⟩, 5) := ⟨⟨by decide +kernel, by decide +kernel⟩, List.mem_of_getElem? (i := 167) (by decide +kernel), List.mem_of_getElem? (i := 803) (by decide +kernel), List.mem_of_getElem? (i := 804) (by decide +kernel)⟩
theorem lw_p31 : lw_okq (⟨"SecondHelping$LogBook", "sumExchanged", "(II)I"⟩, 5) := ⟨⟨by decide +kernel, by decide +kernel⟩, List.mem_of_getElem? (i := 167) (by decide +kernel), List.mem_of_getElem? (i := 828) (by decide +kernel), List.mem_of_getElem? (i := 829) (by decide +kernel)⟩
def lw_privs_2 : List (MethodName × Nat) := [(⟨"SecondHelping$Plans", "firstOnBestWay", "(II)I"⟩, 3), (⟨"SecondHelping$Likeness", "sets", "()I"⟩, 6), (⟨"SecondHelping$Likeness", "areApart", "(I)Z"⟩, 6), (⟨"SecondHelping$Likeness", "fewestFor", "(I)I"⟩, 6), (⟨"SecondHelping$Likeness", "tiesOf", "(I)I"⟩, 6), (⟨"SecondHelping$Readings", "isAsTold", "(II)Z"⟩, 4), (⟨"SecondHelping$Readings", "gatherNexts", "()I"⟩, 4), (⟨"SecondHelping$Readings", "keepNexts", "(I)V"⟩, 4), (⟨"SecondHelping$Readings", "unlikeNexts", "(II)I"⟩, 4), (⟨"SecondHelping$Readings", "isNewNext", "(II)Z"⟩, 4), (⟨"SecondHelping$Marking", "totalFlipped", "(II)I"⟩, 2), (⟨"SecondHelping$LogBook", "readAhead", "()V"⟩, 5), (⟨"SecondHelping$LogBook", "areAlikePlaces", "(II)Z"⟩, 5), (⟨"SecondHelping$LogBook", "sumSplit", "(II)I"⟩, 5), (⟨"SecondHelping$LogBook", "sumWithout", "(I)I"⟩, 5), (⟨"SecondHelping$LogBook", "sumExchanged", "(II)I"⟩, 5)]
theorem lw_r2 : ∀ q ∈ lw_privs_2, lw_okq q := List.forall_mem_cons.mpr ⟨lw_p16, List.forall_mem_cons.mpr ⟨lw_p17, List.forall_mem_cons.mpr ⟨lw_p18, List.forall_mem_cons.mpr ⟨lw_p19, List.forall_mem_cons.mpr ⟨lw_p20, List.forall_mem_cons.mpr ⟨lw_p21, List.forall_mem_cons.mpr ⟨lw_p22, List.forall_mem_cons.mpr ⟨lw_p23, List.forall_mem_cons.mpr ⟨lw_p24, List.forall_mem_cons.mpr ⟨lw_p25, List.forall_mem_cons.mpr ⟨lw_p26, List.forall_mem_cons.mpr ⟨lw_p27, List.forall_mem_cons.mpr ⟨lw_p28, List.forall_mem_cons.mpr ⟨lw_p29, List.forall_mem_cons.mpr ⟨lw_p30, List.forall_mem_cons.mpr ⟨lw_p31, fun _ h => absurd h List.not_mem_nil⟩⟩⟩⟩⟩⟩⟩⟩⟩⟩⟩⟩⟩⟩⟩⟩
theorem lw_p32 : lw_okq (⟨"SecondHelping$Marking", "marksOf", "(I)I"⟩, 2) := ⟨⟨by decide +kernel, by decide +kernel⟩, List.mem_of_getElem? (i := 251) (by decide +kernel), List.mem_of_getElem? (i := 842) (by decide +kernel), List.mem_of_getElem? (i := 843) (by decide +kernel)⟩
theorem lw_p33 : lw_okq (⟨"SecondHelping$Marking", "nextOf", "(I)I"⟩, 2) := ⟨⟨by decide +kernel, by decide +kernel⟩, List.mem_of_getElem? (i := 251) (by decide +kernel), List.mem_of_getElem? (i := 846) (by decide +kernel), List.mem_of_getElem? (i := 847) (by decide +kernel)⟩
theorem lw_p34 : lw_okq (⟨"SecondHelping", "refuseLong", "(I)J"⟩, 14) := ⟨⟨by decide +kernel, by decide +kernel⟩, List.mem_of_getElem? (i := 19) (by decide +kernel), List.mem_of_getElem? (i := 856) (by decide +kernel), List.mem_of_getElem? (i := 857) (by decide +kernel)⟩
theorem lw_p35 : lw_okq (⟨"SecondHelping$Likeness", "lengthen", "(I)V"⟩, 6) := ⟨⟨by decide +kernel, by decide +kernel⟩, List.mem_of_getElem? (i := 224) (by decide +kernel), List.mem_of_getElem? (i := 868) (by decide +kernel), List.mem_of_getElem? (i := 869) (by decide +kernel)⟩
theorem lw_p36 : lw_okq (⟨"SecondHelping$Likeness", "mayFollow", "(II)Z"⟩, 6) := ⟨⟨by decide +kernel, by decide +kernel⟩, List.mem_of_getElem? (i := 224) (by decide +kernel), List.mem_of_getElem? (i := 872) (by decide +kernel), List.mem_of_getElem? (i := 873) (by decide +kernel)⟩
theorem lw_p37 : lw_okq (⟨"SecondHelping$Likeness", "spread", "(I)I"⟩, 6) := ⟨⟨by decide +kernel, by decide +kernel⟩, List.mem_of_getElem? (i := 224) (by decide +kernel), List.mem_of_getElem? (i := 930) (by decide +kernel), List.mem_of_getElem? (i := 931) (by decide +kernel)⟩
theorem lw_p38 : lw_okq (⟨"SecondHelping$Likeness", "heapOf", "(I)I"⟩, 6) := ⟨⟨by decide +kernel, by decide +kernel⟩, List.mem_of_getElem? (i := 224) (by decide +kernel), List.mem_of_getElem? (i := 942) (by decide +kernel), List.mem_of_getElem? (i := 943) (by decide +kernel)⟩
theorem lw_p39 : lw_okq (⟨"SecondHelping$LogBook", "pureFrom", "(I)I"⟩, 5) := ⟨⟨by decide +kernel, by decide +kernel⟩, List.mem_of_getElem? (i := 167) (by decide +kernel), List.mem_of_getElem? (i := 955) (by decide +kernel), List.mem_of_getElem? (i := 956) (by decide +kernel)⟩
theorem lw_p40 : lw_okq (⟨"SecondHelping$Plans", "totalByTurns", "(III)I"⟩, 3) := ⟨⟨by decide +kernel, by decide +kernel⟩, List.mem_of_getElem? (i := 208) (by decide +kernel), List.mem_of_getElem? (i := 1002) (by decide +kernel), List.mem_of_getElem? (i := 1003) (by decide +kernel)⟩
theorem lw_p41 : lw_okq (⟨"SecondHelping$Marking", "distance", "(II)I"⟩, 2) := ⟨⟨by decide +kernel, by decide +kernel⟩, List.mem_of_getElem? (i := 251) (by decide +kernel), List.mem_of_getElem? (i := 1023) (by decide +kernel), List.mem_of_getElem? (i := 1024) (by decide +kernel)⟩
theorem lw_p42 : lw_okq (⟨"SecondHelping$Marking", "distancesFrom", "(I)I"⟩, 2) := ⟨⟨by decide +kernel, by decide +kernel⟩, List.mem_of_getElem? (i := 251) (by decide +kernel), List.mem_of_getElem? (i := 1032) (by decide +kernel), List.mem_of_getElem? (i := 1033) (by decide +kernel)⟩
theorem lw_p43 : lw_okq (⟨"SecondHelping$LogBook", "sumOfKind", "(I)I"⟩, 5) := ⟨⟨by decide +kernel, by decide +kernel⟩, List.mem_of_getElem? (i := 167) (by decide +kernel), List.mem_of_getElem? (i := 1052) (by decide +kernel), List.mem_of_getElem? (i := 1053) (by decide +kernel)⟩
theorem lw_p44 : lw_okq (⟨"SecondHelping$LogBook", "isInLog", "(I)Z"⟩, 5) := ⟨⟨by decide +kernel, by decide +kernel⟩, List.mem_of_getElem? (i := 167) (by decide +kernel), List.mem_of_getElem? (i := 1068) (by decide +kernel), List.mem_of_getElem? (i := 1069) (by decide +kernel)⟩
theorem lw_p45 : lw_okq (⟨"SecondHelping$LogBook", "sumBanning", "(I)I"⟩, 5) := ⟨⟨by decide +kernel, by decide +kernel⟩, List.mem_of_getElem? (i := 167) (by decide +kernel), List.mem_of_getElem? (i := 1072) (by decide +kernel), List.mem_of_getElem? (i := 1073) (by decide +kernel)⟩
theorem lw_p46 : lw_okq (⟨"SecondHelping$LogBook", "sumMoved", "(I)I"⟩, 5) := ⟨⟨by decide +kernel, by decide +kernel⟩, List.mem_of_getElem? (i := 167) (by decide +kernel), List.mem_of_getElem? (i := 1084) (by decide +kernel), List.mem_of_getElem? (i := 1085) (by decide +kernel)⟩
theorem lw_p47 : lw_okq (⟨"SecondHelping$Marking", "isNewSet", "(I)Z"⟩, 2) := ⟨⟨by decide +kernel, by decide +kernel⟩, List.mem_of_getElem? (i := 251) (by decide +kernel), List.mem_of_getElem? (i := 1100) (by decide +kernel), List.mem_of_getElem? (i := 1101) (by decide +kernel)⟩
def lw_privs_3 : List (MethodName × Nat) := [(⟨"SecondHelping$Marking", "marksOf", "(I)I"⟩, 2), (⟨"SecondHelping$Marking", "nextOf", "(I)I"⟩, 2), (⟨"SecondHelping", "refuseLong", "(I)J"⟩, 14), (⟨"SecondHelping$Likeness", "lengthen", "(I)V"⟩, 6), (⟨"SecondHelping$Likeness", "mayFollow", "(II)Z"⟩, 6), (⟨"SecondHelping$Likeness", "spread", "(I)I"⟩, 6), (⟨"SecondHelping$Likeness", "heapOf", "(I)I"⟩, 6), (⟨"SecondHelping$LogBook", "pureFrom", "(I)I"⟩, 5), (⟨"SecondHelping$Plans", "totalByTurns", "(III)I"⟩, 3), (⟨"SecondHelping$Marking", "distance", "(II)I"⟩, 2), (⟨"SecondHelping$Marking", "distancesFrom", "(I)I"⟩, 2), (⟨"SecondHelping$LogBook", "sumOfKind", "(I)I"⟩, 5), (⟨"SecondHelping$LogBook", "isInLog", "(I)Z"⟩, 5), (⟨"SecondHelping$LogBook", "sumBanning", "(I)I"⟩, 5), (⟨"SecondHelping$LogBook", "sumMoved", "(I)I"⟩, 5), (⟨"SecondHelping$Marking", "isNewSet", "(I)Z"⟩, 2)]
theorem lw_r3 : ∀ q ∈ lw_privs_3, lw_okq q := List.forall_mem_cons.mpr ⟨lw_p32, List.forall_mem_cons.mpr ⟨lw_p33, List.forall_mem_cons.mpr ⟨lw_p34, List.forall_mem_cons.mpr ⟨lw_p35, List.forall_mem_cons.mpr ⟨lw_p36, List.forall_mem_cons.mpr ⟨lw_p37, List.forall_mem_cons.mpr ⟨lw_p38, List.forall_mem_cons.mpr ⟨lw_p39, List.forall_mem_cons.mpr ⟨lw_p40, List.forall_mem_cons.mpr ⟨lw_p41, List.forall_mem_cons.mpr ⟨lw_p42, List.forall_mem_cons.mpr ⟨lw_p43, List.forall_mem_cons.mpr ⟨lw_p44, List.forall_mem_cons.mpr ⟨lw_p45, List.forall_mem_cons.mpr ⟨lw_p46, List.forall_mem_cons.mpr ⟨lw_p47, fun _ h => absurd h List.not_mem_nil⟩⟩⟩⟩⟩⟩⟩⟩⟩⟩⟩⟩⟩⟩⟩⟩
theorem lw_p48 : lw_okq (⟨"SecondHelping", "countRefused", "(I)I"⟩, 14) := ⟨⟨by decide +kernel, by decide +kernel⟩, List.mem_of_getElem? (i := 19) (by decide +kernel), List.mem_of_getElem? (i := 1163) (by decide +kernel), List.mem_of_getElem? (i := 1164) (by decide +kernel)⟩
theorem lw_p49 : lw_okq (⟨"SecondHelpingModel", "no", "(I)I"⟩, 29) := ⟨⟨by decide +kernel, by decide +kernel⟩, List.mem_of_getElem? (i := 1167) (by decide +kernel), List.mem_of_getElem? (i := 1268) (by decide +kernel), List.mem_of_getElem? (i := 1269) (by decide +kernel)⟩
theorem lw_p50 : lw_okq (⟨"SecondHelpingModel", "statement", "()Z"⟩, 29) := ⟨⟨by decide +kernel, by decide +kernel⟩, List.mem_of_getElem? (i := 1167) (by decide +kernel), List.mem_of_getElem? (i := 1276) (by decide +kernel), List.mem_of_getElem? (i := 1277) (by decide +kernel)⟩
theorem lw_p51 : lw_okq (⟨"SecondHelpingModel", "peeked", "()I"⟩, 29) := ⟨⟨by decide +kernel, by decide +kernel⟩, List.mem_of_getElem? (i := 1167) (by decide +kernel), List.mem_of_getElem? (i := 1280) (by decide +kernel), List.mem_of_getElem? (i := 1281) (by decide +kernel)⟩
theorem lw_p52 : lw_okq (⟨"SecondHelpingModel", "readsAll", "(II)Z"⟩, 29) := ⟨⟨by decide +kernel, by decide +kernel⟩, List.mem_of_getElem? (i := 1167) (by decide +kernel), List.mem_of_getElem? (i := 1284) (by decide +kernel), List.mem_of_getElem? (i := 1285) (by decide +kernel)⟩
theorem lw_p53 : lw_okq (⟨"SecondHelpingModel", "readsDigits", "(II)Z"⟩, 29) := ⟨⟨by decide +kernel, by decide +kernel⟩, List.mem_of_getElem? (i := 1167) (by decide +kernel), List.mem_of_getElem? (i := 1288) (by decide +kernel), List.mem_of_getElem? (i := 1289) (by decide +kernel)⟩
theorem lw_p54 : lw_okq (⟨"SecondHelpingModel", "passesAll", "(IZ)V"⟩, 29) := ⟨⟨by decide +kernel, by decide +kernel⟩, List.mem_of_getElem? (i := 1167) (by decide +kernel), List.mem_of_getElem? (i := 1295) (by decide +kernel), List.mem_of_getElem? (i := 1296) (by decide +kernel)⟩
theorem lw_p55 : lw_okq (⟨"SecondHelpingModel", "passes", "([I)V"⟩, 29) := ⟨⟨by decide +kernel, by decide +kernel⟩, List.mem_of_getElem? (i := 1167) (by decide +kernel), List.mem_of_getElem? (i := 1299) (by decide +kernel), List.mem_of_getElem? (i := 1300) (by decide +kernel)⟩
theorem lw_p56 : lw_okq (⟨"SecondHelpingModel", "passOne", "(I)I"⟩, 29) := ⟨⟨by decide +kernel, by decide +kernel⟩, List.mem_of_getElem? (i := 1167) (by decide +kernel), List.mem_of_getElem? (i := 1303) (by decide +kernel), List.mem_of_getElem? (i := 1304) (by decide +kernel)⟩
theorem lw_p57 : lw_okq (⟨"SecondHelpingModel", "comes", "(I)Z"⟩, 29) := ⟨⟨by decide +kernel, by decide +kernel⟩, List.mem_of_getElem? (i := 1167) (by decide +kernel), List.mem_of_getElem? (i := 1307) (by decide +kernel), List.mem_of_getElem? (i := 1308) (by decide +kernel)⟩
theorem lw_p58 : lw_okq (⟨"SecondHelpingModel", "adds", "(III)V"⟩, 29) := ⟨⟨by decide +kernel, by decide +kernel⟩, List.mem_of_getElem? (i := 1167) (by decide +kernel), List.mem_of_getElem? (i := 1311) (by decide +kernel), List.mem_of_getElem? (i := 1312) (by decide +kernel)⟩
theorem lw_p59 : lw_okq (⟨"SecondHelpingModel", "isDoing", "(I)Z"⟩, 29) := ⟨⟨by decide +kernel, by decide +kernel⟩, List.mem_of_getElem? (i := 1167) (by decide +kernel), List.mem_of_getElem? (i := 1315) (by decide +kernel), List.mem_of_getElem? (i := 1316) (by decide +kernel)⟩
theorem lw_p60 : lw_okq (⟨"SecondHelpingModel", "keepsBack", "()V"⟩, 29) := ⟨⟨by decide +kernel, by decide +kernel⟩, List.mem_of_getElem? (i := 1167) (by decide +kernel), List.mem_of_getElem? (i := 1346) (by decide +kernel), List.mem_of_getElem? (i := 1347) (by decide +kernel)⟩
theorem lw_p61 : lw_okq (⟨"SecondHelpingModel", "dueAt", "(I)I"⟩, 29) := ⟨⟨by decide +kernel, by decide +kernel⟩, List.mem_of_getElem? (i := 1167) (by decide +kernel), List.mem_of_getElem? (i := 1350) (by decide +kernel), List.mem_of_getElem? (i := 1351) (by decide +kernel)⟩
theorem lw_p62 : lw_okq (⟨"SecondHelpingModel", "repeatsAt", "(II)I"⟩, 29) := ⟨⟨by decide +kernel, by decide +kernel⟩, List.mem_of_getElem? (i := 1167) (by decide +kernel), List.mem_of_getElem? (i := 1354) (by decide +kernel), List.mem_of_getElem? (i := 1355) (by decide +kernel)⟩
theorem lw_p63 : lw_okq (⟨"SecondHelpingModel", "areSame", "(II)Z"⟩, 29) := ⟨⟨by decide +kernel, by decide +kernel⟩, List.mem_of_getElem? (i := 1167) (by decide +kernel), List.mem_of_getElem? (i := 1358) (by decide +kernel), List.mem_of_getElem? (i := 1359) (by decide +kernel)⟩
def lw_privs_4 : List (MethodName × Nat) := [(⟨"SecondHelping", "countRefused", "(I)I"⟩, 14), (⟨"SecondHelpingModel", "no", "(I)I"⟩, 29), (⟨"SecondHelpingModel", "statement", "()Z"⟩, 29), (⟨"SecondHelpingModel", "peeked", "()I"⟩, 29), (⟨"SecondHelpingModel", "readsAll", "(II)Z"⟩, 29), (⟨"SecondHelpingModel", "readsDigits", "(II)Z"⟩, 29), (⟨"SecondHelpingModel", "passesAll", "(IZ)V"⟩, 29), (⟨"SecondHelpingModel", "passes", "([I)V"⟩, 29), (⟨"SecondHelpingModel", "passOne", "(I)I"⟩, 29), (⟨"SecondHelpingModel", "comes", "(I)Z"⟩, 29), (⟨"SecondHelpingModel", "adds", "(III)V"⟩, 29), (⟨"SecondHelpingModel", "isDoing", "(I)Z"⟩, 29), (⟨"SecondHelpingModel", "keepsBack", "()V"⟩, 29), (⟨"SecondHelpingModel", "dueAt", "(I)I"⟩, 29), (⟨"SecondHelpingModel", "repeatsAt", "(II)I"⟩, 29), (⟨"SecondHelpingModel", "areSame", "(II)Z"⟩, 29)]
theorem lw_r4 : ∀ q ∈ lw_privs_4, lw_okq q := List.forall_mem_cons.mpr ⟨lw_p48, List.forall_mem_cons.mpr ⟨lw_p49, List.forall_mem_cons.mpr ⟨lw_p50, List.forall_mem_cons.mpr ⟨lw_p51, List.forall_mem_cons.mpr ⟨lw_p52, List.forall_mem_cons.mpr ⟨lw_p53, List.forall_mem_cons.mpr ⟨lw_p54, List.forall_mem_cons.mpr ⟨lw_p55, List.forall_mem_cons.mpr ⟨lw_p56, List.forall_mem_cons.mpr ⟨lw_p57, List.forall_mem_cons.mpr ⟨lw_p58, List.forall_mem_cons.mpr ⟨lw_p59, List.forall_mem_cons.mpr ⟨lw_p60, List.forall_mem_cons.mpr ⟨lw_p61, List.forall_mem_cons.mpr ⟨lw_p62, List.forall_mem_cons.mpr ⟨lw_p63, fun _ h => absurd h List.not_mem_nil⟩⟩⟩⟩⟩⟩⟩⟩⟩⟩⟩⟩⟩⟩⟩⟩
theorem lw_p64 : lw_okq (⟨"SecondHelpingModel", "dueOf", "(II)I"⟩, 29) := ⟨⟨by decide +kernel, by decide +kernel⟩, List.mem_of_getElem? (i := 1167) (by decide +kernel), List.mem_of_getElem? (i := 1365) (by decide +kernel), List.mem_of_getElem? (i := 1366) (by decide +kernel)⟩
theorem lw_p65 : lw_okq (⟨"SecondHelpingModel", "isPlace", "(I)Z"⟩, 29) := ⟨⟨by decide +kernel, by decide +kernel⟩, List.mem_of_getElem? (i := 1167) (by decide +kernel), List.mem_of_getElem? (i := 1393) (by decide +kernel), List.mem_of_getElem? (i := 1394) (by decide +kernel)⟩
theorem lw_p66 : lw_okq (⟨"SecondHelpingModel", "all", "()I"⟩, 29) := ⟨⟨by decide +kernel, by decide +kernel⟩, List.mem_of_getElem? (i := 1167) (by decide +kernel), List.mem_of_getElem? (i := 1401) (by decide +kernel), List.mem_of_getElem? (i := 1402) (by decide +kernel)⟩
theorem lw_p67 : lw_okq (⟨"SecondHelpingModel", "nextOf", "(I)I"⟩, 29) := ⟨⟨by decide +kernel, by decide +kernel⟩, List.mem_of_getElem? (i := 1167) (by decide +kernel), List.mem_of_getElem? (i := 1409) (by decide +kernel), List.mem_of_getElem? (i := 1410) (by decide +kernel)⟩
theorem lw_p68 : lw_okq (⟨"SecondHelpingModel", "findLeast", "(I)V"⟩, 29) := ⟨⟨by decide +kernel, by decide +kernel⟩, List.mem_of_getElem? (i := 1167) (by decide +kernel), List.mem_of_getElem? (i := 1425) (by decide +kernel), List.mem_of_getElem? (i := 1426) (by decide +kernel)⟩
theorem lw_p69 : lw_okq (⟨"SecondHelpingModel", "dueBehind", "(II)I"⟩, 29) := ⟨⟨by decide +kernel, by decide +kernel⟩, List.mem_of_getElem? (i := 1167) (by decide +kernel), List.mem_of_getElem? (i := 1433) (by decide +kernel), List.mem_of_getElem? (i := 1434) (by decide +kernel)⟩
theorem lw_p70 : lw_okq (⟨"SecondHelpingModel", "firstOf", "(II)I"⟩, 29) := ⟨⟨by decide +kernel, by decide +kernel⟩, List.mem_of_getElem? (i := 1167) (by decide +kernel), List.mem_of_getElem? (i := 1437) (by decide +kernel), List.mem_of_getElem? (i := 1438) (by decide +kernel)⟩
theorem lw_p71 : lw_okq (⟨"SecondHelpingModel", "areUnlike", "(I)Z"⟩, 29) := ⟨⟨by decide +kernel, by decide +kernel⟩, List.mem_of_getElem? (i := 1167) (by decide +kernel), List.mem_of_getElem? (i := 1445) (by decide +kernel), List.mem_of_getElem? (i := 1446) (by decide +kernel)⟩
theorem lw_p72 : lw_okq (⟨"SecondHelpingModel", "likesOf", "(I)I"⟩, 29) := ⟨⟨by decide +kernel, by decide +kernel⟩, List.mem_of_getElem? (i := 1167) (by decide +kernel), List.mem_of_getElem? (i := 1457) (by decide +kernel), List.mem_of_getElem? (i := 1458) (by decide +kernel)⟩
theorem lw_p73 : lw_okq (⟨"SecondHelpingModel", "thinks", "()V"⟩, 29) := ⟨⟨by decide +kernel, by decide +kernel⟩, List.mem_of_getElem? (i := 1167) (by decide +kernel), List.mem_of_getElem? (i := 1465) (by decide +kernel), List.mem_of_getElem? (i := 1466) (by decide +kernel)⟩
theorem lw_p74 : lw_okq (⟨"SecondHelpingModel", "lays", "(I)V"⟩, 29) := ⟨⟨by decide +kernel, by decide +kernel⟩, List.mem_of_getElem? (i := 1167) (by decide +kernel), List.mem_of_getElem? (i := 1469) (by decide +kernel), List.mem_of_getElem? (i := 1470) (by decide +kernel)⟩
theorem lw_p75 : lw_okq (⟨"SecondHelpingModel", "forgets", "()V"⟩, 29) := ⟨⟨by decide +kernel, by decide +kernel⟩, List.mem_of_getElem? (i := 1167) (by decide +kernel), List.mem_of_getElem? (i := 1473) (by decide +kernel), List.mem_of_getElem? (i := 1474) (by decide +kernel)⟩
theorem lw_p76 : lw_okq (⟨"SecondHelpingModel", "isSo", "()Z"⟩, 29) := ⟨⟨by decide +kernel, by decide +kernel⟩, List.mem_of_getElem? (i := 1167) (by decide +kernel), List.mem_of_getElem? (i := 1484) (by decide +kernel), List.mem_of_getElem? (i := 1485) (by decide +kernel)⟩
theorem lw_p77 : lw_okq (⟨"SecondHelpingModel", "unlikeDues", "(I)I"⟩, 29) := ⟨⟨by decide +kernel, by decide +kernel⟩, List.mem_of_getElem? (i := 1167) (by decide +kernel), List.mem_of_getElem? (i := 1492) (by decide +kernel), List.mem_of_getElem? (i := 1493) (by decide +kernel)⟩
theorem lw_p78 : lw_okq (⟨"SecondHelpingModel", "dueOfTwo", "(I)I"⟩, 29) := ⟨⟨by decide +kernel, by decide +kernel⟩, List.mem_of_getElem? (i := 1167) (by decide +kernel), List.mem_of_getElem? (i := 1504) (by decide +kernel), List.mem_of_getElem? (i := 1505) (by decide +kernel)⟩
theorem lw_p79 : lw_okq (⟨"SecondHelpingModel", "savesAt", "(I)I"⟩, 29) := ⟨⟨by decide +kernel, by decide +kernel⟩, List.mem_of_getElem? (i := 1167) (by decide +kernel), List.mem_of_getElem? (i := 1512) (by decide +kernel), List.mem_of_getElem? (i := 1513) (by decide +kernel)⟩
def lw_privs_5 : List (MethodName × Nat) := [(⟨"SecondHelpingModel", "dueOf", "(II)I"⟩, 29), (⟨"SecondHelpingModel", "isPlace", "(I)Z"⟩, 29), (⟨"SecondHelpingModel", "all", "()I"⟩, 29), (⟨"SecondHelpingModel", "nextOf", "(I)I"⟩, 29), (⟨"SecondHelpingModel", "findLeast", "(I)V"⟩, 29), (⟨"SecondHelpingModel", "dueBehind", "(II)I"⟩, 29), (⟨"SecondHelpingModel", "firstOf", "(II)I"⟩, 29), (⟨"SecondHelpingModel", "areUnlike", "(I)Z"⟩, 29), (⟨"SecondHelpingModel", "likesOf", "(I)I"⟩, 29), (⟨"SecondHelpingModel", "thinks", "()V"⟩, 29), (⟨"SecondHelpingModel", "lays", "(I)V"⟩, 29), (⟨"SecondHelpingModel", "forgets", "()V"⟩, 29), (⟨"SecondHelpingModel", "isSo", "()Z"⟩, 29), (⟨"SecondHelpingModel", "unlikeDues", "(I)I"⟩, 29), (⟨"SecondHelpingModel", "dueOfTwo", "(I)I"⟩, 29), (⟨"SecondHelpingModel", "savesAt", "(I)I"⟩, 29)]
theorem lw_r5 : ∀ q ∈ lw_privs_5, lw_okq q := List.forall_mem_cons.mpr ⟨lw_p64, List.forall_mem_cons.mpr ⟨lw_p65, List.forall_mem_cons.mpr ⟨lw_p66, List.forall_mem_cons.mpr ⟨lw_p67, List.forall_mem_cons.mpr ⟨lw_p68, List.forall_mem_cons.mpr ⟨lw_p69, List.forall_mem_cons.mpr ⟨lw_p70, List.forall_mem_cons.mpr ⟨lw_p71, List.forall_mem_cons.mpr ⟨lw_p72, List.forall_mem_cons.mpr ⟨lw_p73, List.forall_mem_cons.mpr ⟨lw_p74, List.forall_mem_cons.mpr ⟨lw_p75, List.forall_mem_cons.mpr ⟨lw_p76, List.forall_mem_cons.mpr ⟨lw_p77, List.forall_mem_cons.mpr ⟨lw_p78, List.forall_mem_cons.mpr ⟨lw_p79, fun _ h => absurd h List.not_mem_nil⟩⟩⟩⟩⟩⟩⟩⟩⟩⟩⟩⟩⟩⟩⟩⟩
theorem lw_p80 : lw_okq (⟨"SecondHelpingModel", "exchanges", "(II)V"⟩, 29) := ⟨⟨by decide +kernel, by decide +kernel⟩, List.mem_of_getElem? (i := 1167) (by decide +kernel), List.mem_of_getElem? (i := 1520) (by decide +kernel), List.mem_of_getElem? (i := 1521) (by decide +kernel)⟩
theorem lw_p81 : lw_okq (⟨"SecondHelpingModel", "marksOf", "(I)I"⟩, 29) := ⟨⟨by decide +kernel, by decide +kernel⟩, List.mem_of_getElem? (i := 1167) (by decide +kernel), List.mem_of_getElem? (i := 1532) (by decide +kernel), List.mem_of_getElem? (i := 1533) (by decide +kernel)⟩
theorem lw_p82 : lw_okq (⟨"SecondHelpingModel", "nextsOf", "(I)I"⟩, 29) := ⟨⟨by decide +kernel, by decide +kernel⟩, List.mem_of_getElem? (i := 1167) (by decide +kernel), List.mem_of_getElem? (i := 1536) (by decide +kernel), List.mem_of_getElem? (i := 1537) (by decide +kernel)⟩
theorem lw_p83 : lw_okq (⟨"SecondHelpingModel", "lowest", "(I)J"⟩, 29) := ⟨⟨by decide +kernel, by decide +kernel⟩, List.mem_of_getElem? (i := 1167) (by decide +kernel), List.mem_of_getElem? (i := 1544) (by decide +kernel), List.mem_of_getElem? (i := 1545) (by decide +kernel)⟩
theorem lw_p84 : lw_okq (⟨"SecondHelpingModel", "mayFollow", "(IIII)Z"⟩, 29) := ⟨⟨by decide +kernel, by decide +kernel⟩, List.mem_of_getElem? (i := 1167) (by decide +kernel), List.mem_of_getElem? (i := 1549) (by decide +kernel), List.mem_of_getElem? (i := 1550) (by decide +kernel)⟩
theorem lw_p85 : lw_okq (⟨"SecondHelpingModel", "sameAs", "(I)I"⟩, 29) := ⟨⟨by decide +kernel, by decide +kernel⟩, List.mem_of_getElem? (i := 1167) (by decide +kernel), List.mem_of_getElem? (i := 1579) (by decide +kernel), List.mem_of_getElem? (i := 1580) (by decide +kernel)⟩
theorem lw_p86 : lw_okq (⟨"SecondHelpingModel", "heapOf", "(I)I"⟩, 29) := ⟨⟨by decide +kernel, by decide +kernel⟩, List.mem_of_getElem? (i := 1167) (by decide +kernel), List.mem_of_getElem? (i := 1587) (by decide +kernel), List.mem_of_getElem? (i := 1588) (by decide +kernel)⟩
theorem lw_p87 : lw_okq (⟨"SecondHelpingModel", "isPure", "(II)Z"⟩, 29) := ⟨⟨by decide +kernel, by decide +kernel⟩, List.mem_of_getElem? (i := 1167) (by decide +kernel), List.mem_of_getElem? (i := 1595) (by decide +kernel), List.mem_of_getElem? (i := 1596) (by decide +kernel)⟩
theorem lw_p88 : lw_okq (⟨"SecondHelpingModel", "noMore", "()V"⟩, 29) := ⟨⟨by decide +kernel, by decide +kernel⟩, List.mem_of_getElem? (i := 1167) (by decide +kernel), List.mem_of_getElem? (i := 1615) (by decide +kernel), List.mem_of_getElem? (i := 1616) (by decide +kernel)⟩
theorem lw_p89 : lw_okq (⟨"SecondHelpingModel", "leastWithMore", "()I"⟩, 29) := ⟨⟨by decide +kernel, by decide +kernel⟩, List.mem_of_getElem? (i := 1167) (by decide +kernel), List.mem_of_getElem? (i := 1619) (by decide +kernel), List.mem_of_getElem? (i := 1620) (by decide +kernel)⟩
theorem lw_p90 : lw_okq (⟨"SecondHelpingModel", "dueWithMore", "(I)I"⟩, 29) := ⟨⟨by decide +kernel, by decide +kernel⟩, List.mem_of_getElem? (i := 1167) (by decide +kernel), List.mem_of_getElem? (i := 1623) (by decide +kernel), List.mem_of_getElem? (i := 1624) (by decide +kernel)⟩
theorem lw_p91 : lw_okq (⟨"SecondHelpingModel", "dueOfPair", "(III)I"⟩, 29) := ⟨⟨by decide +kernel, by decide +kernel⟩, List.mem_of_getElem? (i := 1167) (by decide +kernel), List.mem_of_getElem? (i := 1635) (by decide +kernel), List.mem_of_getElem? (i := 1636) (by decide +kernel)⟩
theorem lw_p92 : lw_okq (⟨"SecondHelpingModel", "apartOf", "(I)I"⟩, 29) := ⟨⟨by decide +kernel, by decide +kernel⟩, List.mem_of_getElem? (i := 1167) (by decide +kernel), List.mem_of_getElem? (i := 1643) (by decide +kernel), List.mem_of_getElem? (i := 1644) (by decide +kernel)⟩
theorem lw_p93 : lw_okq (⟨"SecondHelpingModel", "dueOfKind", "(I)I"⟩, 29) := ⟨⟨by decide +kernel, by decide +kernel⟩, List.mem_of_getElem? (i := 1167) (by decide +kernel), List.mem_of_getElem? (i := 1655) (by decide +kernel), List.mem_of_getElem? (i := 1656) (by decide +kernel)⟩
theorem lw_p94 : lw_okq (⟨"SecondHelpingModel", "isDone", "(I)Z"⟩, 29) := ⟨⟨by decide +kernel, by decide +kernel⟩, List.mem_of_getElem? (i := 1167) (by decide +kernel), List.mem_of_getElem? (i := 1663) (by decide +kernel), List.mem_of_getElem? (i := 1664) (by decide +kernel)⟩
theorem lw_p95 : lw_okq (⟨"SecondHelpingModel", "dueWithout", "(I)I"⟩, 29) := ⟨⟨by decide +kernel, by decide +kernel⟩, List.mem_of_getElem? (i := 1167) (by decide +kernel), List.mem_of_getElem? (i := 1667) (by decide +kernel), List.mem_of_getElem? (i := 1668) (by decide +kernel)⟩
def lw_privs_6 : List (MethodName × Nat) := [(⟨"SecondHelpingModel", "exchanges", "(II)V"⟩, 29), (⟨"SecondHelpingModel", "marksOf", "(I)I"⟩, 29), (⟨"SecondHelpingModel", "nextsOf", "(I)I"⟩, 29), (⟨"SecondHelpingModel", "lowest", "(I)J"⟩, 29), (⟨"SecondHelpingModel", "mayFollow", "(IIII)Z"⟩, 29), (⟨"SecondHelpingModel", "sameAs", "(I)I"⟩, 29), (⟨"SecondHelpingModel", "heapOf", "(I)I"⟩, 29), (⟨"SecondHelpingModel", "isPure", "(II)Z"⟩, 29), (⟨"SecondHelpingModel", "noMore", "()V"⟩, 29), (⟨"SecondHelpingModel", "leastWithMore", "()I"⟩, 29), (⟨"SecondHelpingModel", "dueWithMore", "(I)I"⟩, 29), (⟨"SecondHelpingModel", "dueOfPair", "(III)I"⟩, 29), (⟨"SecondHelpingModel", "apartOf", "(I)I"⟩, 29), (⟨"SecondHelpingModel", "dueOfKind", "(I)I"⟩, 29), (⟨"SecondHelpingModel", "isDone", "(I)Z"⟩, 29), (⟨"SecondHelpingModel", "dueWithout", "(I)I"⟩, 29)]
theorem lw_r6 : ∀ q ∈ lw_privs_6, lw_okq q := List.forall_mem_cons.mpr ⟨lw_p80, List.forall_mem_cons.mpr ⟨lw_p81, List.forall_mem_cons.mpr ⟨lw_p82, List.forall_mem_cons.mpr ⟨lw_p83, List.forall_mem_cons.mpr ⟨lw_p84, List.forall_mem_cons.mpr ⟨lw_p85, List.forall_mem_cons.mpr ⟨lw_p86, List.forall_mem_cons.mpr ⟨lw_p87, List.forall_mem_cons.mpr ⟨lw_p88, List.forall_mem_cons.mpr ⟨lw_p89, List.forall_mem_cons.mpr ⟨lw_p90, List.forall_mem_cons.mpr ⟨lw_p91, List.forall_mem_cons.mpr ⟨lw_p92, List.forall_mem_cons.mpr ⟨lw_p93, List.forall_mem_cons.mpr ⟨lw_p94, List.forall_mem_cons.mpr ⟨lw_p95, fun _ h => absurd h List.not_mem_nil⟩⟩⟩⟩⟩⟩⟩⟩⟩⟩⟩⟩⟩⟩⟩⟩
theorem lw_p96 : lw_okq (⟨"SecondHelpingModel", "dueMoved", "(I)I"⟩, 29) := ⟨⟨by decide +kernel, by decide +kernel⟩, List.mem_of_getElem? (i := 1167) (by decide +kernel), List.mem_of_getElem? (i := 1675) (by decide +kernel), List.mem_of_getElem? (i := 1676) (by decide +kernel)⟩
def lw_privs_7 : List (MethodName × Nat) := [(⟨"SecondHelpingModel", "dueMoved", "(I)I"⟩, 29)]
theorem lw_r7 : ∀ q ∈ lw_privs_7, lw_okq q := List.forall_mem_cons.mpr ⟨lw_p96, fun _ h => absurd h List.not_mem_nil⟩
def lw_privs : List (MethodName × Nat) := lw_privs_1 ++ (lw_privs_2 ++ (lw_privs_3 ++ (lw_privs_4 ++ (lw_privs_5 ++ (lw_privs_6 ++ (lw_privs_7))))))
def lw_tbl : List Cond := k2_sels lw_privs ++ tables_1
theorem lw_privs_ok : ∀ q ∈ lw_privs, lw_okq q := by
  show ∀ q ∈ lw_privs_1 ++ (lw_privs_2 ++ (lw_privs_3 ++ (lw_privs_4 ++ (lw_privs_5 ++ (lw_privs_6 ++ (lw_privs_7)))))), lw_okq q
  exact List.forall_mem_append.mpr ⟨lw_r1, List.forall_mem_append.mpr ⟨lw_r2, List.forall_mem_append.mpr ⟨lw_r3, List.forall_mem_append.mpr ⟨lw_r4, List.forall_mem_append.mpr ⟨lw_r5, List.forall_mem_append.mpr ⟨lw_r6, lw_r7⟩⟩⟩⟩⟩⟩
-- ===== end of PART A; then your names; then what follows =====
end
section
/-! ===== BEGIN printed: names, fields, word lists, decode rows ===== -/
def RX0 : String := "SecondHelping$Board"
def TX0 : u_T := fun k => match k with
  | 0 => ("SecondHelping$Board", "kinds", "[I", true)
  | 1 => ("SecondHelping$Board", "figures", "[I", true)
  | 2 => ("SecondHelping$Board", "marks", "[I", true)
  | 3 => ("SecondHelping$Board", "log", "[I", true)
  | 4 => ("SecondHelping$Board", "doings", "I", false)
  | 5 => ("SecondHelping$Board", "places", "I", false)
  | 6 => ("SecondHelping$Board", "type", "I", false)
  | _ => ("SecondHelping$Board", "t", "I", false)
def tyX0 : Nat → FieldType := fun k => match k with
  | 0 => .array .int
  | 1 => .array .int
  | 2 => .array .int
  | 3 => .array .int
  | 4 => .int
  | 5 => .int
  | 6 => .int
  | _ => .int
abbrev wsX00 : List Cond := u_ws RX0 TX0 8
theorem nmX0 : ∀ a, a < 8 → ∀ b, b < 8 → a ≠ b → (TX0 a).2.1 ≠ (TX0 b).2.1 := by decide +kernel
theorem tyX0_ok : ∀ k, k < 8 → parseFieldDescriptor (TX0 k).2.2.1 = some (tyX0 k) := by decide +kernel
abbrev cX0_init : ByteArray := prog_2_method_1_code
def yX0_init : MethodName := ⟨RX0, "<init>", "()V"⟩
abbrev cX0_become : ByteArray := prog_2_method_2_code
def yX0_become : MethodName := ⟨RX0, "become", "(LSecondHelping$Board;)V"⟩
abbrev cX0_hasDoing : ByteArray := prog_2_method_3_code
def yX0_hasDoing : MethodName := ⟨RX0, "hasDoing", "(I)Z"⟩
abbrev cX0_hasPlace : ByteArray := prog_2_method_4_code
def yX0_hasPlace : MethodName := ⟨RX0, "hasPlace", "(I)Z"⟩
abbrev cX0_hasRoomForDoing : ByteArray := prog_2_method_5_code
def yX0_hasRoomForDoing : MethodName := ⟨RX0, "hasRoomForDoing", "()Z"⟩
abbrev cX0_hasRoomForPlace : ByteArray := prog_2_method_6_code
def yX0_hasRoomForPlace : MethodName := ⟨RX0, "hasRoomForPlace", "()Z"⟩
abbrev cX0_addDoing : ByteArray := prog_2_method_7_code
def yX0_addDoing : MethodName := ⟨RX0, "addDoing", "(III)I"⟩
abbrev cX0_addPlace : ByteArray := prog_2_method_8_code
def yX0_addPlace : MethodName := ⟨RX0, "addPlace", "(I)V"⟩
abbrev cX0_setKind : ByteArray := prog_2_method_9_code
def yX0_setKind : MethodName := ⟨RX0, "setKind", "(III)V"⟩
abbrev cX0_setLaw : ByteArray := prog_2_method_10_code
def yX0_setLaw : MethodName := ⟨RX0, "setLaw", "(II)V"⟩
abbrev cX0_flipMark : ByteArray := prog_2_method_11_code
def yX0_flipMark : MethodName := ⟨RX0, "flipMark", "(II)V"⟩
abbrev cX0_areAlike : ByteArray := prog_2_method_12_code
def yX0_areAlike : MethodName := ⟨RX0, "areAlike", "(IIII)Z"⟩
abbrev cX0_dueFor : ByteArray := prog_2_method_13_code
def yX0_dueFor : MethodName := ⟨RX0, "dueFor", "(II)I"⟩
def RX1 : String := "SecondHelping$Letters"
def TX1 : u_T := fun k => match k with
  | 0 => ("SecondHelping$Letters", "letters", "[I", true)
  | 1 => ("SecondHelping$Letters", "trial", "LSecondHelping$Board;", true)
  | _ => ("SecondHelping$Letters", "count", "I", false)
def tyX1 : Nat → FieldType := fun k => match k with
  | 0 => .array .int
  | 1 => .object "SecondHelping$Board"
  | _ => .int
abbrev wsX10 : List Cond := u_ws RX1 TX1 3
theorem nmX1 : ∀ a, a < 3 → ∀ b, b < 3 → a ≠ b → (TX1 a).2.1 ≠ (TX1 b).2.1 := by decide +kernel
theorem tyX1_ok : ∀ k, k < 3 → parseFieldDescriptor (TX1 k).2.2.1 = some (tyX1 k) := by decide +kernel
abbrev cX1_init : ByteArray := prog_3_method_1_code
def yX1_init : MethodName := ⟨RX1, "<init>", "()V"⟩
abbrev cX1_add : ByteArray := prog_3_method_2_code
def yX1_add : MethodName := ⟨RX1, "add", "(I)I"⟩
abbrev cX1_tell : ByteArray := prog_3_method_3_code
def yX1_tell : MethodName := ⟨RX1, "tell", "(LSecondHelping$Board;)I"⟩
abbrev cX1_hear : ByteArray := prog_3_method_4_code
def yX1_hear : MethodName := ⟨RX1, "hear", "(LSecondHelping$Board;)I"⟩
abbrev cX1_firstWithoutForm : ByteArray := prog_3_method_5_code
def yX1_firstWithoutForm : MethodName := ⟨RX1, "firstWithoutForm", "()I"⟩
abbrev cX1_letterAt : ByteArray := prog_3_method_6_code
def yX1_letterAt : MethodName := ⟨RX1, "letterAt", "(I)I"⟩
abbrev cX1_digitAt : ByteArray := prog_3_method_7_code
def yX1_digitAt : MethodName := ⟨RX1, "digitAt", "(I)I"⟩
abbrev cX1_isDigit : ByteArray := prog_3_method_8_code
def yX1_isDigit : MethodName := ⟨RX1, "isDigit", "(I)Z"⟩
abbrev cX1_digitsBehind : ByteArray := prog_3_method_9_code
def yX1_digitsBehind : MethodName := ⟨RX1, "digitsBehind", "(I)I"⟩
abbrev cX1_comes : ByteArray := prog_3_method_10_code
def yX1_comes : MethodName := ⟨RX1, "comes", "(I)Z"⟩
abbrev cX1_comesDoing : ByteArray := prog_3_method_11_code
def yX1_comesDoing : MethodName := ⟨RX1, "comesDoing", "(III)Z"⟩
abbrev cX1_comesDone : ByteArray := prog_3_method_12_code
def yX1_comesDone : MethodName := ⟨RX1, "comesDone", "(I)Z"⟩
abbrev cX1_comesLaw : ByteArray := prog_3_method_13_code
def yX1_comesLaw : MethodName := ⟨RX1, "comesLaw", "(II)Z"⟩
abbrev cX1_comesMark : ByteArray := prog_3_method_14_code
def yX1_comesMark : MethodName := ⟨RX1, "comesMark", "(II)Z"⟩
def RX2 : String := "SecondHelping$Likeness"
def TX2 : u_T := fun k => match k with
  | 0 => ("SecondHelping$Likeness", "board", "LSecondHelping$Board;", true)
  | 1 => ("SecondHelping$Likeness", "reckoning", "LSecondHelping$Reckoning;", true)
  | 2 => ("SecondHelping$Likeness", "needed", "[I", true)
  | 3 => ("SecondHelping$Likeness", "apart", "[Z", true)
  | 4 => ("SecondHelping$Likeness", "rows", "[J", true)
  | _ => ("SecondHelping$Likeness", "longer", "[J", true)
def tyX2 : Nat → FieldType := fun k => match k with
  | 0 => .object "SecondHelping$Board"
  | 1 => .object "SecondHelping$Reckoning"
  | 2 => .array .int
  | 3 => .array .boolean
  | 4 => .array .long
  | _ => .array .long
abbrev wsX20 : List Cond := u_ws RX2 TX2 6
theorem nmX2 : ∀ a, a < 6 → ∀ b, b < 6 → a ≠ b → (TX2 a).2.1 ≠ (TX2 b).2.1 := by decide +kernel
theorem tyX2_ok : ∀ k, k < 6 → parseFieldDescriptor (TX2 k).2.2.1 = some (tyX2 k) := by decide +kernel
abbrev cX2_init : ByteArray := prog_4_method_1_code
def yX2_init : MethodName := ⟨RX2, "<init>", "(LSecondHelping$Board;LSecondHelping$Reckoning;)V"⟩
abbrev cX2_sets : ByteArray := prog_4_method_2_code
def yX2_sets : MethodName := ⟨RX2, "sets", "()I"⟩
abbrev cX2_areApart : ByteArray := prog_4_method_3_code
def yX2_areApart : MethodName := ⟨RX2, "areApart", "(I)Z"⟩
abbrev cX2_mostApart : ByteArray := prog_4_method_4_code
def yX2_mostApart : MethodName := ⟨RX2, "mostApart", "()I"⟩
abbrev cX2_fewestPeople : ByteArray := prog_4_method_5_code
def yX2_fewestPeople : MethodName := ⟨RX2, "fewestPeople", "()I"⟩
abbrev cX2_fewestFor : ByteArray := prog_4_method_6_code
def yX2_fewestFor : MethodName := ⟨RX2, "fewestFor", "(I)I"⟩
abbrev cX2_likesOf : ByteArray := prog_4_method_7_code
def yX2_likesOf : MethodName := ⟨RX2, "likesOf", "(I)I"⟩
abbrev cX2_tiesOf : ByteArray := prog_4_method_8_code
def yX2_tiesOf : MethodName := ⟨RX2, "tiesOf", "(I)I"⟩
abbrev cX2_withMostLikes : ByteArray := prog_4_method_9_code
def yX2_withMostLikes : MethodName := ⟨RX2, "withMostLikes", "()I"⟩
abbrev cX2_spread : ByteArray := prog_4_method_10_code
def yX2_spread : MethodName := ⟨RX2, "spread", "(I)I"⟩
abbrev cX2_shortestChain : ByteArray := prog_4_method_11_code
def yX2_shortestChain : MethodName := ⟨RX2, "shortestChain", "(II)I"⟩
abbrev cX2_allHeaps : ByteArray := prog_4_method_12_code
def yX2_allHeaps : MethodName := ⟨RX2, "allHeaps", "(I)I"⟩
abbrev cX2_heapOf : ByteArray := prog_4_method_13_code
def yX2_heapOf : MethodName := ⟨RX2, "heapOf", "(I)I"⟩
abbrev cX2_songRows : ByteArray := prog_4_method_14_code
def yX2_songRows : MethodName := ⟨RX2, "songRows", "(II)J"⟩
abbrev cX2_lengthen : ByteArray := prog_4_method_15_code
def yX2_lengthen : MethodName := ⟨RX2, "lengthen", "(I)V"⟩
abbrev cX2_mayFollow : ByteArray := prog_4_method_16_code
def yX2_mayFollow : MethodName := ⟨RX2, "mayFollow", "(II)Z"⟩
abbrev cX2_firstCaught : ByteArray := prog_4_method_17_code
def yX2_firstCaught : MethodName := ⟨RX2, "firstCaught", "(I)I"⟩
def RX3 : String := "SecondHelping$LogBook"
def TX3 : u_T := fun k => match k with
  | 0 => ("SecondHelping$LogBook", "board", "LSecondHelping$Board;", true)
  | 1 => ("SecondHelping$LogBook", "reckoning", "LSecondHelping$Reckoning;", true)
  | 2 => ("SecondHelping$LogBook", "repeats", "[I", true)
  | 3 => ("SecondHelping$LogBook", "dues", "[I", true)
  | _ => ("SecondHelping$LogBook", "alikeAhead", "[I", true)
def tyX3 : Nat → FieldType := fun k => match k with
  | 0 => .object "SecondHelping$Board"
  | 1 => .object "SecondHelping$Reckoning"
  | 2 => .array .int
  | 3 => .array .int
  | _ => .array .int
abbrev wsX30 : List Cond := u_ws RX3 TX3 5
theorem nmX3 : ∀ a, a < 5 → ∀ b, b < 5 → a ≠ b → (TX3 a).2.1 ≠ (TX3 b).2.1 := by decide +kernel
theorem tyX3_ok : ∀ k, k < 5 → parseFieldDescriptor (TX3 k).2.2.1 = some (tyX3 k) := by decide +kernel
abbrev cX3_init : ByteArray := prog_5_method_1_code
def yX3_init : MethodName := ⟨RX3, "<init>", "(LSecondHelping$Board;LSecondHelping$Reckoning;)V"⟩
abbrev cX3_reckonPlaces : ByteArray := prog_5_method_2_code
def yX3_reckonPlaces : MethodName := ⟨RX3, "reckonPlaces", "()V"⟩
abbrev cX3_total : ByteArray := prog_5_method_3_code
def yX3_total : MethodName := ⟨RX3, "total", "()I"⟩
abbrev cX3_ofPlace : ByteArray := prog_5_method_4_code
def yX3_ofPlace : MethodName := ⟨RX3, "ofPlace", "(II)I"⟩
abbrev cX3_firstAbove : ByteArray := prog_5_method_5_code
def yX3_firstAbove : MethodName := ⟨RX3, "firstAbove", "(I)I"⟩
abbrev cX3_withoutRepeats : ByteArray := prog_5_method_6_code
def yX3_withoutRepeats : MethodName := ⟨RX3, "withoutRepeats", "()I"⟩
abbrev cX3_totalOfKind : ByteArray := prog_5_method_7_code
def yX3_totalOfKind : MethodName := ⟨RX3, "totalOfKind", "(I)I"⟩
abbrev cX3_sumOfKind : ByteArray := prog_5_method_8_code
def yX3_sumOfKind : MethodName := ⟨RX3, "sumOfKind", "(I)I"⟩
abbrev cX3_dearestKind : ByteArray := prog_5_method_9_code
def yX3_dearestKind : MethodName := ⟨RX3, "dearestKind", "()I"⟩
abbrev cX3_sumWithout : ByteArray := prog_5_method_10_code
def yX3_sumWithout : MethodName := ⟨RX3, "sumWithout", "(I)I"⟩
abbrev cX3_savingOf : ByteArray := prog_5_method_11_code
def yX3_savingOf : MethodName := ⟨RX3, "savingOf", "(I)I"⟩
abbrev cX3_bestSaving : ByteArray := prog_5_method_12_code
def yX3_bestSaving : MethodName := ⟨RX3, "bestSaving", "()I"⟩
abbrev cX3_totalMoved : ByteArray := prog_5_method_13_code
def yX3_totalMoved : MethodName := ⟨RX3, "totalMoved", "(I)I"⟩
abbrev cX3_sumMoved : ByteArray := prog_5_method_14_code
def yX3_sumMoved : MethodName := ⟨RX3, "sumMoved", "(I)I"⟩
abbrev cX3_bestMove : ByteArray := prog_5_method_15_code
def yX3_bestMove : MethodName := ⟨RX3, "bestMove", "()I"⟩
abbrev cX3_totalFromBehind : ByteArray := prog_5_method_16_code
def yX3_totalFromBehind : MethodName := ⟨RX3, "totalFromBehind", "()I"⟩
abbrev cX3_bestExchange : ByteArray := prog_5_method_17_code
def yX3_bestExchange : MethodName := ⟨RX3, "bestExchange", "()I"⟩
abbrev cX3_sumExchanged : ByteArray := prog_5_method_18_code
def yX3_sumExchanged : MethodName := ⟨RX3, "sumExchanged", "(II)I"⟩
abbrev cX3_bestBan : ByteArray := prog_5_method_19_code
def yX3_bestBan : MethodName := ⟨RX3, "bestBan", "(I)I"⟩
abbrev cX3_isInLog : ByteArray := prog_5_method_20_code
def yX3_isInLog : MethodName := ⟨RX3, "isInLog", "(I)Z"⟩
abbrev cX3_sumBanning : ByteArray := prog_5_method_21_code
def yX3_sumBanning : MethodName := ⟨RX3, "sumBanning", "(I)I"⟩
abbrev cX3_splitInTwo : ByteArray := prog_5_method_22_code
def yX3_splitInTwo : MethodName := ⟨RX3, "splitInTwo", "(I)I"⟩
abbrev cX3_readAhead : ByteArray := prog_5_method_23_code
def yX3_readAhead : MethodName := ⟨RX3, "readAhead", "()V"⟩
abbrev cX3_sumSplit : ByteArray := prog_5_method_24_code
def yX3_sumSplit : MethodName := ⟨RX3, "sumSplit", "(II)I"⟩
abbrev cX3_areAlikePlaces : ByteArray := prog_5_method_25_code
def yX3_areAlikePlaces : MethodName := ⟨RX3, "areAlikePlaces", "(II)Z"⟩
abbrev cX3_longestPure : ByteArray := prog_5_method_26_code
def yX3_longestPure : MethodName := ⟨RX3, "longestPure", "(I)I"⟩
abbrev cX3_pureFrom : ByteArray := prog_5_method_27_code
def yX3_pureFrom : MethodName := ⟨RX3, "pureFrom", "(I)I"⟩
abbrev cX3_longestStreak : ByteArray := prog_5_method_28_code
def yX3_longestStreak : MethodName := ⟨RX3, "longestStreak", "()I"⟩
def RX4 : String := "SecondHelping$Luck"
def TX4 : u_T := fun k => match k with
  | 0 => ("SecondHelping$Luck", "board", "LSecondHelping$Board;", true)
  | _ => ("SecondHelping$Luck", "reckoning", "LSecondHelping$Reckoning;", true)
def tyX4 : Nat → FieldType := fun k => match k with
  | 0 => .object "SecondHelping$Board"
  | _ => .object "SecondHelping$Reckoning"
abbrev wsX40 : List Cond := u_ws RX4 TX4 2
theorem nmX4 : ∀ a, a < 2 → ∀ b, b < 2 → a ≠ b → (TX4 a).2.1 ≠ (TX4 b).2.1 := by decide +kernel
theorem tyX4_ok : ∀ k, k < 2 → parseFieldDescriptor (TX4 k).2.2.1 = some (tyX4 k) := by decide +kernel
abbrev cX4_init : ByteArray := prog_6_method_1_code
def yX4_init : MethodName := ⟨RX4, "<init>", "(LSecondHelping$Board;LSecondHelping$Reckoning;)V"⟩
abbrev cX4_nothingDue : ByteArray := prog_6_method_2_code
def yX4_nothingDue : MethodName := ⟨RX4, "nothingDue", "(II)J"⟩
abbrev cX4_luckyRows : ByteArray := prog_6_method_3_code
def yX4_luckyRows : MethodName := ⟨RX4, "luckyRows", "(LSecondHelping$Board;LSecondHelping$Reckoning;I)I"⟩
abbrev cX4_meanNext : ByteArray := prog_6_method_4_code
def yX4_meanNext : MethodName := ⟨RX4, "meanNext", "(I)J"⟩
abbrev cX4_lowest : ByteArray := prog_6_method_5_code
def yX4_lowest : MethodName := ⟨RX4, "lowest", "(JJI)J"⟩
abbrev cX4_weeks : ByteArray := prog_6_method_6_code
def yX4_weeks : MethodName := ⟨RX4, "weeks", "(III)I"⟩
def RX5 : String := "SecondHelping$Marking"
def TX5 : u_T := fun k => match k with
  | 0 => ("SecondHelping$Marking", "board", "LSecondHelping$Board;", true)
  | _ => ("SecondHelping$Marking", "reckoning", "LSecondHelping$Reckoning;", true)
def tyX5 : Nat → FieldType := fun k => match k with
  | 0 => .object "SecondHelping$Board"
  | _ => .object "SecondHelping$Reckoning"
abbrev wsX50 : List Cond := u_ws RX5 TX5 2
theorem nmX5 : ∀ a, a < 2 → ∀ b, b < 2 → a ≠ b → (TX5 a).2.1 ≠ (TX5 b).2.1 := by decide +kernel
theorem tyX5_ok : ∀ k, k < 2 → parseFieldDescriptor (TX5 k).2.2.1 = some (tyX5 k) := by decide +kernel
abbrev cX5_init : ByteArray := prog_7_method_1_code
def yX5_init : MethodName := ⟨RX5, "<init>", "(LSecondHelping$Board;LSecondHelping$Reckoning;)V"⟩
abbrev cX5_allCounted : ByteArray := prog_7_method_2_code
def yX5_allCounted : MethodName := ⟨RX5, "allCounted", "()I"⟩
abbrev cX5_bestFlip : ByteArray := prog_7_method_3_code
def yX5_bestFlip : MethodName := ⟨RX5, "bestFlip", "()I"⟩
abbrev cX5_totalFlipped : ByteArray := prog_7_method_4_code
def yX5_totalFlipped : MethodName := ⟨RX5, "totalFlipped", "(II)I"⟩
abbrev cX5_covering : ByteArray := prog_7_method_5_code
def yX5_covering : MethodName := ⟨RX5, "covering", "(II)I"⟩
abbrev cX5_marksOf : ByteArray := prog_7_method_6_code
def yX5_marksOf : MethodName := ⟨RX5, "marksOf", "(I)I"⟩
abbrev cX5_nextOf : ByteArray := prog_7_method_7_code
def yX5_nextOf : MethodName := ⟨RX5, "nextOf", "(I)I"⟩
abbrev cX5_closestTwo : ByteArray := prog_7_method_8_code
def yX5_closestTwo : MethodName := ⟨RX5, "closestTwo", "(I)I"⟩
abbrev cX5_distance : ByteArray := prog_7_method_9_code
def yX5_distance : MethodName := ⟨RX5, "distance", "(II)I"⟩
abbrev cX5_farthestTwo : ByteArray := prog_7_method_10_code
def yX5_farthestTwo : MethodName := ⟨RX5, "farthestTwo", "()I"⟩
abbrev cX5_centre : ByteArray := prog_7_method_11_code
def yX5_centre : MethodName := ⟨RX5, "centre", "()I"⟩
abbrev cX5_distancesFrom : ByteArray := prog_7_method_12_code
def yX5_distancesFrom : MethodName := ⟨RX5, "distancesFrom", "(I)I"⟩
abbrev cX5_mostlyHad : ByteArray := prog_7_method_13_code
def yX5_mostlyHad : MethodName := ⟨RX5, "mostlyHad", "()I"⟩
abbrev cX5_unlikeSets : ByteArray := prog_7_method_14_code
def yX5_unlikeSets : MethodName := ⟨RX5, "unlikeSets", "()I"⟩
abbrev cX5_isNewSet : ByteArray := prog_7_method_15_code
def yX5_isNewSet : MethodName := ⟨RX5, "isNewSet", "(I)Z"⟩
def RX6 : String := "SecondHelping$Plans"
def TX6 : u_T := fun k => match k with
  | 0 => ("SecondHelping$Plans", "board", "LSecondHelping$Board;", true)
  | 1 => ("SecondHelping$Plans", "reckoning", "LSecondHelping$Reckoning;", true)
  | _ => ("SecondHelping$Plans", "rest", "[I", true)
def tyX6 : Nat → FieldType := fun k => match k with
  | 0 => .object "SecondHelping$Board"
  | 1 => .object "SecondHelping$Reckoning"
  | _ => .array .int
abbrev wsX60 : List Cond := u_ws RX6 TX6 3
theorem nmX6 : ∀ a, a < 3 → ∀ b, b < 3 → a ≠ b → (TX6 a).2.1 ≠ (TX6 b).2.1 := by decide +kernel
theorem tyX6_ok : ∀ k, k < 3 → parseFieldDescriptor (TX6 k).2.2.1 = some (tyX6 k) := by decide +kernel
abbrev cX6_init : ByteArray := prog_8_method_1_code
def yX6_init : MethodName := ⟨RX6, "<init>", "(LSecondHelping$Board;LSecondHelping$Reckoning;)V"⟩
abbrev cX6_inOrder : ByteArray := prog_8_method_2_code
def yX6_inOrder : MethodName := ⟨RX6, "inOrder", "(II)I"⟩
abbrev cX6_reckonRests : ByteArray := prog_8_method_3_code
def yX6_reckonRests : MethodName := ⟨RX6, "reckonRests", "(I)V"⟩
abbrev cX6_leastRest : ByteArray := prog_8_method_4_code
def yX6_leastRest : MethodName := ⟨RX6, "leastRest", "(II)I"⟩
abbrev cX6_dueBehind : ByteArray := prog_8_method_5_code
def yX6_dueBehind : MethodName := ⟨RX6, "dueBehind", "(II)I"⟩
abbrev cX6_ithDone : ByteArray := prog_8_method_6_code
def yX6_ithDone : MethodName := ⟨RX6, "ithDone", "(II)I"⟩
abbrev cX6_firstOnBestWay : ByteArray := prog_8_method_7_code
def yX6_firstOnBestWay : MethodName := ⟨RX6, "firstOnBestWay", "(II)I"⟩
abbrev cX6_timesMore : ByteArray := prog_8_method_8_code
def yX6_timesMore : MethodName := ⟨RX6, "timesMore", "(II)I"⟩
abbrev cX6_cheapestSteps : ByteArray := prog_8_method_9_code
def yX6_cheapestSteps : MethodName := ⟨RX6, "cheapestSteps", "(II)I"⟩
abbrev cX6_stepsWithin : ByteArray := prog_8_method_10_code
def yX6_stepsWithin : MethodName := ⟨RX6, "stepsWithin", "(I)I"⟩
abbrev cX6_cheapestTwo : ByteArray := prog_8_method_11_code
def yX6_cheapestTwo : MethodName := ⟨RX6, "cheapestTwo", "(II)I"⟩
abbrev cX6_totalByTurns : ByteArray := prog_8_method_12_code
def yX6_totalByTurns : MethodName := ⟨RX6, "totalByTurns", "(III)I"⟩
def RX7 : String := "SecondHelping$Readings"
def TX7 : u_T := fun k => match k with
  | 0 => ("SecondHelping$Readings", "board", "LSecondHelping$Board;", true)
  | 1 => ("SecondHelping$Readings", "reckoning", "LSecondHelping$Reckoning;", true)
  | 2 => ("SecondHelping$Readings", "row", "LSecondHelping$Row;", true)
  | _ => ("SecondHelping$Readings", "nexts", "[I", true)
def tyX7 : Nat → FieldType := fun k => match k with
  | 0 => .object "SecondHelping$Board"
  | 1 => .object "SecondHelping$Reckoning"
  | 2 => .object "SecondHelping$Row"
  | _ => .array .int
abbrev wsX70 : List Cond := u_ws RX7 TX7 4
theorem nmX7 : ∀ a, a < 4 → ∀ b, b < 4 → a ≠ b → (TX7 a).2.1 ≠ (TX7 b).2.1 := by decide +kernel
theorem tyX7_ok : ∀ k, k < 4 → parseFieldDescriptor (TX7 k).2.2.1 = some (tyX7 k) := by decide +kernel
abbrev cX7_init : ByteArray := prog_9_method_1_code
def yX7_init : MethodName := ⟨RX7, "<init>", "(LSecondHelping$Board;LSecondHelping$Reckoning;LSecondHelping$Row;)V"⟩
abbrev cX7_mildest : ByteArray := prog_9_method_2_code
def yX7_mildest : MethodName := ⟨RX7, "mildest", "(I)I"⟩
abbrev cX7_mildestT : ByteArray := prog_9_method_3_code
def yX7_mildestT : MethodName := ⟨RX7, "mildestT", "()I"⟩
abbrev cX7_isAsTold : ByteArray := prog_9_method_4_code
def yX7_isAsTold : MethodName := ⟨RX7, "isAsTold", "(II)Z"⟩
abbrev cX7_howManyFit : ByteArray := prog_9_method_5_code
def yX7_howManyFit : MethodName := ⟨RX7, "howManyFit", "()I"⟩
abbrev cX7_firstFitting : ByteArray := prog_9_method_6_code
def yX7_firstFitting : MethodName := ⟨RX7, "firstFitting", "()I"⟩
abbrev cX7_mostTelling : ByteArray := prog_9_method_7_code
def yX7_mostTelling : MethodName := ⟨RX7, "mostTelling", "(I)I"⟩
abbrev cX7_gatherNexts : ByteArray := prog_9_method_8_code
def yX7_gatherNexts : MethodName := ⟨RX7, "gatherNexts", "()I"⟩
abbrev cX7_keepNexts : ByteArray := prog_9_method_9_code
def yX7_keepNexts : MethodName := ⟨RX7, "keepNexts", "(I)V"⟩
abbrev cX7_unlikeNexts : ByteArray := prog_9_method_10_code
def yX7_unlikeNexts : MethodName := ⟨RX7, "unlikeNexts", "(II)I"⟩
abbrev cX7_isNewNext : ByteArray := prog_9_method_11_code
def yX7_isNewNext : MethodName := ⟨RX7, "isNewNext", "(II)Z"⟩
def RX8 : String := "SecondHelping$Reckoning"
def TX8 : u_T := fun k => match k with
  | 0 => ("SecondHelping$Reckoning", "board", "LSecondHelping$Board;", true)
  | 1 => ("SecondHelping$Reckoning", "alike", "[I", true)
  | _ => ("SecondHelping$Reckoning", "repeats", "[I", true)
def tyX8 : Nat → FieldType := fun k => match k with
  | 0 => .object "SecondHelping$Board"
  | 1 => .array .int
  | _ => .array .int
abbrev wsX80 : List Cond := u_ws RX8 TX8 3
theorem nmX8 : ∀ a, a < 3 → ∀ b, b < 3 → a ≠ b → (TX8 a).2.1 ≠ (TX8 b).2.1 := by decide +kernel
theorem tyX8_ok : ∀ k, k < 3 → parseFieldDescriptor (TX8 k).2.2.1 = some (tyX8 k) := by decide +kernel
abbrev cX8_init : ByteArray := prog_10_method_1_code
def yX8_init : MethodName := ⟨RX8, "<init>", "(LSecondHelping$Board;)V"⟩
abbrev cX8_open : ByteArray := prog_10_method_2_code
def yX8_open : MethodName := ⟨RX8, "open", "()V"⟩
abbrev cX8_openBy : ByteArray := prog_10_method_3_code
def yX8_openBy : MethodName := ⟨RX8, "openBy", "(II)V"⟩
abbrev cX8_openBehindLog : ByteArray := prog_10_method_4_code
def yX8_openBehindLog : MethodName := ⟨RX8, "openBehindLog", "()V"⟩
abbrev cX8_forgetSteps : ByteArray := prog_10_method_5_code
def yX8_forgetSteps : MethodName := ⟨RX8, "forgetSteps", "()V"⟩
abbrev cX8_dueNow : ByteArray := prog_10_method_6_code
def yX8_dueNow : MethodName := ⟨RX8, "dueNow", "(I)I"⟩
abbrev cX8_step : ByteArray := prog_10_method_7_code
def yX8_step : MethodName := ⟨RX8, "step", "(I)I"⟩
abbrev cX8_shift : ByteArray := prog_10_method_8_code
def yX8_shift : MethodName := ⟨RX8, "shift", "(II)V"⟩
abbrev cX8_walkLog : ByteArray := prog_10_method_9_code
def yX8_walkLog : MethodName := ⟨RX8, "walkLog", "()I"⟩
abbrev cX8_totalBy : ByteArray := prog_10_method_10_code
def yX8_totalBy : MethodName := ⟨RX8, "totalBy", "(II)I"⟩
abbrev cX8_total : ByteArray := prog_10_method_11_code
def yX8_total : MethodName := ⟨RX8, "total", "()I"⟩
abbrev cX8_nextDue : ByteArray := prog_10_method_12_code
def yX8_nextDue : MethodName := ⟨RX8, "nextDue", "(I)I"⟩
abbrev cX8_cheapestNext : ByteArray := prog_10_method_13_code
def yX8_cheapestNext : MethodName := ⟨RX8, "cheapestNext", "()I"⟩
abbrev cX8_dearestNext : ByteArray := prog_10_method_14_code
def yX8_dearestNext : MethodName := ⟨RX8, "dearestNext", "()I"⟩
def RX9 : String := "SecondHelping$Row"
def TX9 : u_T := fun k => match k with
  | 0 => ("SecondHelping$Row", "numbers", "[I", true)
  | _ => ("SecondHelping$Row", "count", "I", false)
def tyX9 : Nat → FieldType := fun k => match k with
  | 0 => .array .int
  | _ => .int
abbrev wsX90 : List Cond := u_ws RX9 TX9 2
theorem nmX9 : ∀ a, a < 2 → ∀ b, b < 2 → a ≠ b → (TX9 a).2.1 ≠ (TX9 b).2.1 := by decide +kernel
theorem tyX9_ok : ∀ k, k < 2 → parseFieldDescriptor (TX9 k).2.2.1 = some (tyX9 k) := by decide +kernel
abbrev cX9_init : ByteArray := prog_11_method_1_code
def yX9_init : MethodName := ⟨RX9, "<init>", "()V"⟩
abbrev cX9_add : ByteArray := prog_11_method_2_code
def yX9_add : MethodName := ⟨RX9, "add", "(I)I"⟩
abbrev cX9_firstNotIn : ByteArray := prog_11_method_3_code
def yX9_firstNotIn : MethodName := ⟨RX9, "firstNotIn", "(LSecondHelping$Board;)I"⟩
def RX10 : String := "SecondHelping$Takebacks"
def TX10 : u_T := fun k => match k with
  | 0 => ("SecondHelping$Takebacks", "deeds", "[I", true)
  | 1 => ("SecondHelping$Takebacks", "doings", "[I", true)
  | 2 => ("SecondHelping$Takebacks", "firsts", "[I", true)
  | 3 => ("SecondHelping$Takebacks", "seconds", "[I", true)
  | _ => ("SecondHelping$Takebacks", "count", "I", false)
def tyX10 : Nat → FieldType := fun k => match k with
  | 0 => .array .int
  | 1 => .array .int
  | 2 => .array .int
  | 3 => .array .int
  | _ => .int
abbrev wsX100 : List Cond := u_ws RX10 TX10 5
theorem nmX10 : ∀ a, a < 5 → ∀ b, b < 5 → a ≠ b → (TX10 a).2.1 ≠ (TX10 b).2.1 := by decide +kernel
theorem tyX10_ok : ∀ k, k < 5 → parseFieldDescriptor (TX10 k).2.2.1 = some (tyX10 k) := by decide +kernel
abbrev cX10_init : ByteArray := prog_12_method_1_code
def yX10_init : MethodName := ⟨RX10, "<init>", "()V"⟩
abbrev cX10_forget : ByteArray := prog_12_method_2_code
def yX10_forget : MethodName := ⟨RX10, "forget", "()V"⟩
abbrev cX10_keep : ByteArray := prog_12_method_3_code
def yX10_keep : MethodName := ⟨RX10, "keep", "(IIII)V"⟩
abbrev cX10_dropOldest : ByteArray := prog_12_method_4_code
def yX10_dropOldest : MethodName := ⟨RX10, "dropOldest", "()V"⟩
abbrev cX10_undoLatest : ByteArray := prog_12_method_5_code
def yX10_undoLatest : MethodName := ⟨RX10, "undoLatest", "(LSecondHelping$Board;)I"⟩
def RX11 : String := "SecondHelping"
def TX11 : u_T := fun k => match k with
  | 0 => ("SecondHelping", "now", "LSecondHelping$Board;", true)
  | 1 => ("SecondHelping", "taken", "LSecondHelping$Board;", true)
  | 2 => ("SecondHelping", "isTaken", "Z", false)
  | 3 => ("SecondHelping", "takebacks", "LSecondHelping$Takebacks;", true)
  | 4 => ("SecondHelping", "letters", "LSecondHelping$Letters;", true)
  | 5 => ("SecondHelping", "numbers", "LSecondHelping$Row;", true)
  | 6 => ("SecondHelping", "reckoning", "LSecondHelping$Reckoning;", true)
  | 7 => ("SecondHelping", "logBook", "LSecondHelping$LogBook;", true)
  | 8 => ("SecondHelping", "readings", "LSecondHelping$Readings;", true)
  | 9 => ("SecondHelping", "plans", "LSecondHelping$Plans;", true)
  | 10 => ("SecondHelping", "likeness", "LSecondHelping$Likeness;", true)
  | 11 => ("SecondHelping", "marking", "LSecondHelping$Marking;", true)
  | 12 => ("SecondHelping", "luck", "LSecondHelping$Luck;", true)
  | _ => ("SecondHelping", "refusals", "[I", true)
def tyX11 : Nat → FieldType := fun k => match k with
  | 0 => .object "SecondHelping$Board"
  | 1 => .object "SecondHelping$Board"
  | 2 => .boolean
  | 3 => .object "SecondHelping$Takebacks"
  | 4 => .object "SecondHelping$Letters"
  | 5 => .object "SecondHelping$Row"
  | 6 => .object "SecondHelping$Reckoning"
  | 7 => .object "SecondHelping$LogBook"
  | 8 => .object "SecondHelping$Readings"
  | 9 => .object "SecondHelping$Plans"
  | 10 => .object "SecondHelping$Likeness"
  | 11 => .object "SecondHelping$Marking"
  | 12 => .object "SecondHelping$Luck"
  | _ => .array .int
abbrev wsX110 : List Cond := u_ws RX11 TX11 14
theorem nmX11 : ∀ a, a < 14 → ∀ b, b < 14 → a ≠ b → (TX11 a).2.1 ≠ (TX11 b).2.1 := by decide +kernel
theorem tyX11_ok : ∀ k, k < 14 → parseFieldDescriptor (TX11 k).2.2.1 = some (tyX11 k) := by decide +kernel
abbrev cX11_init : ByteArray := prog_1_method_1_code
def yX11_init : MethodName := ⟨RX11, "<init>", "()V"⟩
abbrev cX11_feed : ByteArray := prog_1_method_2_code
def yX11_feed : MethodName := ⟨RX11, "feed", "(I)I"⟩
abbrev cX11_state : ByteArray := prog_1_method_3_code
def yX11_state : MethodName := ⟨RX11, "state", "()I"⟩
abbrev cX11_doingOf : ByteArray := prog_1_method_4_code
def yX11_doingOf : MethodName := ⟨RX11, "doingOf", "(II)I"⟩
abbrev cX11_doing : ByteArray := prog_1_method_5_code
def yX11_doing : MethodName := ⟨RX11, "doing", "(III)I"⟩
abbrev cX11_does : ByteArray := prog_1_method_6_code
def yX11_does : MethodName := ⟨RX11, "does", "(I)I"⟩
abbrev cX11_empties : ByteArray := prog_1_method_7_code
def yX11_empties : MethodName := ⟨RX11, "empties", "()I"⟩
abbrev cX11_turn : ByteArray := prog_1_method_8_code
def yX11_turn : MethodName := ⟨RX11, "turn", "(III)I"⟩
abbrev cX11_marks : ByteArray := prog_1_method_9_code
def yX11_marks : MethodName := ⟨RX11, "marks", "(II)I"⟩
abbrev cX11_law : ByteArray := prog_1_method_10_code
def yX11_law : MethodName := ⟨RX11, "law", "(II)I"⟩
abbrev cX11_back : ByteArray := prog_1_method_11_code
def yX11_back : MethodName := ⟨RX11, "back", "()I"⟩
abbrev cX11_same : ByteArray := prog_1_method_12_code
def yX11_same : MethodName := ⟨RX11, "same", "(II)I"⟩
abbrev cX11_place : ByteArray := prog_1_method_13_code
def yX11_place : MethodName := ⟨RX11, "place", "(II)I"⟩
abbrev cX11_allDue : ByteArray := prog_1_method_14_code
def yX11_allDue : MethodName := ⟨RX11, "allDue", "()I"⟩
abbrev cX11_next : ByteArray := prog_1_method_15_code
def yX11_next : MethodName := ⟨RX11, "next", "(I)I"⟩
abbrev cX11_best : ByteArray := prog_1_method_16_code
def yX11_best : MethodName := ⟨RX11, "best", "(I)I"⟩
abbrev cX11_charged : ByteArray := prog_1_method_17_code
def yX11_charged : MethodName := ⟨RX11, "charged", "(I)I"⟩
abbrev cX11_order : ByteArray := prog_1_method_18_code
def yX11_order : MethodName := ⟨RX11, "order", "(II)I"⟩
abbrev cX11_unlike : ByteArray := prog_1_method_19_code
def yX11_unlike : MethodName := ⟨RX11, "unlike", "()I"⟩
abbrev cX11_people : ByteArray := prog_1_method_20_code
def yX11_people : MethodName := ⟨RX11, "people", "()I"⟩
abbrev cX11_like : ByteArray := prog_1_method_21_code
def yX11_like : MethodName := ⟨RX11, "like", "(I)I"⟩
abbrev cX11_reading : ByteArray := prog_1_method_22_code
def yX11_reading : MethodName := ⟨RX11, "reading", "(I)I"⟩
abbrev cX11_fits : ByteArray := prog_1_method_23_code
def yX11_fits : MethodName := ⟨RX11, "fits", "(I)I"⟩
abbrev cX11_tellsMost : ByteArray := prog_1_method_24_code
def yX11_tellsMost : MethodName := ⟨RX11, "tellsMost", "(I)I"⟩
abbrev cX11_loophole : ByteArray := prog_1_method_25_code
def yX11_loophole : MethodName := ⟨RX11, "loophole", "()I"⟩
abbrev cX11_shared : ByteArray := prog_1_method_26_code
def yX11_shared : MethodName := ⟨RX11, "shared", "(I)I"⟩
abbrev cX11_saves : ByteArray := prog_1_method_27_code
def yX11_saves : MethodName := ⟨RX11, "saves", "(I)I"⟩
abbrev cX11_turned : ByteArray := prog_1_method_28_code
def yX11_turned : MethodName := ⟨RX11, "turned", "()I"⟩
abbrev cX11_changed : ByteArray := prog_1_method_29_code
def yX11_changed : MethodName := ⟨RX11, "changed", "()I"⟩
abbrev cX11_wants : ByteArray := prog_1_method_30_code
def yX11_wants : MethodName := ⟨RX11, "wants", "(II)I"⟩
abbrev cX11_songs : ByteArray := prog_1_method_31_code
def yX11_songs : MethodName := ⟨RX11, "songs", "(II)J"⟩
abbrev cX11_inspectors : ByteArray := prog_1_method_32_code
def yX11_inspectors : MethodName := ⟨RX11, "inspectors", "(I)I"⟩
abbrev cX11_chance : ByteArray := prog_1_method_33_code
def yX11_chance : MethodName := ⟨RX11, "chance", "(II)J"⟩
abbrev cX11_mean : ByteArray := prog_1_method_34_code
def yX11_mean : MethodName := ⟨RX11, "mean", "(I)J"⟩
abbrev cX11_twins : ByteArray := prog_1_method_35_code
def yX11_twins : MethodName := ⟨RX11, "twins", "(I)I"⟩
abbrev cX11_chain : ByteArray := prog_1_method_36_code
def yX11_chain : MethodName := ⟨RX11, "chain", "(II)I"⟩
abbrev cX11_heaps : ByteArray := prog_1_method_37_code
def yX11_heaps : MethodName := ⟨RX11, "heaps", "(I)I"⟩
abbrev cX11_pure : ByteArray := prog_1_method_38_code
def yX11_pure : MethodName := ⟨RX11, "pure", "(I)I"⟩
abbrev cX11_bestT : ByteArray := prog_1_method_39_code
def yX11_bestT : MethodName := ⟨RX11, "bestT", "()I"⟩
abbrev cX11_margin : ByteArray := prog_1_method_40_code
def yX11_margin : MethodName := ⟨RX11, "margin", "(II)I"⟩
abbrev cX11_firsts : ByteArray := prog_1_method_41_code
def yX11_firsts : MethodName := ⟨RX11, "firsts", "()I"⟩
abbrev cX11_greedily : ByteArray := prog_1_method_42_code
def yX11_greedily : MethodName := ⟨RX11, "greedily", "(II)I"⟩
abbrev cX11_pair : ByteArray := prog_1_method_43_code
def yX11_pair : MethodName := ⟨RX11, "pair", "(II)I"⟩
abbrev cX11_quota : ByteArray := prog_1_method_44_code
def yX11_quota : MethodName := ⟨RX11, "quota", "(I)I"⟩
abbrev cX11_radius : ByteArray := prog_1_method_45_code
def yX11_radius : MethodName := ⟨RX11, "radius", "(I)I"⟩
abbrev cX11_majority : ByteArray := prog_1_method_46_code
def yX11_majority : MethodName := ⟨RX11, "majority", "()I"⟩
abbrev cX11_byKind : ByteArray := prog_1_method_47_code
def yX11_byKind : MethodName := ⟨RX11, "byKind", "(I)I"⟩
abbrev cX11_banned : ByteArray := prog_1_method_48_code
def yX11_banned : MethodName := ⟨RX11, "banned", "(I)I"⟩
abbrev cX11_moved : ByteArray := prog_1_method_49_code
def yX11_moved : MethodName := ⟨RX11, "moved", "(I)I"⟩
abbrev cX11_unlikeMarks : ByteArray := prog_1_method_50_code
def yX11_unlikeMarks : MethodName := ⟨RX11, "unlikeMarks", "()I"⟩
abbrev cX11_streak : ByteArray := prog_1_method_51_code
def yX11_streak : MethodName := ⟨RX11, "streak", "()I"⟩
abbrev cX11_row : ByteArray := prog_1_method_52_code
def yX11_row : MethodName := ⟨RX11, "row", "(I)I"⟩
abbrev cX11_judge : ByteArray := prog_1_method_53_code
def yX11_judge : MethodName := ⟨RX11, "judge", "()I"⟩
abbrev cX11_clear : ByteArray := prog_1_method_54_code
def yX11_clear : MethodName := ⟨RX11, "clear", "()I"⟩
abbrev cX11_lots : ByteArray := prog_1_method_55_code
def yX11_lots : MethodName := ⟨RX11, "lots", "(III)I"⟩
abbrev cX11_image : ByteArray := prog_1_method_56_code
def yX11_image : MethodName := ⟨RX11, "image", "()I"⟩
abbrev cX11_restore : ByteArray := prog_1_method_57_code
def yX11_restore : MethodName := ⟨RX11, "restore", "()I"⟩
abbrev cX11_count : ByteArray := prog_1_method_58_code
def yX11_count : MethodName := ⟨RX11, "count", "(I)I"⟩
abbrev cX11_countRefused : ByteArray := prog_1_method_59_code
def yX11_countRefused : MethodName := ⟨RX11, "countRefused", "(I)I"⟩
abbrev cX11_refuse : ByteArray := prog_1_method_60_code
def yX11_refuse : MethodName := ⟨RX11, "refuse", "(I)I"⟩
abbrev cX11_refuseLong : ByteArray := prog_1_method_61_code
def yX11_refuseLong : MethodName := ⟨RX11, "refuseLong", "(I)J"⟩
abbrev cX11_isEither : ByteArray := prog_1_method_62_code
def yX11_isEither : MethodName := ⟨RX11, "isEither", "(I)Z"⟩
abbrev cX11_isKind : ByteArray := prog_1_method_63_code
def yX11_isKind : MethodName := ⟨RX11, "isKind", "(I)Z"⟩
abbrev cX11_isType : ByteArray := prog_1_method_64_code
def yX11_isType : MethodName := ⟨RX11, "isType", "(I)Z"⟩
abbrev cX11_isMark : ByteArray := prog_1_method_65_code
def yX11_isMark : MethodName := ⟨RX11, "isMark", "(I)Z"⟩
def RX12 : String := "SecondHelpingModel"
def TX12 : u_T := fun k => match k with
  | 0 => ("SecondHelpingModel", "refused", "[I", true)
  | 1 => ("SecondHelpingModel", "kind", "[I", true)
  | 2 => ("SecondHelpingModel", "figure", "[I", true)
  | 3 => ("SecondHelpingModel", "marked", "[I", true)
  | 4 => ("SecondHelpingModel", "log", "[I", true)
  | 5 => ("SecondHelpingModel", "doings", "I", false)
  | 6 => ("SecondHelpingModel", "places", "I", false)
  | 7 => ("SecondHelpingModel", "type", "I", false)
  | 8 => ("SecondHelpingModel", "tee", "I", false)
  | 9 => ("SecondHelpingModel", "tape", "[I", true)
  | 10 => ("SecondHelpingModel", "letter", "[I", true)
  | 11 => ("SecondHelpingModel", "letterAt", "[I", true)
  | 12 => ("SecondHelpingModel", "told", "[I", true)
  | 13 => ("SecondHelpingModel", "taped", "I", false)
  | 14 => ("SecondHelpingModel", "at", "I", false)
  | 15 => ("SecondHelpingModel", "statements", "I", false)
  | 16 => ("SecondHelpingModel", "kept", "[I", true)
  | 17 => ("SecondHelpingModel", "hasImage", "Z", false)
  | 18 => ("SecondHelpingModel", "isKeeping", "Z", false)
  | 19 => ("SecondHelpingModel", "cursor", "I", false)
  | 20 => ("SecondHelpingModel", "backs", "I", false)
  | 21 => ("SecondHelpingModel", "leastDue", "[I", true)
  | 22 => ("SecondHelpingModel", "peopleFor", "[I", true)
  | 23 => ("SecondHelpingModel", "row", "[I", true)
  | 24 => ("SecondHelpingModel", "rowMany", "I", false)
  | 25 => ("SecondHelpingModel", "nexts", "[I", true)
  | 26 => ("SecondHelpingModel", "songsBy", "[J", false)
  | 27 => ("SecondHelpingModel", "songsThen", "[J", false)
  | _ => ("SecondHelpingModel", "more", "[I", true)
def tyX12 : Nat → FieldType := fun k => match k with
  | 0 => .array .int
  | 1 => .array .int
  | 2 => .array .int
  | 3 => .array .int
  | 4 => .array .int
  | 5 => .int
  | 6 => .int
  | 7 => .int
  | 8 => .int
  | 9 => .array .int
  | 10 => .array .int
  | 11 => .array .int
  | 12 => .array .int
  | 13 => .int
  | 14 => .int
  | 15 => .int
  | 16 => .array .int
  | 17 => .boolean
  | 18 => .boolean
  | 19 => .int
  | 20 => .int
  | 21 => .array .int
  | 22 => .array .int
  | 23 => .array .int
  | 24 => .int
  | 25 => .array .int
  | 26 => .array .long
  | 27 => .array .long
  | _ => .array .int
abbrev wsX120 : List Cond := u_ws RX12 TX12 29
theorem nmX12 : ∀ a, a < 29 → ∀ b, b < 29 → a ≠ b → (TX12 a).2.1 ≠ (TX12 b).2.1 := by decide +kernel
theorem tyX12_ok : ∀ k, k < 29 → parseFieldDescriptor (TX12 k).2.2.1 = some (tyX12 k) := by decide +kernel
abbrev cX12_init : ByteArray := prog_14_method_1_code
def yX12_init : MethodName := ⟨RX12, "<init>", "()V"⟩
abbrev cX12_no : ByteArray := prog_14_method_2_code
def yX12_no : MethodName := ⟨RX12, "no", "(I)I"⟩
abbrev cX12_lowest : ByteArray := prog_14_method_3_code
def yX12_lowest : MethodName := ⟨RX12, "lowest", "(I)J"⟩
abbrev cX12_isIn : ByteArray := prog_14_method_4_code
def yX12_isIn : MethodName := ⟨RX12, "isIn", "(III)Z"⟩
abbrev cX12_bound : ByteArray := prog_14_method_5_code
def yX12_bound : MethodName := ⟨RX12, "bound", "(III)I"⟩
abbrev cX12_has : ByteArray := prog_14_method_6_code
def yX12_has : MethodName := ⟨RX12, "has", "(II)Z"⟩
abbrev cX12_bits : ByteArray := prog_14_method_7_code
def yX12_bits : MethodName := ⟨RX12, "bits", "(I)I"⟩
abbrev cX12_isDoing : ByteArray := prog_14_method_8_code
def yX12_isDoing : MethodName := ⟨RX12, "isDoing", "(I)Z"⟩
abbrev cX12_isMark : ByteArray := prog_14_method_9_code
def yX12_isMark : MethodName := ⟨RX12, "isMark", "(I)Z"⟩
abbrev cX12_feed : ByteArray := prog_14_method_10_code
def yX12_feed : MethodName := ⟨RX12, "feed", "(I)I"⟩
abbrev cX12_peeked : ByteArray := prog_14_method_11_code
def yX12_peeked : MethodName := ⟨RX12, "peeked", "()I"⟩
abbrev cX12_readsDigits : ByteArray := prog_14_method_12_code
def yX12_readsDigits : MethodName := ⟨RX12, "readsDigits", "(II)Z"⟩
abbrev cX12_readsAll : ByteArray := prog_14_method_13_code
def yX12_readsAll : MethodName := ⟨RX12, "readsAll", "(II)Z"⟩
abbrev cX12_statement : ByteArray := prog_14_method_14_code
def yX12_statement : MethodName := ⟨RX12, "statement", "()Z"⟩
abbrev cX12_comes : ByteArray := prog_14_method_15_code
def yX12_comes : MethodName := ⟨RX12, "comes", "(I)Z"⟩
abbrev cX12_state : ByteArray := prog_14_method_16_code
def yX12_state : MethodName := ⟨RX12, "state", "()I"⟩
abbrev cX12_passes : ByteArray := prog_14_method_17_code
def yX12_passes : MethodName := ⟨RX12, "passes", "([I)V"⟩
abbrev cX12_passOne : ByteArray := prog_14_method_18_code
def yX12_passOne : MethodName := ⟨RX12, "passOne", "(I)I"⟩
abbrev cX12_passesAll : ByteArray := prog_14_method_19_code
def yX12_passesAll : MethodName := ⟨RX12, "passesAll", "(IZ)V"⟩
abbrev cX12_thinks : ByteArray := prog_14_method_20_code
def yX12_thinks : MethodName := ⟨RX12, "thinks", "()V"⟩
abbrev cX12_forgets : ByteArray := prog_14_method_21_code
def yX12_forgets : MethodName := ⟨RX12, "forgets", "()V"⟩
abbrev cX12_keepsBack : ByteArray := prog_14_method_22_code
def yX12_keepsBack : MethodName := ⟨RX12, "keepsBack", "()V"⟩
abbrev cX12_back : ByteArray := prog_14_method_23_code
def yX12_back : MethodName := ⟨RX12, "back", "()I"⟩
abbrev cX12_image : ByteArray := prog_14_method_24_code
def yX12_image : MethodName := ⟨RX12, "image", "()I"⟩
abbrev cX12_restore : ByteArray := prog_14_method_25_code
def yX12_restore : MethodName := ⟨RX12, "restore", "()I"⟩
abbrev cX12_adds : ByteArray := prog_14_method_26_code
def yX12_adds : MethodName := ⟨RX12, "adds", "(III)V"⟩
abbrev cX12_areSame : ByteArray := prog_14_method_27_code
def yX12_areSame : MethodName := ⟨RX12, "areSame", "(II)Z"⟩
abbrev cX12_dueOf : ByteArray := prog_14_method_28_code
def yX12_dueOf : MethodName := ⟨RX12, "dueOf", "(II)I"⟩
abbrev cX12_repeatsAt : ByteArray := prog_14_method_29_code
def yX12_repeatsAt : MethodName := ⟨RX12, "repeatsAt", "(II)I"⟩
abbrev cX12_dueAt : ByteArray := prog_14_method_30_code
def yX12_dueAt : MethodName := ⟨RX12, "dueAt", "(I)I"⟩
abbrev cX12_all : ByteArray := prog_14_method_31_code
def yX12_all : MethodName := ⟨RX12, "all", "()I"⟩
abbrev cX12_nextOf : ByteArray := prog_14_method_32_code
def yX12_nextOf : MethodName := ⟨RX12, "nextOf", "(I)I"⟩
abbrev cX12_doingOf : ByteArray := prog_14_method_33_code
def yX12_doingOf : MethodName := ⟨RX12, "doingOf", "(II)I"⟩
abbrev cX12_doing : ByteArray := prog_14_method_34_code
def yX12_doing : MethodName := ⟨RX12, "doing", "(III)I"⟩
abbrev cX12_does : ByteArray := prog_14_method_35_code
def yX12_does : MethodName := ⟨RX12, "does", "(I)I"⟩
abbrev cX12_empties : ByteArray := prog_14_method_36_code
def yX12_empties : MethodName := ⟨RX12, "empties", "()I"⟩
abbrev cX12_turn : ByteArray := prog_14_method_37_code
def yX12_turn : MethodName := ⟨RX12, "turn", "(III)I"⟩
abbrev cX12_marks : ByteArray := prog_14_method_38_code
def yX12_marks : MethodName := ⟨RX12, "marks", "(II)I"⟩
abbrev cX12_law : ByteArray := prog_14_method_39_code
def yX12_law : MethodName := ⟨RX12, "law", "(II)I"⟩
abbrev cX12_same : ByteArray := prog_14_method_40_code
def yX12_same : MethodName := ⟨RX12, "same", "(II)I"⟩
abbrev cX12_isPlace : ByteArray := prog_14_method_41_code
def yX12_isPlace : MethodName := ⟨RX12, "isPlace", "(I)Z"⟩
abbrev cX12_place : ByteArray := prog_14_method_42_code
def yX12_place : MethodName := ⟨RX12, "place", "(II)I"⟩
abbrev cX12_allDue : ByteArray := prog_14_method_43_code
def yX12_allDue : MethodName := ⟨RX12, "allDue", "()I"⟩
abbrev cX12_next : ByteArray := prog_14_method_44_code
def yX12_next : MethodName := ⟨RX12, "next", "(I)I"⟩
abbrev cX12_best : ByteArray := prog_14_method_45_code
def yX12_best : MethodName := ⟨RX12, "best", "(I)I"⟩
abbrev cX12_charged : ByteArray := prog_14_method_46_code
def yX12_charged : MethodName := ⟨RX12, "charged", "(I)I"⟩
abbrev cX12_dueBehind : ByteArray := prog_14_method_47_code
def yX12_dueBehind : MethodName := ⟨RX12, "dueBehind", "(II)I"⟩
abbrev cX12_findLeast : ByteArray := prog_14_method_48_code
def yX12_findLeast : MethodName := ⟨RX12, "findLeast", "(I)V"⟩
abbrev cX12_firstOf : ByteArray := prog_14_method_49_code
def yX12_firstOf : MethodName := ⟨RX12, "firstOf", "(II)I"⟩
abbrev cX12_order : ByteArray := prog_14_method_50_code
def yX12_order : MethodName := ⟨RX12, "order", "(II)I"⟩
abbrev cX12_areUnlike : ByteArray := prog_14_method_51_code
def yX12_areUnlike : MethodName := ⟨RX12, "areUnlike", "(I)Z"⟩
abbrev cX12_unlike : ByteArray := prog_14_method_52_code
def yX12_unlike : MethodName := ⟨RX12, "unlike", "()I"⟩
abbrev cX12_people : ByteArray := prog_14_method_53_code
def yX12_people : MethodName := ⟨RX12, "people", "()I"⟩
abbrev cX12_likesOf : ByteArray := prog_14_method_54_code
def yX12_likesOf : MethodName := ⟨RX12, "likesOf", "(I)I"⟩
abbrev cX12_like : ByteArray := prog_14_method_55_code
def yX12_like : MethodName := ⟨RX12, "like", "(I)I"⟩
abbrev cX12_lays : ByteArray := prog_14_method_56_code
def yX12_lays : MethodName := ⟨RX12, "lays", "(I)V"⟩
abbrev cX12_codeOf : ByteArray := prog_14_method_57_code
def yX12_codeOf : MethodName := ⟨RX12, "codeOf", "(I)I"⟩
abbrev cX12_reading : ByteArray := prog_14_method_58_code
def yX12_reading : MethodName := ⟨RX12, "reading", "(I)I"⟩
abbrev cX12_isSo : ByteArray := prog_14_method_59_code
def yX12_isSo : MethodName := ⟨RX12, "isSo", "()Z"⟩
abbrev cX12_fits : ByteArray := prog_14_method_60_code
def yX12_fits : MethodName := ⟨RX12, "fits", "(I)I"⟩
abbrev cX12_unlikeDues : ByteArray := prog_14_method_61_code
def yX12_unlikeDues : MethodName := ⟨RX12, "unlikeDues", "(I)I"⟩
abbrev cX12_tellsMost : ByteArray := prog_14_method_62_code
def yX12_tellsMost : MethodName := ⟨RX12, "tellsMost", "(I)I"⟩
abbrev cX12_loophole : ByteArray := prog_14_method_63_code
def yX12_loophole : MethodName := ⟨RX12, "loophole", "()I"⟩
abbrev cX12_dueOfTwo : ByteArray := prog_14_method_64_code
def yX12_dueOfTwo : MethodName := ⟨RX12, "dueOfTwo", "(I)I"⟩
abbrev cX12_shared : ByteArray := prog_14_method_65_code
def yX12_shared : MethodName := ⟨RX12, "shared", "(I)I"⟩
abbrev cX12_savesAt : ByteArray := prog_14_method_66_code
def yX12_savesAt : MethodName := ⟨RX12, "savesAt", "(I)I"⟩
abbrev cX12_saves : ByteArray := prog_14_method_67_code
def yX12_saves : MethodName := ⟨RX12, "saves", "(I)I"⟩
abbrev cX12_exchanges : ByteArray := prog_14_method_68_code
def yX12_exchanges : MethodName := ⟨RX12, "exchanges", "(II)V"⟩
abbrev cX12_turned : ByteArray := prog_14_method_69_code
def yX12_turned : MethodName := ⟨RX12, "turned", "()I"⟩
abbrev cX12_changed : ByteArray := prog_14_method_70_code
def yX12_changed : MethodName := ⟨RX12, "changed", "()I"⟩
abbrev cX12_marksOf : ByteArray := prog_14_method_71_code
def yX12_marksOf : MethodName := ⟨RX12, "marksOf", "(I)I"⟩
abbrev cX12_nextsOf : ByteArray := prog_14_method_72_code
def yX12_nextsOf : MethodName := ⟨RX12, "nextsOf", "(I)I"⟩
abbrev cX12_wants : ByteArray := prog_14_method_73_code
def yX12_wants : MethodName := ⟨RX12, "wants", "(II)I"⟩
abbrev cX12_mayFollow : ByteArray := prog_14_method_74_code
def yX12_mayFollow : MethodName := ⟨RX12, "mayFollow", "(IIII)Z"⟩
abbrev cX12_songs : ByteArray := prog_14_method_75_code
def yX12_songs : MethodName := ⟨RX12, "songs", "(II)J"⟩
abbrev cX12_inspectors : ByteArray := prog_14_method_76_code
def yX12_inspectors : MethodName := ⟨RX12, "inspectors", "(I)I"⟩
abbrev cX12_divisor : ByteArray := prog_14_method_77_code
def yX12_divisor : MethodName := ⟨RX12, "divisor", "(JJ)J"⟩
abbrev cX12_partOf : ByteArray := prog_14_method_78_code
def yX12_partOf : MethodName := ⟨RX12, "partOf", "(JJI)J"⟩
abbrev cX12_chance : ByteArray := prog_14_method_79_code
def yX12_chance : MethodName := ⟨RX12, "chance", "(II)J"⟩
abbrev cX12_mean : ByteArray := prog_14_method_80_code
def yX12_mean : MethodName := ⟨RX12, "mean", "(I)J"⟩
abbrev cX12_twins : ByteArray := prog_14_method_81_code
def yX12_twins : MethodName := ⟨RX12, "twins", "(I)I"⟩
abbrev cX12_sameAs : ByteArray := prog_14_method_82_code
def yX12_sameAs : MethodName := ⟨RX12, "sameAs", "(I)I"⟩
abbrev cX12_chain : ByteArray := prog_14_method_83_code
def yX12_chain : MethodName := ⟨RX12, "chain", "(II)I"⟩
abbrev cX12_heapOf : ByteArray := prog_14_method_84_code
def yX12_heapOf : MethodName := ⟨RX12, "heapOf", "(I)I"⟩
abbrev cX12_heaps : ByteArray := prog_14_method_85_code
def yX12_heaps : MethodName := ⟨RX12, "heaps", "(I)I"⟩
abbrev cX12_isPure : ByteArray := prog_14_method_86_code
def yX12_isPure : MethodName := ⟨RX12, "isPure", "(II)Z"⟩
abbrev cX12_pure : ByteArray := prog_14_method_87_code
def yX12_pure : MethodName := ⟨RX12, "pure", "(I)I"⟩
abbrev cX12_bestT : ByteArray := prog_14_method_88_code
def yX12_bestT : MethodName := ⟨RX12, "bestT", "()I"⟩
abbrev cX12_margin : ByteArray := prog_14_method_89_code
def yX12_margin : MethodName := ⟨RX12, "margin", "(II)I"⟩
abbrev cX12_firsts : ByteArray := prog_14_method_90_code
def yX12_firsts : MethodName := ⟨RX12, "firsts", "()I"⟩
abbrev cX12_dueWithMore : ByteArray := prog_14_method_91_code
def yX12_dueWithMore : MethodName := ⟨RX12, "dueWithMore", "(I)I"⟩
abbrev cX12_leastWithMore : ByteArray := prog_14_method_92_code
def yX12_leastWithMore : MethodName := ⟨RX12, "leastWithMore", "()I"⟩
abbrev cX12_noMore : ByteArray := prog_14_method_93_code
def yX12_noMore : MethodName := ⟨RX12, "noMore", "()V"⟩
abbrev cX12_greedily : ByteArray := prog_14_method_94_code
def yX12_greedily : MethodName := ⟨RX12, "greedily", "(II)I"⟩
abbrev cX12_quota : ByteArray := prog_14_method_95_code
def yX12_quota : MethodName := ⟨RX12, "quota", "(I)I"⟩
abbrev cX12_dueOfPair : ByteArray := prog_14_method_96_code
def yX12_dueOfPair : MethodName := ⟨RX12, "dueOfPair", "(III)I"⟩
abbrev cX12_pair : ByteArray := prog_14_method_97_code
def yX12_pair : MethodName := ⟨RX12, "pair", "(II)I"⟩
abbrev cX12_apartOf : ByteArray := prog_14_method_98_code
def yX12_apartOf : MethodName := ⟨RX12, "apartOf", "(I)I"⟩
abbrev cX12_radius : ByteArray := prog_14_method_99_code
def yX12_radius : MethodName := ⟨RX12, "radius", "(I)I"⟩
abbrev cX12_majority : ByteArray := prog_14_method_100_code
def yX12_majority : MethodName := ⟨RX12, "majority", "()I"⟩
abbrev cX12_dueOfKind : ByteArray := prog_14_method_101_code
def yX12_dueOfKind : MethodName := ⟨RX12, "dueOfKind", "(I)I"⟩
abbrev cX12_byKind : ByteArray := prog_14_method_102_code
def yX12_byKind : MethodName := ⟨RX12, "byKind", "(I)I"⟩
abbrev cX12_dueWithout : ByteArray := prog_14_method_103_code
def yX12_dueWithout : MethodName := ⟨RX12, "dueWithout", "(I)I"⟩
abbrev cX12_isDone : ByteArray := prog_14_method_104_code
def yX12_isDone : MethodName := ⟨RX12, "isDone", "(I)Z"⟩
abbrev cX12_banned : ByteArray := prog_14_method_105_code
def yX12_banned : MethodName := ⟨RX12, "banned", "(I)I"⟩
abbrev cX12_dueMoved : ByteArray := prog_14_method_106_code
def yX12_dueMoved : MethodName := ⟨RX12, "dueMoved", "(I)I"⟩
abbrev cX12_moved : ByteArray := prog_14_method_107_code
def yX12_moved : MethodName := ⟨RX12, "moved", "(I)I"⟩
abbrev cX12_unlikeMarks : ByteArray := prog_14_method_108_code
def yX12_unlikeMarks : MethodName := ⟨RX12, "unlikeMarks", "()I"⟩
abbrev cX12_streak : ByteArray := prog_14_method_109_code
def yX12_streak : MethodName := ⟨RX12, "streak", "()I"⟩
abbrev cX12_row : ByteArray := prog_14_method_110_code
def yX12_row : MethodName := ⟨RX12, "row", "(I)I"⟩
abbrev cX12_judge : ByteArray := prog_14_method_111_code
def yX12_judge : MethodName := ⟨RX12, "judge", "()I"⟩
abbrev cX12_clear : ByteArray := prog_14_method_112_code
def yX12_clear : MethodName := ⟨RX12, "clear", "()I"⟩
abbrev cX12_lots : ByteArray := prog_14_method_113_code
def yX12_lots : MethodName := ⟨RX12, "lots", "(III)I"⟩
abbrev cX12_count : ByteArray := prog_14_method_114_code
def yX12_count : MethodName := ⟨RX12, "count", "(I)I"⟩
def RJ6 : String := "java/lang/Integer"
def TJ6 : u_T := fun k => match k with
  | _ => ("", "", "", false)
def tyJ6 : Nat → FieldType := fun k => match k with
  | _ => .int
abbrev wsJ60 : List Cond := u_ws RJ6 TJ6 0
theorem nmJ6 : ∀ a, a < 0 → ∀ b, b < 0 → a ≠ b → (TJ6 a).2.1 ≠ (TJ6 b).2.1 := by decide +kernel
theorem tyJ6_ok : ∀ k, k < 0 → parseFieldDescriptor (TJ6 k).2.2.1 = some (tyJ6 k) := by decide +kernel
abbrev cJ6_bitCount_0f7a4 : ByteArray := prog_15_method_49_code
def yJ6_bitCount_0f7a4 : MethodName := ⟨RJ6, "bitCount", "(I)I"⟩
def RJ9 : String := "java/lang/Math"
def TJ9 : u_T := fun k => match k with
  | _ => ("", "", "", false)
def tyJ9 : Nat → FieldType := fun k => match k with
  | _ => .int
abbrev wsJ90 : List Cond := u_ws RJ9 TJ9 0
theorem nmJ9 : ∀ a, a < 0 → ∀ b, b < 0 → a ≠ b → (TJ9 a).2.1 ≠ (TJ9 b).2.1 := by decide +kernel
theorem tyJ9_ok : ∀ k, k < 0 → parseFieldDescriptor (TJ9 k).2.2.1 = some (tyJ9 k) := by decide +kernel
abbrev cJ9_max_7cf53 : ByteArray := prog_16_method_65_code
def yJ9_max_7cf53 : MethodName := ⟨RJ9, "max", "(II)I"⟩
abbrev cJ9_max_f86c9 : ByteArray := prog_16_method_66_code
def yJ9_max_f86c9 : MethodName := ⟨RJ9, "max", "(JJ)J"⟩
abbrev cJ9_min_7cf53 : ByteArray := prog_16_method_69_code
def yJ9_min_7cf53 : MethodName := ⟨RJ9, "min", "(II)I"⟩
def RJ10 : String := "java/lang/System"
def TJ10 : u_T := fun k => match k with
  | _ => ("", "", "", false)
def tyJ10 : Nat → FieldType := fun k => match k with
  | _ => .int
abbrev wsJ100 : List Cond := u_ws RJ10 TJ10 0
theorem nmJ10 : ∀ a, a < 0 → ∀ b, b < 0 → a ≠ b → (TJ10 a).2.1 ≠ (TJ10 b).2.1 := by decide +kernel
theorem tyJ10_ok : ∀ k, k < 0 → parseFieldDescriptor (TJ10 k).2.2.1 = some (tyJ10 k) := by decide +kernel
def RJ7 : String := "java/util/Arrays"
def TJ7 : u_T := fun k => match k with
  | _ => ("", "", "", false)
def tyJ7 : Nat → FieldType := fun k => match k with
  | _ => .int
abbrev wsJ70 : List Cond := u_ws RJ7 TJ7 0
theorem nmJ7 : ∀ a, a < 0 → ∀ b, b < 0 → a ≠ b → (TJ7 a).2.1 ≠ (TJ7 b).2.1 := by decide +kernel
theorem tyJ7_ok : ∀ k, k < 0 → parseFieldDescriptor (TJ7 k).2.2.1 = some (tyJ7 k) := by decide +kernel
abbrev cJ7_fill_d0a16 : ByteArray := prog_18_method_101_code
def yJ7_fill_d0a16 : MethodName := ⟨RJ7, "fill", "([JJ)V"⟩
abbrev cJ7_fill_53178 : ByteArray := prog_18_method_103_code
def yJ7_fill_53178 : MethodName := ⟨RJ7, "fill", "([II)V"⟩
def RL : String := "SecondHelpingLaw"
abbrev cL_law : ByteArray := code
def yL_law : MethodName := ⟨RL, "law", "([I)Z"⟩
abbrev vwCl : List vw_C := [(RX0, TX0, 8), (RX1, TX1, 3), (RX2, TX2, 6), (RX3, TX3, 5), (RX4, TX4, 2), (RX5, TX5, 2), (RX6, TX6, 3), (RX7, TX7, 4), (RX8, TX8, 3), (RX9, TX9, 2), (RX10, TX10, 5), (RX11, TX11, 14), (RX12, TX12, 29)]
end
section
/-! The walk's own layer: a world of cells at fixed places, told by a store of numbers; one row an instruction over it. -/
def bigW : List Cond := lw_tbl.filter goodWord
theorem bw (k : Nat) {w : Cond} (h : lw_tbl[k]? = some w) (hg : goodWord w = true) : w ∈ bigW := List.mem_filter.mpr ⟨List.mem_of_getElem? h, hg⟩
theorem bigW_good : GoodIn bigW bigW := fun w hw => ⟨hw, good_of_word (List.mem_filter.mp hw).2⟩
theorem bigW_in : ∀ w ∈ bigW, w ∈ lw_tbl := fun w hw => (List.mem_filter.mp hw).1
theorem good_cons {ws : List Cond} {w : Cond} (h : w ∈ bigW) (hs : GoodIn bigW ws) : GoodIn bigW (w :: ws) := fun v hv => by
  rcases List.mem_cons.mp hv with rfl | hv
  · exact bigW_good v h
  · exact hs v hv
abbrev Sh : Type := (Nat × Nat) ⊕ (Nat × List (Option Nat))
abbrev Mem : Type := (Nat → Nat → Int32) × (Nat → Nat → Int64)
abbrev Gx : Type := va_G × (Nat → Nat) × (Nat → ClassId)
def k_arr (G : Gx) (M : Mem) (q : Nat) (x : Nat × Nat) : va_E := if x.1 = 1 then .inl (G.2.2 1, (x.2, .inr (.inl (M.2 q)))) else .inl (G.2.2 x.1, (x.2, .inl (M.1 q)))
def k_fld (G : Gx) (M : Mem) (q k : Nat) (o : Option Nat) : Value := match o with
  | some r => .ref (G.2.1 r)
  | none => .int (M.1 q k)
def k_cell (G : Gx) (M : Mem) (q : Nat) (x : Sh) : va_E := match x with
  | .inl a => k_arr G M q a
  | .inr o => .inr (o.1, o.2.mapIdx (k_fld G M q))
def k_ws (G : Gx) (sh : List Sh) (M : Mem) : va_W := sh.mapIdx fun q x => (G.2.1 q, k_cell G M q x)
theorem k_ws_get {G : Gx} {sh : List Sh} {M : Mem} {q : Nat} {x : Sh} (h : sh[q]? = some x) : (k_ws G sh M)[q]? = some (G.2.1 q, k_cell G M q x) := by
  simp [k_ws, List.getElem?_mapIdx, h]
theorem k_ws_int {G : Gx} {sh : List Sh} {M : Mem} {q k n : Nat} (h : sh[q]? = some (.inl (k, n))) (hk : k ≠ 1) : (k_ws G sh M)[q]? = some (G.2.1 q, .inl (G.2.2 k, (n, .inl (M.1 q)))) := by
  rw [k_ws_get h]
  show some (G.2.1 q, k_arr G M q (k, n)) = _
  rw [k_arr, if_neg hk]
theorem k_ws_long {G : Gx} {sh : List Sh} {M : Mem} {q n : Nat} (h : sh[q]? = some (.inl (1, n))) : (k_ws G sh M)[q]? = some (G.2.1 q, .inl (G.2.2 1, (n, .inr (.inl (M.2 q))))) := by
  rw [k_ws_get h]
  show some (G.2.1 q, k_arr G M q (1, n)) = _
  rw [k_arr, if_pos rfl]
theorem k_ws_obj {G : Gx} {sh : List Sh} {M : Mem} {q ci : Nat} {fs : List (Option Nat)} (h : sh[q]? = some (.inr (ci, fs))) : (k_ws G sh M)[q]? = some (G.2.1 q, .inr (ci, fs.mapIdx (k_fld G M q))) := by
  rw [k_ws_get h]; rfl
/-- a cell's new content: the world of the new store -/
theorem k_ws_set {G : Gx} {sh : List Sh} {M M' : Mem} {q : Nat} {x : Sh} {e : va_E} (h : sh[q]? = some x) (he : k_cell G M' q x = e) (ho : ∀ r y, r ≠ q → k_cell G M' r y = k_cell G M r y) :
    (k_ws G sh M).set q (G.2.1 q, e) = k_ws G sh M' := by
  refine List.ext_getElem? fun j => ?_
  rw [List.getElem?_set]
  by_cases hj : q = j
  · subst hj
    have hlt : q < sh.length := (List.getElem?_eq_some_iff.mp h).1
    rw [if_pos rfl, if_pos (by simpa [k_ws] using hlt), k_ws_get h, he]
  · rw [if_neg hj]
    cases hx : sh[j]? with
    | none => simp [k_ws, List.getElem?_mapIdx, hx]
    | some y => rw [k_ws_get hx, k_ws_get hx, ho j y (Ne.symm hj)]
def wI (M : Mem) (r i : Nat) (v : Int32) : Mem := (fun r' => if r' = r then upd (M.1 r) i v else M.1 r', M.2)
def wL (M : Mem) (r i : Nat) (v : Int64) : Mem := (M.1, fun r' => if r' = r then vp_updL (M.2 r) i v else M.2 r')
def wA (M : Mem) (r : Nat) (f : Nat → Int32) : Mem := (fun r' => if r' = r then f else M.1 r', M.2)
theorem k_fld_eq {G : Gx} {M M' : Mem} {q k : Nat} {o : Option Nat} (h : M'.1 q = M.1 q) : k_fld G M' q k o = k_fld G M q k o := by
  cases o <;> simp [k_fld, h]
theorem k_cell_eq {G : Gx} {M M' : Mem} {q : Nat} {y : Sh} (h1 : M'.1 q = M.1 q) (h2 : M'.2 q = M.2 q) : k_cell G M' q y = k_cell G M q y := by
  cases y with
  | inl a => simp [k_cell, k_arr, h1, h2]
  | inr o =>
    show Sum.inr _ = Sum.inr _
    congr 2
    have : k_fld G M' q = k_fld G M q := by
      funext k o
      exact k_fld_eq h1
    rw [this]
theorem k_set_i {G : Gx} {sh : List Sh} {M : Mem} {q k n i : Nat} {v : Int32} (h : sh[q]? = some (.inl (k, n))) (hk : k ≠ 1) :
    (k_ws G sh M).set q (G.2.1 q, .inl (G.2.2 k, (n, .inl (upd (M.1 q) i v)))) = k_ws G sh (wI M q i v) := by
  refine k_ws_set h ?_ fun r y hr => k_cell_eq (by simp [wI, hr]) rfl
  show k_arr _ _ _ _ = _
  simp [k_arr, hk, wI]
theorem k_set_a {G : Gx} {sh : List Sh} {M : Mem} {q k n : Nat} {f : Nat → Int32} (h : sh[q]? = some (.inl (k, n))) (hk : k ≠ 1) :
    (k_ws G sh M).set q (G.2.1 q, .inl (G.2.2 k, (n, .inl f))) = k_ws G sh (wA M q f) := by
  refine k_ws_set h ?_ fun r y hr => k_cell_eq (by simp [wA, hr]) rfl
  show k_arr _ _ _ _ = _
  simp [k_arr, hk, wA]
theorem k_set_l {G : Gx} {sh : List Sh} {M : Mem} {q n i : Nat} {v : Int64} (h : sh[q]? = some (.inl (1, n))) :
    (k_ws G sh M).set q (G.2.1 q, .inl (G.2.2 1, (n, .inr (.inl (vp_updL (M.2 q) i v))))) = k_ws G sh (wL M q i v) := by
  refine k_ws_set h ?_ fun r y hr => k_cell_eq rfl (by simp [wL, hr])
  show k_arr _ _ _ _ = _
  simp [k_arr, wL]
theorem k_set_f {G : Gx} {sh : List Sh} {M : Mem} {q ci k : Nat} {fs : List (Option Nat)} {v : Int32} (h : sh[q]? = some (.inr (ci, fs))) (hk : fs[k]? = some none) :
    (k_ws G sh M).set q (G.2.1 q, .inr (ci, (fs.mapIdx (k_fld G M q)).set k (.int v))) = k_ws G sh (wI M q k v) := by
  refine k_ws_set h ?_ fun r y hr => k_cell_eq (by simp [wI, hr]) rfl
  show Sum.inr (ci, fs.mapIdx (k_fld G (wI M q k v) q)) = _
  congr 2
  refine List.ext_getElem? fun j => ?_
  rw [List.getElem?_set, List.getElem?_mapIdx, List.getElem?_mapIdx]
  by_cases hj : k = j
  · subst hj
    have hlt : k < fs.length := (List.getElem?_eq_some_iff.mp hk).1
    rw [if_pos rfl, if_pos (by simpa using hlt), hk]
    simp [k_fld, wI, upd]
  · rw [if_neg hj]
    cases hx : fs[j]? with
    | none => rfl
    | some o =>
      cases o with
      | none => simp [k_fld, wI, upd, Ne.symm hj]
      | some r => simp [k_fld]
def k_tys (G : Gx) : List (ClassId × FieldType) := [(G.2.2 0, .int), (G.2.2 1, .long), (G.2.2 2, .boolean)]
/-- the nest mates' static methods that Letters calls -/
def k_nest : List (Nat × MethodName) := [(100, yX11_isMark), (72, yX11_isKind), (93, yX11_isType)]
def k_nw (U : State) : Prop := ∀ q ∈ k_nest, va_Nw (.methodLinkNest RX1 q.1 q.2 RX11) U
theorem k_nw.warm {s U : State} (hW : s.WarmedH U.vm) (h : k_nw s) : k_nw U := fun q hq => va_Nw.warmM hW (h q hq)
theorem k_nw.same {s U : State} (hv : s.vm = U.vm) (h : k_nw s) : k_nw U := fun q hq => va_Nw.same rfl hv (h q hq)
def k_B (G : Gx) (sh : List Sh) (M : Mem) (U : State) : Prop := va_P G.1 vwCl (k_ws G sh M) U.heap ∧ va_K G.1 vwCl (k_tys G) U ∧ k_nw U
def k_ap (G : Gx) (N : Nat) : Prop := ∀ i j : Nat, i < N → j < N → G.2.1 i = G.2.1 j → i = j
def k_A (G : Gx) (N : Nat) : Nat → Prop := fun a => ∃ q, q < N ∧ a = G.2.1 q
theorem k_D {G : Gx} {sh : List Sh} {M : Mem} (h : k_ap G sh.length) : va_D (k_A G sh.length) (k_ws G sh M) := by
  refine ⟨fun i j p q hi hj hpq => ?_, fun k q hk => ?_⟩
  · have li : i < sh.length := by have := (List.getElem?_eq_some_iff.mp hi).1; simpa [k_ws] using this
    have lj : j < sh.length := by have := (List.getElem?_eq_some_iff.mp hj).1; simpa [k_ws] using this
    rw [k_ws_get (List.getElem?_eq_getElem li)] at hi
    rw [k_ws_get (List.getElem?_eq_getElem lj)] at hj
    cases hi; cases hj
    exact h i j li lj hpq
  · have lk : k < sh.length := by have := (List.getElem?_eq_some_iff.mp hk).1; simpa [k_ws] using this
    rw [k_ws_get (List.getElem?_eq_getElem lk)] at hk
    cases hk
    exact ⟨k, lk, rfl⟩
theorem k_blind {G : Gx} {sh : List Sh} {M : Mem} {av : List Value} : FrameBlind (va_Pc av (k_B G sh M)) := fun a U g mk q => by
  obtain ⟨q1, q2, q3, q4⟩ := q
  exact ⟨q1, q2, va_K.moved (u := U) (U := U.calling g mk a) (Vm.Alike.refl U.vm) q3, k_nw.same rfl q4⟩
def k_ws1 (y : MethodName) (b : ByteArray) (n : Nat) (ret : Option FieldType) : List Cond := .code y b n ret :: bigW
abbrev k_rm (fr lo : Nat) : Room := { frames := fr, cells := 0, slots := 0, locals := lo }
def k_Qi (G : Gx) (sh : List Sh) (r : Int32) (M' : Mem) : Array Value → State → Outcome → State → Prop := va_Qi (fun (x : Int32) (_ : Unit) => x = r) (fun _ t => k_B G sh M' t) (k_A G sh.length)
def k_Ql (G : Gx) (sh : List Sh) (r : Int64) (M' : Mem) : Array Value → State → Outcome → State → Prop := va_Ql (fun (x : Int64) (_ : Unit) => x = r) (fun _ t => k_B G sh M' t) (k_A G sh.length)
def k_Qv (G : Gx) (sh : List Sh) (M' : Mem) : Array Value → State → Outcome → State → Prop := va_Qv (fun (_ : Unit) => True) (fun _ t => k_B G sh M' t) (k_A G sh.length)
def k_Met (l : Launch) (y : MethodName) (b : ByteArray) (n : Nat) (ret : Option FieldType) (fr lo : Nat) (G : Gx) (sh : List Sh) (av : List Value) (M : Mem) (Q : Array Value → State → Outcome → State → Prop) : Prop :=
  Met l y (k_ws1 y b n ret) (k_rm fr lo) (va_Pc av (k_B G sh M)) Q 0 0 (k_A G sh.length)
/-- the walk's standing facts -/
def Cx (p : Program) (s : State) (m : MethodId) (args : Array Value) (c : Code) (cc : ByteArray) (own : String) (nL : Nat) (G : Gx) (sh : List Sh) : Prop :=
  p.tables.exec = Jvm.exec ∧ c.code = cc ∧ c.maxLocals = nL ∧ s.vm.findClass own = some m.cls ∧ (∀ w ∈ bigW, w.before args s = true) ∧ va_K G.1 vwCl (k_tys G) s ∧ k_nw s ∧ k_ap G sh.length
def K (p : Program) (l : Launch) (e : Env) (R : Room) (s : State) (m : MethodId) (args : Array Value) (below : List Frame) (meth : Method) (c : Code) (nL : Nat) (G : Gx) (sh : List Sh) (Q : State → Prop) (pc : Nat) (lv : List (Nat × Value)) (st : List Value) (M : Mem) : Prop :=
  ∀ (H : Heap) (locs : List Loc) (ls : Array Slot), va_P G.1 vwCl (k_ws G sh M) H → va_S (k_A G sh.length) s.heap H locs → lv_has ls nL lv → W p l e R s m args below meth c H locs 0 0 Q (F0 m pc ls st)
end
section
/-! one row an instruction, over the store -/
section KR
variable {p : Program} {l : Launch} {e : Env} {R : Room} {s : State} {m : MethodId} {args : Array Value} {below : List Frame} {meth : Method} {c : Code} {cc : ByteArray} {own : String} {nL : Nat} {G : Gx} {sh : List Sh} {Q : State → Prop} {pc : Nat} {lv lv' : List (Nat × Value)} {st : List Value} {M : Mem}
theorem k_pc {pc' : Nat} (h : pc = pc') (k : K p l e R s m args below meth c nL G sh Q pc' lv st M) : K p l e R s m args below meth c nL G sh Q pc lv st M := h ▸ k
theorem k_lv (ks : List Nat) (h : lv_pick lv ks = lv') (k : K p l e R s m args below meth c nL G sh Q pc lv' st M) : K p l e R s m args below meth c nL G sh Q pc lv st M := fun H locs ls hP hS hl => k H locs ls hP hS (lv_sub hl ks h)
theorem k_val {v v' : Value} (h : v' = v) (k : K p l e R s m args below meth c nL G sh Q pc lv (v :: st) M) : K p l e R s m args below meth c nL G sh Q pc lv (v' :: st) M := h ▸ k
theorem k_iconst (C : Cx p s m args c cc own nL G sh) {n : Int} {v : Int32} (d : decode cc pc = .ok (.iconst n, 1)) (hv : Int32.ofInt n = v) (k : K p l e R s m args below meth c nL G sh Q (pc + 1) lv (.int v :: st) M) : K p l e R s m args below meth c nL G sh Q pc lv st M := fun H locs ls hP hS hl => lv_iconst C.1 C.2.1 d hv (k H locs ls hP hS hl)
theorem k_bipush (C : Cx p s m args c cc own nL G sh) {n : Int} {v : Int32} (d : decode cc pc = .ok (.bipush n, 2)) (hv : (Int8.ofInt n).toInt32 = v) (k : K p l e R s m args below meth c nL G sh Q (pc + 2) lv (.int v :: st) M) : K p l e R s m args below meth c nL G sh Q pc lv st M := fun H locs ls hP hS hl => lv_bipush C.1 C.2.1 d hv (k H locs ls hP hS hl)
theorem k_sipush (C : Cx p s m args c cc own nL G sh) {n : Int} {v : Int32} (d : decode cc pc = .ok (.sipush n, 3)) (hv : (Int16.ofInt n).toInt32 = v) (k : K p l e R s m args below meth c nL G sh Q (pc + 3) lv (.int v :: st) M) : K p l e R s m args below meth c nL G sh Q pc lv st M := fun H locs ls hP hS hl => lv_sipush C.1 C.2.1 d hv (k H locs ls hP hS hl)
theorem k_lconst (C : Cx p s m args c cc own nL G sh) {n : Fin 2} {v : Int64} (d : decode cc pc = .ok (.lconst n, 1)) (hv : Int64.ofNat (n : Nat) = v) (k : K p l e R s m args below meth c nL G sh Q (pc + 1) lv (.long v :: st) M) : K p l e R s m args below meth c nL G sh Q pc lv st M := fun H locs ls hP hS hl => lv_lconst C.1 C.2.1 d hv (k H locs ls hP hS hl)
theorem k_ldc (C : Cx p s m args c cc own nL G sh) {index : Nat} {v : Int32} (d : decode cc pc = .ok (.ldc index, 2)) (hw : Cond.constant own index v ∈ bigW) (k : K p l e R s m args below meth c nL G sh Q (pc + 2) lv (.int v :: st) M) : K p l e R s m args below meth c nL G sh Q pc lv st M := fun H locs ls hP hS hl => lv_ldc C.1 C.2.1 C.2.2.2.1 (C.2.2.2.2.1 _ hw) d (k H locs ls hP hS hl)
theorem k_ldcw (C : Cx p s m args c cc own nL G sh) {index : Nat} {v : Int32} (d : decode cc pc = .ok (.ldc_w index, 3)) (hw : Cond.constant own index v ∈ bigW) (k : K p l e R s m args below meth c nL G sh Q (pc + 3) lv (.int v :: st) M) : K p l e R s m args below meth c nL G sh Q pc lv st M := fun H locs ls hP hS hl => lv_ldcw C.1 C.2.1 C.2.2.2.1 (C.2.2.2.2.1 _ hw) d (k H locs ls hP hS hl)
theorem k_ldc2 (C : Cx p s m args c cc own nL G sh) {index : Nat} {v : Int64} (d : decode cc pc = .ok (.ldc2_w index, 3)) (hw : Cond.constantLong own index v ∈ bigW) (k : K p l e R s m args below meth c nL G sh Q (pc + 3) lv (.long v :: st) M) : K p l e R s m args below meth c nL G sh Q pc lv st M := fun H locs ls hP hS hl => lv_ldc2 C.1 C.2.1 C.2.2.2.1 (C.2.2.2.2.1 _ hw) d (k H locs ls hP hS hl)
theorem k_iload_n (C : Cx p s m args c cc own nL G sh) {i : Fin 4} {x : Int32} (d : decode cc pc = .ok (.iload_n i, 1)) (j : Nat) (hj : lv[j]? = some ((i : Nat), .int x)) (k : K p l e R s m args below meth c nL G sh Q (pc + 1) lv (.int x :: st) M) : K p l e R s m args below meth c nL G sh Q pc lv st M := fun H locs ls hP hS hl => lv_iload_n C.1 C.2.1 d rfl (lv_at hl j hj) (k H locs ls hP hS hl)
theorem k_iload (C : Cx p s m args c cc own nL G sh) {i : Nat} {x : Int32} (d : decode cc pc = .ok (.iload i, 2)) (j : Nat) (hj : lv[j]? = some (i, .int x)) (k : K p l e R s m args below meth c nL G sh Q (pc + 2) lv (.int x :: st) M) : K p l e R s m args below meth c nL G sh Q pc lv st M := fun H locs ls hP hS hl => lv_iload C.1 C.2.1 d (lv_at hl j hj) (k H locs ls hP hS hl)
theorem k_lload_n (C : Cx p s m args c cc own nL G sh) {i : Fin 4} {x : Int64} (d : decode cc pc = .ok (.lload_n i, 1)) (j : Nat) (hj : lv[j]? = some ((i : Nat), .long x)) (k : K p l e R s m args below meth c nL G sh Q (pc + 1) lv (.long x :: st) M) : K p l e R s m args below meth c nL G sh Q pc lv st M := fun H locs ls hP hS hl => lv_lload_n C.1 C.2.1 d rfl (lv_at hl j hj) (k H locs ls hP hS hl)
theorem k_lload (C : Cx p s m args c cc own nL G sh) {i : Nat} {x : Int64} (d : decode cc pc = .ok (.lload i, 2)) (j : Nat) (hj : lv[j]? = some (i, .long x)) (k : K p l e R s m args below meth c nL G sh Q (pc + 2) lv (.long x :: st) M) : K p l e R s m args below meth c nL G sh Q pc lv st M := fun H locs ls hP hS hl => lv_lload C.1 C.2.1 d (lv_at hl j hj) (k H locs ls hP hS hl)
theorem k_aload_n (C : Cx p s m args c cc own nL G sh) {i : Fin 4} {x : Nat} (d : decode cc pc = .ok (.aload_n i, 1)) (j : Nat) (hj : lv[j]? = some ((i : Nat), .ref x)) (k : K p l e R s m args below meth c nL G sh Q (pc + 1) lv (.ref x :: st) M) : K p l e R s m args below meth c nL G sh Q pc lv st M := fun H locs ls hP hS hl => lv_aload_n C.1 C.2.1 d rfl (lv_at hl j hj) (k H locs ls hP hS hl)
theorem k_istore_n (C : Cx p s m args c cc own nL G sh) {i : Fin 4} {x : Int32} (d : decode cc pc = .ok (.istore_n i, 1)) (hn : (i : Nat) < nL) (ks : List Nat) (h : lv_pick (((i : Nat), Value.int x) :: lv.filter (fun q => !(q.1 == (i : Nat)) && !(q.1 + 1 == (i : Nat) && q.2.category == 2))) ks = lv') (k : K p l e R s m args below meth c nL G sh Q (pc + 1) lv' st M) : K p l e R s m args below meth c nL G sh Q pc lv (.int x :: st) M := fun H locs ls hP hS hl => lv_istore_n C.1 C.2.1 d rfl hl hn rfl (fun ls' hl' => k H locs ls' hP hS (lv_sub hl' ks h))
theorem k_istore (C : Cx p s m args c cc own nL G sh) {i : Nat} {x : Int32} (d : decode cc pc = .ok (.istore i, 2)) (hn : i < nL) (ks : List Nat) (h : lv_pick ((i, Value.int x) :: lv.filter (fun q => !(q.1 == i) && !(q.1 + 1 == i && q.2.category == 2))) ks = lv') (k : K p l e R s m args below meth c nL G sh Q (pc + 2) lv' st M) : K p l e R s m args below meth c nL G sh Q pc lv (.int x :: st) M := fun H locs ls hP hS hl => lv_istore C.1 C.2.1 d hl hn rfl (fun ls' hl' => k H locs ls' hP hS (lv_sub hl' ks h))
theorem k_lstore_n (C : Cx p s m args c cc own nL G sh) {i : Fin 4} {x : Int64} (d : decode cc pc = .ok (.lstore_n i, 1)) (hn : (i : Nat) + 1 < nL) (ks : List Nat) (h : lv_pick (((i : Nat), Value.long x) :: lv.filter (fun q => !(q.1 == (i : Nat)) && (!(q.1 == (i : Nat) + 1) && !(q.1 + 1 == (i : Nat) && q.2.category == 2)))) ks = lv') (k : K p l e R s m args below meth c nL G sh Q (pc + 1) lv' st M) : K p l e R s m args below meth c nL G sh Q pc lv (.long x :: st) M := fun H locs ls hP hS hl => lv_lstore_n C.1 C.2.1 d rfl hl hn rfl (fun ls' hl' => k H locs ls' hP hS (lv_sub hl' ks h))
theorem k_lstore (C : Cx p s m args c cc own nL G sh) {i : Nat} {x : Int64} (d : decode cc pc = .ok (.lstore i, 2)) (hn : i + 1 < nL) (ks : List Nat) (h : lv_pick ((i, Value.long x) :: lv.filter (fun q => !(q.1 == i) && (!(q.1 == i + 1) && !(q.1 + 1 == i && q.2.category == 2)))) ks = lv') (k : K p l e R s m args below meth c nL G sh Q (pc + 2) lv' st M) : K p l e R s m args below meth c nL G sh Q pc lv (.long x :: st) M := fun H locs ls hP hS hl => lv_lstore C.1 C.2.1 d hl hn rfl (fun ls' hl' => k H locs ls' hP hS (lv_sub hl' ks h))
theorem k_iinc (C : Cx p s m args c cc own nL G sh) {i : Nat} {n : Int} {x v : Int32} (d : decode cc pc = .ok (.iinc i n, 3)) (j : Nat) (hj : lv[j]? = some (i, .int x)) (hv : x + Int32.ofInt n = v) (hn : i < nL) (ks : List Nat) (h : lv_pick ((i, Value.int v) :: lv.filter (fun q => !(q.1 == i) && !(q.1 + 1 == i && q.2.category == 2))) ks = lv') (k : K p l e R s m args below meth c nL G sh Q (pc + 3) lv' st M) : K p l e R s m args below meth c nL G sh Q pc lv st M := fun H locs ls hP hS hl => lv_iinc C.1 C.2.1 d hl hj hv hn rfl (fun ls' hl' => k H locs ls' hP hS (lv_sub hl' ks h))
theorem k_iadd (C : Cx p s m args c cc own nL G sh) {x y : Int32} (d : decode cc pc = .ok (.iadd, 1)) (k : K p l e R s m args below meth c nL G sh Q (pc + 1) lv (.int (x + y) :: st) M) : K p l e R s m args below meth c nL G sh Q pc lv (.int y :: .int x :: st) M := fun H locs ls hP hS hl => lv_iadd C.1 C.2.1 d (k H locs ls hP hS hl)
theorem k_isub (C : Cx p s m args c cc own nL G sh) {x y : Int32} (d : decode cc pc = .ok (.isub, 1)) (k : K p l e R s m args below meth c nL G sh Q (pc + 1) lv (.int (x - y) :: st) M) : K p l e R s m args below meth c nL G sh Q pc lv (.int y :: .int x :: st) M := fun H locs ls hP hS hl => lv_isub C.1 C.2.1 d (k H locs ls hP hS hl)
theorem k_imul (C : Cx p s m args c cc own nL G sh) {x y : Int32} (d : decode cc pc = .ok (.imul, 1)) (k : K p l e R s m args below meth c nL G sh Q (pc + 1) lv (.int (x * y) :: st) M) : K p l e R s m args below meth c nL G sh Q pc lv (.int y :: .int x :: st) M := fun H locs ls hP hS hl => lv_imul C.1 C.2.1 d (k H locs ls hP hS hl)
theorem k_iand (C : Cx p s m args c cc own nL G sh) {x y : Int32} (d : decode cc pc = .ok (.iand, 1)) (k : K p l e R s m args below meth c nL G sh Q (pc + 1) lv (.int (x &&& y) :: st) M) : K p l e R s m args below meth c nL G sh Q pc lv (.int y :: .int x :: st) M := fun H locs ls hP hS hl => lv_iand C.1 C.2.1 d (k H locs ls hP hS hl)
theorem k_ior (C : Cx p s m args c cc own nL G sh) {x y : Int32} (d : decode cc pc = .ok (.ior, 1)) (k : K p l e R s m args below meth c nL G sh Q (pc + 1) lv (.int (x ||| y) :: st) M) : K p l e R s m args below meth c nL G sh Q pc lv (.int y :: .int x :: st) M := fun H locs ls hP hS hl => lv_ior C.1 C.2.1 d (k H locs ls hP hS hl)
theorem k_ixor (C : Cx p s m args c cc own nL G sh) {x y : Int32} (d : decode cc pc = .ok (.ixor, 1)) (k : K p l e R s m args below meth c nL G sh Q (pc + 1) lv (.int (x ^^^ y) :: st) M) : K p l e R s m args below meth c nL G sh Q pc lv (.int y :: .int x :: st) M := fun H locs ls hP hS hl => lv_ixor C.1 C.2.1 d (k H locs ls hP hS hl)
theorem k_ishl (C : Cx p s m args c cc own nL G sh) {x y : Int32} (d : decode cc pc = .ok (.ishl, 1)) (k : K p l e R s m args below meth c nL G sh Q (pc + 1) lv (.int (x <<< (y &&& 31)) :: st) M) : K p l e R s m args below meth c nL G sh Q pc lv (.int y :: .int x :: st) M := fun H locs ls hP hS hl => lv_ishl C.1 C.2.1 d (k H locs ls hP hS hl)
theorem k_ishr (C : Cx p s m args c cc own nL G sh) {x y : Int32} (d : decode cc pc = .ok (.ishr, 1)) (k : K p l e R s m args below meth c nL G sh Q (pc + 1) lv (.int (x >>> (y &&& 31)) :: st) M) : K p l e R s m args below meth c nL G sh Q pc lv (.int y :: .int x :: st) M := fun H locs ls hP hS hl => lv_ishr C.1 C.2.1 d (k H locs ls hP hS hl)
theorem k_iushr (C : Cx p s m args c cc own nL G sh) {x y : Int32} (d : decode cc pc = .ok (.iushr, 1)) (k : K p l e R s m args below meth c nL G sh Q (pc + 1) lv (.int (x.toUInt32 >>> (y.toUInt32 &&& Int32.toUInt32 31)).toInt32 :: st) M) : K p l e R s m args below meth c nL G sh Q pc lv (.int y :: .int x :: st) M := fun H locs ls hP hS hl => lv_iushr C.1 C.2.1 d rfl (k H locs ls hP hS hl)
theorem k_ineg (C : Cx p s m args c cc own nL G sh) {x : Int32} (d : decode cc pc = .ok (.ineg, 1)) (k : K p l e R s m args below meth c nL G sh Q (pc + 1) lv (.int (-x) :: st) M) : K p l e R s m args below meth c nL G sh Q pc lv (.int x :: st) M := fun H locs ls hP hS hl => lv_ineg C.1 C.2.1 d (k H locs ls hP hS hl)
theorem k_idiv (C : Cx p s m args c cc own nL G sh) {x y : Int32} (d : decode cc pc = .ok (.idiv, 1)) (hn : ¬ y = 0) (k : K p l e R s m args below meth c nL G sh Q (pc + 1) lv (.int (x / y) :: st) M) : K p l e R s m args below meth c nL G sh Q pc lv (.int y :: .int x :: st) M := fun H locs ls hP hS hl => lv_idiv C.1 C.2.1 d hn (k H locs ls hP hS hl)
theorem k_irem (C : Cx p s m args c cc own nL G sh) {x y : Int32} (d : decode cc pc = .ok (.irem, 1)) (hn : ¬ y = 0) (k : K p l e R s m args below meth c nL G sh Q (pc + 1) lv (.int (x - x / y * y) :: st) M) : K p l e R s m args below meth c nL G sh Q pc lv (.int y :: .int x :: st) M := fun H locs ls hP hS hl => lv_irem C.1 C.2.1 d hn (k H locs ls hP hS hl)
theorem k_ladd (C : Cx p s m args c cc own nL G sh) {x y : Int64} (d : decode cc pc = .ok (.ladd, 1)) (k : K p l e R s m args below meth c nL G sh Q (pc + 1) lv (.long (x + y) :: st) M) : K p l e R s m args below meth c nL G sh Q pc lv (.long y :: .long x :: st) M := fun H locs ls hP hS hl => lv_ladd C.1 C.2.1 d (k H locs ls hP hS hl)
theorem k_lsub (C : Cx p s m args c cc own nL G sh) {x y : Int64} (d : decode cc pc = .ok (.lsub, 1)) (k : K p l e R s m args below meth c nL G sh Q (pc + 1) lv (.long (x - y) :: st) M) : K p l e R s m args below meth c nL G sh Q pc lv (.long y :: .long x :: st) M := fun H locs ls hP hS hl => lv_lsub C.1 C.2.1 d (k H locs ls hP hS hl)
theorem k_lmul (C : Cx p s m args c cc own nL G sh) {x y : Int64} (d : decode cc pc = .ok (.lmul, 1)) (k : K p l e R s m args below meth c nL G sh Q (pc + 1) lv (.long (x * y) :: st) M) : K p l e R s m args below meth c nL G sh Q pc lv (.long y :: .long x :: st) M := fun H locs ls hP hS hl => lv_lmul C.1 C.2.1 d (k H locs ls hP hS hl)
theorem k_ldiv (C : Cx p s m args c cc own nL G sh) {x y : Int64} (d : decode cc pc = .ok (.ldiv, 1)) (hn : ¬ y = 0) (k : K p l e R s m args below meth c nL G sh Q (pc + 1) lv (.long (x / y) :: st) M) : K p l e R s m args below meth c nL G sh Q pc lv (.long y :: .long x :: st) M := fun H locs ls hP hS hl => lv_ldiv C.1 C.2.1 d hn (k H locs ls hP hS hl)
theorem k_lrem (C : Cx p s m args c cc own nL G sh) {x y : Int64} (d : decode cc pc = .ok (.lrem, 1)) (hn : ¬ y = 0) (k : K p l e R s m args below meth c nL G sh Q (pc + 1) lv (.long (x - x / y * y) :: st) M) : K p l e R s m args below meth c nL G sh Q pc lv (.long y :: .long x :: st) M := fun H locs ls hP hS hl => lv_lrem C.1 C.2.1 d hn (k H locs ls hP hS hl)
theorem k_i2l (C : Cx p s m args c cc own nL G sh) {x : Int32} (d : decode cc pc = .ok (.i2l, 1)) (k : K p l e R s m args below meth c nL G sh Q (pc + 1) lv (.long x.toInt64 :: st) M) : K p l e R s m args below meth c nL G sh Q pc lv (.int x :: st) M := fun H locs ls hP hS hl => lv_i2l C.1 C.2.1 d rfl (k H locs ls hP hS hl)
theorem k_lcmp (C : Cx p s m args c cc own nL G sh) {x y : Int64} (d : decode cc pc = .ok (.lcmp, 1)) (k : K p l e R s m args below meth c nL G sh Q (pc + 1) lv (.int (lg_cmp x y) :: st) M) : K p l e R s m args below meth c nL G sh Q pc lv (.long y :: .long x :: st) M := fun H locs ls hP hS hl => W.lcmp C.1 C.2.1 d (k H locs ls hP hS hl)
theorem k_dup (C : Cx p s m args c cc own nL G sh) {v : Value} (d : decode cc pc = .ok (.dup, 1)) (hv : v.category = 1) (k : K p l e R s m args below meth c nL G sh Q (pc + 1) lv (v :: v :: st) M) : K p l e R s m args below meth c nL G sh Q pc lv (v :: st) M := fun H locs ls hP hS hl => lv_dup C.1 C.2.1 d hv (k H locs ls hP hS hl)
theorem k_pop (C : Cx p s m args c cc own nL G sh) {v : Value} (d : decode cc pc = .ok (.pop, 1)) (hv : v.category = 1) (k : K p l e R s m args below meth c nL G sh Q (pc + 1) lv st M) : K p l e R s m args below meth c nL G sh Q pc lv (v :: st) M := fun H locs ls hP hS hl => lv_pop C.1 C.2.1 d hv (k H locs ls hP hS hl)
theorem k_dup_x1 (C : Cx p s m args c cc own nL G sh) {v w : Value} (d : decode cc pc = .ok (.dup_x1, 1)) (hv : v.category = 1) (hw : w.category = 1) (k : K p l e R s m args below meth c nL G sh Q (pc + 1) lv (v :: w :: v :: st) M) : K p l e R s m args below meth c nL G sh Q pc lv (v :: w :: st) M := fun H locs ls hP hS hl => lv_dup_x1 C.1 C.2.1 d hv hw (k H locs ls hP hS hl)
theorem k_dup2 (C : Cx p s m args c cc own nL G sh) {v w : Value} (d : decode cc pc = .ok (.dup2, 1)) (hv : v.category = 1) (hw : w.category = 1) (k : K p l e R s m args below meth c nL G sh Q (pc + 1) lv (v :: w :: v :: w :: st) M) : K p l e R s m args below meth c nL G sh Q pc lv (v :: w :: st) M := fun H locs ls hP hS hl => lv_dup2_11 C.1 C.2.1 d hv hw (k H locs ls hP hS hl)
theorem k_goto (C : Cx p s m args c cc own nL G sh) {off : Int} {tgt : Nat} (d : decode cc pc = .ok (.goto off, 3)) (ht : (pc : Int) + off = (tgt : Int)) (k : K p l e R s m args below meth c nL G sh Q tgt lv st M) : K p l e R s m args below meth c nL G sh Q pc lv st M := fun H locs ls hP hS hl => lv_goto C.1 C.2.1 d ht (k H locs ls hP hS hl)
theorem k_if_eq_t (C : Cx p s m args c cc own nL G sh) {x : Int32} {off : Int} {tgt : Nat} (d : decode cc pc = .ok (.ifCond .eq off, 3)) (ht : (pc : Int) + off = (tgt : Int)) (h : x = 0) (k : K p l e R s m args below meth c nL G sh Q tgt lv st M) : K p l e R s m args below meth c nL G sh Q pc lv (.int x :: st) M := fun H locs ls hP hS hl => lv_if_eq C.1 C.2.1 d ht (fun _ => k H locs ls hP hS hl) (fun q => absurd h q)
theorem k_if_eq_f (C : Cx p s m args c cc own nL G sh) {x : Int32} {off : Int} {tgt : Nat} (d : decode cc pc = .ok (.ifCond .eq off, 3)) (ht : (pc : Int) + off = (tgt : Int)) (h : ¬ x = 0) (k : K p l e R s m args below meth c nL G sh Q (pc + 3) lv st M) : K p l e R s m args below meth c nL G sh Q pc lv (.int x :: st) M := fun H locs ls hP hS hl => lv_if_eq C.1 C.2.1 d ht (fun q => absurd q h) (fun _ => k H locs ls hP hS hl)
theorem k_icmp_eq_t (C : Cx p s m args c cc own nL G sh) {x y : Int32} {off : Int} {tgt : Nat} (d : decode cc pc = .ok (.if_icmp .eq off, 3)) (ht : (pc : Int) + off = (tgt : Int)) (h : x = y) (k : K p l e R s m args below meth c nL G sh Q tgt lv st M) : K p l e R s m args below meth c nL G sh Q pc lv (.int y :: .int x :: st) M := fun H locs ls hP hS hl => lv_icmp_eq C.1 C.2.1 d ht (fun _ => k H locs ls hP hS hl) (fun q => absurd h q)
theorem k_icmp_eq_f (C : Cx p s m args c cc own nL G sh) {x y : Int32} {off : Int} {tgt : Nat} (d : decode cc pc = .ok (.if_icmp .eq off, 3)) (ht : (pc : Int) + off = (tgt : Int)) (h : ¬ x = y) (k : K p l e R s m args below meth c nL G sh Q (pc + 3) lv st M) : K p l e R s m args below meth c nL G sh Q pc lv (.int y :: .int x :: st) M := fun H locs ls hP hS hl => lv_icmp_eq C.1 C.2.1 d ht (fun q => absurd q h) (fun _ => k H locs ls hP hS hl)
theorem k_if_ne_t (C : Cx p s m args c cc own nL G sh) {x : Int32} {off : Int} {tgt : Nat} (d : decode cc pc = .ok (.ifCond .ne off, 3)) (ht : (pc : Int) + off = (tgt : Int)) (h : ¬ x = 0) (k : K p l e R s m args below meth c nL G sh Q tgt lv st M) : K p l e R s m args below meth c nL G sh Q pc lv (.int x :: st) M := fun H locs ls hP hS hl => lv_if_ne C.1 C.2.1 d ht (fun _ => k H locs ls hP hS hl) (fun q => absurd q h)
theorem k_if_ne_f (C : Cx p s m args c cc own nL G sh) {x : Int32} {off : Int} {tgt : Nat} (d : decode cc pc = .ok (.ifCond .ne off, 3)) (ht : (pc : Int) + off = (tgt : Int)) (h : x = 0) (k : K p l e R s m args below meth c nL G sh Q (pc + 3) lv st M) : K p l e R s m args below meth c nL G sh Q pc lv (.int x :: st) M := fun H locs ls hP hS hl => lv_if_ne C.1 C.2.1 d ht (fun q => absurd h q) (fun _ => k H locs ls hP hS hl)
theorem k_icmp_ne_t (C : Cx p s m args c cc own nL G sh) {x y : Int32} {off : Int} {tgt : Nat} (d : decode cc pc = .ok (.if_icmp .ne off, 3)) (ht : (pc : Int) + off = (tgt : Int)) (h : ¬ x = y) (k : K p l e R s m args below meth c nL G sh Q tgt lv st M) : K p l e R s m args below meth c nL G sh Q pc lv (.int y :: .int x :: st) M := fun H locs ls hP hS hl => lv_icmp_ne C.1 C.2.1 d ht (fun _ => k H locs ls hP hS hl) (fun q => absurd q h)
theorem k_icmp_ne_f (C : Cx p s m args c cc own nL G sh) {x y : Int32} {off : Int} {tgt : Nat} (d : decode cc pc = .ok (.if_icmp .ne off, 3)) (ht : (pc : Int) + off = (tgt : Int)) (h : x = y) (k : K p l e R s m args below meth c nL G sh Q (pc + 3) lv st M) : K p l e R s m args below meth c nL G sh Q pc lv (.int y :: .int x :: st) M := fun H locs ls hP hS hl => lv_icmp_ne C.1 C.2.1 d ht (fun q => absurd h q) (fun _ => k H locs ls hP hS hl)
theorem k_if_lt_t (C : Cx p s m args c cc own nL G sh) {x : Int32} {off : Int} {tgt : Nat} (d : decode cc pc = .ok (.ifCond .lt off, 3)) (ht : (pc : Int) + off = (tgt : Int)) (h : x < 0) (k : K p l e R s m args below meth c nL G sh Q tgt lv st M) : K p l e R s m args below meth c nL G sh Q pc lv (.int x :: st) M := fun H locs ls hP hS hl => lv_if_lt C.1 C.2.1 d ht (fun _ => k H locs ls hP hS hl) (fun q => absurd h q)
theorem k_if_lt_f (C : Cx p s m args c cc own nL G sh) {x : Int32} {off : Int} {tgt : Nat} (d : decode cc pc = .ok (.ifCond .lt off, 3)) (ht : (pc : Int) + off = (tgt : Int)) (h : ¬ x < 0) (k : K p l e R s m args below meth c nL G sh Q (pc + 3) lv st M) : K p l e R s m args below meth c nL G sh Q pc lv (.int x :: st) M := fun H locs ls hP hS hl => lv_if_lt C.1 C.2.1 d ht (fun q => absurd q h) (fun _ => k H locs ls hP hS hl)
theorem k_icmp_lt_t (C : Cx p s m args c cc own nL G sh) {x y : Int32} {off : Int} {tgt : Nat} (d : decode cc pc = .ok (.if_icmp .lt off, 3)) (ht : (pc : Int) + off = (tgt : Int)) (h : x < y) (k : K p l e R s m args below meth c nL G sh Q tgt lv st M) : K p l e R s m args below meth c nL G sh Q pc lv (.int y :: .int x :: st) M := fun H locs ls hP hS hl => lv_icmp_lt C.1 C.2.1 d ht (fun _ => k H locs ls hP hS hl) (fun q => absurd h q)
theorem k_icmp_lt_f (C : Cx p s m args c cc own nL G sh) {x y : Int32} {off : Int} {tgt : Nat} (d : decode cc pc = .ok (.if_icmp .lt off, 3)) (ht : (pc : Int) + off = (tgt : Int)) (h : ¬ x < y) (k : K p l e R s m args below meth c nL G sh Q (pc + 3) lv st M) : K p l e R s m args below meth c nL G sh Q pc lv (.int y :: .int x :: st) M := fun H locs ls hP hS hl => lv_icmp_lt C.1 C.2.1 d ht (fun q => absurd q h) (fun _ => k H locs ls hP hS hl)
theorem k_if_ge_t (C : Cx p s m args c cc own nL G sh) {x : Int32} {off : Int} {tgt : Nat} (d : decode cc pc = .ok (.ifCond .ge off, 3)) (ht : (pc : Int) + off = (tgt : Int)) (h : 0 ≤ x) (k : K p l e R s m args below meth c nL G sh Q tgt lv st M) : K p l e R s m args below meth c nL G sh Q pc lv (.int x :: st) M := fun H locs ls hP hS hl => lv_if_ge C.1 C.2.1 d ht (fun _ => k H locs ls hP hS hl) (fun q => absurd h q)
theorem k_if_ge_f (C : Cx p s m args c cc own nL G sh) {x : Int32} {off : Int} {tgt : Nat} (d : decode cc pc = .ok (.ifCond .ge off, 3)) (ht : (pc : Int) + off = (tgt : Int)) (h : ¬ 0 ≤ x) (k : K p l e R s m args below meth c nL G sh Q (pc + 3) lv st M) : K p l e R s m args below meth c nL G sh Q pc lv (.int x :: st) M := fun H locs ls hP hS hl => lv_if_ge C.1 C.2.1 d ht (fun q => absurd q h) (fun _ => k H locs ls hP hS hl)
theorem k_icmp_ge_t (C : Cx p s m args c cc own nL G sh) {x y : Int32} {off : Int} {tgt : Nat} (d : decode cc pc = .ok (.if_icmp .ge off, 3)) (ht : (pc : Int) + off = (tgt : Int)) (h : y ≤ x) (k : K p l e R s m args below meth c nL G sh Q tgt lv st M) : K p l e R s m args below meth c nL G sh Q pc lv (.int y :: .int x :: st) M := fun H locs ls hP hS hl => lv_icmp_ge C.1 C.2.1 d ht (fun _ => k H locs ls hP hS hl) (fun q => absurd h q)
theorem k_icmp_ge_f (C : Cx p s m args c cc own nL G sh) {x y : Int32} {off : Int} {tgt : Nat} (d : decode cc pc = .ok (.if_icmp .ge off, 3)) (ht : (pc : Int) + off = (tgt : Int)) (h : ¬ y ≤ x) (k : K p l e R s m args below meth c nL G sh Q (pc + 3) lv st M) : K p l e R s m args below meth c nL G sh Q pc lv (.int y :: .int x :: st) M := fun H locs ls hP hS hl => lv_icmp_ge C.1 C.2.1 d ht (fun q => absurd q h) (fun _ => k H locs ls hP hS hl)
theorem k_if_gt_t (C : Cx p s m args c cc own nL G sh) {x : Int32} {off : Int} {tgt : Nat} (d : decode cc pc = .ok (.ifCond .gt off, 3)) (ht : (pc : Int) + off = (tgt : Int)) (h : 0 < x) (k : K p l e R s m args below meth c nL G sh Q tgt lv st M) : K p l e R s m args below meth c nL G sh Q pc lv (.int x :: st) M := fun H locs ls hP hS hl => lv_if_gt C.1 C.2.1 d ht (fun _ => k H locs ls hP hS hl) (fun q => absurd h q)
theorem k_if_gt_f (C : Cx p s m args c cc own nL G sh) {x : Int32} {off : Int} {tgt : Nat} (d : decode cc pc = .ok (.ifCond .gt off, 3)) (ht : (pc : Int) + off = (tgt : Int)) (h : ¬ 0 < x) (k : K p l e R s m args below meth c nL G sh Q (pc + 3) lv st M) : K p l e R s m args below meth c nL G sh Q pc lv (.int x :: st) M := fun H locs ls hP hS hl => lv_if_gt C.1 C.2.1 d ht (fun q => absurd q h) (fun _ => k H locs ls hP hS hl)
theorem k_icmp_gt_t (C : Cx p s m args c cc own nL G sh) {x y : Int32} {off : Int} {tgt : Nat} (d : decode cc pc = .ok (.if_icmp .gt off, 3)) (ht : (pc : Int) + off = (tgt : Int)) (h : y < x) (k : K p l e R s m args below meth c nL G sh Q tgt lv st M) : K p l e R s m args below meth c nL G sh Q pc lv (.int y :: .int x :: st) M := fun H locs ls hP hS hl => lv_icmp_gt C.1 C.2.1 d ht (fun _ => k H locs ls hP hS hl) (fun q => absurd h q)
theorem k_icmp_gt_f (C : Cx p s m args c cc own nL G sh) {x y : Int32} {off : Int} {tgt : Nat} (d : decode cc pc = .ok (.if_icmp .gt off, 3)) (ht : (pc : Int) + off = (tgt : Int)) (h : ¬ y < x) (k : K p l e R s m args below meth c nL G sh Q (pc + 3) lv st M) : K p l e R s m args below meth c nL G sh Q pc lv (.int y :: .int x :: st) M := fun H locs ls hP hS hl => lv_icmp_gt C.1 C.2.1 d ht (fun q => absurd q h) (fun _ => k H locs ls hP hS hl)
theorem k_if_le_t (C : Cx p s m args c cc own nL G sh) {x : Int32} {off : Int} {tgt : Nat} (d : decode cc pc = .ok (.ifCond .le off, 3)) (ht : (pc : Int) + off = (tgt : Int)) (h : x ≤ 0) (k : K p l e R s m args below meth c nL G sh Q tgt lv st M) : K p l e R s m args below meth c nL G sh Q pc lv (.int x :: st) M := fun H locs ls hP hS hl => lv_if_le C.1 C.2.1 d ht (fun _ => k H locs ls hP hS hl) (fun q => absurd h q)
theorem k_if_le_f (C : Cx p s m args c cc own nL G sh) {x : Int32} {off : Int} {tgt : Nat} (d : decode cc pc = .ok (.ifCond .le off, 3)) (ht : (pc : Int) + off = (tgt : Int)) (h : ¬ x ≤ 0) (k : K p l e R s m args below meth c nL G sh Q (pc + 3) lv st M) : K p l e R s m args below meth c nL G sh Q pc lv (.int x :: st) M := fun H locs ls hP hS hl => lv_if_le C.1 C.2.1 d ht (fun q => absurd q h) (fun _ => k H locs ls hP hS hl)
theorem k_icmp_le_t (C : Cx p s m args c cc own nL G sh) {x y : Int32} {off : Int} {tgt : Nat} (d : decode cc pc = .ok (.if_icmp .le off, 3)) (ht : (pc : Int) + off = (tgt : Int)) (h : x ≤ y) (k : K p l e R s m args below meth c nL G sh Q tgt lv st M) : K p l e R s m args below meth c nL G sh Q pc lv (.int y :: .int x :: st) M := fun H locs ls hP hS hl => lv_icmp_le C.1 C.2.1 d ht (fun _ => k H locs ls hP hS hl) (fun q => absurd h q)
theorem k_icmp_le_f (C : Cx p s m args c cc own nL G sh) {x y : Int32} {off : Int} {tgt : Nat} (d : decode cc pc = .ok (.if_icmp .le off, 3)) (ht : (pc : Int) + off = (tgt : Int)) (h : ¬ x ≤ y) (k : K p l e R s m args below meth c nL G sh Q (pc + 3) lv st M) : K p l e R s m args below meth c nL G sh Q pc lv (.int y :: .int x :: st) M := fun H locs ls hP hS hl => lv_icmp_le C.1 C.2.1 d ht (fun q => absurd q h) (fun _ => k H locs ls hP hS hl)
theorem k_tableIn (C : Cx p s m args c cc own nL G sh) {dflt lo hi : Int} {offs : Array Int} {len : Nat} {x : Int32} (v : Int32) (hx : x = v) {off : Int} {tgt : Nat} (d : decode cc pc = .ok (.tableswitch dflt lo hi offs, len)) (h1 : ¬ v.toInt < lo) (h2 : ¬ hi < v.toInt) (ho : offs[(v.toInt - lo).toNat]? = some off) (ht : (pc : Int) + off = (tgt : Int)) (k : K p l e R s m args below meth c nL G sh Q tgt lv st M) : K p l e R s m args below meth c nL G sh Q pc lv (.int x :: st) M := fun H locs ls hP hS hl => by
  subst hx
  exact lv_tableIn C.1 C.2.1 d h1 h2 ho ht (k H locs ls hP hS hl)
theorem k_tableOut (C : Cx p s m args c cc own nL G sh) {dflt lo hi : Int} {offs : Array Int} {len : Nat} {x : Int32} {tgt : Nat} (d : decode cc pc = .ok (.tableswitch dflt lo hi offs, len)) (h : x.toInt < lo ∨ hi < x.toInt) (ht : (pc : Int) + dflt = (tgt : Int)) (k : K p l e R s m args below meth c nL G sh Q tgt lv st M) : K p l e R s m args below meth c nL G sh Q pc lv (.int x :: st) M := fun H locs ls hP hS hl => lv_tableOut C.1 C.2.1 d h ht (k H locs ls hP hS hl)
theorem k_lookup (C : Cx p s m args c cc own nL G sh) {dflt : Int} {ps : Array (Int × Int)} {len : Nat} {x : Int32} {off : Int} {tgt : Nat} (d : decode cc pc = .ok (.lookupswitch dflt ps, len)) (hp : (ps.toList.zip (ps.toList.drop 1)).all (fun (a, next) => a.1 < next.1) = true) (ho : Op.lookupswitch.offset ps.toList dflt x.toInt = off) (ht : (pc : Int) + off = (tgt : Int)) (k : K p l e R s m args below meth c nL G sh Q tgt lv st M) : K p l e R s m args below meth c nL G sh Q pc lv (.int x :: st) M := fun H locs ls hP hS hl => lv_lookup C.1 C.2.1 d hp ho ht (k H locs ls hP hS hl)
/-! arrays -/
def ldI (M : Mem) (q n : Nat) (i : Int32) : Option Int32 := if i < 0 ∨ n ≤ i.toNatClampNeg then none else some (M.1 q i.toNatClampNeg)
def ldL (M : Mem) (q n : Nat) (i : Int32) : Option Int64 := if i < 0 ∨ n ≤ i.toNatClampNeg then none else some (M.2 q i.toNatClampNeg)
def stI (M : Mem) (q n : Nat) (i x : Int32) : Option Mem := if i < 0 ∨ n ≤ i.toNatClampNeg then none else some (wI M q i.toNatClampNeg x)
def stL (M : Mem) (q n : Nat) (i : Int32) (x : Int64) : Option Mem := if i < 0 ∨ n ≤ i.toNatClampNeg then none else some (wL M q i.toNatClampNeg x)
def stZ (M : Mem) (q n : Nat) (i x : Int32) : Option Mem := if i < 0 ∨ n ≤ i.toNatClampNeg then none else if x = 0 ∨ x = 1 then some (wI M q i.toNatClampNeg x) else none
def gZ (x : Int32) : Option Int32 := if x = 0 ∨ x = 1 then some x else none
def dvI (x y : Int32) : Option Int32 := if y = 0 then none else some (x / y)
def rmI (x y : Int32) : Option Int32 := if y = 0 then none else some (x - x / y * y)
def dvL (x y : Int64) : Option Int64 := if y = 0 then none else some (x / y)
def rmL (x y : Int64) : Option Int64 := if y = 0 then none else some (x - x / y * y)
theorem k_iald (C : Cx p s m args c cc own nL G sh) {q n : Nat} (hs : sh[q]? = some (.inl (0, n))) {i x : Int32} (hx : ldI M q n i = some x) (d : decode cc pc = .ok (.iaload, 1)) (k : K p l e R s m args below meth c nL G sh Q (pc + 1) lv (.int x :: st) M) : K p l e R s m args below meth c nL G sh Q pc lv (.int i :: .ref (G.2.1 q) :: st) M := fun H locs ls hP hS hl => by
  unfold ldI at hx
  split at hx
  · cases hx
  · next h => cases hx; exact va_iald C.1 C.2.1 C.2.2.2.2.2.1 hP q 0 (k_ws_int hs (by decide)) rfl h d (k H locs ls hP hS hl)
theorem k_zald (C : Cx p s m args c cc own nL G sh) {q n : Nat} (hs : sh[q]? = some (.inl (2, n))) {i x : Int32} (hx : ldI M q n i = some x) (d : decode cc pc = .ok (.baload, 1)) (k : K p l e R s m args below meth c nL G sh Q (pc + 1) lv (.int x :: st) M) : K p l e R s m args below meth c nL G sh Q pc lv (.int i :: .ref (G.2.1 q) :: st) M := fun H locs ls hP hS hl => by
  unfold ldI at hx
  split at hx
  · cases hx
  · next h => cases hx; exact va_zald C.1 C.2.1 C.2.2.2.2.2.1 hP q 2 (k_ws_int hs (by decide)) rfl h d (k H locs ls hP hS hl)
theorem k_lald (C : Cx p s m args c cc own nL G sh) {q n : Nat} (hs : sh[q]? = some (.inl (1, n))) {i : Int32} {x : Int64} (hx : ldL M q n i = some x) (d : decode cc pc = .ok (.laload, 1)) (k : K p l e R s m args below meth c nL G sh Q (pc + 1) lv (.long x :: st) M) : K p l e R s m args below meth c nL G sh Q pc lv (.int i :: .ref (G.2.1 q) :: st) M := fun H locs ls hP hS hl => by
  unfold ldL at hx
  split at hx
  · cases hx
  · next h => cases hx; exact va_lald C.1 C.2.1 C.2.2.2.2.2.1 hP q 1 (k_ws_long hs) rfl h d (k H locs ls hP hS hl)
theorem k_iast (C : Cx p s m args c cc own nL G sh) {q n : Nat} (hs : sh[q]? = some (.inl (0, n))) {i x : Int32} {M' : Mem} (hx : stI M q n i x = some M') (d : decode cc pc = .ok (.iastore, 1)) (k : K p l e R s m args below meth c nL G sh Q (pc + 1) lv st M') : K p l e R s m args below meth c nL G sh Q pc lv (.int x :: .int i :: .ref (G.2.1 q) :: st) M := fun H locs ls hP hS hl => by
  unfold stI at hx
  split at hx
  · cases hx
  · next h => cases hx; exact va_iast C.1 C.2.1 C.2.2.2.2.2.1 hP (k_D C.2.2.2.2.2.2.2) hS q 0 (k_ws_int hs (by decide)) rfl h d (fun H1 locs1 hP1 _ hS1 => k H1 locs1 ls (by rw [k_set_i hs (by decide)] at hP1; exact hP1) hS1 hl)
theorem k_zast (C : Cx p s m args c cc own nL G sh) {q n : Nat} (hs : sh[q]? = some (.inl (2, n))) {i x : Int32} {M' : Mem} (hx : stZ M q n i x = some M') (d : decode cc pc = .ok (.bastore, 1)) (k : K p l e R s m args below meth c nL G sh Q (pc + 1) lv st M') : K p l e R s m args below meth c nL G sh Q pc lv (.int x :: .int i :: .ref (G.2.1 q) :: st) M := fun H locs ls hP hS hl => by
  unfold stZ at hx
  split at hx
  · cases hx
  · next h =>
    split at hx
    · next hz =>
      have hn : vp_nar .boolean x = x := by rcases hz with rfl | rfl <;> decide
      cases hx; exact va_zast C.1 C.2.1 C.2.2.2.2.2.1 hP (k_D C.2.2.2.2.2.2.2) hS q 2 (k_ws_int hs (by decide)) rfl h d (fun H1 locs1 hP1 _ hS1 => k H1 locs1 ls (by rw [hn, k_set_i hs (by decide)] at hP1; exact hP1) hS1 hl)
    · cases hx
theorem k_last (C : Cx p s m args c cc own nL G sh) {q n : Nat} (hs : sh[q]? = some (.inl (1, n))) {i : Int32} {x : Int64} {M' : Mem} (hx : stL M q n i x = some M') (d : decode cc pc = .ok (.lastore, 1)) (k : K p l e R s m args below meth c nL G sh Q (pc + 1) lv st M') : K p l e R s m args below meth c nL G sh Q pc lv (.long x :: .int i :: .ref (G.2.1 q) :: st) M := fun H locs ls hP hS hl => by
  unfold stL at hx
  split at hx
  · cases hx
  · next h => cases hx; exact va_last C.1 C.2.1 C.2.2.2.2.2.1 hP (k_D C.2.2.2.2.2.2.2) hS q 1 (k_ws_long hs) rfl h d (fun H1 locs1 hP1 _ hS1 => k H1 locs1 ls (by rw [k_set_l hs] at hP1; exact hP1) hS1 hl)
theorem k_alen (C : Cx p s m args c cc own nL G sh) {q n : Nat} (hs : sh[q]? = some (.inl (0, n))) (d : decode cc pc = .ok (.arraylength, 1)) (k : K p l e R s m args below meth c nL G sh Q (pc + 1) lv (.int (nI n) :: st) M) : K p l e R s m args below meth c nL G sh Q pc lv (.ref (G.2.1 q) :: st) M := fun H locs ls hP hS hl => va_alen C.1 C.2.1 C.2.2.2.2.2.1 hP q 0 (k_ws_int hs (by decide)) rfl rfl d (k H locs ls hP hS hl)
theorem k_alenL (C : Cx p s m args c cc own nL G sh) {q n : Nat} (hs : sh[q]? = some (.inl (1, n))) (d : decode cc pc = .ok (.arraylength, 1)) (k : K p l e R s m args below meth c nL G sh Q (pc + 1) lv (.int (nI n) :: st) M) : K p l e R s m args below meth c nL G sh Q pc lv (.ref (G.2.1 q) :: st) M := fun H locs ls hP hS hl => va_alen C.1 C.2.1 C.2.2.2.2.2.1 hP q 1 (k_ws_long hs) rfl rfl d (k H locs ls hP hS hl)
/-! fields: FL own index ci k: the constant at 'index' of class 'own' names field k of class ci -/
def FL (own : String) (index ci k : Nat) : Prop := ∃ (Cn : String) (T : u_T) (N : Nat), vwCl[ci]? = some (Cn, T, N) ∧ (∀ w ∈ u_ws Cn T N, w ∈ bigW) ∧ k < N ∧ Cond.fieldLink own index (T k).1 (T k).2.1 (T k).2.2.1 ∈ bigW
/-- a field that can be written: not final, of a type that keeps an int -/
def FW (ci k : Nat) (ty : FieldType) : Prop := ∃ (Cn : String) (T : u_T) (N : Nat) (ty0 : Nat → FieldType), vwCl[ci]? = some (Cn, T, N) ∧ (∀ j, j < N → parseFieldDescriptor (T j).2.2.1 = some (ty0 j)) ∧ (∀ a, a < N → ∀ b, b < N → a ≠ b → (T a).2.1 ≠ (T b).2.1) ∧ (T k).2.2.2 = false ∧ parseFieldDescriptor (T k).2.2.1 = some ty
theorem k_get (C : Cx p s m args c cc own nL G sh) {q ci j index : Nat} {fs : List (Option Nat)} {o : Option Nat} (hs : sh[q]? = some (.inr (ci, fs))) (hj : fs[j]? = some o) (F : FL own index ci j) (d : decode cc pc = .ok (.getfield index, 3)) (k : K p l e R s m args below meth c nL G sh Q (pc + 3) lv (k_fld G M q j o :: st) M) : K p l e R s m args below meth c nL G sh Q pc lv (.ref (G.2.1 q) :: st) M := fun H locs ls hP hS hl => by
  obtain ⟨Cn, T, N, h1, h2, h3, h4⟩ := F
  exact va_get C.1 C.2.1 C.2.2.2.2.1 h2 C.2.2.2.1 C.2.2.2.2.2.1 hP q (k_ws_obj hs) h1 j h3 (C.2.2.2.2.1 _ h4) (fun _ h => h) (v := k_fld G M q j o) (by rw [List.getElem?_mapIdx, hj]; rfl) d (k H locs ls hP hS hl)
theorem k_put (C : Cx p s m args c cc own nL G sh) {q ci j index : Nat} {fs : List (Option Nat)} (hs : sh[q]? = some (.inr (ci, fs))) (hj : fs[j]? = some none) (F : FL own index ci j) (Fw : FW ci j .int) {x : Int32} (d : decode cc pc = .ok (.putfield index, 3)) (k : K p l e R s m args below meth c nL G sh Q (pc + 3) lv st (wI M q j x)) : K p l e R s m args below meth c nL G sh Q pc lv (.int x :: .ref (G.2.1 q) :: st) M := fun H locs ls hP hS hl => by
  obtain ⟨Cn, T, N, h1, h2, h3, h4⟩ := F
  obtain ⟨Cn', T', N', ty0, g1, g2, g3, g4, g5⟩ := Fw
  cases h1.symm.trans g1
  exact va_put C.1 C.2.1 C.2.2.2.2.1 h2 ty0 g2 g3 C.2.2.2.1 C.2.2.2.2.2.1 hP (k_D C.2.2.2.2.2.2.2) hS q (k_ws_obj hs) h1 j h3 (C.2.2.2.2.1 _ h4) (fun _ h => h) g4 g5 rfl rfl (by have := (List.getElem?_eq_some_iff.mp hj).1; simpa using this) d (fun H1 locs1 hP1 _ hS1 => k H1 locs1 ls (by rw [k_set_f hs hj] at hP1; exact hP1) hS1 hl)
theorem k_putZ (C : Cx p s m args c cc own nL G sh) {q ci j index : Nat} {fs : List (Option Nat)} (hs : sh[q]? = some (.inr (ci, fs))) (hj : fs[j]? = some none) (F : FL own index ci j) (Fw : FW ci j .boolean) {x y : Int32} (hx : gZ x = some y) (d : decode cc pc = .ok (.putfield index, 3)) (k : K p l e R s m args below meth c nL G sh Q (pc + 3) lv st (wI M q j y)) : K p l e R s m args below meth c nL G sh Q pc lv (.int x :: .ref (G.2.1 q) :: st) M := fun H locs ls hP hS hl => by
  obtain ⟨Cn, T, N, h1, h2, h3, h4⟩ := F
  obtain ⟨Cn', T', N', ty0, g1, g2, g3, g4, g5⟩ := Fw
  cases h1.symm.trans g1
  unfold gZ at hx
  split at hx
  · next hz =>
    cases hx
    exact va_put C.1 C.2.1 C.2.2.2.2.1 h2 ty0 g2 g3 C.2.2.2.1 C.2.2.2.2.2.1 hP (k_D C.2.2.2.2.2.2.2) hS q (k_ws_obj hs) h1 j h3 (C.2.2.2.2.1 _ h4) (fun _ h => h) g4 g5 (by rcases hz with rfl | rfl <;> decide) (by rcases hz with rfl | rfl <;> decide) (by have := (List.getElem?_eq_some_iff.mp hj).1; simpa using this) d (fun H1 locs1 hP1 _ hS1 => k H1 locs1 ls (by rw [k_set_f hs hj] at hP1; exact hP1) hS1 hl)
  · cases hx
/-! ends -/
theorem k_iret {r : Int32} {M' : Mem} (C : Cx p s m args c cc own nL G sh) (hr : meth.sig.returnType = some .int) (hlk : meth.locks = false) {x : Int32} (hx : x = r) (hM : M = M') (d : decode cc pc = .ok (.ireturn, 1)) : K p l e R s m args below meth c nL G sh (MQ below (k_Qi G sh r M') args s 0 0 (k_A G sh.length)) pc lv [.int x] M := fun H locs ls hP hS hl => by
  subst hx hM
  exact W.iret C.1 C.2.1 hr (fun t ht hW => ⟨⟨x, (), rfl, rfl, by rw [ht]; exact hP, va_K.moved hW.alike C.2.2.2.2.2.1, C.2.2.2.2.2.2.1.warm hW⟩, hS.F ht⟩) hS.2.2 d hlk
theorem k_zret {r : Int32} {M' : Mem} (C : Cx p s m args c cc own nL G sh) (hr : meth.sig.returnType = some .boolean) (hlk : meth.locks = false) {x : Int32} (hz : gZ x = some r) (hM : M = M') (d : decode cc pc = .ok (.ireturn, 1)) : K p l e R s m args below meth c nL G sh (MQ below (k_Qi G sh r M') args s 0 0 (k_A G sh.length)) pc lv [.int x] M := fun H locs ls hP hS hl => by
  unfold gZ at hz
  split at hz
  · next h =>
    cases hz
    subst hM
    exact W.zret C.1 C.2.1 hr (by rcases h with rfl | rfl <;> decide) (fun t ht hW => ⟨⟨_, (), rfl, rfl, by rw [ht]; exact hP, va_K.moved hW.alike C.2.2.2.2.2.1, C.2.2.2.2.2.2.1.warm hW⟩, hS.F ht⟩) hS.2.2 d hlk
  · cases hz
theorem k_lret {r : Int64} {M' : Mem} (C : Cx p s m args c cc own nL G sh) (hr : meth.sig.returnType = some .long) (hlk : meth.locks = false) {x : Int64} (hx : x = r) (hM : M = M') (d : decode cc pc = .ok (.lreturn, 1)) : K p l e R s m args below meth c nL G sh (MQ below (k_Ql G sh r M') args s 0 0 (k_A G sh.length)) pc lv [.long x] M := fun H locs ls hP hS hl => by
  subst hx hM
  exact W.lret C.1 C.2.1 hr (fun t ht hW => ⟨⟨x, (), rfl, rfl, by rw [ht]; exact hP, va_K.moved hW.alike C.2.2.2.2.2.1, C.2.2.2.2.2.2.1.warm hW⟩, hS.F ht⟩) hS.2.2 d hlk
theorem k_vret {M' : Mem} (C : Cx p s m args c cc own nL G sh) (hr : meth.sig.returnType = none) (hlk : meth.locks = false) (hM : M = M') (d : decode cc pc = .ok (.return_, 1)) : K p l e R s m args below meth c nL G sh (MQ below (k_Qv G sh M') args s 0 0 (k_A G sh.length)) pc lv [] M := fun H locs ls hP hS hl => by
  subst hM
  exact W.vret C.1 C.2.1 hr (fun t ht hW => ⟨⟨(), rfl, trivial, by rw [ht]; exact hP, va_K.moved hW.alike C.2.2.2.2.2.1, C.2.2.2.2.2.2.1.warm hW⟩, hS.F ht⟩) hS.2.2 d hlk
end KR
end
section
/-! calls by contract, the JDK's small ones, a method's entry -/
def ML (y : MethodName) (bytes : ByteArray) (maxL : Nat) (ret : Option FieldType) (np : Nat) : Prop := Cond.instanceMethod y ∈ bigW ∧ Cond.selects y.cls y y ∈ bigW ∧ Cond.initialized y.cls ∈ bigW ∧ Cond.code y bytes maxL ret ∈ bigW ∧ (y.cls ≠ "java/lang/invoke/MethodHandle" ∧ y.cls ≠ "java/lang/invoke/VarHandle") ∧ (parseMethodDescriptor y.desc).map (fun d => d.parameters.length) = some np
def MS (y : MethodName) (bytes : ByteArray) (maxL : Nat) (ret : Option FieldType) (np : Nat) : Prop := Cond.static y ∈ bigW ∧ Cond.initialized y.cls ∈ bigW ∧ Cond.code y bytes maxL ret ∈ bigW ∧ (y.cls ≠ "java/lang/invoke/MethodHandle" ∧ y.cls ≠ "java/lang/invoke/VarHandle") ∧ (parseMethodDescriptor y.desc).map (fun d => d.parameters.length) = some np
section KCL
variable {p : Program} {l : Launch} {e : Env} {R : Room} {s : State} {m : MethodId} {args : Array Value} {below : List Frame} {meth : Method} {c : Code} {cc : ByteArray} {own : String} {nL : Nat} {G : Gx} {sh : List Sh} {Q : State → Prop} {pc : Nat} {lv lv' : List (Nat × Value)} {st : List Value} {M : Mem}
theorem k_callVi (C : Cx p s m args c cc own nL G sh) {y : MethodName} {bytes : ByteArray} {maxL fr lo np index : Nat} {ret : Option FieldType} {As st' : List Value} {M' : Mem} {r : Int32} {q ci : Nat} {fs : List (Option Nat)} (hM : k_Met l y bytes maxL ret fr lo G sh (.ref (G.2.1 q) :: As) M (k_Qi G sh r M')) (L : ML y bytes maxL ret np) (hk : Cond.methodLink own index y ∈ bigW) (hs : sh[q]? = some (.inr (ci, fs))) (hc : (vwCl[ci]?).map (fun x => x.1) = some y.cls) (hn : As.length = np) (hst : st' = As.reverse ++ .ref (G.2.1 q) :: st) (hR : fr + 1 ≤ R.frames ∧ 8 + (maxL + 11) + lo ≤ R.locals) (hcat : (st.map fun v => v.category).sum ≤ 8) (d : decode cc pc = .ok (.invokevirtual index, 3)) (k : K p l e R s m args below meth c nL G sh Q (pc + 3) lv (.int r :: st) M') : K p l e R s m args below meth c nL G sh Q pc lv st' M := fun H locs ls hP hS hl => by
  subst hst
  obtain ⟨L1, L2, L3, L4, L5, L6⟩ := L
  obtain ⟨x0, hx0, hx1⟩ := Option.map_eq_some_iff.mp hc
  have hrc := va_recv C.2.2.2.2.2.1 hP hx0 (k_ws_obj hs)
  rw [hx1] at hrc
  refine va_calli (va_runV (C := y.cls) (b := G.2.1 q) (As := As) (rest := st) ⟨C.1, C.2.1, C.2.2.1, C.2.2.2.1, C.2.2.2.2.1⟩ hM (cwV np C.2.2.2.2.1 (good_cons hk (good_cons L1 (good_cons L2 (good_cons L3 (good_cons L4 bigW_good))))) rfl rfl rfl ⟨rfl, L5.1, L5.2, L6⟩ hR) ⟨k_blind, hrc, fun U hU hW => ⟨rfl, by rw [hU]; exact hP, va_K.moved hW.alike C.2.2.2.2.2.1, C.2.2.2.2.2.2.1.warm hW⟩⟩ rfl hn hl.1 rfl (lv_room hcat) d ⟨Nat.zero_le _, Nat.zero_le _⟩) hS (fun q _ h => h) (fun q h => h) (fun r' u t H1 locs1 ht hvm hw hB hz1 hk1 hS1 => ?_)
  subst hw
  exact k H1 locs1 ls (by rw [← ht]; exact hB.1) hS1 hl
theorem k_callVl (C : Cx p s m args c cc own nL G sh) {y : MethodName} {bytes : ByteArray} {maxL fr lo np index : Nat} {ret : Option FieldType} {As st' : List Value} {M' : Mem} {r : Int64} {q ci : Nat} {fs : List (Option Nat)} (hM : k_Met l y bytes maxL ret fr lo G sh (.ref (G.2.1 q) :: As) M (k_Ql G sh r M')) (L : ML y bytes maxL ret np) (hk : Cond.methodLink own index y ∈ bigW) (hs : sh[q]? = some (.inr (ci, fs))) (hc : (vwCl[ci]?).map (fun x => x.1) = some y.cls) (hn : As.length = np) (hst : st' = As.reverse ++ .ref (G.2.1 q) :: st) (hR : fr + 1 ≤ R.frames ∧ 8 + (maxL + 11) + lo ≤ R.locals) (hcat : (st.map fun v => v.category).sum ≤ 8) (d : decode cc pc = .ok (.invokevirtual index, 3)) (k : K p l e R s m args below meth c nL G sh Q (pc + 3) lv (.long r :: st) M') : K p l e R s m args below meth c nL G sh Q pc lv st' M := fun H locs ls hP hS hl => by
  subst hst
  obtain ⟨L1, L2, L3, L4, L5, L6⟩ := L
  obtain ⟨x0, hx0, hx1⟩ := Option.map_eq_some_iff.mp hc
  have hrc := va_recv C.2.2.2.2.2.1 hP hx0 (k_ws_obj hs)
  rw [hx1] at hrc
  refine va_calll (va_runV (C := y.cls) (b := G.2.1 q) (As := As) (rest := st) ⟨C.1, C.2.1, C.2.2.1, C.2.2.2.1, C.2.2.2.2.1⟩ hM (cwV np C.2.2.2.2.1 (good_cons hk (good_cons L1 (good_cons L2 (good_cons L3 (good_cons L4 bigW_good))))) rfl rfl rfl ⟨rfl, L5.1, L5.2, L6⟩ hR) ⟨k_blind, hrc, fun U hU hW => ⟨rfl, by rw [hU]; exact hP, va_K.moved hW.alike C.2.2.2.2.2.1, C.2.2.2.2.2.2.1.warm hW⟩⟩ rfl hn hl.1 rfl (lv_room hcat) d ⟨Nat.zero_le _, Nat.zero_le _⟩) hS (fun q _ h => h) (fun q h => h) (fun r' u t H1 locs1 ht hvm hw hB hz1 hk1 hS1 => ?_)
  subst hw
  exact k H1 locs1 ls (by rw [← ht]; exact hB.1) hS1 hl
theorem k_callVv (C : Cx p s m args c cc own nL G sh) {y : MethodName} {bytes : ByteArray} {maxL fr lo np index : Nat} {ret : Option FieldType} {As st' : List Value} {M' : Mem}  {q ci : Nat} {fs : List (Option Nat)} (hM : k_Met l y bytes maxL ret fr lo G sh (.ref (G.2.1 q) :: As) M (k_Qv G sh M')) (L : ML y bytes maxL ret np) (hk : Cond.methodLink own index y ∈ bigW) (hs : sh[q]? = some (.inr (ci, fs))) (hc : (vwCl[ci]?).map (fun x => x.1) = some y.cls) (hn : As.length = np) (hst : st' = As.reverse ++ .ref (G.2.1 q) :: st) (hR : fr + 1 ≤ R.frames ∧ 8 + (maxL + 11) + lo ≤ R.locals) (hcat : (st.map fun v => v.category).sum ≤ 8) (d : decode cc pc = .ok (.invokevirtual index, 3)) (k : K p l e R s m args below meth c nL G sh Q (pc + 3) lv (st) M') : K p l e R s m args below meth c nL G sh Q pc lv st' M := fun H locs ls hP hS hl => by
  subst hst
  obtain ⟨L1, L2, L3, L4, L5, L6⟩ := L
  obtain ⟨x0, hx0, hx1⟩ := Option.map_eq_some_iff.mp hc
  have hrc := va_recv C.2.2.2.2.2.1 hP hx0 (k_ws_obj hs)
  rw [hx1] at hrc
  refine va_callv (va_runV (C := y.cls) (b := G.2.1 q) (As := As) (rest := st) ⟨C.1, C.2.1, C.2.2.1, C.2.2.2.1, C.2.2.2.2.1⟩ hM (cwV np C.2.2.2.2.1 (good_cons hk (good_cons L1 (good_cons L2 (good_cons L3 (good_cons L4 bigW_good))))) rfl rfl rfl ⟨rfl, L5.1, L5.2, L6⟩ hR) ⟨k_blind, hrc, fun U hU hW => ⟨rfl, by rw [hU]; exact hP, va_K.moved hW.alike C.2.2.2.2.2.1, C.2.2.2.2.2.2.1.warm hW⟩⟩ rfl hn hl.1 rfl (lv_room hcat) d ⟨Nat.zero_le _, Nat.zero_le _⟩) hS (fun q _ h => h) (fun q h => h) (fun  u t H1 locs1 ht hvm hw hB hz1 hk1 hS1 => ?_)
  exact k H1 locs1 ls (by rw [← ht]; exact hB.1) hS1 hl
theorem k_callSi (C : Cx p s m args c cc own nL G sh) {y : MethodName} {bytes : ByteArray} {maxL fr lo np index : Nat} {ret : Option FieldType} {As st' : List Value} {M' : Mem} {r : Int32} (hM : k_Met l y bytes maxL ret fr lo G sh (As) M (k_Qi G sh r M')) (L : MS y bytes maxL ret np) (hk : Cond.methodLink own index y ∈ bigW) (hn : As.length = np) (hst : st' = As.reverse ++ st) (hR : fr + 1 ≤ R.frames ∧ 8 + (maxL + 11) + lo ≤ R.locals) (hcat : (st.map fun v => v.category).sum ≤ 8) (d : decode cc pc = .ok (.invokestatic index, 3)) (k : K p l e R s m args below meth c nL G sh Q (pc + 3) lv (.int r :: st) M') : K p l e R s m args below meth c nL G sh Q pc lv st' M := fun H locs ls hP hS hl => by
  subst hst
  obtain ⟨L1, L3, L4, L5, L6⟩ := L
  refine va_calli (va_runS (As := As) (rest := st) ⟨C.1, C.2.1, C.2.2.1, C.2.2.2.1, C.2.2.2.2.1⟩ hM (va_cwS np C.2.2.2.2.1 (good_cons hk (good_cons L1 (good_cons L3 (good_cons L4 bigW_good)))) rfl rfl rfl ⟨L5.1, L5.2, L6⟩ hR) ⟨k_blind, fun U hU hW => ⟨rfl, by rw [hU]; exact hP, va_K.moved hW.alike C.2.2.2.2.2.1, C.2.2.2.2.2.2.1.warm hW⟩⟩ rfl hn hl.1 rfl (lv_room hcat) d ⟨Nat.zero_le _, Nat.zero_le _⟩) hS (fun q _ h => h) (fun q h => h) (fun r' u t H1 locs1 ht hvm hw hB hz1 hk1 hS1 => ?_)
  subst hw
  exact k H1 locs1 ls (by rw [← ht]; exact hB.1) hS1 hl
theorem k_callSl (C : Cx p s m args c cc own nL G sh) {y : MethodName} {bytes : ByteArray} {maxL fr lo np index : Nat} {ret : Option FieldType} {As st' : List Value} {M' : Mem} {r : Int64} (hM : k_Met l y bytes maxL ret fr lo G sh (As) M (k_Ql G sh r M')) (L : MS y bytes maxL ret np) (hk : Cond.methodLink own index y ∈ bigW) (hn : As.length = np) (hst : st' = As.reverse ++ st) (hR : fr + 1 ≤ R.frames ∧ 8 + (maxL + 11) + lo ≤ R.locals) (hcat : (st.map fun v => v.category).sum ≤ 8) (d : decode cc pc = .ok (.invokestatic index, 3)) (k : K p l e R s m args below meth c nL G sh Q (pc + 3) lv (.long r :: st) M') : K p l e R s m args below meth c nL G sh Q pc lv st' M := fun H locs ls hP hS hl => by
  subst hst
  obtain ⟨L1, L3, L4, L5, L6⟩ := L
  refine va_calll (va_runS (As := As) (rest := st) ⟨C.1, C.2.1, C.2.2.1, C.2.2.2.1, C.2.2.2.2.1⟩ hM (va_cwS np C.2.2.2.2.1 (good_cons hk (good_cons L1 (good_cons L3 (good_cons L4 bigW_good)))) rfl rfl rfl ⟨L5.1, L5.2, L6⟩ hR) ⟨k_blind, fun U hU hW => ⟨rfl, by rw [hU]; exact hP, va_K.moved hW.alike C.2.2.2.2.2.1, C.2.2.2.2.2.2.1.warm hW⟩⟩ rfl hn hl.1 rfl (lv_room hcat) d ⟨Nat.zero_le _, Nat.zero_le _⟩) hS (fun q _ h => h) (fun q h => h) (fun r' u t H1 locs1 ht hvm hw hB hz1 hk1 hS1 => ?_)
  subst hw
  exact k H1 locs1 ls (by rw [← ht]; exact hB.1) hS1 hl
theorem k_callSv (C : Cx p s m args c cc own nL G sh) {y : MethodName} {bytes : ByteArray} {maxL fr lo np index : Nat} {ret : Option FieldType} {As st' : List Value} {M' : Mem}  (hM : k_Met l y bytes maxL ret fr lo G sh (As) M (k_Qv G sh M')) (L : MS y bytes maxL ret np) (hk : Cond.methodLink own index y ∈ bigW) (hn : As.length = np) (hst : st' = As.reverse ++ st) (hR : fr + 1 ≤ R.frames ∧ 8 + (maxL + 11) + lo ≤ R.locals) (hcat : (st.map fun v => v.category).sum ≤ 8) (d : decode cc pc = .ok (.invokestatic index, 3)) (k : K p l e R s m args below meth c nL G sh Q (pc + 3) lv (st) M') : K p l e R s m args below meth c nL G sh Q pc lv st' M := fun H locs ls hP hS hl => by
  subst hst
  obtain ⟨L1, L3, L4, L5, L6⟩ := L
  refine va_callv (va_runS (As := As) (rest := st) ⟨C.1, C.2.1, C.2.2.1, C.2.2.2.1, C.2.2.2.2.1⟩ hM (va_cwS np C.2.2.2.2.1 (good_cons hk (good_cons L1 (good_cons L3 (good_cons L4 bigW_good)))) rfl rfl rfl ⟨L5.1, L5.2, L6⟩ hR) ⟨k_blind, fun U hU hW => ⟨rfl, by rw [hU]; exact hP, va_K.moved hW.alike C.2.2.2.2.2.1, C.2.2.2.2.2.2.1.warm hW⟩⟩ rfl hn hl.1 rfl (lv_room hcat) d ⟨Nat.zero_le _, Nat.zero_le _⟩) hS (fun q _ h => h) (fun q h => h) (fun  u t H1 locs1 ht hvm hw hB hz1 hk1 hS1 => ?_)
  exact k H1 locs1 ls (by rw [← ht]; exact hB.1) hS1 hl
theorem k_callNi (C : Cx p s m args c cc own nL G sh) {y : MethodName} {bytes : ByteArray} {maxL fr lo np index : Nat} {ret : Option FieldType} {As st' : List Value} {M' : Mem} {r : Int32} (hM : k_Met l y bytes maxL ret fr lo G sh (As) M (k_Qi G sh r M')) (L : MS y bytes maxL ret np) (hk : (index, y) ∈ k_nest) (ho : own = RX1) (hn : As.length = np) (hst : st' = As.reverse ++ st) (hR : fr + 1 ≤ R.frames ∧ 8 + (maxL + 11) + lo ≤ R.locals) (hcat : (st.map fun v => v.category).sum ≤ 8) (d : decode cc pc = .ok (.invokestatic index, 3)) (k : K p l e R s m args below meth c nL G sh Q (pc + 3) lv (.int r :: st) M') : K p l e R s m args below meth c nL G sh Q pc lv st' M := fun H locs ls hP hS hl => by
  subst hst
  obtain ⟨L1, L3, L4, L5, L6⟩ := L
  subst ho
  refine va_calli (va_runSN (As := As) (rest := st) ⟨C.1, C.2.1, C.2.2.1, C.2.2.2.1, C.2.2.2.2.1⟩ hM ⟨va_cnB np C.2.2.2.2.1 (good_cons L4 bigW_good) rfl rfl rfl (C.2.2.2.2.2.2.1 _ hk) (C.2.2.2.2.1 _ L3) ⟨L5.1, L5.2, L6⟩ hR, C.2.2.2.2.1 _ L1, trivial⟩ ⟨k_blind, fun U hU hW => ⟨rfl, by rw [hU]; exact hP, va_K.moved hW.alike C.2.2.2.2.2.1, C.2.2.2.2.2.2.1.warm hW⟩⟩ rfl hn hl.1 rfl (lv_room hcat) d ⟨Nat.zero_le _, Nat.zero_le _⟩) hS (fun q _ h => h) (fun q h => h) (fun r' u t H1 locs1 ht hvm hw hB hz1 hk1 hS1 => ?_)
  subst hw
  exact k H1 locs1 ls (by rw [← ht]; exact hB.1) hS1 hl
def mxI (x y : Int32) : Int32 := if x < y then y else x
def mnI (x y : Int32) : Int32 := if y < x then y else x
def mxL (x y : Int64) : Int64 := if y < x then x else y
def w_max : Prop := Cond.static Lib.Math.max.name ∈ bigW ∧ Cond.initialized "java/lang/Math" ∈ bigW ∧ Cond.code Lib.Math.max.name Lib.Math.max.code 2 (some .int) ∈ bigW
def w_min : Prop := Cond.static Lib.Math.min.name ∈ bigW ∧ Cond.initialized "java/lang/Math" ∈ bigW ∧ Cond.code Lib.Math.min.name Lib.Math.min.code 2 (some .int) ∈ bigW
def w_maxL : Prop := Cond.static Lib.MathLoose.max_long.x ∈ bigW ∧ Cond.initialized "java/lang/Math" ∈ bigW ∧ Cond.code Lib.MathLoose.max_long.x Lib.MathLoose.max_long.code 4 (some .long) ∈ bigW
def w_cpy : Prop := Cond.native arraycopyName ∈ bigW ∧ Cond.static arraycopyName ∈ bigW ∧ Cond.initialized "java/lang/System" ∈ bigW
theorem k_max (C : Cx p s m args c cc own nL G sh) {index : Nat} (w : w_max) (hk : Cond.methodLink own index Lib.Math.max.name ∈ bigW) (hR : 1 ≤ R.frames ∧ (st.map fun v => v.category).sum + 13 ≤ R.locals) {x y : Int32} (d : decode cc pc = .ok (.invokestatic index, 3)) (k : K p l e R s m args below meth c nL G sh Q (pc + 3) lv (.int (mxI x y) :: st) M) : K p l e R s m args below meth c nL G sh Q pc lv (.int y :: .int x :: st) M := fun H locs ls hP hS hl =>
  va_mmax C.1 C.2.1 (C.2.2.1.trans hl.1.symm) C.2.2.2.1 (C.2.2.2.2.1 _ hk) (C.2.2.2.2.1 _ w.1) (C.2.2.2.2.1 _ w.2.1) (C.2.2.2.2.1 _ w.2.2) hR.1 hR.2 (Nat.zero_le _) (Nat.zero_le _) d (k H locs ls hP hS hl)
theorem k_min (C : Cx p s m args c cc own nL G sh) {index : Nat} (w : w_min) (hk : Cond.methodLink own index Lib.Math.min.name ∈ bigW) (hR : 1 ≤ R.frames ∧ (st.map fun v => v.category).sum + 13 ≤ R.locals) {x y : Int32} (d : decode cc pc = .ok (.invokestatic index, 3)) (k : K p l e R s m args below meth c nL G sh Q (pc + 3) lv (.int (mnI x y) :: st) M) : K p l e R s m args below meth c nL G sh Q pc lv (.int y :: .int x :: st) M := fun H locs ls hP hS hl =>
  va_mmin C.1 C.2.1 (C.2.2.1.trans hl.1.symm) C.2.2.2.1 (C.2.2.2.2.1 _ hk) (C.2.2.2.2.1 _ w.1) (C.2.2.2.2.1 _ w.2.1) (C.2.2.2.2.1 _ w.2.2) hR.1 hR.2 (Nat.zero_le _) (Nat.zero_le _) d (k H locs ls hP hS hl)
theorem k_maxL (C : Cx p s m args c cc own nL G sh) {index : Nat} (w : w_maxL) (hk : Cond.methodLink own index Lib.MathLoose.max_long.x ∈ bigW) (hR : 1 ≤ R.frames ∧ (st.map fun v => v.category).sum + 15 ≤ R.locals) {x y : Int64} (d : decode cc pc = .ok (.invokestatic index, 3)) (k : K p l e R s m args below meth c nL G sh Q (pc + 3) lv (.long (mxL x y) :: st) M) : K p l e R s m args below meth c nL G sh Q pc lv (.long y :: .long x :: st) M := fun H locs ls hP hS hl =>
  va_mmax_long C.1 C.2.1 (C.2.2.1.trans hl.1.symm) C.2.2.2.1 (C.2.2.2.2.1 _ hk) (C.2.2.2.2.1 _ w.1) (C.2.2.2.2.1 _ w.2.1) (C.2.2.2.2.1 _ w.2.2) hR.1 hR.2 (Nat.zero_le _) (Nat.zero_le _) d (k H locs ls hP hS hl)
def cpI (M : Mem) (q0 n0 q1 n1 : Nat) (sp dp n : Int32) : Option Mem := if sp < 0 ∨ dp < 0 ∨ n < 0 ∨ n0 < sp.toNatClampNeg + n.toNatClampNeg ∨ n1 < dp.toNatClampNeg + n.toNatClampNeg then none else some (wA M q1 (va_cpy (M.1 q0) (M.1 q1) sp.toNatClampNeg dp.toNatClampNeg n.toNatClampNeg))
theorem k_cpy (C : Cx p s m args c cc own nL G sh) {index : Nat} (w : w_cpy) (hk : Cond.methodLink own index arraycopyName ∈ bigW) (hR : 1 ≤ R.frames ∧ (st.map fun v => v.category).sum + (nativeFrameWords "java/lang/System" "arraycopy" 5 + 11) ≤ R.locals) {q0 n0 q1 n1 : Nat} (hs0 : sh[q0]? = some (.inl (0, n0))) (hs1 : sh[q1]? = some (.inl (0, n1))) {sp dp n : Int32} {M' : Mem} (hx : cpI M q0 n0 q1 n1 sp dp n = some M') (d : decode cc pc = .ok (.invokestatic index, 3)) (k : K p l e R s m args below meth c nL G sh Q (pc + 3) lv st M') : K p l e R s m args below meth c nL G sh Q pc lv (.int n :: .int dp :: .ref (G.2.1 q1) :: .int sp :: .ref (G.2.1 q0) :: st) M := fun H locs ls hP hS hl => by
  unfold cpI at hx
  split at hx
  · cases hx
  · next h =>
    cases hx
    simp only [not_or, Nat.not_lt] at h
    exact va_copyi C.1 C.2.1 (C.2.2.1.trans hl.1.symm) C.2.2.2.1 (C.2.2.2.2.1 _ hk) (C.2.2.2.2.1 _ w.1) (C.2.2.2.2.1 _ w.2.1) (C.2.2.2.2.1 _ w.2.2) C.2.2.2.2.2.1 hP (k_D C.2.2.2.2.2.2.2) hS q0 q1 0 0 (k_ws_int hs0 (by decide)) (k_ws_int hs1 (by decide)) rfl rfl rfl h.1 h.2.1 h.2.2.1 h.2.2.2.1 h.2.2.2.2 (fun _ _ => rfl) hR.1 hR.2 d (fun H1 locs1 hP1 _ hS1 => k H1 locs1 ls (by rw [k_set_a hs1 (by decide)] at hP1; exact hP1) hS1 hl)
end KCL
theorem k_Met_of {l : Launch} {y : MethodName} {b : ByteArray} {n fr lo : Nat} {ret : Option FieldType} {G : Gx} {sh : List Sh} {av : List Value} {M : Mem} {Q : Array Value → State → Outcome → State → Prop} (hy : plainName y.cls = true) (hap : k_ap G sh.length) (hlen : (lg_sl av).length ≤ n)
    (body : ∀ (p : Program) (e : Env) (s : State) (m : MethodId) (args : Array Value) (below : List Frame) (meth : Method) (c : Code), Cx p s m args c b y.cls n G sh → meth.sig.returnType = ret → meth.locks = false → K p l e (k_rm fr lo) s m args below meth c n G sh (MQ below Q args s 0 0 (k_A G sh.length)) 0 (lv_args 0 av) [] M) : k_Met l y b n ret fr lo G sh av M Q := by
  refine Met.ofW (cc := b) (maxL := n) (ret := ret) hy rfl ?_
  intro p e s m args below meth c s₁ B hml hv
  obtain ⟨rfl, hP, hK, hN⟩ := hv
  have hts := atoms_spec (ws := k_ws1 y b n ret) B.pre
  have C : Cx p s m av.toArray c b y.cls n G sh := ⟨B.exec, B.bytes, hml, findClass_of_methodNamed B.named, fun w hw => hts w (List.mem_cons_of_mem _ hw), hK, hN, hap⟩
  have hl := lv_entry av hlen
  rw [lg_entry_eq]
  exact body p e s m _ below meth c C B.returns B.notSynchronized s.heap [] _ hP va_S.rf hl
/-! what comes of 'some' -/
theorem bnd {α β : Type} {o : Option α} {k : α → Option β} {r : β} (h : o.bind k = some r) : ∃ x, o = some x ∧ k x = some r := Option.bind_eq_some_iff.mp h
theorem ite_s {P : Prop} [Decidable P] {α : Type} {a b : Option α} {r : α} (h : (if P then a else b) = some r) : (P ∧ a = some r) ∨ (¬ P ∧ b = some r) := by
  by_cases hP : P
  · rw [if_pos hP] at h; exact Or.inl ⟨hP, h⟩
  · rw [if_neg hP] at h; exact Or.inr ⟨hP, h⟩
theorem i_ne {x y : Int32} (h : ¬ x = y) : x.toInt ≠ y.toInt := fun q => h (Int32.toInt_inj.mp q)
end
