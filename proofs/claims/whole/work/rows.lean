section
-- ===== PART A: goes FIRST, ahead of the names: the tables' words, and 'selects' of the private methods out of them =====
/-- a private method of a class that the tables say can be made, by its rows of tables_1 -/
def lw_okq (q : MethodName × Nat) : Prop := (q.1.cls ≠ "java/lang/invoke/MethodHandle" ∧ q.1.cls ≠ "java/lang/invoke/VarHandle") ∧ Cond.instantiable q.1.cls q.2 ∈ tables_1 ∧ Cond.privateMethod q.1 ∈ tables_1 ∧ Cond.instanceMethod q.1 ∈ tables_1
theorem lw_p0 : lw_okq (⟨"SecondHelping", "refuse", "(I)I"⟩, 14) := ⟨⟨by decide +kernel, by decide +kernel⟩, List.mem_of_getElem? (i := 19) (by decide +kernel), List.mem_of_getElem? (i := 324) (by decide +kernel), List.mem_of_getElem? (i := 325) (by decide +kernel)⟩
theorem lw_p1 : lw_okq (⟨"SecondHelping$Letters", "hear", "(LSecondHelping$Board;)I"⟩, 3) := ⟨⟨by decide +kernel, by decide +kernel⟩, List.mem_of_getElem? (i := 111) (by decide +kernel), List.mem_of_getElem? (i := 340) (by decide +kernel), List.mem_of_getElem? (i := 341) (by decide +kernel)⟩
theorem lw_p2 : lw_okq (⟨"SecondHelping$Letters", "firstWithoutForm", "()I"⟩, 3) := ⟨⟨by decide +kernel, by decide +kernel⟩, List.mem_of_getElem? (i := 111) (by decide +kernel), List.mem_of_getElem? (i := 344) (by decide +kernel), List.mem_of_getElem? (i := 345) (by decide +kernel)⟩
theorem lw_p3 : lw_okq (⟨"SecondHelping$Letters", "letterAt", "(I)I"⟩, 3) := ⟨⟨by decide +kernel, by decide +kernel⟩, List.mem_of_getElem? (i := 111) (by decide +kernel), List.mem_of_getElem? (i := 348) (by decide +kernel), List.mem_of_getElem? (i := 349) (by decide +kernel)⟩
theorem lw_p4 : lw_okq (⟨"SecondHelping$Letters", "comes", "(I)Z"⟩, 3) := ⟨⟨by decide +kernel, by decide +kernel⟩, List.mem_of_getElem? (i := 111) (by decide +kernel), List.mem_of_getElem? (i := 369) (by decide +kernel), List.mem_of_getElem? (i := 370) (by decide +kernel)⟩
theorem lw_p5 : lw_okq (⟨"SecondHelping$Letters", "digitAt", "(I)I"⟩, 3) := ⟨⟨by decide +kernel, by decide +kernel⟩, List.mem_of_getElem? (i := 111) (by decide +kernel), List.mem_of_getElem? (i := 373) (by decide +kernel), List.mem_of_getElem? (i := 374) (by decide +kernel)⟩
theorem lw_p6 : lw_okq (⟨"SecondHelping$Letters", "comesDoing", "(III)Z"⟩, 3) := ⟨⟨by decide +kernel, by decide +kernel⟩, List.mem_of_getElem? (i := 111) (by decide +kernel), List.mem_of_getElem? (i := 377) (by decide +kernel), List.mem_of_getElem? (i := 378) (by decide +kernel)⟩
theorem lw_p7 : lw_okq (⟨"SecondHelping$Letters", "comesDone", "(I)Z"⟩, 3) := ⟨⟨by decide +kernel, by decide +kernel⟩, List.mem_of_getElem? (i := 111) (by decide +kernel), List.mem_of_getElem? (i := 397) (by decide +kernel), List.mem_of_getElem? (i := 398) (by decide +kernel)⟩
theorem lw_p8 : lw_okq (⟨"SecondHelping$Letters", "comesLaw", "(II)Z"⟩, 3) := ⟨⟨by decide +kernel, by decide +kernel⟩, List.mem_of_getElem? (i := 111) (by decide +kernel), List.mem_of_getElem? (i := 414) (by decide +kernel), List.mem_of_getElem? (i := 415) (by decide +kernel)⟩
theorem lw_p9 : lw_okq (⟨"SecondHelping$Letters", "comesMark", "(II)Z"⟩, 3) := ⟨⟨by decide +kernel, by decide +kernel⟩, List.mem_of_getElem? (i := 111) (by decide +kernel), List.mem_of_getElem? (i := 422) (by decide +kernel), List.mem_of_getElem? (i := 423) (by decide +kernel)⟩
theorem lw_p10 : lw_okq (⟨"SecondHelping$Takebacks", "dropOldest", "()V"⟩, 5) := ⟨⟨by decide +kernel, by decide +kernel⟩, List.mem_of_getElem? (i := 88) (by decide +kernel), List.mem_of_getElem? (i := 512) (by decide +kernel), List.mem_of_getElem? (i := 513) (by decide +kernel)⟩
theorem lw_p11 : lw_okq (⟨"SecondHelping$LogBook", "reckonPlaces", "()V"⟩, 5) := ⟨⟨by decide +kernel, by decide +kernel⟩, List.mem_of_getElem? (i := 167) (by decide +kernel), List.mem_of_getElem? (i := 569) (by decide +kernel), List.mem_of_getElem? (i := 570) (by decide +kernel)⟩
theorem lw_p12 : lw_okq (⟨"SecondHelping$Plans", "reckonRests", "(I)V"⟩, 3) := ⟨⟨by decide +kernel, by decide +kernel⟩, List.mem_of_getElem? (i := 208) (by decide +kernel), List.mem_of_getElem? (i := 626) (by decide +kernel), List.mem_of_getElem? (i := 627) (by decide +kernel)⟩
theorem lw_p13 : lw_okq (⟨"SecondHelping$Plans", "leastRest", "(II)I"⟩, 3) := ⟨⟨by decide +kernel, by decide +kernel⟩, List.mem_of_getElem? (i := 208) (by decide +kernel), List.mem_of_getElem? (i := 630) (by decide +kernel), List.mem_of_getElem? (i := 631) (by decide +kernel)⟩
theorem lw_p14 : lw_okq (⟨"SecondHelping$Plans", "dueBehind", "(II)I"⟩, 3) := ⟨⟨by decide +kernel, by decide +kernel⟩, List.mem_of_getElem? (i := 208) (by decide +kernel), List.mem_of_getElem? (i := 635) (by decide +kernel), List.mem_of_getElem? (i := 636) (by decide +kernel)⟩
theorem lw_p15 : lw_okq (⟨"SecondHelping$Plans", "ithDone", "(II)I"⟩, 3) := ⟨⟨by decide +kernel, by decide +kernel⟩, List.mem_of_getElem? (i := 208) (by decide +kernel), List.mem_of_getElem? (i := 644) (by decide +kernel), List.mem_of_getElem? (i := 645) (by decide +kernel)⟩
def lw_privs_1 : List (MethodName × Nat) := [(⟨"SecondHelping", "refuse", "(I)I"⟩, 14), (⟨"SecondHelping$Letters", "hear", "(LSecondHelping$Board;)I"⟩, 3), (⟨"SecondHelping$Letters", "firstWithoutForm", "()I"⟩, 3), (⟨"SecondHelping$Letters", "letterAt", "(I)I"⟩, 3), (⟨"SecondHelping$Letters", "comes", "(I)Z"⟩, 3), (⟨"SecondHelping$Letters", "digitAt", "(I)I"⟩, 3), (⟨"SecondHelping$Letters", "comesDoing", "(III)Z"⟩, 3), (⟨"SecondHelping$Letters", "comesDone", "(I)Z"⟩, 3), (⟨"SecondHelping$Letters", "comesLaw", "(II)Z"⟩, 3), (⟨"SecondHelping$Letters", "comesMark", "(II)Z"⟩, 3), (⟨"SecondHelping$Takebacks", "dropOldest", "()V"⟩, 5), (⟨"SecondHelping$LogBook", "reckonPlaces", "()V"⟩, 5), (⟨"SecondHelping$Plans", "reckonRests", "(I)V"⟩, 3), (⟨"SecondHelping$Plans", "leastRest", "(II)I"⟩, 3), (⟨"SecondHelping$Plans", "dueBehind", "(II)I"⟩, 3), (⟨"SecondHelping$Plans", "ithDone", "(II)I"⟩, 3)]
theorem lw_r1 : ∀ q ∈ lw_privs_1, lw_okq q := List.forall_mem_cons.mpr ⟨lw_p0, List.forall_mem_cons.mpr ⟨lw_p1, List.forall_mem_cons.mpr ⟨lw_p2, List.forall_mem_cons.mpr ⟨lw_p3, List.forall_mem_cons.mpr ⟨lw_p4, List.forall_mem_cons.mpr ⟨lw_p5, List.forall_mem_cons.mpr ⟨lw_p6, List.forall_mem_cons.mpr ⟨lw_p7, List.forall_mem_cons.mpr ⟨lw_p8, List.forall_mem_cons.mpr ⟨lw_p9, List.forall_mem_cons.mpr ⟨lw_p10, List.forall_mem_cons.mpr ⟨lw_p11, List.forall_mem_cons.mpr ⟨lw_p12, List.forall_mem_cons.mpr ⟨lw_p13, List.forall_mem_cons.mpr ⟨lw_p14, List.forall_mem_cons.mpr ⟨lw_p15, fun _ h => absurd h List.not_mem_nil⟩⟩⟩⟩⟩⟩⟩⟩⟩⟩⟩⟩⟩⟩⟩⟩
theorem lw_p16 : lw_okq (⟨"SecondHelping$Plans", "firstOnBestWay", "(II)I"⟩, 3) := ⟨⟨by decide +kernel, by decide +kernel⟩, List.mem_of_getElem? (i := 208) (by decide +kernel), List.mem_of_getElem? (i := 648) (by decide +kernel), List.mem_of_getElem? (i := 649) (by decide +kernel)⟩
theorem lw_p17 : lw_okq (⟨"SecondHelping$Likeness", "sets", "()I"⟩, 6) := ⟨⟨by decide +kernel, by decide +kernel⟩, List.mem_of_getElem? (i := 224) (by decide +kernel), List.mem_of_getElem? (i := 661) (by decide +kernel), List.mem_of_getElem? (i := 662) (by decide +kernel)⟩
theorem lw_p18 : lw_okq (⟨"SecondHelping$Likeness", "areApart", "(I)Z"⟩, 6) := ⟨⟨by decide +kernel, by decide +kernel⟩, List.mem_of_getElem? (i := 224) (by decide +kernel), List.mem_of_getElem? (i := 666) (by decide +kernel), List.mem_of_getElem? (i := 667) (by decide +kernel)⟩
theorem lw_p19 : lw_okq (⟨"SecondHelping$Likeness", "fewestFor", "(I)I"⟩, 6) := ⟨⟨by decide +kernel, by decide +kernel⟩, List.mem_of_getElem? (i := 224) (by decide +kernel), List.mem_of_getElem? (i := 678) (by decide +kernel), List.mem_of_getElem? (i := 679) (by decide +kernel)⟩
theorem lw_p20 : lw_okq (⟨"SecondHelping$Likeness", "tiesOf", "(I)I"⟩, 6) := ⟨⟨by decide +kernel, by decide +kernel⟩, List.mem_of_getElem? (i := 224) (by decide +kernel), List.mem_of_getElem? (i := 691) (by decide +kernel), List.mem_of_getElem? (i := 692) (by decide +kernel)⟩
theorem lw_p21 : lw_okq (⟨"SecondHelping$Readings", "isAsTold", "(II)Z"⟩, 4) := ⟨⟨by decide +kernel, by decide +kernel⟩, List.mem_of_getElem? (i := 189) (by decide +kernel), List.mem_of_getElem? (i := 720) (by decide +kernel), List.mem_of_getElem? (i := 721) (by decide +kernel)⟩
theorem lw_p22 : lw_okq (⟨"SecondHelping$Readings", "gatherNexts", "()I"⟩, 4) := ⟨⟨by decide +kernel, by decide +kernel⟩, List.mem_of_getElem? (i := 189) (by decide +kernel), List.mem_of_getElem? (i := 739) (by decide +kernel), List.mem_of_getElem? (i := 740) (by decide +kernel)⟩
theorem lw_p23 : lw_okq (⟨"SecondHelping$Readings", "keepNexts", "(I)V"⟩, 4) := ⟨⟨by decide +kernel, by decide +kernel⟩, List.mem_of_getElem? (i := 189) (by decide +kernel), List.mem_of_getElem? (i := 743) (by decide +kernel), List.mem_of_getElem? (i := 744) (by decide +kernel)⟩
theorem lw_p24 : lw_okq (⟨"SecondHelping$Readings", "unlikeNexts", "(II)I"⟩, 4) := ⟨⟨by decide +kernel, by decide +kernel⟩, List.mem_of_getElem? (i := 189) (by decide +kernel), List.mem_of_getElem? (i := 748) (by decide +kernel), List.mem_of_getElem? (i := 749) (by decide +kernel)⟩
theorem lw_p25 : lw_okq (⟨"SecondHelping$Readings", "isNewNext", "(II)Z"⟩, 4) := ⟨⟨by decide +kernel, by decide +kernel⟩, List.mem_of_getElem? (i := 189) (by decide +kernel), List.mem_of_getElem? (i := 752) (by decide +kernel), List.mem_of_getElem? (i := 753) (by decide +kernel)⟩
theorem lw_p26 : lw_okq (⟨"SecondHelping$Marking", "totalFlipped", "(II)I"⟩, 2) := ⟨⟨by decide +kernel, by decide +kernel⟩, List.mem_of_getElem? (i := 251) (by decide +kernel), List.mem_of_getElem? (i := 765) (by decide +kernel), List.mem_of_getElem? (i := 766) (by decide +kernel)⟩
theorem lw_p27 : lw_okq (⟨"SecondHelping$LogBook", "readAhead", "()V"⟩, 5) := ⟨⟨by decide +kernel, by decide +kernel⟩, List.mem_of_getElem? (i := 167) (by decide +kernel), List.mem_of_getElem? (i := 778) (by decide +kernel), List.mem_of_getElem? (i := 779) (by decide +kernel)⟩
theorem lw_p28 : lw_okq (⟨"SecondHelping$LogBook", "areAlikePlaces", "(II)Z"⟩, 5) := ⟨⟨by decide +kernel, by decide +kernel⟩, List.mem_of_getElem? (i := 167) (by decide +kernel), List.mem_of_getElem? (i := 782) (by decide +kernel), List.mem_of_getElem? (i := 783) (by decide +kernel)⟩
theorem lw_p29 : lw_okq (⟨"SecondHelping$LogBook", "sumSplit", "(II)I"⟩, 5) := ⟨⟨by decide +kernel, by decide +kernel⟩, List.mem_of_getElem? (i := 167) (by decide +kernel), List.mem_of_getElem? (i := 788) (by decide +kernel), List.mem_of_getElem? (i := 789) (by decide +kernel)⟩
theorem lw_p30 : lw_okq (⟨"SecondHelping$LogBook", "sumWithout", "(I)I"⟩, 5) := ⟨⟨by decide +kernel, by decide +kernel⟩, List.mem_of_getElem? (i := 167) (by decide +kernel), List.mem_of_getElem? (i := 803) (by decide +kernel), List.mem_of_getElem? (i := 804) (by decide +kernel)⟩
theorem lw_p31 : lw_okq (⟨"SecondHelping$LogBook", "sumExchanged", "(II)I"⟩, 5) := ⟨⟨by decide +kernel, by decide +kernel⟩, List.mem_of_getElem? (i := 167) (by decide +kernel), List.mem_of_getElem? (i := 828) (by decide +kernel), List.mem_of_getElem? (i := 829) (by decide +kernel)⟩
def lw_privs_2 : List (MethodName × Nat) := [(⟨"SecondHelping$Plans", "firstOnBestWay", "(II)I"⟩, 3), (⟨"SecondHelping$Likeness", "sets", "()I"⟩, 6), (⟨"SecondHelping$Likeness", "areApart", "(I)Z"⟩, 6), (⟨"SecondHelping$Likeness", "fewestFor", "(I)I"⟩, 6), (⟨"SecondHelping$Likeness", "tiesOf", "(I)I"⟩, 6), (⟨"SecondHelping$Readings", "isAsTold", "(II)Z"⟩, 4), (⟨"SecondHelping$Readings", "gatherNexts", "()I"⟩, 4), (⟨"SecondHelping$Readings", "keepNexts", "(I)V"⟩, 4), (⟨"SecondHelping$Readings", "unlikeNexts", "(II)I"⟩, 4), (⟨"SecondHelping$Readings", "isNewNext", "(II)Z"⟩, 4), (⟨"SecondHelping$Marking", "totalFlipped", "(II)I"⟩, 2), (⟨"SecondHelping$LogBook", "readAhead", "()V"⟩, 5), (⟨"SecondHelping$LogBook", "areAlikePlaces", "(II)Z"⟩, 5), (⟨"SecondHelping$LogBook", "sumSplit", "(II)I"⟩, 5), (⟨"SecondHelping$LogBook", "sumWithout", "(I)I"⟩, 5), (⟨"SecondHelping$LogBook", "sumExchanged", "(II)I"⟩, 5)]
theorem lw_r2 : ∀ q ∈ lw_privs_2, lw_okq q := List.forall_mem_cons.mpr ⟨lw_p16, List.forall_mem_cons.mpr ⟨lw_p17, List.forall_mem_cons.mpr ⟨lw_p18, List.forall_mem_cons.mpr ⟨lw_p19, List.forall_mem_cons.mpr ⟨lw_p20, List.forall_mem_cons.mpr ⟨lw_p21, List.forall_mem_cons.mpr ⟨lw_p22, List.forall_mem_cons.mpr ⟨lw_p23, List.forall_mem_cons.mpr ⟨lw_p24, List.forall_mem_cons.mpr ⟨lw_p25, List.forall_mem_cons.mpr ⟨lw_p26, List.forall_mem_cons.mpr ⟨lw_p27, List.forall_mem_cons.mpr ⟨lw_p28, List.forall_mem_cons.mpr ⟨lw_p29, List.forall_mem_cons.mpr ⟨lw_p30, List.forall_mem_cons.mpr ⟨lw_p31, fun _ h => absurd h List.not_mem_nil⟩⟩⟩⟩⟩⟩⟩⟩⟩⟩⟩⟩⟩⟩⟩⟩
theorem lw_p32 : lw_okq (⟨"SecondHelping$Marking", "marksOf", "(I)I"⟩, 2) := ⟨⟨by decide +kernel, by decide +kernel⟩, List.mem_of_getElem? (i := 251) (by decide +kernel), List.mem_of_getElem? (i := 842) (by decide +kernel), List.mem_of_getElem? (i := 843) (by decide +kernel)⟩
theorem lw_p33 : lw_okq (⟨"SecondHelping$Marking", "nextOf", "(I)I"⟩, 2) := ⟨⟨by decide +kernel, by decide +kernel⟩, List.mem_of_getElem? (i := 251) (by decide +kernel), List.mem_of_getElem? (i := 846) (by decide +kernel), List.mem_of_getElem? (i := 847) (by decide +kernel)⟩
theorem lw_p34 : lw_okq (⟨"SecondHelping", "refuseLong", "(I)J"⟩, 14) := ⟨⟨by decide +kernel, by decide +kernel⟩, List.mem_of_getElem? (i := 19) (by decide +kernel), List.mem_of_getElem? (i := 856) (by decide +kernel), List.mem_of_getElem? (i := 857) (by decide +kernel)⟩
theorem lw_p35 : lw_okq (⟨"SecondHelping$Likeness", "lengthen", "(I)V"⟩, 6) := ⟨⟨by decide +kernel, by decide +kernel⟩, List.mem_of_getElem? (i := 224) (by decide +kernel), List.mem_of_getElem? (i := 868) (by decide +kernel), List.mem_of_getElem? (i := 869) (by decide +kernel)⟩
theorem lw_p36 : lw_okq (⟨"SecondHelping$Likeness", "mayFollow", "(II)Z"⟩, 6) := ⟨⟨by decide +kernel, by decide +kernel⟩, List.mem_of_getElem? (i := 224) (by decide +kernel), List.mem_of_getElem? (i := 872) (by decide +kernel), List.mem_of_getElem? (i := 873) (by decide +kernel)⟩
theorem lw_p37 : lw_okq (⟨"SecondHelping$Likeness", "spread", "(I)I"⟩, 6) := ⟨⟨by decide +kernel, by decide +kernel⟩, List.mem_of_getElem? (i := 224) (by decide +kernel), List.mem_of_getElem? (i := 930) (by decide +kernel), List.mem_of_getElem? (i := 931) (by decide +kernel)⟩
theorem lw_p38 : lw_okq (⟨"SecondHelping$Likeness", "heapOf", "(I)I"⟩, 6) := ⟨⟨by decide +kernel, by decide +kernel⟩, List.mem_of_getElem? (i := 224) (by decide +kernel), List.mem_of_getElem? (i := 942) (by decide +kernel), List.mem_of_getElem? (i := 943) (by decide +kernel)⟩
theorem lw_p39 : lw_okq (⟨"SecondHelping$LogBook", "pureFrom", "(I)I"⟩, 5) := ⟨⟨by decide +kernel, by decide +kernel⟩, List.mem_of_getElem? (i := 167) (by decide +kernel), List.mem_of_getElem? (i := 955) (by decide +kernel), List.mem_of_getElem? (i := 956) (by decide +kernel)⟩
theorem lw_p40 : lw_okq (⟨"SecondHelping$Plans", "totalByTurns", "(III)I"⟩, 3) := ⟨⟨by decide +kernel, by decide +kernel⟩, List.mem_of_getElem? (i := 208) (by decide +kernel), List.mem_of_getElem? (i := 1002) (by decide +kernel), List.mem_of_getElem? (i := 1003) (by decide +kernel)⟩
theorem lw_p41 : lw_okq (⟨"SecondHelping$Marking", "distance", "(II)I"⟩, 2) := ⟨⟨by decide +kernel, by decide +kernel⟩, List.mem_of_getElem? (i := 251) (by decide +kernel), List.mem_of_getElem? (i := 1023) (by decide +kernel), List.mem_of_getElem? (i := 1024) (by decide +kernel)⟩
theorem lw_p42 : lw_okq (⟨"SecondHelping$Marking", "distancesFrom", "(I)I"⟩, 2) := ⟨⟨by decide +kernel, by decide +kernel⟩, List.mem_of_getElem? (i := 251) (by decide +kernel), List.mem_of_getElem? (i := 1032) (by decide +kernel), List.mem_of_getElem? (i := 1033) (by decide +kernel)⟩
theorem lw_p43 : lw_okq (⟨"SecondHelping$LogBook", "sumOfKind", "(I)I"⟩, 5) := ⟨⟨by decide +kernel, by decide +kernel⟩, List.mem_of_getElem? (i := 167) (by decide +kernel), List.mem_of_getElem? (i := 1052) (by decide +kernel), List.mem_of_getElem? (i := 1053) (by decide +kernel)⟩
theorem lw_p44 : lw_okq (⟨"SecondHelping$LogBook", "isInLog", "(I)Z"⟩, 5) := ⟨⟨by decide +kernel, by decide +kernel⟩, List.mem_of_getElem? (i := 167) (by decide +kernel), List.mem_of_getElem? (i := 1068) (by decide +kernel), List.mem_of_getElem? (i := 1069) (by decide +kernel)⟩
theorem lw_p45 : lw_okq (⟨"SecondHelping$LogBook", "sumBanning", "(I)I"⟩, 5) := ⟨⟨by decide +kernel, by decide +kernel⟩, List.mem_of_getElem? (i := 167) (by decide +kernel), List.mem_of_getElem? (i := 1072) (by decide +kernel), List.mem_of_getElem? (i := 1073) (by decide +kernel)⟩
theorem lw_p46 : lw_okq (⟨"SecondHelping$LogBook", "sumMoved", "(I)I"⟩, 5) := ⟨⟨by decide +kernel, by decide +kernel⟩, List.mem_of_getElem? (i := 167) (by decide +kernel), List.mem_of_getElem? (i := 1084) (by decide +kernel), List.mem_of_getElem? (i := 1085) (by decide +kernel)⟩
theorem lw_p47 : lw_okq (⟨"SecondHelping$Marking", "isNewSet", "(I)Z"⟩, 2) := ⟨⟨by decide +kernel, by decide +kernel⟩, List.mem_of_getElem? (i := 251) (by decide +kernel), List.mem_of_getElem? (i := 1100) (by decide +kernel), List.mem_of_getElem? (i := 1101) (by decide +kernel)⟩
def lw_privs_3 : List (MethodName × Nat) := [(⟨"SecondHelping$Marking", "marksOf", "(I)I"⟩, 2), (⟨"SecondHelping$Marking", "nextOf", "(I)I"⟩, 2), (⟨"SecondHelping", "refuseLong", "(I)J"⟩, 14), (⟨"SecondHelping$Likeness", "lengthen", "(I)V"⟩, 6), (⟨"SecondHelping$Likeness", "mayFollow", "(II)Z"⟩, 6), (⟨"SecondHelping$Likeness", "spread", "(I)I"⟩, 6), (⟨"SecondHelping$Likeness", "heapOf", "(I)I"⟩, 6), (⟨"SecondHelping$LogBook", "pureFrom", "(I)I"⟩, 5), (⟨"SecondHelping$Plans", "totalByTurns", "(III)I"⟩, 3), (⟨"SecondHelping$Marking", "distance", "(II)I"⟩, 2), (⟨"SecondHelping$Marking", "distancesFrom", "(I)I"⟩, 2), (⟨"SecondHelping$LogBook", "sumOfKind", "(I)I"⟩, 5), (⟨"SecondHelping$LogBook", "isInLog", "(I)Z"⟩, 5), (⟨"SecondHelping$LogBook", "sumBanning", "(I)I"⟩, 5), (⟨"SecondHelping$LogBook", "sumMoved", "(I)I"⟩, 5), (⟨"SecondHelping$Marking", "isNewSet", "(I)Z"⟩, 2)]
theorem lw_r3 : ∀ q ∈ lw_privs_3, lw_okq q := List.forall_mem_cons.mpr ⟨lw_p32, List.forall_mem_cons.mpr ⟨lw_p33, List.forall_mem_cons.mpr ⟨lw_p34, List.forall_mem_cons.mpr ⟨lw_p35, List.forall_mem_cons.mpr ⟨lw_p36, List.forall_mem_cons.mpr ⟨lw_p37, List.forall_mem_cons.mpr ⟨lw_p38, List.forall_mem_cons.mpr ⟨lw_p39, List.forall_mem_cons.mpr ⟨lw_p40, List.forall_mem_cons.mpr ⟨lw_p41, List.forall_mem_cons.mpr ⟨lw_p42, List.forall_mem_cons.mpr ⟨lw_p43, List.forall_mem_cons.mpr ⟨lw_p44, List.forall_mem_cons.mpr ⟨lw_p45, List.forall_mem_cons.mpr ⟨lw_p46, List.forall_mem_cons.mpr ⟨lw_p47, fun _ h => absurd h List.not_mem_nil⟩⟩⟩⟩⟩⟩⟩⟩⟩⟩⟩⟩⟩⟩⟩⟩
theorem lw_p48 : lw_okq (⟨"SecondHelping", "countRefused", "(I)I"⟩, 14) := ⟨⟨by decide +kernel, by decide +kernel⟩, List.mem_of_getElem? (i := 19) (by decide +kernel), List.mem_of_getElem? (i := 1163) (by decide +kernel), List.mem_of_getElem? (i := 1164) (by decide +kernel)⟩
theorem lw_p49 : lw_okq (⟨"SecondHelpingModel", "no", "(I)I"⟩, 29) := ⟨⟨by decide +kernel, by decide +kernel⟩, List.mem_of_getElem? (i := 1167) (by decide +kernel), List.mem_of_getElem? (i := 1268) (by decide +kernel), List.mem_of_getElem? (i := 1269) (by decide +kernel)⟩
theorem lw_p50 : lw_okq (⟨"SecondHelpingModel", "statement", "()Z"⟩, 29) := ⟨⟨by decide +kernel, by decide +kernel⟩, List.mem_of_getElem? (i := 1167) (by decide +kernel), List.mem_of_getElem? (i := 1276) (by decide +kernel), List.mem_of_getElem? (i := 1277) (by decide +kernel)⟩
theorem lw_p51 : lw_okq (⟨"SecondHelpingModel", "peeked", "()I"⟩, 29) := ⟨⟨by decide +kernel, by decide +kernel⟩, List.mem_of_getElem? (i := 1167) (by decide +kernel), List.mem_of_getElem? (i := 1280) (by decide +kernel), List.mem_of_getElem? (i := 1281) (by decide +kernel)⟩
theorem lw_p52 : lw_okq (⟨"SecondHelpingModel", "readsAll", "(II)Z"⟩, 29) := ⟨⟨by decide +kernel, by decide +kernel⟩, List.mem_of_getElem? (i := 1167) (by decide +kernel), List.mem_of_getElem? (i := 1284) (by decide +kernel), List.mem_of_getElem? (i := 1285) (by decide +kernel)⟩
theorem lw_p53 : lw_okq (⟨"SecondHelpingModel", "readsDigits", "(II)Z"⟩, 29) := ⟨⟨by decide +kernel, by decide +kernel⟩, List.mem_of_getElem? (i := 1167) (by decide +kernel), List.mem_of_getElem? (i := 1288) (by decide +kernel), List.mem_of_getElem? (i := 1289) (by decide +kernel)⟩
theorem lw_p54 : lw_okq (⟨"SecondHelpingModel", "passesAll", "(IZ)V"⟩, 29) := ⟨⟨by decide +kernel, by decide +kernel⟩, List.mem_of_getElem? (i := 1167) (by decide +kernel), List.mem_of_getElem? (i := 1295) (by decide +kernel), List.mem_of_getElem? (i := 1296) (by decide +kernel)⟩
theorem lw_p55 : lw_okq (⟨"SecondHelpingModel", "passes", "([I)V"⟩, 29) := ⟨⟨by decide +kernel, by decide +kernel⟩, List.mem_of_getElem? (i := 1167) (by decide +kernel), List.mem_of_getElem? (i := 1299) (by decide +kernel), List.mem_of_getElem? (i := 1300) (by decide +kernel)⟩
theorem lw_p56 : lw_okq (⟨"SecondHelpingModel", "passOne", "(I)I"⟩, 29) := ⟨⟨by decide +kernel, by decide +kernel⟩, List.mem_of_getElem? (i := 1167) (by decide +kernel), List.mem_of_getElem? (i := 1303) (by decide +kernel), List.mem_of_getElem? (i := 1304) (by decide +kernel)⟩
theorem lw_p57 : lw_okq (⟨"SecondHelpingModel", "comes", "(I)Z"⟩, 29) := ⟨⟨by decide +kernel, by decide +kernel⟩, List.mem_of_getElem? (i := 1167) (by decide +kernel), List.mem_of_getElem? (i := 1307) (by decide +kernel), List.mem_of_getElem? (i := 1308) (by decide +kernel)⟩
theorem lw_p58 : lw_okq (⟨"SecondHelpingModel", "adds", "(III)V"⟩, 29) := ⟨⟨by decide +kernel, by decide +kernel⟩, List.mem_of_getElem? (i := 1167) (by decide +kernel), List.mem_of_getElem? (i := 1311) (by decide +kernel), List.mem_of_getElem? (i := 1312) (by decide +kernel)⟩
theorem lw_p59 : lw_okq (⟨"SecondHelpingModel", "isDoing", "(I)Z"⟩, 29) := ⟨⟨by decide +kernel, by decide +kernel⟩, List.mem_of_getElem? (i := 1167) (by decide +kernel), List.mem_of_getElem? (i := 1315) (by decide +kernel), List.mem_of_getElem? (i := 1316) (by decide +kernel)⟩
theorem lw_p60 : lw_okq (⟨"SecondHelpingModel", "keepsBack", "()V"⟩, 29) := ⟨⟨by decide +kernel, by decide +kernel⟩, List.mem_of_getElem? (i := 1167) (by decide +kernel), List.mem_of_getElem? (i := 1346) (by decide +kernel), List.mem_of_getElem? (i := 1347) (by decide +kernel)⟩
theorem lw_p61 : lw_okq (⟨"SecondHelpingModel", "dueAt", "(I)I"⟩, 29) := ⟨⟨by decide +kernel, by decide +kernel⟩, List.mem_of_getElem? (i := 1167) (by decide +kernel), List.mem_of_getElem? (i := 1350) (by decide +kernel), List.mem_of_getElem? (i := 1351) (by decide +kernel)⟩
theorem lw_p62 : lw_okq (⟨"SecondHelpingModel", "repeatsAt", "(II)I"⟩, 29) := ⟨⟨by decide +kernel, by decide +kernel⟩, List.mem_of_getElem? (i := 1167) (by decide +kernel), List.mem_of_getElem? (i := 1354) (by decide +kernel), List.mem_of_getElem? (i := 1355) (by decide +kernel)⟩
theorem lw_p63 : lw_okq (⟨"SecondHelpingModel", "areSame", "(II)Z"⟩, 29) := ⟨⟨by decide +kernel, by decide +kernel⟩, List.mem_of_getElem? (i := 1167) (by decide +kernel), List.mem_of_getElem? (i := 1358) (by decide +kernel), List.mem_of_getElem? (i := 1359) (by decide +kernel)⟩
def lw_privs_4 : List (MethodName × Nat) := [(⟨"SecondHelping", "countRefused", "(I)I"⟩, 14), (⟨"SecondHelpingModel", "no", "(I)I"⟩, 29), (⟨"SecondHelpingModel", "statement", "()Z"⟩, 29), (⟨"SecondHelpingModel", "peeked", "()I"⟩, 29), (⟨"SecondHelpingModel", "readsAll", "(II)Z"⟩, 29), (⟨"SecondHelpingModel", "readsDigits", "(II)Z"⟩, 29), (⟨"SecondHelpingModel", "passesAll", "(IZ)V"⟩, 29), (⟨"SecondHelpingModel", "passes", "([I)V"⟩, 29), (⟨"SecondHelpingModel", "passOne", "(I)I"⟩, 29), (⟨"SecondHelpingModel", "comes", "(I)Z"⟩, 29), (⟨"SecondHelpingModel", "adds", "(III)V"⟩, 29), (⟨"SecondHelpingModel", "isDoing", "(I)Z"⟩, 29), (⟨"SecondHelpingModel", "keepsBack", "()V"⟩, 29), (⟨"SecondHelpingModel", "dueAt", "(I)I"⟩, 29), (⟨"SecondHelpingModel", "repeatsAt", "(II)I"⟩, 29), (⟨"SecondHelpingModel", "areSame", "(II)Z"⟩, 29)]
theorem lw_r4 : ∀ q ∈ lw_privs_4, lw_okq q := List.forall_mem_cons.mpr ⟨lw_p48, List.forall_mem_cons.mpr ⟨lw_p49, List.forall_mem_cons.mpr ⟨lw_p50, List.forall_mem_cons.mpr ⟨lw_p51, List.forall_mem_cons.mpr ⟨lw_p52, List.forall_mem_cons.mpr ⟨lw_p53, List.forall_mem_cons.mpr ⟨lw_p54, List.forall_mem_cons.mpr ⟨lw_p55, List.forall_mem_cons.mpr ⟨lw_p56, List.forall_mem_cons.mpr ⟨lw_p57, List.forall_mem_cons.mpr ⟨lw_p58, List.forall_mem_cons.mpr ⟨lw_p59, List.forall_mem_cons.mpr ⟨lw_p60, List.forall_mem_cons.mpr ⟨lw_p61, List.forall_mem_cons.mpr ⟨lw_p62, List.forall_mem_cons.mpr ⟨lw_p63, fun _ h => absurd h List.not_mem_nil⟩⟩⟩⟩⟩⟩⟩⟩⟩⟩⟩⟩⟩⟩⟩⟩
theorem lw_p64 : lw_okq (⟨"SecondHelpingModel", "dueOf", "(II)I"⟩, 29) := ⟨⟨by decide +kernel, by decide +kernel⟩, List.mem_of_getElem? (i := 1167) (by decide +kernel), List.mem_of_getElem? (i := 1365) (by decide +kernel), List.mem_of_getElem? (i := 1366) (by decide +kernel)⟩
theorem lw_p65 : lw_okq (⟨"SecondHelpingModel", "isPlace", "(I)Z"⟩, 29) := ⟨⟨by decide +kernel, by decide +kernel⟩, List.mem_of_getElem? (i := 1167) (by decide +kernel), List.mem_of_getElem? (i := 1393) (by decide +kernel), List.mem_of_getElem? (i := 1394) (by decide +kernel)⟩
theorem lw_p66 : lw_okq (⟨"SecondHelpingModel", "all", "()I"⟩, 29) := ⟨⟨by decide +kernel, by decide +kernel⟩, List.mem_of_getElem? (i := 1167) (by decide +kernel), List.mem_of_getElem? (i := 1401) (by decide +kernel), List.mem_of_getElem? (i := 1402) (by decide +kernel)⟩
theorem lw_p67 : lw_okq (⟨"SecondHelpingModel", "nextOf", "(I)I"⟩, 29) := ⟨⟨by decide +kernel, by decide +kernel⟩, List.mem_of_getElem? (i := 1167) (by decide +kernel), List.mem_of_getElem? (i := 1409) (by decide +kernel), List.mem_of_getElem? (i := 1410) (by decide +kernel)⟩
theorem lw_p68 : lw_okq (⟨"SecondHelpingModel", "findLeast", "(I)V"⟩, 29) := ⟨⟨by decide +kernel, by decide +kernel⟩, List.mem_of_getElem? (i := 1167) (by decide +kernel), List.mem_of_getElem? (i := 1425) (by decide +kernel), List.mem_of_getElem? (i := 1426) (by decide +kernel)⟩
theorem lw_p69 : lw_okq (⟨"SecondHelpingModel", "dueBehind", "(II)I"⟩, 29) := ⟨⟨by decide +kernel, by decide +kernel⟩, List.mem_of_getElem? (i := 1167) (by decide +kernel), List.mem_of_getElem? (i := 1433) (by decide +kernel), List.mem_of_getElem? (i := 1434) (by decide +kernel)⟩
theorem lw_p70 : lw_okq (⟨"SecondHelpingModel", "firstOf", "(II)I"⟩, 29) := ⟨⟨by decide +kernel, by decide +kernel⟩, List.mem_of_getElem? (i := 1167) (by decide +kernel), List.mem_of_getElem? (i := 1437) (by decide +kernel), List.mem_of_getElem? (i := 1438) (by decide +kernel)⟩
theorem lw_p71 : lw_okq (⟨"SecondHelpingModel", "areUnlike", "(I)Z"⟩, 29) := ⟨⟨by decide +kernel, by decide +kernel⟩, List.mem_of_getElem? (i := 1167) (by decide +kernel), List.mem_of_getElem? (i := 1445) (by decide +kernel), List.mem_of_getElem? (i := 1446) (by decide +kernel)⟩
theorem lw_p72 : lw_okq (⟨"SecondHelpingModel", "likesOf", "(I)I"⟩, 29) := ⟨⟨by decide +kernel, by decide +kernel⟩, List.mem_of_getElem? (i := 1167) (by decide +kernel), List.mem_of_getElem? (i := 1457) (by decide +kernel), List.mem_of_getElem? (i := 1458) (by decide +kernel)⟩
theorem lw_p73 : lw_okq (⟨"SecondHelpingModel", "thinks", "()V"⟩, 29) := ⟨⟨by decide +kernel, by decide +kernel⟩, List.mem_of_getElem? (i := 1167) (by decide +kernel), List.mem_of_getElem? (i := 1465) (by decide +kernel), List.mem_of_getElem? (i := 1466) (by decide +kernel)⟩
theorem lw_p74 : lw_okq (⟨"SecondHelpingModel", "lays", "(I)V"⟩, 29) := ⟨⟨by decide +kernel, by decide +kernel⟩, List.mem_of_getElem? (i := 1167) (by decide +kernel), List.mem_of_getElem? (i := 1469) (by decide +kernel), List.mem_of_getElem? (i := 1470) (by decide +kernel)⟩
theorem lw_p75 : lw_okq (⟨"SecondHelpingModel", "forgets", "()V"⟩, 29) := ⟨⟨by decide +kernel, by decide +kernel⟩, List.mem_of_getElem? (i := 1167) (by decide +kernel), List.mem_of_getElem? (i := 1473) (by decide +kernel), List.mem_of_getElem? (i := 1474) (by decide +kernel)⟩
theorem lw_p76 : lw_okq (⟨"SecondHelpingModel", "isSo", "()Z"⟩, 29) := ⟨⟨by decide +kernel, by decide +kernel⟩, List.mem_of_getElem? (i := 1167) (by decide +kernel), List.mem_of_getElem? (i := 1484) (by decide +kernel), List.mem_of_getElem? (i := 1485) (by decide +kernel)⟩
theorem lw_p77 : lw_okq (⟨"SecondHelpingModel", "unlikeDues", "(I)I"⟩, 29) := ⟨⟨by decide +kernel, by decide +kernel⟩, List.mem_of_getElem? (i := 1167) (by decide +kernel), List.mem_of_getElem? (i := 1492) (by decide +kernel), List.mem_of_getElem? (i := 1493) (by decide +kernel)⟩
theorem lw_p78 : lw_okq (⟨"SecondHelpingModel", "dueOfTwo", "(I)I"⟩, 29) := ⟨⟨by decide +kernel, by decide +kernel⟩, List.mem_of_getElem? (i := 1167) (by decide +kernel), List.mem_of_getElem? (i := 1504) (by decide +kernel), List.mem_of_getElem? (i := 1505) (by decide +kernel)⟩
theorem lw_p79 : lw_okq (⟨"SecondHelpingModel", "savesAt", "(I)I"⟩, 29) := ⟨⟨by decide +kernel, by decide +kernel⟩, List.mem_of_getElem? (i := 1167) (by decide +kernel), List.mem_of_getElem? (i := 1512) (by decide +kernel), List.mem_of_getElem? (i := 1513) (by decide +kernel)⟩
def lw_privs_5 : List (MethodName × Nat) := [(⟨"SecondHelpingModel", "dueOf", "(II)I"⟩, 29), (⟨"SecondHelpingModel", "isPlace", "(I)Z"⟩, 29), (⟨"SecondHelpingModel", "all", "()I"⟩, 29), (⟨"SecondHelpingModel", "nextOf", "(I)I"⟩, 29), (⟨"SecondHelpingModel", "findLeast", "(I)V"⟩, 29), (⟨"SecondHelpingModel", "dueBehind", "(II)I"⟩, 29), (⟨"SecondHelpingModel", "firstOf", "(II)I"⟩, 29), (⟨"SecondHelpingModel", "areUnlike", "(I)Z"⟩, 29), (⟨"SecondHelpingModel", "likesOf", "(I)I"⟩, 29), (⟨"SecondHelpingModel", "thinks", "()V"⟩, 29), (⟨"SecondHelpingModel", "lays", "(I)V"⟩, 29), (⟨"SecondHelpingModel", "forgets", "()V"⟩, 29), (⟨"SecondHelpingModel", "isSo", "()Z"⟩, 29), (⟨"SecondHelpingModel", "unlikeDues", "(I)I"⟩, 29), (⟨"SecondHelpingModel", "dueOfTwo", "(I)I"⟩, 29), (⟨"SecondHelpingModel", "savesAt", "(I)I"⟩, 29)]
theorem lw_r5 : ∀ q ∈ lw_privs_5, lw_okq q := List.forall_mem_cons.mpr ⟨lw_p64, List.forall_mem_cons.mpr ⟨lw_p65, List.forall_mem_cons.mpr ⟨lw_p66, List.forall_mem_cons.mpr ⟨lw_p67, List.forall_mem_cons.mpr ⟨lw_p68, List.forall_mem_cons.mpr ⟨lw_p69, List.forall_mem_cons.mpr ⟨lw_p70, List.forall_mem_cons.mpr ⟨lw_p71, List.forall_mem_cons.mpr ⟨lw_p72, List.forall_mem_cons.mpr ⟨lw_p73, List.forall_mem_cons.mpr ⟨lw_p74, List.forall_mem_cons.mpr ⟨lw_p75, List.forall_mem_cons.mpr ⟨lw_p76, List.forall_mem_cons.mpr ⟨lw_p77, List.forall_mem_cons.mpr ⟨lw_p78, List.forall_mem_cons.mpr ⟨lw_p79, fun _ h => absurd h List.not_mem_nil⟩⟩⟩⟩⟩⟩⟩⟩⟩⟩⟩⟩⟩⟩⟩⟩
theorem lw_p80 : lw_okq (⟨"SecondHelpingModel", "exchanges", "(II)V"⟩, 29) := ⟨⟨by decide +kernel, by decide +kernel⟩, List.mem_of_getElem? (i := 1167) (by decide +kernel), List.mem_of_getElem? (i := 1520) (by decide +kernel), List.mem_of_getElem? (i := 1521) (by decide +kernel)⟩
theorem lw_p81 : lw_okq (⟨"SecondHelpingModel", "marksOf", "(I)I"⟩, 29) := ⟨⟨by decide +kernel, by decide +kernel⟩, List.mem_of_getElem? (i := 1167) (by decide +kernel), List.mem_of_getElem? (i := 1532) (by decide +kernel), List.mem_of_getElem? (i := 1533) (by decide +kernel)⟩
theorem lw_p82 : lw_okq (⟨"SecondHelpingModel", "nextsOf", "(I)I"⟩, 29) := ⟨⟨by decide +kernel, by decide +kernel⟩, List.mem_of_getElem? (i := 1167) (by decide +kernel), List.mem_of_getElem? (i := 1536) (by decide +kernel), List.mem_of_getElem? (i := 1537) (by decide +kernel)⟩
theorem lw_p83 : lw_okq (⟨"SecondHelpingModel", "lowest", "(I)J"⟩, 29) := ⟨⟨by decide +kernel, by decide +kernel⟩, List.mem_of_getElem? (i := 1167) (by decide +kernel), List.mem_of_getElem? (i := 1544) (by decide +kernel), List.mem_of_getElem? (i := 1545) (by decide +kernel)⟩
theorem lw_p84 : lw_okq (⟨"SecondHelpingModel", "mayFollow", "(IIII)Z"⟩, 29) := ⟨⟨by decide +kernel, by decide +kernel⟩, List.mem_of_getElem? (i := 1167) (by decide +kernel), List.mem_of_getElem? (i := 1549) (by decide +kernel), List.mem_of_getElem? (i := 1550) (by decide +kernel)⟩
theorem lw_p85 : lw_okq (⟨"SecondHelpingModel", "sameAs", "(I)I"⟩, 29) := ⟨⟨by decide +kernel, by decide +kernel⟩, List.mem_of_getElem? (i := 1167) (by decide +kernel), List.mem_of_getElem? (i := 1579) (by decide +kernel), List.mem_of_getElem? (i := 1580) (by decide +kernel)⟩
theorem lw_p86 : lw_okq (⟨"SecondHelpingModel", "heapOf", "(I)I"⟩, 29) := ⟨⟨by decide +kernel, by decide +kernel⟩, List.mem_of_getElem? (i := 1167) (by decide +kernel), List.mem_of_getElem? (i := 1587) (by decide +kernel), List.mem_of_getElem? (i := 1588) (by decide +kernel)⟩
theorem lw_p87 : lw_okq (⟨"SecondHelpingModel", "isPure", "(II)Z"⟩, 29) := ⟨⟨by decide +kernel, by decide +kernel⟩, List.mem_of_getElem? (i := 1167) (by decide +kernel), List.mem_of_getElem? (i := 1595) (by decide +kernel), List.mem_of_getElem? (i := 1596) (by decide +kernel)⟩
theorem lw_p88 : lw_okq (⟨"SecondHelpingModel", "noMore", "()V"⟩, 29) := ⟨⟨by decide +kernel, by decide +kernel⟩, List.mem_of_getElem? (i := 1167) (by decide +kernel), List.mem_of_getElem? (i := 1615) (by decide +kernel), List.mem_of_getElem? (i := 1616) (by decide +kernel)⟩
theorem lw_p89 : lw_okq (⟨"SecondHelpingModel", "leastWithMore", "()I"⟩, 29) := ⟨⟨by decide +kernel, by decide +kernel⟩, List.mem_of_getElem? (i := 1167) (by decide +kernel), List.mem_of_getElem? (i := 1619) (by decide +kernel), List.mem_of_getElem? (i := 1620) (by decide +kernel)⟩
theorem lw_p90 : lw_okq (⟨"SecondHelpingModel", "dueWithMore", "(I)I"⟩, 29) := ⟨⟨by decide +kernel, by decide +kernel⟩, List.mem_of_getElem? (i := 1167) (by decide +kernel), List.mem_of_getElem? (i := 1623) (by decide +kernel), List.mem_of_getElem? (i := 1624) (by decide +kernel)⟩
theorem lw_p91 : lw_okq (⟨"SecondHelpingModel", "dueOfPair", "(III)I"⟩, 29) := ⟨⟨by decide +kernel, by decide +kernel⟩, List.mem_of_getElem? (i := 1167) (by decide +kernel), List.mem_of_getElem? (i := 1635) (by decide +kernel), List.mem_of_getElem? (i := 1636) (by decide +kernel)⟩
theorem lw_p92 : lw_okq (⟨"SecondHelpingModel", "apartOf", "(I)I"⟩, 29) := ⟨⟨by decide +kernel, by decide +kernel⟩, List.mem_of_getElem? (i := 1167) (by decide +kernel), List.mem_of_getElem? (i := 1643) (by decide +kernel), List.mem_of_getElem? (i := 1644) (by decide +kernel)⟩
theorem lw_p93 : lw_okq (⟨"SecondHelpingModel", "dueOfKind", "(I)I"⟩, 29) := ⟨⟨by decide +kernel, by decide +kernel⟩, List.mem_of_getElem? (i := 1167) (by decide +kernel), List.mem_of_getElem? (i := 1655) (by decide +kernel), List.mem_of_getElem? (i := 1656) (by decide +kernel)⟩
theorem lw_p94 : lw_okq (⟨"SecondHelpingModel", "isDone", "(I)Z"⟩, 29) := ⟨⟨by decide +kernel, by decide +kernel⟩, List.mem_of_getElem? (i := 1167) (by decide +kernel), List.mem_of_getElem? (i := 1663) (by decide +kernel), List.mem_of_getElem? (i := 1664) (by decide +kernel)⟩
theorem lw_p95 : lw_okq (⟨"SecondHelpingModel", "dueWithout", "(I)I"⟩, 29) := ⟨⟨by decide +kernel, by decide +kernel⟩, List.mem_of_getElem? (i := 1167) (by decide +kernel), List.mem_of_getElem? (i := 1667) (by decide +kernel), List.mem_of_getElem? (i := 1668) (by decide +kernel)⟩
def lw_privs_6 : List (MethodName × Nat) := [(⟨"SecondHelpingModel", "exchanges", "(II)V"⟩, 29), (⟨"SecondHelpingModel", "marksOf", "(I)I"⟩, 29), (⟨"SecondHelpingModel", "nextsOf", "(I)I"⟩, 29), (⟨"SecondHelpingModel", "lowest", "(I)J"⟩, 29), (⟨"SecondHelpingModel", "mayFollow", "(IIII)Z"⟩, 29), (⟨"SecondHelpingModel", "sameAs", "(I)I"⟩, 29), (⟨"SecondHelpingModel", "heapOf", "(I)I"⟩, 29), (⟨"SecondHelpingModel", "isPure", "(II)Z"⟩, 29), (⟨"SecondHelpingModel", "noMore", "()V"⟩, 29), (⟨"SecondHelpingModel", "leastWithMore", "()I"⟩, 29), (⟨"SecondHelpingModel", "dueWithMore", "(I)I"⟩, 29), (⟨"SecondHelpingModel", "dueOfPair", "(III)I"⟩, 29), (⟨"SecondHelpingModel", "apartOf", "(I)I"⟩, 29), (⟨"SecondHelpingModel", "dueOfKind", "(I)I"⟩, 29), (⟨"SecondHelpingModel", "isDone", "(I)Z"⟩, 29), (⟨"SecondHelpingModel", "dueWithout", "(I)I"⟩, 29)]
theorem lw_r6 : ∀ q ∈ lw_privs_6, lw_okq q := List.forall_mem_cons.mpr ⟨lw_p80, List.forall_mem_cons.mpr ⟨lw_p81, List.forall_mem_cons.mpr ⟨lw_p82, List.forall_mem_cons.mpr ⟨lw_p83, List.forall_mem_cons.mpr ⟨lw_p84, List.forall_mem_cons.mpr ⟨lw_p85, List.forall_mem_cons.mpr ⟨lw_p86, List.forall_mem_cons.mpr ⟨lw_p87, List.forall_mem_cons.mpr ⟨lw_p88, List.forall_mem_cons.mpr ⟨lw_p89, List.forall_mem_cons.mpr ⟨lw_p90, List.forall_mem_cons.mpr ⟨lw_p91, List.forall_mem_cons.mpr ⟨lw_p92, List.forall_mem_cons.mpr ⟨lw_p93, List.forall_mem_cons.mpr ⟨lw_p94, List.forall_mem_cons.mpr ⟨lw_p95, fun _ h => absurd h List.not_mem_nil⟩⟩⟩⟩⟩⟩⟩⟩⟩⟩⟩⟩⟩⟩⟩⟩
theorem lw_p96 : lw_okq (⟨"SecondHelpingModel", "dueMoved", "(I)I"⟩, 29) := ⟨⟨by decide +kernel, by decide +kernel⟩, List.mem_of_getElem? (i := 1167) (by decide +kernel), List.mem_of_getElem? (i := 1675) (by decide +kernel), List.mem_of_getElem? (i := 1676) (by decide +kernel)⟩
def lw_privs_7 : List (MethodName × Nat) := [(⟨"SecondHelpingModel", "dueMoved", "(I)I"⟩, 29)]
theorem lw_r7 : ∀ q ∈ lw_privs_7, lw_okq q := List.forall_mem_cons.mpr ⟨lw_p96, fun _ h => absurd h List.not_mem_nil⟩
def lw_privs : List (MethodName × Nat) := lw_privs_1 ++ (lw_privs_2 ++ (lw_privs_3 ++ (lw_privs_4 ++ (lw_privs_5 ++ (lw_privs_6 ++ (lw_privs_7))))))
def lw_tbl : List Cond := k2_sels lw_privs ++ tables_1
theorem lw_privs_ok : ∀ q ∈ lw_privs, lw_okq q := by
  show ∀ q ∈ lw_privs_1 ++ (lw_privs_2 ++ (lw_privs_3 ++ (lw_privs_4 ++ (lw_privs_5 ++ (lw_privs_6 ++ (lw_privs_7)))))), lw_okq q
  exact List.forall_mem_append.mpr ⟨lw_r1, List.forall_mem_append.mpr ⟨lw_r2, List.forall_mem_append.mpr ⟨lw_r3, List.forall_mem_append.mpr ⟨lw_r4, List.forall_mem_append.mpr ⟨lw_r5, List.forall_mem_append.mpr ⟨lw_r6, lw_r7⟩⟩⟩⟩⟩⟩
-- ===== end of PART A; then your names; then what follows =====
end
section
/-! ===== BEGIN printed: names, fields, word lists, decode rows ===== -/
def RX0 : String := "SecondHelping$Board"
def TX0 : u_T := fun k => match k with
  | 0 => ("SecondHelping$Board", "kinds", "[I", true)
  | 1 => ("SecondHelping$Board", "figures", "[I", true)
  | 2 => ("SecondHelping$Board", "marks", "[I", true)
  | 3 => ("SecondHelping$Board", "log", "[I", true)
  | 4 => ("SecondHelping$Board", "doings", "I", false)
  | 5 => ("SecondHelping$Board", "places", "I", false)
  | 6 => ("SecondHelping$Board", "type", "I", false)
  | _ => ("SecondHelping$Board", "t", "I", false)
def tyX0 : Nat → FieldType := fun k => match k with
  | 0 => .array .int
  | 1 => .array .int
  | 2 => .array .int
  | 3 => .array .int
  | 4 => .int
  | 5 => .int
  | 6 => .int
  | _ => .int
abbrev wsX00 : List Cond := u_ws RX0 TX0 8
theorem nmX0 : ∀ a, a < 8 → ∀ b, b < 8 → a ≠ b → (TX0 a).2.1 ≠ (TX0 b).2.1 := by decide +kernel
theorem tyX0_ok : ∀ k, k < 8 → parseFieldDescriptor (TX0 k).2.2.1 = some (tyX0 k) := by decide +kernel
abbrev cX0_init : ByteArray := prog_2_method_1_code
def yX0_init : MethodName := ⟨RX0, "<init>", "()V"⟩
abbrev cX0_become : ByteArray := prog_2_method_2_code
def yX0_become : MethodName := ⟨RX0, "become", "(LSecondHelping$Board;)V"⟩
abbrev cX0_hasDoing : ByteArray := prog_2_method_3_code
def yX0_hasDoing : MethodName := ⟨RX0, "hasDoing", "(I)Z"⟩
abbrev cX0_hasPlace : ByteArray := prog_2_method_4_code
def yX0_hasPlace : MethodName := ⟨RX0, "hasPlace", "(I)Z"⟩
abbrev cX0_hasRoomForDoing : ByteArray := prog_2_method_5_code
def yX0_hasRoomForDoing : MethodName := ⟨RX0, "hasRoomForDoing", "()Z"⟩
abbrev cX0_hasRoomForPlace : ByteArray := prog_2_method_6_code
def yX0_hasRoomForPlace : MethodName := ⟨RX0, "hasRoomForPlace", "()Z"⟩
abbrev cX0_addDoing : ByteArray := prog_2_method_7_code
def yX0_addDoing : MethodName := ⟨RX0, "addDoing", "(III)I"⟩
abbrev cX0_addPlace : ByteArray := prog_2_method_8_code
def yX0_addPlace : MethodName := ⟨RX0, "addPlace", "(I)V"⟩
abbrev cX0_setKind : ByteArray := prog_2_method_9_code
def yX0_setKind : MethodName := ⟨RX0, "setKind", "(III)V"⟩
abbrev cX0_setLaw : ByteArray := prog_2_method_10_code
def yX0_setLaw : MethodName := ⟨RX0, "setLaw", "(II)V"⟩
abbrev cX0_flipMark : ByteArray := prog_2_method_11_code
def yX0_flipMark : MethodName := ⟨RX0, "flipMark", "(II)V"⟩
abbrev cX0_areAlike : ByteArray := prog_2_method_12_code
def yX0_areAlike : MethodName := ⟨RX0, "areAlike", "(IIII)Z"⟩
abbrev cX0_dueFor : ByteArray := prog_2_method_13_code
def yX0_dueFor : MethodName := ⟨RX0, "dueFor", "(II)I"⟩
def RX1 : String := "SecondHelping$Letters"
def TX1 : u_T := fun k => match k with
  | 0 => ("SecondHelping$Letters", "letters", "[I", true)
  | 1 => ("SecondHelping$Letters", "trial", "LSecondHelping$Board;", true)
  | _ => ("SecondHelping$Letters", "count", "I", false)
def tyX1 : Nat → FieldType := fun k => match k with
  | 0 => .array .int
  | 1 => .object "SecondHelping$Board"
  | _ => .int
abbrev wsX10 : List Cond := u_ws RX1 TX1 3
theorem nmX1 : ∀ a, a < 3 → ∀ b, b < 3 → a ≠ b → (TX1 a).2.1 ≠ (TX1 b).2.1 := by decide +kernel
theorem tyX1_ok : ∀ k, k < 3 → parseFieldDescriptor (TX1 k).2.2.1 = some (tyX1 k) := by decide +kernel
abbrev cX1_init : ByteArray := prog_3_method_1_code
def yX1_init : MethodName := ⟨RX1, "<init>", "()V"⟩
abbrev cX1_add : ByteArray := prog_3_method_2_code
def yX1_add : MethodName := ⟨RX1, "add", "(I)I"⟩
abbrev cX1_tell : ByteArray := prog_3_method_3_code
def yX1_tell : MethodName := ⟨RX1, "tell", "(LSecondHelping$Board;)I"⟩
abbrev cX1_hear : ByteArray := prog_3_method_4_code
def yX1_hear : MethodName := ⟨RX1, "hear", "(LSecondHelping$Board;)I"⟩
abbrev cX1_firstWithoutForm : ByteArray := prog_3_method_5_code
def yX1_firstWithoutForm : MethodName := ⟨RX1, "firstWithoutForm", "()I"⟩
abbrev cX1_letterAt : ByteArray := prog_3_method_6_code
def yX1_letterAt : MethodName := ⟨RX1, "letterAt", "(I)I"⟩
abbrev cX1_digitAt : ByteArray := prog_3_method_7_code
def yX1_digitAt : MethodName := ⟨RX1, "digitAt", "(I)I"⟩
abbrev cX1_isDigit : ByteArray := prog_3_method_8_code
def yX1_isDigit : MethodName := ⟨RX1, "isDigit", "(I)Z"⟩
abbrev cX1_digitsBehind : ByteArray := prog_3_method_9_code
def yX1_digitsBehind : MethodName := ⟨RX1, "digitsBehind", "(I)I"⟩
abbrev cX1_comes : ByteArray := prog_3_method_10_code
def yX1_comes : MethodName := ⟨RX1, "comes", "(I)Z"⟩
abbrev cX1_comesDoing : ByteArray := prog_3_method_11_code
def yX1_comesDoing : MethodName := ⟨RX1, "comesDoing", "(III)Z"⟩
abbrev cX1_comesDone : ByteArray := prog_3_method_12_code
def yX1_comesDone : MethodName := ⟨RX1, "comesDone", "(I)Z"⟩
abbrev cX1_comesLaw : ByteArray := prog_3_method_13_code
def yX1_comesLaw : MethodName := ⟨RX1, "comesLaw", "(II)Z"⟩
abbrev cX1_comesMark : ByteArray := prog_3_method_14_code
def yX1_comesMark : MethodName := ⟨RX1, "comesMark", "(II)Z"⟩
def RX2 : String := "SecondHelping$Likeness"
def TX2 : u_T := fun k => match k with
  | 0 => ("SecondHelping$Likeness", "board", "LSecondHelping$Board;", true)
  | 1 => ("SecondHelping$Likeness", "reckoning", "LSecondHelping$Reckoning;", true)
  | 2 => ("SecondHelping$Likeness", "needed", "[I", true)
  | 3 => ("SecondHelping$Likeness", "apart", "[Z", true)
  | 4 => ("SecondHelping$Likeness", "rows", "[J", true)
  | _ => ("SecondHelping$Likeness", "longer", "[J", true)
def tyX2 : Nat → FieldType := fun k => match k with
  | 0 => .object "SecondHelping$Board"
  | 1 => .object "SecondHelping$Reckoning"
  | 2 => .array .int
  | 3 => .array .boolean
  | 4 => .array .long
  | _ => .array .long
abbrev wsX20 : List Cond := u_ws RX2 TX2 6
theorem nmX2 : ∀ a, a < 6 → ∀ b, b < 6 → a ≠ b → (TX2 a).2.1 ≠ (TX2 b).2.1 := by decide +kernel
theorem tyX2_ok : ∀ k, k < 6 → parseFieldDescriptor (TX2 k).2.2.1 = some (tyX2 k) := by decide +kernel
abbrev cX2_init : ByteArray := prog_4_method_1_code
def yX2_init : MethodName := ⟨RX2, "<init>", "(LSecondHelping$Board;LSecondHelping$Reckoning;)V"⟩
abbrev cX2_sets : ByteArray := prog_4_method_2_code
def yX2_sets : MethodName := ⟨RX2, "sets", "()I"⟩
abbrev cX2_areApart : ByteArray := prog_4_method_3_code
def yX2_areApart : MethodName := ⟨RX2, "areApart", "(I)Z"⟩
abbrev cX2_mostApart : ByteArray := prog_4_method_4_code
def yX2_mostApart : MethodName := ⟨RX2, "mostApart", "()I"⟩
abbrev cX2_fewestPeople : ByteArray := prog_4_method_5_code
def yX2_fewestPeople : MethodName := ⟨RX2, "fewestPeople", "()I"⟩
abbrev cX2_fewestFor : ByteArray := prog_4_method_6_code
def yX2_fewestFor : MethodName := ⟨RX2, "fewestFor", "(I)I"⟩
abbrev cX2_likesOf : ByteArray := prog_4_method_7_code
def yX2_likesOf : MethodName := ⟨RX2, "likesOf", "(I)I"⟩
abbrev cX2_tiesOf : ByteArray := prog_4_method_8_code
def yX2_tiesOf : MethodName := ⟨RX2, "tiesOf", "(I)I"⟩
abbrev cX2_withMostLikes : ByteArray := prog_4_method_9_code
def yX2_withMostLikes : MethodName := ⟨RX2, "withMostLikes", "()I"⟩
abbrev cX2_spread : ByteArray := prog_4_method_10_code
def yX2_spread : MethodName := ⟨RX2, "spread", "(I)I"⟩
abbrev cX2_shortestChain : ByteArray := prog_4_method_11_code
def yX2_shortestChain : MethodName := ⟨RX2, "shortestChain", "(II)I"⟩
abbrev cX2_allHeaps : ByteArray := prog_4_method_12_code
def yX2_allHeaps : MethodName := ⟨RX2, "allHeaps", "(I)I"⟩
abbrev cX2_heapOf : ByteArray := prog_4_method_13_code
def yX2_heapOf : MethodName := ⟨RX2, "heapOf", "(I)I"⟩
abbrev cX2_songRows : ByteArray := prog_4_method_14_code
def yX2_songRows : MethodName := ⟨RX2, "songRows", "(II)J"⟩
abbrev cX2_lengthen : ByteArray := prog_4_method_15_code
def yX2_lengthen : MethodName := ⟨RX2, "lengthen", "(I)V"⟩
abbrev cX2_mayFollow : ByteArray := prog_4_method_16_code
def yX2_mayFollow : MethodName := ⟨RX2, "mayFollow", "(II)Z"⟩
abbrev cX2_firstCaught : ByteArray := prog_4_method_17_code
def yX2_firstCaught : MethodName := ⟨RX2, "firstCaught", "(I)I"⟩
def RX3 : String := "SecondHelping$LogBook"
def TX3 : u_T := fun k => match k with
  | 0 => ("SecondHelping$LogBook", "board", "LSecondHelping$Board;", true)
  | 1 => ("SecondHelping$LogBook", "reckoning", "LSecondHelping$Reckoning;", true)
  | 2 => ("SecondHelping$LogBook", "repeats", "[I", true)
  | 3 => ("SecondHelping$LogBook", "dues", "[I", true)
  | _ => ("SecondHelping$LogBook", "alikeAhead", "[I", true)
def tyX3 : Nat → FieldType := fun k => match k with
  | 0 => .object "SecondHelping$Board"
  | 1 => .object "SecondHelping$Reckoning"
  | 2 => .array .int
  | 3 => .array .int
  | _ => .array .int
abbrev wsX30 : List Cond := u_ws RX3 TX3 5
theorem nmX3 : ∀ a, a < 5 → ∀ b, b < 5 → a ≠ b → (TX3 a).2.1 ≠ (TX3 b).2.1 := by decide +kernel
theorem tyX3_ok : ∀ k, k < 5 → parseFieldDescriptor (TX3 k).2.2.1 = some (tyX3 k) := by decide +kernel
abbrev cX3_init : ByteArray := prog_5_method_1_code
def yX3_init : MethodName := ⟨RX3, "<init>", "(LSecondHelping$Board;LSecondHelping$Reckoning;)V"⟩
abbrev cX3_reckonPlaces : ByteArray := prog_5_method_2_code
def yX3_reckonPlaces : MethodName := ⟨RX3, "reckonPlaces", "()V"⟩
abbrev cX3_total : ByteArray := prog_5_method_3_code
def yX3_total : MethodName := ⟨RX3, "total", "()I"⟩
abbrev cX3_ofPlace : ByteArray := prog_5_method_4_code
def yX3_ofPlace : MethodName := ⟨RX3, "ofPlace", "(II)I"⟩
abbrev cX3_firstAbove : ByteArray := prog_5_method_5_code
def yX3_firstAbove : MethodName := ⟨RX3, "firstAbove", "(I)I"⟩
abbrev cX3_withoutRepeats : ByteArray := prog_5_method_6_code
def yX3_withoutRepeats : MethodName := ⟨RX3, "withoutRepeats", "()I"⟩
abbrev cX3_totalOfKind : ByteArray := prog_5_method_7_code
def yX3_totalOfKind : MethodName := ⟨RX3, "totalOfKind", "(I)I"⟩
abbrev cX3_sumOfKind : ByteArray := prog_5_method_8_code
def yX3_sumOfKind : MethodName := ⟨RX3, "sumOfKind", "(I)I"⟩
abbrev cX3_dearestKind : ByteArray := prog_5_method_9_code
def yX3_dearestKind : MethodName := ⟨RX3, "dearestKind", "()I"⟩
abbrev cX3_sumWithout : ByteArray := prog_5_method_10_code
def yX3_sumWithout : MethodName := ⟨RX3, "sumWithout", "(I)I"⟩
abbrev cX3_savingOf : ByteArray := prog_5_method_11_code
def yX3_savingOf : MethodName := ⟨RX3, "savingOf", "(I)I"⟩
abbrev cX3_bestSaving : ByteArray := prog_5_method_12_code
def yX3_bestSaving : MethodName := ⟨RX3, "bestSaving", "()I"⟩
abbrev cX3_totalMoved : ByteArray := prog_5_method_13_code
def yX3_totalMoved : MethodName := ⟨RX3, "totalMoved", "(I)I"⟩
abbrev cX3_sumMoved : ByteArray := prog_5_method_14_code
def yX3_sumMoved : MethodName := ⟨RX3, "sumMoved", "(I)I"⟩
abbrev cX3_bestMove : ByteArray := prog_5_method_15_code
def yX3_bestMove : MethodName := ⟨RX3, "bestMove", "()I"⟩
abbrev cX3_totalFromBehind : ByteArray := prog_5_method_16_code
def yX3_totalFromBehind : MethodName := ⟨RX3, "totalFromBehind", "()I"⟩
abbrev cX3_bestExchange : ByteArray := prog_5_method_17_code
def yX3_bestExchange : MethodName := ⟨RX3, "bestExchange", "()I"⟩
abbrev cX3_sumExchanged : ByteArray := prog_5_method_18_code
def yX3_sumExchanged : MethodName := ⟨RX3, "sumExchanged", "(II)I"⟩
abbrev cX3_bestBan : ByteArray := prog_5_method_19_code
def yX3_bestBan : MethodName := ⟨RX3, "bestBan", "(I)I"⟩
abbrev cX3_isInLog : ByteArray := prog_5_method_20_code
def yX3_isInLog : MethodName := ⟨RX3, "isInLog", "(I)Z"⟩
abbrev cX3_sumBanning : ByteArray := prog_5_method_21_code
def yX3_sumBanning : MethodName := ⟨RX3, "sumBanning", "(I)I"⟩
abbrev cX3_splitInTwo : ByteArray := prog_5_method_22_code
def yX3_splitInTwo : MethodName := ⟨RX3, "splitInTwo", "(I)I"⟩
abbrev cX3_readAhead : ByteArray := prog_5_method_23_code
def yX3_readAhead : MethodName := ⟨RX3, "readAhead", "()V"⟩
abbrev cX3_sumSplit : ByteArray := prog_5_method_24_code
def yX3_sumSplit : MethodName := ⟨RX3, "sumSplit", "(II)I"⟩
abbrev cX3_areAlikePlaces : ByteArray := prog_5_method_25_code
def yX3_areAlikePlaces : MethodName := ⟨RX3, "areAlikePlaces", "(II)Z"⟩
abbrev cX3_longestPure : ByteArray := prog_5_method_26_code
def yX3_longestPure : MethodName := ⟨RX3, "longestPure", "(I)I"⟩
abbrev cX3_pureFrom : ByteArray := prog_5_method_27_code
def yX3_pureFrom : MethodName := ⟨RX3, "pureFrom", "(I)I"⟩
abbrev cX3_longestStreak : ByteArray := prog_5_method_28_code
def yX3_longestStreak : MethodName := ⟨RX3, "longestStreak", "()I"⟩
def RX4 : String := "SecondHelping$Luck"
def TX4 : u_T := fun k => match k with
  | 0 => ("SecondHelping$Luck", "board", "LSecondHelping$Board;", true)
  | _ => ("SecondHelping$Luck", "reckoning", "LSecondHelping$Reckoning;", true)
def tyX4 : Nat → FieldType := fun k => match k with
  | 0 => .object "SecondHelping$Board"
  | _ => .object "SecondHelping$Reckoning"
abbrev wsX40 : List Cond := u_ws RX4 TX4 2
theorem nmX4 : ∀ a, a < 2 → ∀ b, b < 2 → a ≠ b → (TX4 a).2.1 ≠ (TX4 b).2.1 := by decide +kernel
theorem tyX4_ok : ∀ k, k < 2 → parseFieldDescriptor (TX4 k).2.2.1 = some (tyX4 k) := by decide +kernel
abbrev cX4_init : ByteArray := prog_6_method_1_code
def yX4_init : MethodName := ⟨RX4, "<init>", "(LSecondHelping$Board;LSecondHelping$Reckoning;)V"⟩
abbrev cX4_nothingDue : ByteArray := prog_6_method_2_code
def yX4_nothingDue : MethodName := ⟨RX4, "nothingDue", "(II)J"⟩
abbrev cX4_luckyRows : ByteArray := prog_6_method_3_code
def yX4_luckyRows : MethodName := ⟨RX4, "luckyRows", "(LSecondHelping$Board;LSecondHelping$Reckoning;I)I"⟩
abbrev cX4_meanNext : ByteArray := prog_6_method_4_code
def yX4_meanNext : MethodName := ⟨RX4, "meanNext", "(I)J"⟩
abbrev cX4_lowest : ByteArray := prog_6_method_5_code
def yX4_lowest : MethodName := ⟨RX4, "lowest", "(JJI)J"⟩
abbrev cX4_weeks : ByteArray := prog_6_method_6_code
def yX4_weeks : MethodName := ⟨RX4, "weeks", "(III)I"⟩
def RX5 : String := "SecondHelping$Marking"
def TX5 : u_T := fun k => match k with
  | 0 => ("SecondHelping$Marking", "board", "LSecondHelping$Board;", true)
  | _ => ("SecondHelping$Marking", "reckoning", "LSecondHelping$Reckoning;", true)
def tyX5 : Nat → FieldType := fun k => match k with
  | 0 => .object "SecondHelping$Board"
  | _ => .object "SecondHelping$Reckoning"
abbrev wsX50 : List Cond := u_ws RX5 TX5 2
theorem nmX5 : ∀ a, a < 2 → ∀ b, b < 2 → a ≠ b → (TX5 a).2.1 ≠ (TX5 b).2.1 := by decide +kernel
theorem tyX5_ok : ∀ k, k < 2 → parseFieldDescriptor (TX5 k).2.2.1 = some (tyX5 k) := by decide +kernel
abbrev cX5_init : ByteArray := prog_7_method_1_code
def yX5_init : MethodName := ⟨RX5, "<init>", "(LSecondHelping$Board;LSecondHelping$Reckoning;)V"⟩
abbrev cX5_allCounted : ByteArray := prog_7_method_2_code
def yX5_allCounted : MethodName := ⟨RX5, "allCounted", "()I"⟩
abbrev cX5_bestFlip : ByteArray := prog_7_method_3_code
def yX5_bestFlip : MethodName := ⟨RX5, "bestFlip", "()I"⟩
abbrev cX5_totalFlipped : ByteArray := prog_7_method_4_code
def yX5_totalFlipped : MethodName := ⟨RX5, "totalFlipped", "(II)I"⟩
abbrev cX5_covering : ByteArray := prog_7_method_5_code
def yX5_covering : MethodName := ⟨RX5, "covering", "(II)I"⟩
abbrev cX5_marksOf : ByteArray := prog_7_method_6_code
def yX5_marksOf : MethodName := ⟨RX5, "marksOf", "(I)I"⟩
abbrev cX5_nextOf : ByteArray := prog_7_method_7_code
def yX5_nextOf : MethodName := ⟨RX5, "nextOf", "(I)I"⟩
abbrev cX5_closestTwo : ByteArray := prog_7_method_8_code
def yX5_closestTwo : MethodName := ⟨RX5, "closestTwo", "(I)I"⟩
abbrev cX5_distance : ByteArray := prog_7_method_9_code
def yX5_distance : MethodName := ⟨RX5, "distance", "(II)I"⟩
abbrev cX5_farthestTwo : ByteArray := prog_7_method_10_code
def yX5_farthestTwo : MethodName := ⟨RX5, "farthestTwo", "()I"⟩
abbrev cX5_centre : ByteArray := prog_7_method_11_code
def yX5_centre : MethodName := ⟨RX5, "centre", "()I"⟩
abbrev cX5_distancesFrom : ByteArray := prog_7_method_12_code
def yX5_distancesFrom : MethodName := ⟨RX5, "distancesFrom", "(I)I"⟩
abbrev cX5_mostlyHad : ByteArray := prog_7_method_13_code
def yX5_mostlyHad : MethodName := ⟨RX5, "mostlyHad", "()I"⟩
abbrev cX5_unlikeSets : ByteArray := prog_7_method_14_code
def yX5_unlikeSets : MethodName := ⟨RX5, "unlikeSets", "()I"⟩
abbrev cX5_isNewSet : ByteArray := prog_7_method_15_code
def yX5_isNewSet : MethodName := ⟨RX5, "isNewSet", "(I)Z"⟩
def RX6 : String := "SecondHelping$Plans"
def TX6 : u_T := fun k => match k with
  | 0 => ("SecondHelping$Plans", "board", "LSecondHelping$Board;", true)
  | 1 => ("SecondHelping$Plans", "reckoning", "LSecondHelping$Reckoning;", true)
  | _ => ("SecondHelping$Plans", "rest", "[I", true)
def tyX6 : Nat → FieldType := fun k => match k with
  | 0 => .object "SecondHelping$Board"
  | 1 => .object "SecondHelping$Reckoning"
  | _ => .array .int
abbrev wsX60 : List Cond := u_ws RX6 TX6 3
theorem nmX6 : ∀ a, a < 3 → ∀ b, b < 3 → a ≠ b → (TX6 a).2.1 ≠ (TX6 b).2.1 := by decide +kernel
theorem tyX6_ok : ∀ k, k < 3 → parseFieldDescriptor (TX6 k).2.2.1 = some (tyX6 k) := by decide +kernel
abbrev cX6_init : ByteArray := prog_8_method_1_code
def yX6_init : MethodName := ⟨RX6, "<init>", "(LSecondHelping$Board;LSecondHelping$Reckoning;)V"⟩
abbrev cX6_inOrder : ByteArray := prog_8_method_2_code
def yX6_inOrder : MethodName := ⟨RX6, "inOrder", "(II)I"⟩
abbrev cX6_reckonRests : ByteArray := prog_8_method_3_code
def yX6_reckonRests : MethodName := ⟨RX6, "reckonRests", "(I)V"⟩
abbrev cX6_leastRest : ByteArray := prog_8_method_4_code
def yX6_leastRest : MethodName := ⟨RX6, "leastRest", "(II)I"⟩
abbrev cX6_dueBehind : ByteArray := prog_8_method_5_code
def yX6_dueBehind : MethodName := ⟨RX6, "dueBehind", "(II)I"⟩
abbrev cX6_ithDone : ByteArray := prog_8_method_6_code
def yX6_ithDone : MethodName := ⟨RX6, "ithDone", "(II)I"⟩
abbrev cX6_firstOnBestWay : ByteArray := prog_8_method_7_code
def yX6_firstOnBestWay : MethodName := ⟨RX6, "firstOnBestWay", "(II)I"⟩
abbrev cX6_timesMore : ByteArray := prog_8_method_8_code
def yX6_timesMore : MethodName := ⟨RX6, "timesMore", "(II)I"⟩
abbrev cX6_cheapestSteps : ByteArray := prog_8_method_9_code
def yX6_cheapestSteps : MethodName := ⟨RX6, "cheapestSteps", "(II)I"⟩
abbrev cX6_stepsWithin : ByteArray := prog_8_method_10_code
def yX6_stepsWithin : MethodName := ⟨RX6, "stepsWithin", "(I)I"⟩
abbrev cX6_cheapestTwo : ByteArray := prog_8_method_11_code
def yX6_cheapestTwo : MethodName := ⟨RX6, "cheapestTwo", "(II)I"⟩
abbrev cX6_totalByTurns : ByteArray := prog_8_method_12_code
def yX6_totalByTurns : MethodName := ⟨RX6, "totalByTurns", "(III)I"⟩
def RX7 : String := "SecondHelping$Readings"
def TX7 : u_T := fun k => match k with
  | 0 => ("SecondHelping$Readings", "board", "LSecondHelping$Board;", true)
  | 1 => ("SecondHelping$Readings", "reckoning", "LSecondHelping$Reckoning;", true)
  | 2 => ("SecondHelping$Readings", "row", "LSecondHelping$Row;", true)
  | _ => ("SecondHelping$Readings", "nexts", "[I", true)
def tyX7 : Nat → FieldType := fun k => match k with
  | 0 => .object "SecondHelping$Board"
  | 1 => .object "SecondHelping$Reckoning"
  | 2 => .object "SecondHelping$Row"
  | _ => .array .int
abbrev wsX70 : List Cond := u_ws RX7 TX7 4
theorem nmX7 : ∀ a, a < 4 → ∀ b, b < 4 → a ≠ b → (TX7 a).2.1 ≠ (TX7 b).2.1 := by decide +kernel
theorem tyX7_ok : ∀ k, k < 4 → parseFieldDescriptor (TX7 k).2.2.1 = some (tyX7 k) := by decide +kernel
abbrev cX7_init : ByteArray := prog_9_method_1_code
def yX7_init : MethodName := ⟨RX7, "<init>", "(LSecondHelping$Board;LSecondHelping$Reckoning;LSecondHelping$Row;)V"⟩
abbrev cX7_mildest : ByteArray := prog_9_method_2_code
def yX7_mildest : MethodName := ⟨RX7, "mildest", "(I)I"⟩
abbrev cX7_mildestT : ByteArray := prog_9_method_3_code
def yX7_mildestT : MethodName := ⟨RX7, "mildestT", "()I"⟩
abbrev cX7_isAsTold : ByteArray := prog_9_method_4_code
def yX7_isAsTold : MethodName := ⟨RX7, "isAsTold", "(II)Z"⟩
abbrev cX7_howManyFit : ByteArray := prog_9_method_5_code
def yX7_howManyFit : MethodName := ⟨RX7, "howManyFit", "()I"⟩
abbrev cX7_firstFitting : ByteArray := prog_9_method_6_code
def yX7_firstFitting : MethodName := ⟨RX7, "firstFitting", "()I"⟩
abbrev cX7_mostTelling : ByteArray := prog_9_method_7_code
def yX7_mostTelling : MethodName := ⟨RX7, "mostTelling", "(I)I"⟩
abbrev cX7_gatherNexts : ByteArray := prog_9_method_8_code
def yX7_gatherNexts : MethodName := ⟨RX7, "gatherNexts", "()I"⟩
abbrev cX7_keepNexts : ByteArray := prog_9_method_9_code
def yX7_keepNexts : MethodName := ⟨RX7, "keepNexts", "(I)V"⟩
abbrev cX7_unlikeNexts : ByteArray := prog_9_method_10_code
def yX7_unlikeNexts : MethodName := ⟨RX7, "unlikeNexts", "(II)I"⟩
abbrev cX7_isNewNext : ByteArray := prog_9_method_11_code
def yX7_isNewNext : MethodName := ⟨RX7, "isNewNext", "(II)Z"⟩
def RX8 : String := "SecondHelping$Reckoning"
def TX8 : u_T := fun k => match k with
  | 0 => ("SecondHelping$Reckoning", "board", "LSecondHelping$Board;", true)
  | 1 => ("SecondHelping$Reckoning", "alike", "[I", true)
  | _ => ("SecondHelping$Reckoning", "repeats", "[I", true)
def tyX8 : Nat → FieldType := fun k => match k with
  | 0 => .object "SecondHelping$Board"
  | 1 => .array .int
  | _ => .array .int
abbrev wsX80 : List Cond := u_ws RX8 TX8 3
theorem nmX8 : ∀ a, a < 3 → ∀ b, b < 3 → a ≠ b → (TX8 a).2.1 ≠ (TX8 b).2.1 := by decide +kernel
theorem tyX8_ok : ∀ k, k < 3 → parseFieldDescriptor (TX8 k).2.2.1 = some (tyX8 k) := by decide +kernel
abbrev cX8_init : ByteArray := prog_10_method_1_code
def yX8_init : MethodName := ⟨RX8, "<init>", "(LSecondHelping$Board;)V"⟩
abbrev cX8_open : ByteArray := prog_10_method_2_code
def yX8_open : MethodName := ⟨RX8, "open", "()V"⟩
abbrev cX8_openBy : ByteArray := prog_10_method_3_code
def yX8_openBy : MethodName := ⟨RX8, "openBy", "(II)V"⟩
abbrev cX8_openBehindLog : ByteArray := prog_10_method_4_code
def yX8_openBehindLog : MethodName := ⟨RX8, "openBehindLog", "()V"⟩
abbrev cX8_forgetSteps : ByteArray := prog_10_method_5_code
def yX8_forgetSteps : MethodName := ⟨RX8, "forgetSteps", "()V"⟩
abbrev cX8_dueNow : ByteArray := prog_10_method_6_code
def yX8_dueNow : MethodName := ⟨RX8, "dueNow", "(I)I"⟩
abbrev cX8_step : ByteArray := prog_10_method_7_code
def yX8_step : MethodName := ⟨RX8, "step", "(I)I"⟩
abbrev cX8_shift : ByteArray := prog_10_method_8_code
def yX8_shift : MethodName := ⟨RX8, "shift", "(II)V"⟩
abbrev cX8_walkLog : ByteArray := prog_10_method_9_code
def yX8_walkLog : MethodName := ⟨RX8, "walkLog", "()I"⟩
abbrev cX8_totalBy : ByteArray := prog_10_method_10_code
def yX8_totalBy : MethodName := ⟨RX8, "totalBy", "(II)I"⟩
abbrev cX8_total : ByteArray := prog_10_method_11_code
def yX8_total : MethodName := ⟨RX8, "total", "()I"⟩
abbrev cX8_nextDue : ByteArray := prog_10_method_12_code
def yX8_nextDue : MethodName := ⟨RX8, "nextDue", "(I)I"⟩
abbrev cX8_cheapestNext : ByteArray := prog_10_method_13_code
def yX8_cheapestNext : MethodName := ⟨RX8, "cheapestNext", "()I"⟩
abbrev cX8_dearestNext : ByteArray := prog_10_method_14_code
def yX8_dearestNext : MethodName := ⟨RX8, "dearestNext", "()I"⟩
def RX9 : String := "SecondHelping$Row"
def TX9 : u_T := fun k => match k with
  | 0 => ("SecondHelping$Row", "numbers", "[I", true)
  | _ => ("SecondHelping$Row", "count", "I", false)
def tyX9 : Nat → FieldType := fun k => match k with
  | 0 => .array .int
  | _ => .int
abbrev wsX90 : List Cond := u_ws RX9 TX9 2
theorem nmX9 : ∀ a, a < 2 → ∀ b, b < 2 → a ≠ b → (TX9 a).2.1 ≠ (TX9 b).2.1 := by decide +kernel
theorem tyX9_ok : ∀ k, k < 2 → parseFieldDescriptor (TX9 k).2.2.1 = some (tyX9 k) := by decide +kernel
abbrev cX9_init : ByteArray := prog_11_method_1_code
def yX9_init : MethodName := ⟨RX9, "<init>", "()V"⟩
abbrev cX9_add : ByteArray := prog_11_method_2_code
def yX9_add : MethodName := ⟨RX9, "add", "(I)I"⟩
abbrev cX9_firstNotIn : ByteArray := prog_11_method_3_code
def yX9_firstNotIn : MethodName := ⟨RX9, "firstNotIn", "(LSecondHelping$Board;)I"⟩
def RX10 : String := "SecondHelping$Takebacks"
def TX10 : u_T := fun k => match k with
  | 0 => ("SecondHelping$Takebacks", "deeds", "[I", true)
  | 1 => ("SecondHelping$Takebacks", "doings", "[I", true)
  | 2 => ("SecondHelping$Takebacks", "firsts", "[I", true)
  | 3 => ("SecondHelping$Takebacks", "seconds", "[I", true)
  | _ => ("SecondHelping$Takebacks", "count", "I", false)
def tyX10 : Nat → FieldType := fun k => match k with
  | 0 => .array .int
  | 1 => .array .int
  | 2 => .array .int
  | 3 => .array .int
  | _ => .int
abbrev wsX100 : List Cond := u_ws RX10 TX10 5
theorem nmX10 : ∀ a, a < 5 → ∀ b, b < 5 → a ≠ b → (TX10 a).2.1 ≠ (TX10 b).2.1 := by decide +kernel
theorem tyX10_ok : ∀ k, k < 5 → parseFieldDescriptor (TX10 k).2.2.1 = some (tyX10 k) := by decide +kernel
abbrev cX10_init : ByteArray := prog_12_method_1_code
def yX10_init : MethodName := ⟨RX10, "<init>", "()V"⟩
abbrev cX10_forget : ByteArray := prog_12_method_2_code
def yX10_forget : MethodName := ⟨RX10, "forget", "()V"⟩
abbrev cX10_keep : ByteArray := prog_12_method_3_code
def yX10_keep : MethodName := ⟨RX10, "keep", "(IIII)V"⟩
abbrev cX10_dropOldest : ByteArray := prog_12_method_4_code
def yX10_dropOldest : MethodName := ⟨RX10, "dropOldest", "()V"⟩
abbrev cX10_undoLatest : ByteArray := prog_12_method_5_code
def yX10_undoLatest : MethodName := ⟨RX10, "undoLatest", "(LSecondHelping$Board;)I"⟩
def RX11 : String := "SecondHelping"
def TX11 : u_T := fun k => match k with
  | 0 => ("SecondHelping", "now", "LSecondHelping$Board;", true)
  | 1 => ("SecondHelping", "taken", "LSecondHelping$Board;", true)
  | 2 => ("SecondHelping", "isTaken", "Z", false)
  | 3 => ("SecondHelping", "takebacks", "LSecondHelping$Takebacks;", true)
  | 4 => ("SecondHelping", "letters", "LSecondHelping$Letters;", true)
  | 5 => ("SecondHelping", "numbers", "LSecondHelping$Row;", true)
  | 6 => ("SecondHelping", "reckoning", "LSecondHelping$Reckoning;", true)
  | 7 => ("SecondHelping", "logBook", "LSecondHelping$LogBook;", true)
  | 8 => ("SecondHelping", "readings", "LSecondHelping$Readings;", true)
  | 9 => ("SecondHelping", "plans", "LSecondHelping$Plans;", true)
  | 10 => ("SecondHelping", "likeness", "LSecondHelping$Likeness;", true)
  | 11 => ("SecondHelping", "marking", "LSecondHelping$Marking;", true)
  | 12 => ("SecondHelping", "luck", "LSecondHelping$Luck;", true)
  | _ => ("SecondHelping", "refusals", "[I", true)
def tyX11 : Nat → FieldType := fun k => match k with
  | 0 => .object "SecondHelping$Board"
  | 1 => .object "SecondHelping$Board"
  | 2 => .boolean
  | 3 => .object "SecondHelping$Takebacks"
  | 4 => .object "SecondHelping$Letters"
  | 5 => .object "SecondHelping$Row"
  | 6 => .object "SecondHelping$Reckoning"
  | 7 => .object "SecondHelping$LogBook"
  | 8 => .object "SecondHelping$Readings"
  | 9 => .object "SecondHelping$Plans"
  | 10 => .object "SecondHelping$Likeness"
  | 11 => .object "SecondHelping$Marking"
  | 12 => .object "SecondHelping$Luck"
  | _ => .array .int
abbrev wsX110 : List Cond := u_ws RX11 TX11 14
theorem nmX11 : ∀ a, a < 14 → ∀ b, b < 14 → a ≠ b → (TX11 a).2.1 ≠ (TX11 b).2.1 := by decide +kernel
theorem tyX11_ok : ∀ k, k < 14 → parseFieldDescriptor (TX11 k).2.2.1 = some (tyX11 k) := by decide +kernel
abbrev cX11_init : ByteArray := prog_1_method_1_code
def yX11_init : MethodName := ⟨RX11, "<init>", "()V"⟩
abbrev cX11_feed : ByteArray := prog_1_method_2_code
def yX11_feed : MethodName := ⟨RX11, "feed", "(I)I"⟩
abbrev cX11_state : ByteArray := prog_1_method_3_code
def yX11_state : MethodName := ⟨RX11, "state", "()I"⟩
abbrev cX11_doingOf : ByteArray := prog_1_method_4_code
def yX11_doingOf : MethodName := ⟨RX11, "doingOf", "(II)I"⟩
abbrev cX11_doing : ByteArray := prog_1_method_5_code
def yX11_doing : MethodName := ⟨RX11, "doing", "(III)I"⟩
abbrev cX11_does : ByteArray := prog_1_method_6_code
def yX11_does : MethodName := ⟨RX11, "does", "(I)I"⟩
abbrev cX11_empties : ByteArray := prog_1_method_7_code
def yX11_empties : MethodName := ⟨RX11, "empties", "()I"⟩
abbrev cX11_turn : ByteArray := prog_1_method_8_code
def yX11_turn : MethodName := ⟨RX11, "turn", "(III)I"⟩
abbrev cX11_marks : ByteArray := prog_1_method_9_code
def yX11_marks : MethodName := ⟨RX11, "marks", "(II)I"⟩
abbrev cX11_law : ByteArray := prog_1_method_10_code
def yX11_law : MethodName := ⟨RX11, "law", "(II)I"⟩
abbrev cX11_back : ByteArray := prog_1_method_11_code
def yX11_back : MethodName := ⟨RX11, "back", "()I"⟩
abbrev cX11_same : ByteArray := prog_1_method_12_code
def yX11_same : MethodName := ⟨RX11, "same", "(II)I"⟩
abbrev cX11_place : ByteArray := prog_1_method_13_code
def yX11_place : MethodName := ⟨RX11, "place", "(II)I"⟩
abbrev cX11_allDue : ByteArray := prog_1_method_14_code
def yX11_allDue : MethodName := ⟨RX11, "allDue", "()I"⟩
abbrev cX11_next : ByteArray := prog_1_method_15_code
def yX11_next : MethodName := ⟨RX11, "next", "(I)I"⟩
abbrev cX11_best : ByteArray := prog_1_method_16_code
def yX11_best : MethodName := ⟨RX11, "best", "(I)I"⟩
abbrev cX11_charged : ByteArray := prog_1_method_17_code
def yX11_charged : MethodName := ⟨RX11, "charged", "(I)I"⟩
abbrev cX11_order : ByteArray := prog_1_method_18_code
def yX11_order : MethodName := ⟨RX11, "order", "(II)I"⟩
abbrev cX11_unlike : ByteArray := prog_1_method_19_code
def yX11_unlike : MethodName := ⟨RX11, "unlike", "()I"⟩
abbrev cX11_people : ByteArray := prog_1_method_20_code
def yX11_people : MethodName := ⟨RX11, "people", "()I"⟩
abbrev cX11_like : ByteArray := prog_1_method_21_code
def yX11_like : MethodName := ⟨RX11, "like", "(I)I"⟩
abbrev cX11_reading : ByteArray := prog_1_method_22_code
def yX11_reading : MethodName := ⟨RX11, "reading", "(I)I"⟩
abbrev cX11_fits : ByteArray := prog_1_method_23_code
def yX11_fits : MethodName := ⟨RX11, "fits", "(I)I"⟩
abbrev cX11_tellsMost : ByteArray := prog_1_method_24_code
def yX11_tellsMost : MethodName := ⟨RX11, "tellsMost", "(I)I"⟩
abbrev cX11_loophole : ByteArray := prog_1_method_25_code
def yX11_loophole : MethodName := ⟨RX11, "loophole", "()I"⟩
abbrev cX11_shared : ByteArray := prog_1_method_26_code
def yX11_shared : MethodName := ⟨RX11, "shared", "(I)I"⟩
abbrev cX11_saves : ByteArray := prog_1_method_27_code
def yX11_saves : MethodName := ⟨RX11, "saves", "(I)I"⟩
abbrev cX11_turned : ByteArray := prog_1_method_28_code
def yX11_turned : MethodName := ⟨RX11, "turned", "()I"⟩
abbrev cX11_changed : ByteArray := prog_1_method_29_code
def yX11_changed : MethodName := ⟨RX11, "changed", "()I"⟩
abbrev cX11_wants : ByteArray := prog_1_method_30_code
def yX11_wants : MethodName := ⟨RX11, "wants", "(II)I"⟩
abbrev cX11_songs : ByteArray := prog_1_method_31_code
def yX11_songs : MethodName := ⟨RX11, "songs", "(II)J"⟩
abbrev cX11_inspectors : ByteArray := prog_1_method_32_code
def yX11_inspectors : MethodName := ⟨RX11, "inspectors", "(I)I"⟩
abbrev cX11_chance : ByteArray := prog_1_method_33_code
def yX11_chance : MethodName := ⟨RX11, "chance", "(II)J"⟩
abbrev cX11_mean : ByteArray := prog_1_method_34_code
def yX11_mean : MethodName := ⟨RX11, "mean", "(I)J"⟩
abbrev cX11_twins : ByteArray := prog_1_method_35_code
def yX11_twins : MethodName := ⟨RX11, "twins", "(I)I"⟩
abbrev cX11_chain : ByteArray := prog_1_method_36_code
def yX11_chain : MethodName := ⟨RX11, "chain", "(II)I"⟩
abbrev cX11_heaps : ByteArray := prog_1_method_37_code
def yX11_heaps : MethodName := ⟨RX11, "heaps", "(I)I"⟩
abbrev cX11_pure : ByteArray := prog_1_method_38_code
def yX11_pure : MethodName := ⟨RX11, "pure", "(I)I"⟩
abbrev cX11_bestT : ByteArray := prog_1_method_39_code
def yX11_bestT : MethodName := ⟨RX11, "bestT", "()I"⟩
abbrev cX11_margin : ByteArray := prog_1_method_40_code
def yX11_margin : MethodName := ⟨RX11, "margin", "(II)I"⟩
abbrev cX11_firsts : ByteArray := prog_1_method_41_code
def yX11_firsts : MethodName := ⟨RX11, "firsts", "()I"⟩
abbrev cX11_greedily : ByteArray := prog_1_method_42_code
def yX11_greedily : MethodName := ⟨RX11, "greedily", "(II)I"⟩
abbrev cX11_pair : ByteArray := prog_1_method_43_code
def yX11_pair : MethodName := ⟨RX11, "pair", "(II)I"⟩
abbrev cX11_quota : ByteArray := prog_1_method_44_code
def yX11_quota : MethodName := ⟨RX11, "quota", "(I)I"⟩
abbrev cX11_radius : ByteArray := prog_1_method_45_code
def yX11_radius : MethodName := ⟨RX11, "radius", "(I)I"⟩
abbrev cX11_majority : ByteArray := prog_1_method_46_code
def yX11_majority : MethodName := ⟨RX11, "majority", "()I"⟩
abbrev cX11_byKind : ByteArray := prog_1_method_47_code
def yX11_byKind : MethodName := ⟨RX11, "byKind", "(I)I"⟩
abbrev cX11_banned : ByteArray := prog_1_method_48_code
def yX11_banned : MethodName := ⟨RX11, "banned", "(I)I"⟩
abbrev cX11_moved : ByteArray := prog_1_method_49_code
def yX11_moved : MethodName := ⟨RX11, "moved", "(I)I"⟩
abbrev cX11_unlikeMarks : ByteArray := prog_1_method_50_code
def yX11_unlikeMarks : MethodName := ⟨RX11, "unlikeMarks", "()I"⟩
abbrev cX11_streak : ByteArray := prog_1_method_51_code
def yX11_streak : MethodName := ⟨RX11, "streak", "()I"⟩
abbrev cX11_row : ByteArray := prog_1_method_52_code
def yX11_row : MethodName := ⟨RX11, "row", "(I)I"⟩
abbrev cX11_judge : ByteArray := prog_1_method_53_code
def yX11_judge : MethodName := ⟨RX11, "judge", "()I"⟩
abbrev cX11_clear : ByteArray := prog_1_method_54_code
def yX11_clear : MethodName := ⟨RX11, "clear", "()I"⟩
abbrev cX11_lots : ByteArray := prog_1_method_55_code
def yX11_lots : MethodName := ⟨RX11, "lots", "(III)I"⟩
abbrev cX11_image : ByteArray := prog_1_method_56_code
def yX11_image : MethodName := ⟨RX11, "image", "()I"⟩
abbrev cX11_restore : ByteArray := prog_1_method_57_code
def yX11_restore : MethodName := ⟨RX11, "restore", "()I"⟩
abbrev cX11_count : ByteArray := prog_1_method_58_code
def yX11_count : MethodName := ⟨RX11, "count", "(I)I"⟩
abbrev cX11_countRefused : ByteArray := prog_1_method_59_code
def yX11_countRefused : MethodName := ⟨RX11, "countRefused", "(I)I"⟩
abbrev cX11_refuse : ByteArray := prog_1_method_60_code
def yX11_refuse : MethodName := ⟨RX11, "refuse", "(I)I"⟩
abbrev cX11_refuseLong : ByteArray := prog_1_method_61_code
def yX11_refuseLong : MethodName := ⟨RX11, "refuseLong", "(I)J"⟩
abbrev cX11_isEither : ByteArray := prog_1_method_62_code
def yX11_isEither : MethodName := ⟨RX11, "isEither", "(I)Z"⟩
abbrev cX11_isKind : ByteArray := prog_1_method_63_code
def yX11_isKind : MethodName := ⟨RX11, "isKind", "(I)Z"⟩
abbrev cX11_isType : ByteArray := prog_1_method_64_code
def yX11_isType : MethodName := ⟨RX11, "isType", "(I)Z"⟩
abbrev cX11_isMark : ByteArray := prog_1_method_65_code
def yX11_isMark : MethodName := ⟨RX11, "isMark", "(I)Z"⟩
def RX12 : String := "SecondHelpingModel"
def TX12 : u_T := fun k => match k with
  | 0 => ("SecondHelpingModel", "refused", "[I", true)
  | 1 => ("SecondHelpingModel", "kind", "[I", true)
  | 2 => ("SecondHelpingModel", "figure", "[I", true)
  | 3 => ("SecondHelpingModel", "marked", "[I", true)
  | 4 => ("SecondHelpingModel", "log", "[I", true)
  | 5 => ("SecondHelpingModel", "doings", "I", false)
  | 6 => ("SecondHelpingModel", "places", "I", false)
  | 7 => ("SecondHelpingModel", "type", "I", false)
  | 8 => ("SecondHelpingModel", "tee", "I", false)
  | 9 => ("SecondHelpingModel", "tape", "[I", true)
  | 10 => ("SecondHelpingModel", "letter", "[I", true)
  | 11 => ("SecondHelpingModel", "letterAt", "[I", true)
  | 12 => ("SecondHelpingModel", "told", "[I", true)
  | 13 => ("SecondHelpingModel", "taped", "I", false)
  | 14 => ("SecondHelpingModel", "at", "I", false)
  | 15 => ("SecondHelpingModel", "statements", "I", false)
  | 16 => ("SecondHelpingModel", "kept", "[I", true)
  | 17 => ("SecondHelpingModel", "hasImage", "Z", false)
  | 18 => ("SecondHelpingModel", "isKeeping", "Z", false)
  | 19 => ("SecondHelpingModel", "cursor", "I", false)
  | 20 => ("SecondHelpingModel", "backs", "I", false)
  | 21 => ("SecondHelpingModel", "leastDue", "[I", true)
  | 22 => ("SecondHelpingModel", "peopleFor", "[I", true)
  | 23 => ("SecondHelpingModel", "row", "[I", true)
  | 24 => ("SecondHelpingModel", "rowMany", "I", false)
  | 25 => ("SecondHelpingModel", "nexts", "[I", true)
  | 26 => ("SecondHelpingModel", "songsBy", "[J", false)
  | 27 => ("SecondHelpingModel", "songsThen", "[J", false)
  | _ => ("SecondHelpingModel", "more", "[I", true)
def tyX12 : Nat → FieldType := fun k => match k with
  | 0 => .array .int
  | 1 => .array .int
  | 2 => .array .int
  | 3 => .array .int
  | 4 => .array .int
  | 5 => .int
  | 6 => .int
  | 7 => .int
  | 8 => .int
  | 9 => .array .int
  | 10 => .array .int
  | 11 => .array .int
  | 12 => .array .int
  | 13 => .int
  | 14 => .int
  | 15 => .int
  | 16 => .array .int
  | 17 => .boolean
  | 18 => .boolean
  | 19 => .int
  | 20 => .int
  | 21 => .array .int
  | 22 => .array .int
  | 23 => .array .int
  | 24 => .int
  | 25 => .array .int
  | 26 => .array .long
  | 27 => .array .long
  | _ => .array .int
abbrev wsX120 : List Cond := u_ws RX12 TX12 29
theorem nmX12 : ∀ a, a < 29 → ∀ b, b < 29 → a ≠ b → (TX12 a).2.1 ≠ (TX12 b).2.1 := by decide +kernel
theorem tyX12_ok : ∀ k, k < 29 → parseFieldDescriptor (TX12 k).2.2.1 = some (tyX12 k) := by decide +kernel
abbrev cX12_init : ByteArray := prog_14_method_1_code
def yX12_init : MethodName := ⟨RX12, "<init>", "()V"⟩
abbrev cX12_no : ByteArray := prog_14_method_2_code
def yX12_no : MethodName := ⟨RX12, "no", "(I)I"⟩
abbrev cX12_lowest : ByteArray := prog_14_method_3_code
def yX12_lowest : MethodName := ⟨RX12, "lowest", "(I)J"⟩
abbrev cX12_isIn : ByteArray := prog_14_method_4_code
def yX12_isIn : MethodName := ⟨RX12, "isIn", "(III)Z"⟩
abbrev cX12_bound : ByteArray := prog_14_method_5_code
def yX12_bound : MethodName := ⟨RX12, "bound", "(III)I"⟩
abbrev cX12_has : ByteArray := prog_14_method_6_code
def yX12_has : MethodName := ⟨RX12, "has", "(II)Z"⟩
abbrev cX12_bits : ByteArray := prog_14_method_7_code
def yX12_bits : MethodName := ⟨RX12, "bits", "(I)I"⟩
abbrev cX12_isDoing : ByteArray := prog_14_method_8_code
def yX12_isDoing : MethodName := ⟨RX12, "isDoing", "(I)Z"⟩
abbrev cX12_isMark : ByteArray := prog_14_method_9_code
def yX12_isMark : MethodName := ⟨RX12, "isMark", "(I)Z"⟩
abbrev cX12_feed : ByteArray := prog_14_method_10_code
def yX12_feed : MethodName := ⟨RX12, "feed", "(I)I"⟩
abbrev cX12_peeked : ByteArray := prog_14_method_11_code
def yX12_peeked : MethodName := ⟨RX12, "peeked", "()I"⟩
abbrev cX12_readsDigits : ByteArray := prog_14_method_12_code
def yX12_readsDigits : MethodName := ⟨RX12, "readsDigits", "(II)Z"⟩
abbrev cX12_readsAll : ByteArray := prog_14_method_13_code
def yX12_readsAll : MethodName := ⟨RX12, "readsAll", "(II)Z"⟩
abbrev cX12_statement : ByteArray := prog_14_method_14_code
def yX12_statement : MethodName := ⟨RX12, "statement", "()Z"⟩
abbrev cX12_comes : ByteArray := prog_14_method_15_code
def yX12_comes : MethodName := ⟨RX12, "comes", "(I)Z"⟩
abbrev cX12_state : ByteArray := prog_14_method_16_code
def yX12_state : MethodName := ⟨RX12, "state", "()I"⟩
abbrev cX12_passes : ByteArray := prog_14_method_17_code
def yX12_passes : MethodName := ⟨RX12, "passes", "([I)V"⟩
abbrev cX12_passOne : ByteArray := prog_14_method_18_code
def yX12_passOne : MethodName := ⟨RX12, "passOne", "(I)I"⟩
abbrev cX12_passesAll : ByteArray := prog_14_method_19_code
def yX12_passesAll : MethodName := ⟨RX12, "passesAll", "(IZ)V"⟩
abbrev cX12_thinks : ByteArray := prog_14_method_20_code
def yX12_thinks : MethodName := ⟨RX12, "thinks", "()V"⟩
abbrev cX12_forgets : ByteArray := prog_14_method_21_code
def yX12_forgets : MethodName := ⟨RX12, "forgets", "()V"⟩
abbrev cX12_keepsBack : ByteArray := prog_14_method_22_code
def yX12_keepsBack : MethodName := ⟨RX12, "keepsBack", "()V"⟩
abbrev cX12_back : ByteArray := prog_14_method_23_code
def yX12_back : MethodName := ⟨RX12, "back", "()I"⟩
abbrev cX12_image : ByteArray := prog_14_method_24_code
def yX12_image : MethodName := ⟨RX12, "image", "()I"⟩
abbrev cX12_restore : ByteArray := prog_14_method_25_code
def yX12_restore : MethodName := ⟨RX12, "restore", "()I"⟩
abbrev cX12_adds : ByteArray := prog_14_method_26_code
def yX12_adds : MethodName := ⟨RX12, "adds", "(III)V"⟩
abbrev cX12_areSame : ByteArray := prog_14_method_27_code
def yX12_areSame : MethodName := ⟨RX12, "areSame", "(II)Z"⟩
abbrev cX12_dueOf : ByteArray := prog_14_method_28_code
def yX12_dueOf : MethodName := ⟨RX12, "dueOf", "(II)I"⟩
abbrev cX12_repeatsAt : ByteArray := prog_14_method_29_code
def yX12_repeatsAt : MethodName := ⟨RX12, "repeatsAt", "(II)I"⟩
abbrev cX12_dueAt : ByteArray := prog_14_method_30_code
def yX12_dueAt : MethodName := ⟨RX12, "dueAt", "(I)I"⟩
abbrev cX12_all : ByteArray := prog_14_method_31_code
def yX12_all : MethodName := ⟨RX12, "all", "()I"⟩
abbrev cX12_nextOf : ByteArray := prog_14_method_32_code
def yX12_nextOf : MethodName := ⟨RX12, "nextOf", "(I)I"⟩
abbrev cX12_doingOf : ByteArray := prog_14_method_33_code
def yX12_doingOf : MethodName := ⟨RX12, "doingOf", "(II)I"⟩
abbrev cX12_doing : ByteArray := prog_14_method_34_code
def yX12_doing : MethodName := ⟨RX12, "doing", "(III)I"⟩
abbrev cX12_does : ByteArray := prog_14_method_35_code
def yX12_does : MethodName := ⟨RX12, "does", "(I)I"⟩
abbrev cX12_empties : ByteArray := prog_14_method_36_code
def yX12_empties : MethodName := ⟨RX12, "empties", "()I"⟩
abbrev cX12_turn : ByteArray := prog_14_method_37_code
def yX12_turn : MethodName := ⟨RX12, "turn", "(III)I"⟩
abbrev cX12_marks : ByteArray := prog_14_method_38_code
def yX12_marks : MethodName := ⟨RX12, "marks", "(II)I"⟩
abbrev cX12_law : ByteArray := prog_14_method_39_code
def yX12_law : MethodName := ⟨RX12, "law", "(II)I"⟩
abbrev cX12_same : ByteArray := prog_14_method_40_code
def yX12_same : MethodName := ⟨RX12, "same", "(II)I"⟩
abbrev cX12_isPlace : ByteArray := prog_14_method_41_code
def yX12_isPlace : MethodName := ⟨RX12, "isPlace", "(I)Z"⟩
abbrev cX12_place : ByteArray := prog_14_method_42_code
def yX12_place : MethodName := ⟨RX12, "place", "(II)I"⟩
abbrev cX12_allDue : ByteArray := prog_14_method_43_code
def yX12_allDue : MethodName := ⟨RX12, "allDue", "()I"⟩
abbrev cX12_next : ByteArray := prog_14_method_44_code
def yX12_next : MethodName := ⟨RX12, "next", "(I)I"⟩
abbrev cX12_best : ByteArray := prog_14_method_45_code
def yX12_best : MethodName := ⟨RX12, "best", "(I)I"⟩
abbrev cX12_charged : ByteArray := prog_14_method_46_code
def yX12_charged : MethodName := ⟨RX12, "charged", "(I)I"⟩
abbrev cX12_dueBehind : ByteArray := prog_14_method_47_code
def yX12_dueBehind : MethodName := ⟨RX12, "dueBehind", "(II)I"⟩
abbrev cX12_findLeast : ByteArray := prog_14_method_48_code
def yX12_findLeast : MethodName := ⟨RX12, "findLeast", "(I)V"⟩
abbrev cX12_firstOf : ByteArray := prog_14_method_49_code
def yX12_firstOf : MethodName := ⟨RX12, "firstOf", "(II)I"⟩
abbrev cX12_order : ByteArray := prog_14_method_50_code
def yX12_order : MethodName := ⟨RX12, "order", "(II)I"⟩
abbrev cX12_areUnlike : ByteArray := prog_14_method_51_code
def yX12_areUnlike : MethodName := ⟨RX12, "areUnlike", "(I)Z"⟩
abbrev cX12_unlike : ByteArray := prog_14_method_52_code
def yX12_unlike : MethodName := ⟨RX12, "unlike", "()I"⟩
abbrev cX12_people : ByteArray := prog_14_method_53_code
def yX12_people : MethodName := ⟨RX12, "people", "()I"⟩
abbrev cX12_likesOf : ByteArray := prog_14_method_54_code
def yX12_likesOf : MethodName := ⟨RX12, "likesOf", "(I)I"⟩
abbrev cX12_like : ByteArray := prog_14_method_55_code
def yX12_like : MethodName := ⟨RX12, "like", "(I)I"⟩
abbrev cX12_lays : ByteArray := prog_14_method_56_code
def yX12_lays : MethodName := ⟨RX12, "lays", "(I)V"⟩
abbrev cX12_codeOf : ByteArray := prog_14_method_57_code
def yX12_codeOf : MethodName := ⟨RX12, "codeOf", "(I)I"⟩
abbrev cX12_reading : ByteArray := prog_14_method_58_code
def yX12_reading : MethodName := ⟨RX12, "reading", "(I)I"⟩
abbrev cX12_isSo : ByteArray := prog_14_method_59_code
def yX12_isSo : MethodName := ⟨RX12, "isSo", "()Z"⟩
abbrev cX12_fits : ByteArray := prog_14_method_60_code
def yX12_fits : MethodName := ⟨RX12, "fits", "(I)I"⟩
abbrev cX12_unlikeDues : ByteArray := prog_14_method_61_code
def yX12_unlikeDues : MethodName := ⟨RX12, "unlikeDues", "(I)I"⟩
abbrev cX12_tellsMost : ByteArray := prog_14_method_62_code
def yX12_tellsMost : MethodName := ⟨RX12, "tellsMost", "(I)I"⟩
abbrev cX12_loophole : ByteArray := prog_14_method_63_code
def yX12_loophole : MethodName := ⟨RX12, "loophole", "()I"⟩
abbrev cX12_dueOfTwo : ByteArray := prog_14_method_64_code
def yX12_dueOfTwo : MethodName := ⟨RX12, "dueOfTwo", "(I)I"⟩
abbrev cX12_shared : ByteArray := prog_14_method_65_code
def yX12_shared : MethodName := ⟨RX12, "shared", "(I)I"⟩
abbrev cX12_savesAt : ByteArray := prog_14_method_66_code
def yX12_savesAt : MethodName := ⟨RX12, "savesAt", "(I)I"⟩
abbrev cX12_saves : ByteArray := prog_14_method_67_code
def yX12_saves : MethodName := ⟨RX12, "saves", "(I)I"⟩
abbrev cX12_exchanges : ByteArray := prog_14_method_68_code
def yX12_exchanges : MethodName := ⟨RX12, "exchanges", "(II)V"⟩
abbrev cX12_turned : ByteArray := prog_14_method_69_code
def yX12_turned : MethodName := ⟨RX12, "turned", "()I"⟩
abbrev cX12_changed : ByteArray := prog_14_method_70_code
def yX12_changed : MethodName := ⟨RX12, "changed", "()I"⟩
abbrev cX12_marksOf : ByteArray := prog_14_method_71_code
def yX12_marksOf : MethodName := ⟨RX12, "marksOf", "(I)I"⟩
abbrev cX12_nextsOf : ByteArray := prog_14_method_72_code
def yX12_nextsOf : MethodName := ⟨RX12, "nextsOf", "(I)I"⟩
abbrev cX12_wants : ByteArray := prog_14_method_73_code
def yX12_wants : MethodName := ⟨RX12, "wants", "(II)I"⟩
abbrev cX12_mayFollow : ByteArray := prog_14_method_74_code
def yX12_mayFollow : MethodName := ⟨RX12, "mayFollow", "(IIII)Z"⟩
abbrev cX12_songs : ByteArray := prog_14_method_75_code
def yX12_songs : MethodName := ⟨RX12, "songs", "(II)J"⟩
abbrev cX12_inspectors : ByteArray := prog_14_method_76_code
def yX12_inspectors : MethodName := ⟨RX12, "inspectors", "(I)I"⟩
abbrev cX12_divisor : ByteArray := prog_14_method_77_code
def yX12_divisor : MethodName := ⟨RX12, "divisor", "(JJ)J"⟩
abbrev cX12_partOf : ByteArray := prog_14_method_78_code
def yX12_partOf : MethodName := ⟨RX12, "partOf", "(JJI)J"⟩
abbrev cX12_chance : ByteArray := prog_14_method_79_code
def yX12_chance : MethodName := ⟨RX12, "chance", "(II)J"⟩
abbrev cX12_mean : ByteArray := prog_14_method_80_code
def yX12_mean : MethodName := ⟨RX12, "mean", "(I)J"⟩
abbrev cX12_twins : ByteArray := prog_14_method_81_code
def yX12_twins : MethodName := ⟨RX12, "twins", "(I)I"⟩
abbrev cX12_sameAs : ByteArray := prog_14_method_82_code
def yX12_sameAs : MethodName := ⟨RX12, "sameAs", "(I)I"⟩
abbrev cX12_chain : ByteArray := prog_14_method_83_code
def yX12_chain : MethodName := ⟨RX12, "chain", "(II)I"⟩
abbrev cX12_heapOf : ByteArray := prog_14_method_84_code
def yX12_heapOf : MethodName := ⟨RX12, "heapOf", "(I)I"⟩
abbrev cX12_heaps : ByteArray := prog_14_method_85_code
def yX12_heaps : MethodName := ⟨RX12, "heaps", "(I)I"⟩
abbrev cX12_isPure : ByteArray := prog_14_method_86_code
def yX12_isPure : MethodName := ⟨RX12, "isPure", "(II)Z"⟩
abbrev cX12_pure : ByteArray := prog_14_method_87_code
def yX12_pure : MethodName := ⟨RX12, "pure", "(I)I"⟩
abbrev cX12_bestT : ByteArray := prog_14_method_88_code
def yX12_bestT : MethodName := ⟨RX12, "bestT", "()I"⟩
abbrev cX12_margin : ByteArray := prog_14_method_89_code
def yX12_margin : MethodName := ⟨RX12, "margin", "(II)I"⟩
abbrev cX12_firsts : ByteArray := prog_14_method_90_code
def yX12_firsts : MethodName := ⟨RX12, "firsts", "()I"⟩
abbrev cX12_dueWithMore : ByteArray := prog_14_method_91_code
def yX12_dueWithMore : MethodName := ⟨RX12, "dueWithMore", "(I)I"⟩
abbrev cX12_leastWithMore : ByteArray := prog_14_method_92_code
def yX12_leastWithMore : MethodName := ⟨RX12, "leastWithMore", "()I"⟩
abbrev cX12_noMore : ByteArray := prog_14_method_93_code
def yX12_noMore : MethodName := ⟨RX12, "noMore", "()V"⟩
abbrev cX12_greedily : ByteArray := prog_14_method_94_code
def yX12_greedily : MethodName := ⟨RX12, "greedily", "(II)I"⟩
abbrev cX12_quota : ByteArray := prog_14_method_95_code
def yX12_quota : MethodName := ⟨RX12, "quota", "(I)I"⟩
abbrev cX12_dueOfPair : ByteArray := prog_14_method_96_code
def yX12_dueOfPair : MethodName := ⟨RX12, "dueOfPair", "(III)I"⟩
abbrev cX12_pair : ByteArray := prog_14_method_97_code
def yX12_pair : MethodName := ⟨RX12, "pair", "(II)I"⟩
abbrev cX12_apartOf : ByteArray := prog_14_method_98_code
def yX12_apartOf : MethodName := ⟨RX12, "apartOf", "(I)I"⟩
abbrev cX12_radius : ByteArray := prog_14_method_99_code
def yX12_radius : MethodName := ⟨RX12, "radius", "(I)I"⟩
abbrev cX12_majority : ByteArray := prog_14_method_100_code
def yX12_majority : MethodName := ⟨RX12, "majority", "()I"⟩
abbrev cX12_dueOfKind : ByteArray := prog_14_method_101_code
def yX12_dueOfKind : MethodName := ⟨RX12, "dueOfKind", "(I)I"⟩
abbrev cX12_byKind : ByteArray := prog_14_method_102_code
def yX12_byKind : MethodName := ⟨RX12, "byKind", "(I)I"⟩
abbrev cX12_dueWithout : ByteArray := prog_14_method_103_code
def yX12_dueWithout : MethodName := ⟨RX12, "dueWithout", "(I)I"⟩
abbrev cX12_isDone : ByteArray := prog_14_method_104_code
def yX12_isDone : MethodName := ⟨RX12, "isDone", "(I)Z"⟩
abbrev cX12_banned : ByteArray := prog_14_method_105_code
def yX12_banned : MethodName := ⟨RX12, "banned", "(I)I"⟩
abbrev cX12_dueMoved : ByteArray := prog_14_method_106_code
def yX12_dueMoved : MethodName := ⟨RX12, "dueMoved", "(I)I"⟩
abbrev cX12_moved : ByteArray := prog_14_method_107_code
def yX12_moved : MethodName := ⟨RX12, "moved", "(I)I"⟩
abbrev cX12_unlikeMarks : ByteArray := prog_14_method_108_code
def yX12_unlikeMarks : MethodName := ⟨RX12, "unlikeMarks", "()I"⟩
abbrev cX12_streak : ByteArray := prog_14_method_109_code
def yX12_streak : MethodName := ⟨RX12, "streak", "()I"⟩
abbrev cX12_row : ByteArray := prog_14_method_110_code
def yX12_row : MethodName := ⟨RX12, "row", "(I)I"⟩
abbrev cX12_judge : ByteArray := prog_14_method_111_code
def yX12_judge : MethodName := ⟨RX12, "judge", "()I"⟩
abbrev cX12_clear : ByteArray := prog_14_method_112_code
def yX12_clear : MethodName := ⟨RX12, "clear", "()I"⟩
abbrev cX12_lots : ByteArray := prog_14_method_113_code
def yX12_lots : MethodName := ⟨RX12, "lots", "(III)I"⟩
abbrev cX12_count : ByteArray := prog_14_method_114_code
def yX12_count : MethodName := ⟨RX12, "count", "(I)I"⟩
def RJ6 : String := "java/lang/Integer"
def TJ6 : u_T := fun k => match k with
  | _ => ("", "", "", false)
def tyJ6 : Nat → FieldType := fun k => match k with
  | _ => .int
abbrev wsJ60 : List Cond := u_ws RJ6 TJ6 0
theorem nmJ6 : ∀ a, a < 0 → ∀ b, b < 0 → a ≠ b → (TJ6 a).2.1 ≠ (TJ6 b).2.1 := by decide +kernel
theorem tyJ6_ok : ∀ k, k < 0 → parseFieldDescriptor (TJ6 k).2.2.1 = some (tyJ6 k) := by decide +kernel
abbrev cJ6_bitCount_0f7a4 : ByteArray := prog_15_method_49_code
def yJ6_bitCount_0f7a4 : MethodName := ⟨RJ6, "bitCount", "(I)I"⟩
def RJ9 : String := "java/lang/Math"
def TJ9 : u_T := fun k => match k with
  | _ => ("", "", "", false)
def tyJ9 : Nat → FieldType := fun k => match k with
  | _ => .int
abbrev wsJ90 : List Cond := u_ws RJ9 TJ9 0
theorem nmJ9 : ∀ a, a < 0 → ∀ b, b < 0 → a ≠ b → (TJ9 a).2.1 ≠ (TJ9 b).2.1 := by decide +kernel
theorem tyJ9_ok : ∀ k, k < 0 → parseFieldDescriptor (TJ9 k).2.2.1 = some (tyJ9 k) := by decide +kernel
abbrev cJ9_max_7cf53 : ByteArray := prog_16_method_65_code
def yJ9_max_7cf53 : MethodName := ⟨RJ9, "max", "(II)I"⟩
abbrev cJ9_max_f86c9 : ByteArray := prog_16_method_66_code
def yJ9_max_f86c9 : MethodName := ⟨RJ9, "max", "(JJ)J"⟩
abbrev cJ9_min_7cf53 : ByteArray := prog_16_method_69_code
def yJ9_min_7cf53 : MethodName := ⟨RJ9, "min", "(II)I"⟩
def RJ10 : String := "java/lang/System"
def TJ10 : u_T := fun k => match k with
  | _ => ("", "", "", false)
def tyJ10 : Nat → FieldType := fun k => match k with
  | _ => .int
abbrev wsJ100 : List Cond := u_ws RJ10 TJ10 0
theorem nmJ10 : ∀ a, a < 0 → ∀ b, b < 0 → a ≠ b → (TJ10 a).2.1 ≠ (TJ10 b).2.1 := by decide +kernel
theorem tyJ10_ok : ∀ k, k < 0 → parseFieldDescriptor (TJ10 k).2.2.1 = some (tyJ10 k) := by decide +kernel
def RJ7 : String := "java/util/Arrays"
def TJ7 : u_T := fun k => match k with
  | _ => ("", "", "", false)
def tyJ7 : Nat → FieldType := fun k => match k with
  | _ => .int
abbrev wsJ70 : List Cond := u_ws RJ7 TJ7 0
theorem nmJ7 : ∀ a, a < 0 → ∀ b, b < 0 → a ≠ b → (TJ7 a).2.1 ≠ (TJ7 b).2.1 := by decide +kernel
theorem tyJ7_ok : ∀ k, k < 0 → parseFieldDescriptor (TJ7 k).2.2.1 = some (tyJ7 k) := by decide +kernel
abbrev cJ7_fill_d0a16 : ByteArray := prog_18_method_101_code
def yJ7_fill_d0a16 : MethodName := ⟨RJ7, "fill", "([JJ)V"⟩
abbrev cJ7_fill_53178 : ByteArray := prog_18_method_103_code
def yJ7_fill_53178 : MethodName := ⟨RJ7, "fill", "([II)V"⟩
def RL : String := "SecondHelpingLaw"
abbrev cL_law : ByteArray := code
def yL_law : MethodName := ⟨RL, "law", "([I)Z"⟩
abbrev vwCl : List vw_C := [(RX0, TX0, 8), (RX1, TX1, 3), (RX2, TX2, 6), (RX3, TX3, 5), (RX4, TX4, 2), (RX5, TX5, 2), (RX6, TX6, 3), (RX7, TX7, 4), (RX8, TX8, 3), (RX9, TX9, 2), (RX10, TX10, 5), (RX11, TX11, 14), (RX12, TX12, 29)]
end
section
/-! The walk's own layer: a world of cells at fixed places, told by a store of numbers; one row an instruction over it. -/
def bigW : List Cond := lw_tbl.filter goodWord
theorem bw (k : Nat) {w : Cond} (h : lw_tbl[k]? = some w) (hg : goodWord w = true) : w ∈ bigW := List.mem_filter.mpr ⟨List.mem_of_getElem? h, hg⟩
theorem bigW_good : GoodIn bigW bigW := fun w hw => ⟨hw, good_of_word (List.mem_filter.mp hw).2⟩
theorem bigW_in : ∀ w ∈ bigW, w ∈ lw_tbl := fun w hw => (List.mem_filter.mp hw).1
theorem good_cons {ws : List Cond} {w : Cond} (h : w ∈ bigW) (hs : GoodIn bigW ws) : GoodIn bigW (w :: ws) := fun v hv => by
  rcases List.mem_cons.mp hv with rfl | hv
  · exact bigW_good v h
  · exact hs v hv
abbrev Sh : Type := (Nat × Nat) ⊕ (Nat × List (Option Nat))
abbrev Mem : Type := (Nat → Nat → Int32) × (Nat → Nat → Int64)
abbrev Gx : Type := va_G × (Nat → Nat) × (Nat → ClassId)
def k_arr (G : Gx) (M : Mem) (q : Nat) (x : Nat × Nat) : va_E := if x.1 = 1 then .inl (G.2.2 1, (x.2, .inr (.inl (M.2 q)))) else .inl (G.2.2 x.1, (x.2, .inl (M.1 q)))
def k_fld (G : Gx) (M : Mem) (q k : Nat) (o : Option Nat) : Value := match o with
  | some r => .ref (G.2.1 r)
  | none => .int (M.1 q k)
def k_cell (G : Gx) (M : Mem) (q : Nat) (x : Sh) : va_E := match x with
  | .inl a => k_arr G M q a
  | .inr o => .inr (o.1, o.2.mapIdx (k_fld G M q))
def k_ws (G : Gx) (sh : List Sh) (M : Mem) : va_W := sh.mapIdx fun q x => (G.2.1 q, k_cell G M q x)
theorem k_ws_get {G : Gx} {sh : List Sh} {M : Mem} {q : Nat} {x : Sh} (h : sh[q]? = some x) : (k_ws G sh M)[q]? = some (G.2.1 q, k_cell G M q x) := by
  simp [k_ws, List.getElem?_mapIdx, h]
theorem k_ws_int {G : Gx} {sh : List Sh} {M : Mem} {q k n : Nat} (h : sh[q]? = some (.inl (k, n))) (hk : k ≠ 1) : (k_ws G sh M)[q]? = some (G.2.1 q, .inl (G.2.2 k, (n, .inl (M.1 q)))) := by
  rw [k_ws_get h]
  show some (G.2.1 q, k_arr G M q (k, n)) = _
  rw [k_arr, if_neg hk]
theorem k_ws_long {G : Gx} {sh : List Sh} {M : Mem} {q n : Nat} (h : sh[q]? = some (.inl (1, n))) : (k_ws G sh M)[q]? = some (G.2.1 q, .inl (G.2.2 1, (n, .inr (.inl (M.2 q))))) := by
  rw [k_ws_get h]
  show some (G.2.1 q, k_arr G M q (1, n)) = _
  rw [k_arr, if_pos rfl]
theorem k_ws_obj {G : Gx} {sh : List Sh} {M : Mem} {q ci : Nat} {fs : List (Option Nat)} (h : sh[q]? = some (.inr (ci, fs))) : (k_ws G sh M)[q]? = some (G.2.1 q, .inr (ci, fs.mapIdx (k_fld G M q))) := by
  rw [k_ws_get h]; rfl
/-- a cell's new content: the world of the new store -/
theorem k_ws_set {G : Gx} {sh : List Sh} {M M' : Mem} {q : Nat} {x : Sh} {e : va_E} (h : sh[q]? = some x) (he : k_cell G M' q x = e) (ho : ∀ r y, r ≠ q → k_cell G M' r y = k_cell G M r y) :
    (k_ws G sh M).set q (G.2.1 q, e) = k_ws G sh M' := by
  refine List.ext_getElem? fun j => ?_
  rw [List.getElem?_set]
  by_cases hj : q = j
  · subst hj
    have hlt : q < sh.length := (List.getElem?_eq_some_iff.mp h).1
    rw [if_pos rfl, if_pos (by simpa [k_ws] using hlt), k_ws_get h, he]
  · rw [if_neg hj]
    cases hx : sh[j]? with
    | none => simp [k_ws, List.getElem?_mapIdx, hx]
    | some y => rw [k_ws_get hx, k_ws_get hx, ho j y (Ne.symm hj)]
def wI (M : Mem) (r i : Nat) (v : Int32) : Mem := (fun r' => if r' = r then upd (M.1 r) i v else M.1 r', M.2)
def wL (M : Mem) (r i : Nat) (v : Int64) : Mem := (M.1, fun r' => if r' = r then vp_updL (M.2 r) i v else M.2 r')
def wA (M : Mem) (r : Nat) (f : Nat → Int32) : Mem := (fun r' => if r' = r then f else M.1 r', M.2)
theorem k_fld_eq {G : Gx} {M M' : Mem} {q k : Nat} {o : Option Nat} (h : M'.1 q = M.1 q) : k_fld G M' q k o = k_fld G M q k o := by
  cases o <;> simp [k_fld, h]
theorem k_cell_eq {G : Gx} {M M' : Mem} {q : Nat} {y : Sh} (h1 : M'.1 q = M.1 q) (h2 : M'.2 q = M.2 q) : k_cell G M' q y = k_cell G M q y := by
  cases y with
  | inl a => simp [k_cell, k_arr, h1, h2]
  | inr o =>
    show Sum.inr _ = Sum.inr _
    congr 2
    have : k_fld G M' q = k_fld G M q := by
      funext k o
      exact k_fld_eq h1
    rw [this]
theorem k_set_i {G : Gx} {sh : List Sh} {M : Mem} {q k n i : Nat} {v : Int32} (h : sh[q]? = some (.inl (k, n))) (hk : k ≠ 1) :
    (k_ws G sh M).set q (G.2.1 q, .inl (G.2.2 k, (n, .inl (upd (M.1 q) i v)))) = k_ws G sh (wI M q i v) := by
  refine k_ws_set h ?_ fun r y hr => k_cell_eq (by simp [wI, hr]) rfl
  show k_arr _ _ _ _ = _
  simp [k_arr, hk, wI]
theorem k_set_a {G : Gx} {sh : List Sh} {M : Mem} {q k n : Nat} {f : Nat → Int32} (h : sh[q]? = some (.inl (k, n))) (hk : k ≠ 1) :
    (k_ws G sh M).set q (G.2.1 q, .inl (G.2.2 k, (n, .inl f))) = k_ws G sh (wA M q f) := by
  refine k_ws_set h ?_ fun r y hr => k_cell_eq (by simp [wA, hr]) rfl
  show k_arr _ _ _ _ = _
  simp [k_arr, hk, wA]
theorem k_set_l {G : Gx} {sh : List Sh} {M : Mem} {q n i : Nat} {v : Int64} (h : sh[q]? = some (.inl (1, n))) :
    (k_ws G sh M).set q (G.2.1 q, .inl (G.2.2 1, (n, .inr (.inl (vp_updL (M.2 q) i v))))) = k_ws G sh (wL M q i v) := by
  refine k_ws_set h ?_ fun r y hr => k_cell_eq rfl (by simp [wL, hr])
  show k_arr _ _ _ _ = _
  simp [k_arr, wL]
theorem k_set_f {G : Gx} {sh : List Sh} {M : Mem} {q ci k : Nat} {fs : List (Option Nat)} {v : Int32} (h : sh[q]? = some (.inr (ci, fs))) (hk : fs[k]? = some none) :
    (k_ws G sh M).set q (G.2.1 q, .inr (ci, (fs.mapIdx (k_fld G M q)).set k (.int v))) = k_ws G sh (wI M q k v) := by
  refine k_ws_set h ?_ fun r y hr => k_cell_eq (by simp [wI, hr]) rfl
  show Sum.inr (ci, fs.mapIdx (k_fld G (wI M q k v) q)) = _
  congr 2
  refine List.ext_getElem? fun j => ?_
  rw [List.getElem?_set, List.getElem?_mapIdx, List.getElem?_mapIdx]
  by_cases hj : k = j
  · subst hj
    have hlt : k < fs.length := (List.getElem?_eq_some_iff.mp hk).1
    rw [if_pos rfl, if_pos (by simpa using hlt), hk]
    simp [k_fld, wI, upd]
  · rw [if_neg hj]
    cases hx : fs[j]? with
    | none => rfl
    | some o =>
      cases o with
      | none => simp [k_fld, wI, upd, Ne.symm hj]
      | some r => simp [k_fld]
def k_tys (G : Gx) : List (ClassId × FieldType) := [(G.2.2 0, .int), (G.2.2 1, .long), (G.2.2 2, .boolean)]
/-- the nest mates' static methods that Letters calls -/
def k_nest : List (Nat × MethodName) := [(100, yX11_isMark), (72, yX11_isKind), (93, yX11_isType)]
def k_nw (U : State) : Prop := ∀ q ∈ k_nest, va_Nw (.methodLinkNest RX1 q.1 q.2 RX11) U
theorem k_nw.warm {s U : State} (hW : s.WarmedH U.vm) (h : k_nw s) : k_nw U := fun q hq => va_Nw.warmM hW (h q hq)
theorem k_nw.same {s U : State} (hv : s.vm = U.vm) (h : k_nw s) : k_nw U := fun q hq => va_Nw.same rfl hv (h q hq)
def k_B (G : Gx) (sh : List Sh) (M : Mem) (U : State) : Prop := va_P G.1 vwCl (k_ws G sh M) U.heap ∧ va_K G.1 vwCl (k_tys G) U ∧ k_nw U
def k_ap (G : Gx) (N : Nat) : Prop := ∀ i j : Nat, i < N → j < N → G.2.1 i = G.2.1 j → i = j
def k_A (G : Gx) (N : Nat) : Nat → Prop := fun a => ∃ q, q < N ∧ a = G.2.1 q
theorem k_D {G : Gx} {sh : List Sh} {M : Mem} (h : k_ap G sh.length) : va_D (k_A G sh.length) (k_ws G sh M) := by
  refine ⟨fun i j p q hi hj hpq => ?_, fun k q hk => ?_⟩
  · have li : i < sh.length := by have := (List.getElem?_eq_some_iff.mp hi).1; simpa [k_ws] using this
    have lj : j < sh.length := by have := (List.getElem?_eq_some_iff.mp hj).1; simpa [k_ws] using this
    rw [k_ws_get (List.getElem?_eq_getElem li)] at hi
    rw [k_ws_get (List.getElem?_eq_getElem lj)] at hj
    cases hi; cases hj
    exact h i j li lj hpq
  · have lk : k < sh.length := by have := (List.getElem?_eq_some_iff.mp hk).1; simpa [k_ws] using this
    rw [k_ws_get (List.getElem?_eq_getElem lk)] at hk
    cases hk
    exact ⟨k, lk, rfl⟩
theorem k_blind {G : Gx} {sh : List Sh} {M : Mem} {av : List Value} : FrameBlind (va_Pc av (k_B G sh M)) := fun a U g mk q => by
  obtain ⟨q1, q2, q3, q4⟩ := q
  exact ⟨q1, q2, va_K.moved (u := U) (U := U.calling g mk a) (Vm.Alike.refl U.vm) q3, k_nw.same rfl q4⟩
def k_ws1 (y : MethodName) (b : ByteArray) (n : Nat) (ret : Option FieldType) : List Cond := .code y b n ret :: bigW
abbrev k_rm (fr lo : Nat) : Room := { frames := fr, cells := 0, slots := 0, locals := lo }
def k_Qi (G : Gx) (sh : List Sh) (r : Int32) (M' : Mem) : Array Value → State → Outcome → State → Prop := va_Qi (fun (x : Int32) (_ : Unit) => x = r) (fun _ t => k_B G sh M' t) (k_A G sh.length)
def k_Ql (G : Gx) (sh : List Sh) (r : Int64) (M' : Mem) : Array Value → State → Outcome → State → Prop := va_Ql (fun (x : Int64) (_ : Unit) => x = r) (fun _ t => k_B G sh M' t) (k_A G sh.length)
def k_Qv (G : Gx) (sh : List Sh) (M' : Mem) : Array Value → State → Outcome → State → Prop := va_Qv (fun (_ : Unit) => True) (fun _ t => k_B G sh M' t) (k_A G sh.length)
def k_Met (l : Launch) (y : MethodName) (b : ByteArray) (n : Nat) (ret : Option FieldType) (fr lo : Nat) (G : Gx) (sh : List Sh) (av : List Value) (M : Mem) (Q : Array Value → State → Outcome → State → Prop) : Prop :=
  Met l y (k_ws1 y b n ret) (k_rm fr lo) (va_Pc av (k_B G sh M)) Q 0 0 (k_A G sh.length)
/-- the walk's standing facts -/
def Cx (p : Program) (s : State) (m : MethodId) (args : Array Value) (c : Code) (cc : ByteArray) (own : String) (nL : Nat) (G : Gx) (sh : List Sh) : Prop :=
  p.tables.exec = Jvm.exec ∧ c.code = cc ∧ c.maxLocals = nL ∧ s.vm.findClass own = some m.cls ∧ (∀ w ∈ bigW, w.before args s = true) ∧ va_K G.1 vwCl (k_tys G) s ∧ k_nw s ∧ k_ap G sh.length
def K (p : Program) (l : Launch) (e : Env) (R : Room) (s : State) (m : MethodId) (args : Array Value) (below : List Frame) (meth : Method) (c : Code) (nL : Nat) (G : Gx) (sh : List Sh) (Q : State → Prop) (pc : Nat) (lv : List (Nat × Value)) (st : List Value) (M : Mem) : Prop :=
  ∀ (H : Heap) (locs : List Loc) (ls : Array Slot), va_P G.1 vwCl (k_ws G sh M) H → va_S (k_A G sh.length) s.heap H locs → lv_has ls nL lv → W p l e R s m args below meth c H locs 0 0 Q (F0 m pc ls st)
end
section
/-! one row an instruction, over the store -/
section KR
variable {p : Program} {l : Launch} {e : Env} {R : Room} {s : State} {m : MethodId} {args : Array Value} {below : List Frame} {meth : Method} {c : Code} {cc : ByteArray} {own : String} {nL : Nat} {G : Gx} {sh : List Sh} {Q : State → Prop} {pc : Nat} {lv lv' : List (Nat × Value)} {st : List Value} {M : Mem}
theorem k_pc {pc' : Nat} (h : pc = pc') (k : K p l e R s m args below meth c nL G sh Q pc' lv st M) : K p l e R s m args below meth c nL G sh Q pc lv st M := h ▸ k
theorem k_lv (ks : List Nat) (h : lv_pick lv ks = lv') (k : K p l e R s m args below meth c nL G sh Q pc lv' st M) : K p l e R s m args below meth c nL G sh Q pc lv st M := fun H locs ls hP hS hl => k H locs ls hP hS (lv_sub hl ks h)
theorem k_val {v v' : Value} (h : v' = v) (k : K p l e R s m args below meth c nL G sh Q pc lv (v :: st) M) : K p l e R s m args below meth c nL G sh Q pc lv (v' :: st) M := h ▸ k
theorem k_iconst (C : Cx p s m args c cc own nL G sh) {n : Int} {v : Int32} (d : decode cc pc = .ok (.iconst n, 1)) (hv : Int32.ofInt n = v) (k : K p l e R s m args below meth c nL G sh Q (pc + 1) lv (.int v :: st) M) : K p l e R s m args below meth c nL G sh Q pc lv st M := fun H locs ls hP hS hl => lv_iconst C.1 C.2.1 d hv (k H locs ls hP hS hl)
theorem k_bipush (C : Cx p s m args c cc own nL G sh) {n : Int} {v : Int32} (d : decode cc pc = .ok (.bipush n, 2)) (hv : (Int8.ofInt n).toInt32 = v) (k : K p l e R s m args below meth c nL G sh Q (pc + 2) lv (.int v :: st) M) : K p l e R s m args below meth c nL G sh Q pc lv st M := fun H locs ls hP hS hl => lv_bipush C.1 C.2.1 d hv (k H locs ls hP hS hl)
theorem k_sipush (C : Cx p s m args c cc own nL G sh) {n : Int} {v : Int32} (d : decode cc pc = .ok (.sipush n, 3)) (hv : (Int16.ofInt n).toInt32 = v) (k : K p l e R s m args below meth c nL G sh Q (pc + 3) lv (.int v :: st) M) : K p l e R s m args below meth c nL G sh Q pc lv st M := fun H locs ls hP hS hl => lv_sipush C.1 C.2.1 d hv (k H locs ls hP hS hl)
theorem k_lconst (C : Cx p s m args c cc own nL G sh) {n : Fin 2} {v : Int64} (d : decode cc pc = .ok (.lconst n, 1)) (hv : Int64.ofNat (n : Nat) = v) (k : K p l e R s m args below meth c nL G sh Q (pc + 1) lv (.long v :: st) M) : K p l e R s m args below meth c nL G sh Q pc lv st M := fun H locs ls hP hS hl => lv_lconst C.1 C.2.1 d hv (k H locs ls hP hS hl)
theorem k_ldc (C : Cx p s m args c cc own nL G sh) {index : Nat} {v : Int32} (d : decode cc pc = .ok (.ldc index, 2)) (hw : Cond.constant own index v ∈ bigW) (k : K p l e R s m args below meth c nL G sh Q (pc + 2) lv (.int v :: st) M) : K p l e R s m args below meth c nL G sh Q pc lv st M := fun H locs ls hP hS hl => lv_ldc C.1 C.2.1 C.2.2.2.1 (C.2.2.2.2.1 _ hw) d (k H locs ls hP hS hl)
theorem k_ldcw (C : Cx p s m args c cc own nL G sh) {index : Nat} {v : Int32} (d : decode cc pc = .ok (.ldc_w index, 3)) (hw : Cond.constant own index v ∈ bigW) (k : K p l e R s m args below meth c nL G sh Q (pc + 3) lv (.int v :: st) M) : K p l e R s m args below meth c nL G sh Q pc lv st M := fun H locs ls hP hS hl => lv_ldcw C.1 C.2.1 C.2.2.2.1 (C.2.2.2.2.1 _ hw) d (k H locs ls hP hS hl)
theorem k_ldc2 (C : Cx p s m args c cc own nL G sh) {index : Nat} {v : Int64} (d : decode cc pc = .ok (.ldc2_w index, 3)) (hw : Cond.constantLong own index v ∈ bigW) (k : K p l e R s m args below meth c nL G sh Q (pc + 3) lv (.long v :: st) M) : K p l e R s m args below meth c nL G sh Q pc lv st M := fun H locs ls hP hS hl => lv_ldc2 C.1 C.2.1 C.2.2.2.1 (C.2.2.2.2.1 _ hw) d (k H locs ls hP hS hl)
theorem k_iload_n (C : Cx p s m args c cc own nL G sh) {i : Fin 4} {x : Int32} (d : decode cc pc = .ok (.iload_n i, 1)) (j : Nat) (hj : lv[j]? = some ((i : Nat), .int x)) (k : K p l e R s m args below meth c nL G sh Q (pc + 1) lv (.int x :: st) M) : K p l e R s m args below meth c nL G sh Q pc lv st M := fun H locs ls hP hS hl => lv_iload_n C.1 C.2.1 d rfl (lv_at hl j hj) (k H locs ls hP hS hl)
theorem k_iload (C : Cx p s m args c cc own nL G sh) {i : Nat} {x : Int32} (d : decode cc pc = .ok (.iload i, 2)) (j : Nat) (hj : lv[j]? = some (i, .int x)) (k : K p l e R s m args below meth c nL G sh Q (pc + 2) lv (.int x :: st) M) : K p l e R s m args below meth c nL G sh Q pc lv st M := fun H locs ls hP hS hl => lv_iload C.1 C.2.1 d (lv_at hl j hj) (k H locs ls hP hS hl)
theorem k_lload_n (C : Cx p s m args c cc own nL G sh) {i : Fin 4} {x : Int64} (d : decode cc pc = .ok (.lload_n i, 1)) (j : Nat) (hj : lv[j]? = some ((i : Nat), .long x)) (k : K p l e R s m args below meth c nL G sh Q (pc + 1) lv (.long x :: st) M) : K p l e R s m args below meth c nL G sh Q pc lv st M := fun H locs ls hP hS hl => lv_lload_n C.1 C.2.1 d rfl (lv_at hl j hj) (k H locs ls hP hS hl)
theorem k_lload (C : Cx p s m args c cc own nL G sh) {i : Nat} {x : Int64} (d : decode cc pc = .ok (.lload i, 2)) (j : Nat) (hj : lv[j]? = some (i, .long x)) (k : K p l e R s m args below meth c nL G sh Q (pc + 2) lv (.long x :: st) M) : K p l e R s m args below meth c nL G sh Q pc lv st M := fun H locs ls hP hS hl => lv_lload C.1 C.2.1 d (lv_at hl j hj) (k H locs ls hP hS hl)
theorem k_aload_n (C : Cx p s m args c cc own nL G sh) {i : Fin 4} {x : Nat} (d : decode cc pc = .ok (.aload_n i, 1)) (j : Nat) (hj : lv[j]? = some ((i : Nat), .ref x)) (k : K p l e R s m args below meth c nL G sh Q (pc + 1) lv (.ref x :: st) M) : K p l e R s m args below meth c nL G sh Q pc lv st M := fun H locs ls hP hS hl => lv_aload_n C.1 C.2.1 d rfl (lv_at hl j hj) (k H locs ls hP hS hl)
theorem k_istore_n (C : Cx p s m args c cc own nL G sh) {i : Fin 4} {x : Int32} (d : decode cc pc = .ok (.istore_n i, 1)) (hn : (i : Nat) < nL) (ks : List Nat) (h : lv_pick (((i : Nat), Value.int x) :: lv.filter (fun q => !(q.1 == (i : Nat)) && !(q.1 + 1 == (i : Nat) && q.2.category == 2))) ks = lv') (k : K p l e R s m args below meth c nL G sh Q (pc + 1) lv' st M) : K p l e R s m args below meth c nL G sh Q pc lv (.int x :: st) M := fun H locs ls hP hS hl => lv_istore_n C.1 C.2.1 d rfl hl hn rfl (fun ls' hl' => k H locs ls' hP hS (lv_sub hl' ks h))
theorem k_istore (C : Cx p s m args c cc own nL G sh) {i : Nat} {x : Int32} (d : decode cc pc = .ok (.istore i, 2)) (hn : i < nL) (ks : List Nat) (h : lv_pick ((i, Value.int x) :: lv.filter (fun q => !(q.1 == i) && !(q.1 + 1 == i && q.2.category == 2))) ks = lv') (k : K p l e R s m args below meth c nL G sh Q (pc + 2) lv' st M) : K p l e R s m args below meth c nL G sh Q pc lv (.int x :: st) M := fun H locs ls hP hS hl => lv_istore C.1 C.2.1 d hl hn rfl (fun ls' hl' => k H locs ls' hP hS (lv_sub hl' ks h))
theorem k_lstore_n (C : Cx p s m args c cc own nL G sh) {i : Fin 4} {x : Int64} (d : decode cc pc = .ok (.lstore_n i, 1)) (hn : (i : Nat) + 1 < nL) (ks : List Nat) (h : lv_pick (((i : Nat), Value.long x) :: lv.filter (fun q => !(q.1 == (i : Nat)) && (!(q.1 == (i : Nat) + 1) && !(q.1 + 1 == (i : Nat) && q.2.category == 2)))) ks = lv') (k : K p l e R s m args below meth c nL G sh Q (pc + 1) lv' st M) : K p l e R s m args below meth c nL G sh Q pc lv (.long x :: st) M := fun H locs ls hP hS hl => lv_lstore_n C.1 C.2.1 d rfl hl hn rfl (fun ls' hl' => k H locs ls' hP hS (lv_sub hl' ks h))
theorem k_lstore (C : Cx p s m args c cc own nL G sh) {i : Nat} {x : Int64} (d : decode cc pc = .ok (.lstore i, 2)) (hn : i + 1 < nL) (ks : List Nat) (h : lv_pick ((i, Value.long x) :: lv.filter (fun q => !(q.1 == i) && (!(q.1 == i + 1) && !(q.1 + 1 == i && q.2.category == 2)))) ks = lv') (k : K p l e R s m args below meth c nL G sh Q (pc + 2) lv' st M) : K p l e R s m args below meth c nL G sh Q pc lv (.long x :: st) M := fun H locs ls hP hS hl => lv_lstore C.1 C.2.1 d hl hn rfl (fun ls' hl' => k H locs ls' hP hS (lv_sub hl' ks h))
theorem k_iinc (C : Cx p s m args c cc own nL G sh) {i : Nat} {n : Int} {x v : Int32} (d : decode cc pc = .ok (.iinc i n, 3)) (j : Nat) (hj : lv[j]? = some (i, .int x)) (hv : x + Int32.ofInt n = v) (hn : i < nL) (ks : List Nat) (h : lv_pick ((i, Value.int v) :: lv.filter (fun q => !(q.1 == i) && !(q.1 + 1 == i && q.2.category == 2))) ks = lv') (k : K p l e R s m args below meth c nL G sh Q (pc + 3) lv' st M) : K p l e R s m args below meth c nL G sh Q pc lv st M := fun H locs ls hP hS hl => lv_iinc C.1 C.2.1 d hl hj hv hn rfl (fun ls' hl' => k H locs ls' hP hS (lv_sub hl' ks h))
theorem k_iadd (C : Cx p s m args c cc own nL G sh) {x y : Int32} (d : decode cc pc = .ok (.iadd, 1)) (k : K p l e R s m args below meth c nL G sh Q (pc + 1) lv (.int (x + y) :: st) M) : K p l e R s m args below meth c nL G sh Q pc lv (.int y :: .int x :: st) M := fun H locs ls hP hS hl => lv_iadd C.1 C.2.1 d (k H locs ls hP hS hl)
theorem k_isub (C : Cx p s m args c cc own nL G sh) {x y : Int32} (d : decode cc pc = .ok (.isub, 1)) (k : K p l e R s m args below meth c nL G sh Q (pc + 1) lv (.int (x - y) :: st) M) : K p l e R s m args below meth c nL G sh Q pc lv (.int y :: .int x :: st) M := fun H locs ls hP hS hl => lv_isub C.1 C.2.1 d (k H locs ls hP hS hl)
theorem k_imul (C : Cx p s m args c cc own nL G sh) {x y : Int32} (d : decode cc pc = .ok (.imul, 1)) (k : K p l e R s m args below meth c nL G sh Q (pc + 1) lv (.int (x * y) :: st) M) : K p l e R s m args below meth c nL G sh Q pc lv (.int y :: .int x :: st) M := fun H locs ls hP hS hl => lv_imul C.1 C.2.1 d (k H locs ls hP hS hl)
theorem k_iand (C : Cx p s m args c cc own nL G sh) {x y : Int32} (d : decode cc pc = .ok (.iand, 1)) (k : K p l e R s m args below meth c nL G sh Q (pc + 1) lv (.int (x &&& y) :: st) M) : K p l e R s m args below meth c nL G sh Q pc lv (.int y :: .int x :: st) M := fun H locs ls hP hS hl => lv_iand C.1 C.2.1 d (k H locs ls hP hS hl)
theorem k_ior (C : Cx p s m args c cc own nL G sh) {x y : Int32} (d : decode cc pc = .ok (.ior, 1)) (k : K p l e R s m args below meth c nL G sh Q (pc + 1) lv (.int (x ||| y) :: st) M) : K p l e R s m args below meth c nL G sh Q pc lv (.int y :: .int x :: st) M := fun H locs ls hP hS hl => lv_ior C.1 C.2.1 d (k H locs ls hP hS hl)
theorem k_ixor (C : Cx p s m args c cc own nL G sh) {x y : Int32} (d : decode cc pc = .ok (.ixor, 1)) (k : K p l e R s m args below meth c nL G sh Q (pc + 1) lv (.int (x ^^^ y) :: st) M) : K p l e R s m args below meth c nL G sh Q pc lv (.int y :: .int x :: st) M := fun H locs ls hP hS hl => lv_ixor C.1 C.2.1 d (k H locs ls hP hS hl)
theorem k_ishl (C : Cx p s m args c cc own nL G sh) {x y : Int32} (d : decode cc pc = .ok (.ishl, 1)) (k : K p l e R s m args below meth c nL G sh Q (pc + 1) lv (.int (x <<< (y &&& 31)) :: st) M) : K p l e R s m args below meth c nL G sh Q pc lv (.int y :: .int x :: st) M := fun H locs ls hP hS hl => lv_ishl C.1 C.2.1 d (k H locs ls hP hS hl)
theorem k_ishr (C : Cx p s m args c cc own nL G sh) {x y : Int32} (d : decode cc pc = .ok (.ishr, 1)) (k : K p l e R s m args below meth c nL G sh Q (pc + 1) lv (.int (x >>> (y &&& 31)) :: st) M) : K p l e R s m args below meth c nL G sh Q pc lv (.int y :: .int x :: st) M := fun H locs ls hP hS hl => lv_ishr C.1 C.2.1 d (k H locs ls hP hS hl)
theorem k_iushr (C : Cx p s m args c cc own nL G sh) {x y : Int32} (d : decode cc pc = .ok (.iushr, 1)) (k : K p l e R s m args below meth c nL G sh Q (pc + 1) lv (.int (x.toUInt32 >>> (y.toUInt32 &&& Int32.toUInt32 31)).toInt32 :: st) M) : K p l e R s m args below meth c nL G sh Q pc lv (.int y :: .int x :: st) M := fun H locs ls hP hS hl => lv_iushr C.1 C.2.1 d rfl (k H locs ls hP hS hl)
theorem k_ineg (C : Cx p s m args c cc own nL G sh) {x : Int32} (d : decode cc pc = .ok (.ineg, 1)) (k : K p l e R s m args below meth c nL G sh Q (pc + 1) lv (.int (-x) :: st) M) : K p l e R s m args below meth c nL G sh Q pc lv (.int x :: st) M := fun H locs ls hP hS hl => lv_ineg C.1 C.2.1 d (k H locs ls hP hS hl)
theorem k_idiv (C : Cx p s m args c cc own nL G sh) {x y : Int32} (d : decode cc pc = .ok (.idiv, 1)) (hn : ¬ y = 0) (k : K p l e R s m args below meth c nL G sh Q (pc + 1) lv (.int (x / y) :: st) M) : K p l e R s m args below meth c nL G sh Q pc lv (.int y :: .int x :: st) M := fun H locs ls hP hS hl => lv_idiv C.1 C.2.1 d hn (k H locs ls hP hS hl)
theorem k_irem (C : Cx p s m args c cc own nL G sh) {x y : Int32} (d : decode cc pc = .ok (.irem, 1)) (hn : ¬ y = 0) (k : K p l e R s m args below meth c nL G sh Q (pc + 1) lv (.int (x - x / y * y) :: st) M) : K p l e R s m args below meth c nL G sh Q pc lv (.int y :: .int x :: st) M := fun H locs ls hP hS hl => lv_irem C.1 C.2.1 d hn (k H locs ls hP hS hl)
theorem k_ladd (C : Cx p s m args c cc own nL G sh) {x y : Int64} (d : decode cc pc = .ok (.ladd, 1)) (k : K p l e R s m args below meth c nL G sh Q (pc + 1) lv (.long (x + y) :: st) M) : K p l e R s m args below meth c nL G sh Q pc lv (.long y :: .long x :: st) M := fun H locs ls hP hS hl => lv_ladd C.1 C.2.1 d (k H locs ls hP hS hl)
theorem k_lsub (C : Cx p s m args c cc own nL G sh) {x y : Int64} (d : decode cc pc = .ok (.lsub, 1)) (k : K p l e R s m args below meth c nL G sh Q (pc + 1) lv (.long (x - y) :: st) M) : K p l e R s m args below meth c nL G sh Q pc lv (.long y :: .long x :: st) M := fun H locs ls hP hS hl => lv_lsub C.1 C.2.1 d (k H locs ls hP hS hl)
theorem k_lmul (C : Cx p s m args c cc own nL G sh) {x y : Int64} (d : decode cc pc = .ok (.lmul, 1)) (k : K p l e R s m args below meth c nL G sh Q (pc + 1) lv (.long (x * y) :: st) M) : K p l e R s m args below meth c nL G sh Q pc lv (.long y :: .long x :: st) M := fun H locs ls hP hS hl => lv_lmul C.1 C.2.1 d (k H locs ls hP hS hl)
theorem k_ldiv (C : Cx p s m args c cc own nL G sh) {x y : Int64} (d : decode cc pc = .ok (.ldiv, 1)) (hn : ¬ y = 0) (k : K p l e R s m args below meth c nL G sh Q (pc + 1) lv (.long (x / y) :: st) M) : K p l e R s m args below meth c nL G sh Q pc lv (.long y :: .long x :: st) M := fun H locs ls hP hS hl => lv_ldiv C.1 C.2.1 d hn (k H locs ls hP hS hl)
theorem k_lrem (C : Cx p s m args c cc own nL G sh) {x y : Int64} (d : decode cc pc = .ok (.lrem, 1)) (hn : ¬ y = 0) (k : K p l e R s m args below meth c nL G sh Q (pc + 1) lv (.long (x - x / y * y) :: st) M) : K p l e R s m args below meth c nL G sh Q pc lv (.long y :: .long x :: st) M := fun H locs ls hP hS hl => lv_lrem C.1 C.2.1 d hn (k H locs ls hP hS hl)
theorem k_i2l (C : Cx p s m args c cc own nL G sh) {x : Int32} (d : decode cc pc = .ok (.i2l, 1)) (k : K p l e R s m args below meth c nL G sh Q (pc + 1) lv (.long x.toInt64 :: st) M) : K p l e R s m args below meth c nL G sh Q pc lv (.int x :: st) M := fun H locs ls hP hS hl => lv_i2l C.1 C.2.1 d rfl (k H locs ls hP hS hl)
theorem k_lcmp (C : Cx p s m args c cc own nL G sh) {x y : Int64} (d : decode cc pc = .ok (.lcmp, 1)) (k : K p l e R s m args below meth c nL G sh Q (pc + 1) lv (.int (lg_cmp x y) :: st) M) : K p l e R s m args below meth c nL G sh Q pc lv (.long y :: .long x :: st) M := fun H locs ls hP hS hl => W.lcmp C.1 C.2.1 d (k H locs ls hP hS hl)
theorem k_dup (C : Cx p s m args c cc own nL G sh) {v : Value} (d : decode cc pc = .ok (.dup, 1)) (hv : v.category = 1) (k : K p l e R s m args below meth c nL G sh Q (pc + 1) lv (v :: v :: st) M) : K p l e R s m args below meth c nL G sh Q pc lv (v :: st) M := fun H locs ls hP hS hl => lv_dup C.1 C.2.1 d hv (k H locs ls hP hS hl)
theorem k_pop (C : Cx p s m args c cc own nL G sh) {v : Value} (d : decode cc pc = .ok (.pop, 1)) (hv : v.category = 1) (k : K p l e R s m args below meth c nL G sh Q (pc + 1) lv st M) : K p l e R s m args below meth c nL G sh Q pc lv (v :: st) M := fun H locs ls hP hS hl => lv_pop C.1 C.2.1 d hv (k H locs ls hP hS hl)
theorem k_dup_x1 (C : Cx p s m args c cc own nL G sh) {v w : Value} (d : decode cc pc = .ok (.dup_x1, 1)) (hv : v.category = 1) (hw : w.category = 1) (k : K p l e R s m args below meth c nL G sh Q (pc + 1) lv (v :: w :: v :: st) M) : K p l e R s m args below meth c nL G sh Q pc lv (v :: w :: st) M := fun H locs ls hP hS hl => lv_dup_x1 C.1 C.2.1 d hv hw (k H locs ls hP hS hl)
theorem k_dup2 (C : Cx p s m args c cc own nL G sh) {v w : Value} (d : decode cc pc = .ok (.dup2, 1)) (hv : v.category = 1) (hw : w.category = 1) (k : K p l e R s m args below meth c nL G sh Q (pc + 1) lv (v :: w :: v :: w :: st) M) : K p l e R s m args below meth c nL G sh Q pc lv (v :: w :: st) M := fun H locs ls hP hS hl => lv_dup2_11 C.1 C.2.1 d hv hw (k H locs ls hP hS hl)
theorem k_goto (C : Cx p s m args c cc own nL G sh) {off : Int} {tgt : Nat} (d : decode cc pc = .ok (.goto off, 3)) (ht : (pc : Int) + off = (tgt : Int)) (k : K p l e R s m args below meth c nL G sh Q tgt lv st M) : K p l e R s m args below meth c nL G sh Q pc lv st M := fun H locs ls hP hS hl => lv_goto C.1 C.2.1 d ht (k H locs ls hP hS hl)
theorem k_if_eq_t (C : Cx p s m args c cc own nL G sh) {x : Int32} {off : Int} {tgt : Nat} (d : decode cc pc = .ok (.ifCond .eq off, 3)) (ht : (pc : Int) + off = (tgt : Int)) (h : x = 0) (k : K p l e R s m args below meth c nL G sh Q tgt lv st M) : K p l e R s m args below meth c nL G sh Q pc lv (.int x :: st) M := fun H locs ls hP hS hl => lv_if_eq C.1 C.2.1 d ht (fun _ => k H locs ls hP hS hl) (fun q => absurd h q)
theorem k_if_eq_f (C : Cx p s m args c cc own nL G sh) {x : Int32} {off : Int} {tgt : Nat} (d : decode cc pc = .ok (.ifCond .eq off, 3)) (ht : (pc : Int) + off = (tgt : Int)) (h : ¬ x = 0) (k : K p l e R s m args below meth c nL G sh Q (pc + 3) lv st M) : K p l e R s m args below meth c nL G sh Q pc lv (.int x :: st) M := fun H locs ls hP hS hl => lv_if_eq C.1 C.2.1 d ht (fun q => absurd q h) (fun _ => k H locs ls hP hS hl)
theorem k_icmp_eq_t (C : Cx p s m args c cc own nL G sh) {x y : Int32} {off : Int} {tgt : Nat} (d : decode cc pc = .ok (.if_icmp .eq off, 3)) (ht : (pc : Int) + off = (tgt : Int)) (h : x = y) (k : K p l e R s m args below meth c nL G sh Q tgt lv st M) : K p l e R s m args below meth c nL G sh Q pc lv (.int y :: .int x :: st) M := fun H locs ls hP hS hl => lv_icmp_eq C.1 C.2.1 d ht (fun _ => k H locs ls hP hS hl) (fun q => absurd h q)
theorem k_icmp_eq_f (C : Cx p s m args c cc own nL G sh) {x y : Int32} {off : Int} {tgt : Nat} (d : decode cc pc = .ok (.if_icmp .eq off, 3)) (ht : (pc : Int) + off = (tgt : Int)) (h : ¬ x = y) (k : K p l e R s m args below meth c nL G sh Q (pc + 3) lv st M) : K p l e R s m args below meth c nL G sh Q pc lv (.int y :: .int x :: st) M := fun H locs ls hP hS hl => lv_icmp_eq C.1 C.2.1 d ht (fun q => absurd q h) (fun _ => k H locs ls hP hS hl)
theorem k_if_ne_t (C : Cx p s m args c cc own nL G sh) {x : Int32} {off : Int} {tgt : Nat} (d : decode cc pc = .ok (.ifCond .ne off, 3)) (ht : (pc : Int) + off = (tgt : Int)) (h : ¬ x = 0) (k : K p l e R s m args below meth c nL G sh Q tgt lv st M) : K p l e R s m args below meth c nL G sh Q pc lv (.int x :: st) M := fun H locs ls hP hS hl => lv_if_ne C.1 C.2.1 d ht (fun _ => k H locs ls hP hS hl) (fun q => absurd q h)
theorem k_if_ne_f (C : Cx p s m args c cc own nL G sh) {x : Int32} {off : Int} {tgt : Nat} (d : decode cc pc = .ok (.ifCond .ne off, 3)) (ht : (pc : Int) + off = (tgt : Int)) (h : x = 0) (k : K p l e R s m args below meth c nL G sh Q (pc + 3) lv st M) : K p l e R s m args below meth c nL G sh Q pc lv (.int x :: st) M := fun H locs ls hP hS hl => lv_if_ne C.1 C.2.1 d ht (fun q => absurd h q) (fun _ => k H locs ls hP hS hl)
theorem k_icmp_ne_t (C : Cx p s m args c cc own nL G sh) {x y : Int32} {off : Int} {tgt : Nat} (d : decode cc pc = .ok (.if_icmp .ne off, 3)) (ht : (pc : Int) + off = (tgt : Int)) (h : ¬ x = y) (k : K p l e R s m args below meth c nL G sh Q tgt lv st M) : K p l e R s m args below meth c nL G sh Q pc lv (.int y :: .int x :: st) M := fun H locs ls hP hS hl => lv_icmp_ne C.1 C.2.1 d ht (fun _ => k H locs ls hP hS hl) (fun q => absurd q h)
theorem k_icmp_ne_f (C : Cx p s m args c cc own nL G sh) {x y : Int32} {off : Int} {tgt : Nat} (d : decode cc pc = .ok (.if_icmp .ne off, 3)) (ht : (pc : Int) + off = (tgt : Int)) (h : x = y) (k : K p l e R s m args below meth c nL G sh Q (pc + 3) lv st M) : K p l e R s m args below meth c nL G sh Q pc lv (.int y :: .int x :: st) M := fun H locs ls hP hS hl => lv_icmp_ne C.1 C.2.1 d ht (fun q => absurd h q) (fun _ => k H locs ls hP hS hl)
theorem k_if_lt_t (C : Cx p s m args c cc own nL G sh) {x : Int32} {off : Int} {tgt : Nat} (d : decode cc pc = .ok (.ifCond .lt off, 3)) (ht : (pc : Int) + off = (tgt : Int)) (h : x < 0) (k : K p l e R s m args below meth c nL G sh Q tgt lv st M) : K p l e R s m args below meth c nL G sh Q pc lv (.int x :: st) M := fun H locs ls hP hS hl => lv_if_lt C.1 C.2.1 d ht (fun _ => k H locs ls hP hS hl) (fun q => absurd h q)
theorem k_if_lt_f (C : Cx p s m args c cc own nL G sh) {x : Int32} {off : Int} {tgt : Nat} (d : decode cc pc = .ok (.ifCond .lt off, 3)) (ht : (pc : Int) + off = (tgt : Int)) (h : ¬ x < 0) (k : K p l e R s m args below meth c nL G sh Q (pc + 3) lv st M) : K p l e R s m args below meth c nL G sh Q pc lv (.int x :: st) M := fun H locs ls hP hS hl => lv_if_lt C.1 C.2.1 d ht (fun q => absurd q h) (fun _ => k H locs ls hP hS hl)
theorem k_icmp_lt_t (C : Cx p s m args c cc own nL G sh) {x y : Int32} {off : Int} {tgt : Nat} (d : decode cc pc = .ok (.if_icmp .lt off, 3)) (ht : (pc : Int) + off = (tgt : Int)) (h : x < y) (k : K p l e R s m args below meth c nL G sh Q tgt lv st M) : K p l e R s m args below meth c nL G sh Q pc lv (.int y :: .int x :: st) M := fun H locs ls hP hS hl => lv_icmp_lt C.1 C.2.1 d ht (fun _ => k H locs ls hP hS hl) (fun q => absurd h q)
theorem k_icmp_lt_f (C : Cx p s m args c cc own nL G sh) {x y : Int32} {off : Int} {tgt : Nat} (d : decode cc pc = .ok (.if_icmp .lt off, 3)) (ht : (pc : Int) + off = (tgt : Int)) (h : ¬ x < y) (k : K p l e R s m args below meth c nL G sh Q (pc + 3) lv st M) : K p l e R s m args below meth c nL G sh Q pc lv (.int y :: .int x :: st) M := fun H locs ls hP hS hl => lv_icmp_lt C.1 C.2.1 d ht (fun q => absurd q h) (fun _ => k H locs ls hP hS hl)
theorem k_if_ge_t (C : Cx p s m args c cc own nL G sh) {x : Int32} {off : Int} {tgt : Nat} (d : decode cc pc = .ok (.ifCond .ge off, 3)) (ht : (pc : Int) + off = (tgt : Int)) (h : 0 ≤ x) (k : K p l e R s m args below meth c nL G sh Q tgt lv st M) : K p l e R s m args below meth c nL G sh Q pc lv (.int x :: st) M := fun H locs ls hP hS hl => lv_if_ge C.1 C.2.1 d ht (fun _ => k H locs ls hP hS hl) (fun q => absurd h q)
theorem k_if_ge_f (C : Cx p s m args c cc own nL G sh) {x : Int32} {off : Int} {tgt : Nat} (d : decode cc pc = .ok (.ifCond .ge off, 3)) (ht : (pc : Int) + off = (tgt : Int)) (h : ¬ 0 ≤ x) (k : K p l e R s m args below meth c nL G sh Q (pc + 3) lv st M) : K p l e R s m args below meth c nL G sh Q pc lv (.int x :: st) M := fun H locs ls hP hS hl => lv_if_ge C.1 C.2.1 d ht (fun q => absurd q h) (fun _ => k H locs ls hP hS hl)
theorem k_icmp_ge_t (C : Cx p s m args c cc own nL G sh) {x y : Int32} {off : Int} {tgt : Nat} (d : decode cc pc = .ok (.if_icmp .ge off, 3)) (ht : (pc : Int) + off = (tgt : Int)) (h : y ≤ x) (k : K p l e R s m args below meth c nL G sh Q tgt lv st M) : K p l e R s m args below meth c nL G sh Q pc lv (.int y :: .int x :: st) M := fun H locs ls hP hS hl => lv_icmp_ge C.1 C.2.1 d ht (fun _ => k H locs ls hP hS hl) (fun q => absurd h q)
theorem k_icmp_ge_f (C : Cx p s m args c cc own nL G sh) {x y : Int32} {off : Int} {tgt : Nat} (d : decode cc pc = .ok (.if_icmp .ge off, 3)) (ht : (pc : Int) + off = (tgt : Int)) (h : ¬ y ≤ x) (k : K p l e R s m args below meth c nL G sh Q (pc + 3) lv st M) : K p l e R s m args below meth c nL G sh Q pc lv (.int y :: .int x :: st) M := fun H locs ls hP hS hl => lv_icmp_ge C.1 C.2.1 d ht (fun q => absurd q h) (fun _ => k H locs ls hP hS hl)
theorem k_if_gt_t (C : Cx p s m args c cc own nL G sh) {x : Int32} {off : Int} {tgt : Nat} (d : decode cc pc = .ok (.ifCond .gt off, 3)) (ht : (pc : Int) + off = (tgt : Int)) (h : 0 < x) (k : K p l e R s m args below meth c nL G sh Q tgt lv st M) : K p l e R s m args below meth c nL G sh Q pc lv (.int x :: st) M := fun H locs ls hP hS hl => lv_if_gt C.1 C.2.1 d ht (fun _ => k H locs ls hP hS hl) (fun q => absurd h q)
theorem k_if_gt_f (C : Cx p s m args c cc own nL G sh) {x : Int32} {off : Int} {tgt : Nat} (d : decode cc pc = .ok (.ifCond .gt off, 3)) (ht : (pc : Int) + off = (tgt : Int)) (h : ¬ 0 < x) (k : K p l e R s m args below meth c nL G sh Q (pc + 3) lv st M) : K p l e R s m args below meth c nL G sh Q pc lv (.int x :: st) M := fun H locs ls hP hS hl => lv_if_gt C.1 C.2.1 d ht (fun q => absurd q h) (fun _ => k H locs ls hP hS hl)
theorem k_icmp_gt_t (C : Cx p s m args c cc own nL G sh) {x y : Int32} {off : Int} {tgt : Nat} (d : decode cc pc = .ok (.if_icmp .gt off, 3)) (ht : (pc : Int) + off = (tgt : Int)) (h : y < x) (k : K p l e R s m args below meth c nL G sh Q tgt lv st M) : K p l e R s m args below meth c nL G sh Q pc lv (.int y :: .int x :: st) M := fun H locs ls hP hS hl => lv_icmp_gt C.1 C.2.1 d ht (fun _ => k H locs ls hP hS hl) (fun q => absurd h q)
theorem k_icmp_gt_f (C : Cx p s m args c cc own nL G sh) {x y : Int32} {off : Int} {tgt : Nat} (d : decode cc pc = .ok (.if_icmp .gt off, 3)) (ht : (pc : Int) + off = (tgt : Int)) (h : ¬ y < x) (k : K p l e R s m args below meth c nL G sh Q (pc + 3) lv st M) : K p l e R s m args below meth c nL G sh Q pc lv (.int y :: .int x :: st) M := fun H locs ls hP hS hl => lv_icmp_gt C.1 C.2.1 d ht (fun q => absurd q h) (fun _ => k H locs ls hP hS hl)
theorem k_if_le_t (C : Cx p s m args c cc own nL G sh) {x : Int32} {off : Int} {tgt : Nat} (d : decode cc pc = .ok (.ifCond .le off, 3)) (ht : (pc : Int) + off = (tgt : Int)) (h : x ≤ 0) (k : K p l e R s m args below meth c nL G sh Q tgt lv st M) : K p l e R s m args below meth c nL G sh Q pc lv (.int x :: st) M := fun H locs ls hP hS hl => lv_if_le C.1 C.2.1 d ht (fun _ => k H locs ls hP hS hl) (fun q => absurd h q)
theorem k_if_le_f (C : Cx p s m args c cc own nL G sh) {x : Int32} {off : Int} {tgt : Nat} (d : decode cc pc = .ok (.ifCond .le off, 3)) (ht : (pc : Int) + off = (tgt : Int)) (h : ¬ x ≤ 0) (k : K p l e R s m args below meth c nL G sh Q (pc + 3) lv st M) : K p l e R s m args below meth c nL G sh Q pc lv (.int x :: st) M := fun H locs ls hP hS hl => lv_if_le C.1 C.2.1 d ht (fun q => absurd q h) (fun _ => k H locs ls hP hS hl)
theorem k_icmp_le_t (C : Cx p s m args c cc own nL G sh) {x y : Int32} {off : Int} {tgt : Nat} (d : decode cc pc = .ok (.if_icmp .le off, 3)) (ht : (pc : Int) + off = (tgt : Int)) (h : x ≤ y) (k : K p l e R s m args below meth c nL G sh Q tgt lv st M) : K p l e R s m args below meth c nL G sh Q pc lv (.int y :: .int x :: st) M := fun H locs ls hP hS hl => lv_icmp_le C.1 C.2.1 d ht (fun _ => k H locs ls hP hS hl) (fun q => absurd h q)
theorem k_icmp_le_f (C : Cx p s m args c cc own nL G sh) {x y : Int32} {off : Int} {tgt : Nat} (d : decode cc pc = .ok (.if_icmp .le off, 3)) (ht : (pc : Int) + off = (tgt : Int)) (h : ¬ x ≤ y) (k : K p l e R s m args below meth c nL G sh Q (pc + 3) lv st M) : K p l e R s m args below meth c nL G sh Q pc lv (.int y :: .int x :: st) M := fun H locs ls hP hS hl => lv_icmp_le C.1 C.2.1 d ht (fun q => absurd q h) (fun _ => k H locs ls hP hS hl)
theorem k_tableIn (C : Cx p s m args c cc own nL G sh) {dflt lo hi : Int} {offs : Array Int} {len : Nat} {x : Int32} (v : Int32) (hx : x = v) {off : Int} {tgt : Nat} (d : decode cc pc = .ok (.tableswitch dflt lo hi offs, len)) (h1 : ¬ v.toInt < lo) (h2 : ¬ hi < v.toInt) (ho : offs[(v.toInt - lo).toNat]? = some off) (ht : (pc : Int) + off = (tgt : Int)) (k : K p l e R s m args below meth c nL G sh Q tgt lv st M) : K p l e R s m args below meth c nL G sh Q pc lv (.int x :: st) M := fun H locs ls hP hS hl => by
  subst hx
  exact lv_tableIn C.1 C.2.1 d h1 h2 ho ht (k H locs ls hP hS hl)
theorem k_tableOut (C : Cx p s m args c cc own nL G sh) {dflt lo hi : Int} {offs : Array Int} {len : Nat} {x : Int32} {tgt : Nat} (d : decode cc pc = .ok (.tableswitch dflt lo hi offs, len)) (h : x.toInt < lo ∨ hi < x.toInt) (ht : (pc : Int) + dflt = (tgt : Int)) (k : K p l e R s m args below meth c nL G sh Q tgt lv st M) : K p l e R s m args below meth c nL G sh Q pc lv (.int x :: st) M := fun H locs ls hP hS hl => lv_tableOut C.1 C.2.1 d h ht (k H locs ls hP hS hl)
theorem k_lookup (C : Cx p s m args c cc own nL G sh) {dflt : Int} {ps : Array (Int × Int)} {len : Nat} {x : Int32} {off : Int} {tgt : Nat} (d : decode cc pc = .ok (.lookupswitch dflt ps, len)) (hp : (ps.toList.zip (ps.toList.drop 1)).all (fun (a, next) => a.1 < next.1) = true) (ho : Op.lookupswitch.offset ps.toList dflt x.toInt = off) (ht : (pc : Int) + off = (tgt : Int)) (k : K p l e R s m args below meth c nL G sh Q tgt lv st M) : K p l e R s m args below meth c nL G sh Q pc lv (.int x :: st) M := fun H locs ls hP hS hl => lv_lookup C.1 C.2.1 d hp ho ht (k H locs ls hP hS hl)
/-! arrays -/
def ldI (M : Mem) (q n : Nat) (i : Int32) : Option Int32 := if i < 0 ∨ n ≤ i.toNatClampNeg then none else some (M.1 q i.toNatClampNeg)
def ldL (M : Mem) (q n : Nat) (i : Int32) : Option Int64 := if i < 0 ∨ n ≤ i.toNatClampNeg then none else some (M.2 q i.toNatClampNeg)
def stI (M : Mem) (q n : Nat) (i x : Int32) : Option Mem := if i < 0 ∨ n ≤ i.toNatClampNeg then none else some (wI M q i.toNatClampNeg x)
def stL (M : Mem) (q n : Nat) (i : Int32) (x : Int64) : Option Mem := if i < 0 ∨ n ≤ i.toNatClampNeg then none else some (wL M q i.toNatClampNeg x)
def stZ (M : Mem) (q n : Nat) (i x : Int32) : Option Mem := if i < 0 ∨ n ≤ i.toNatClampNeg then none else if x = 0 ∨ x = 1 then some (wI M q i.toNatClampNeg x) else none
def gZ (x : Int32) : Option Int32 := if x = 0 ∨ x = 1 then some x else none
def dvI (x y : Int32) : Option Int32 := if y = 0 then none else some (x / y)
def rmI (x y : Int32) : Option Int32 := if y = 0 then none else some (x - x / y * y)
def dvL (x y : Int64) : Option Int64 := if y = 0 then none else some (x / y)
def rmL (x y : Int64) : Option Int64 := if y = 0 then none else some (x - x / y * y)
theorem k_iald (C : Cx p s m args c cc own nL G sh) {q n : Nat} (hs : sh[q]? = some (.inl (0, n))) {i x : Int32} (hx : ldI M q n i = some x) (d : decode cc pc = .ok (.iaload, 1)) (k : K p l e R s m args below meth c nL G sh Q (pc + 1) lv (.int x :: st) M) : K p l e R s m args below meth c nL G sh Q pc lv (.int i :: .ref (G.2.1 q) :: st) M := fun H locs ls hP hS hl => by
  unfold ldI at hx
  split at hx
  · cases hx
  · next h => cases hx; exact va_iald C.1 C.2.1 C.2.2.2.2.2.1 hP q 0 (k_ws_int hs (by decide)) rfl h d (k H locs ls hP hS hl)
theorem k_zald (C : Cx p s m args c cc own nL G sh) {q n : Nat} (hs : sh[q]? = some (.inl (2, n))) {i x : Int32} (hx : ldI M q n i = some x) (d : decode cc pc = .ok (.baload, 1)) (k : K p l e R s m args below meth c nL G sh Q (pc + 1) lv (.int x :: st) M) : K p l e R s m args below meth c nL G sh Q pc lv (.int i :: .ref (G.2.1 q) :: st) M := fun H locs ls hP hS hl => by
  unfold ldI at hx
  split at hx
  · cases hx
  · next h => cases hx; exact va_zald C.1 C.2.1 C.2.2.2.2.2.1 hP q 2 (k_ws_int hs (by decide)) rfl h d (k H locs ls hP hS hl)
theorem k_lald (C : Cx p s m args c cc own nL G sh) {q n : Nat} (hs : sh[q]? = some (.inl (1, n))) {i : Int32} {x : Int64} (hx : ldL M q n i = some x) (d : decode cc pc = .ok (.laload, 1)) (k : K p l e R s m args below meth c nL G sh Q (pc + 1) lv (.long x :: st) M) : K p l e R s m args below meth c nL G sh Q pc lv (.int i :: .ref (G.2.1 q) :: st) M := fun H locs ls hP hS hl => by
  unfold ldL at hx
  split at hx
  · cases hx
  · next h => cases hx; exact va_lald C.1 C.2.1 C.2.2.2.2.2.1 hP q 1 (k_ws_long hs) rfl h d (k H locs ls hP hS hl)
theorem k_iast (C : Cx p s m args c cc own nL G sh) {q n : Nat} (hs : sh[q]? = some (.inl (0, n))) {i x : Int32} {M' : Mem} (hx : stI M q n i x = some M') (d : decode cc pc = .ok (.iastore, 1)) (k : K p l e R s m args below meth c nL G sh Q (pc + 1) lv st M') : K p l e R s m args below meth c nL G sh Q pc lv (.int x :: .int i :: .ref (G.2.1 q) :: st) M := fun H locs ls hP hS hl => by
  unfold stI at hx
  split at hx
  · cases hx
  · next h => cases hx; exact va_iast C.1 C.2.1 C.2.2.2.2.2.1 hP (k_D C.2.2.2.2.2.2.2) hS q 0 (k_ws_int hs (by decide)) rfl h d (fun H1 locs1 hP1 _ hS1 => k H1 locs1 ls (by rw [k_set_i hs (by decide)] at hP1; exact hP1) hS1 hl)
theorem k_zast (C : Cx p s m args c cc own nL G sh) {q n : Nat} (hs : sh[q]? = some (.inl (2, n))) {i x : Int32} {M' : Mem} (hx : stZ M q n i x = some M') (d : decode cc pc = .ok (.bastore, 1)) (k : K p l e R s m args below meth c nL G sh Q (pc + 1) lv st M') : K p l e R s m args below meth c nL G sh Q pc lv (.int x :: .int i :: .ref (G.2.1 q) :: st) M := fun H locs ls hP hS hl => by
  unfold stZ at hx
  split at hx
  · cases hx
  · next h =>
    split at hx
    · next hz =>
      have hn : vp_nar .boolean x = x := by rcases hz with rfl | rfl <;> decide
      cases hx; exact va_zast C.1 C.2.1 C.2.2.2.2.2.1 hP (k_D C.2.2.2.2.2.2.2) hS q 2 (k_ws_int hs (by decide)) rfl h d (fun H1 locs1 hP1 _ hS1 => k H1 locs1 ls (by rw [hn, k_set_i hs (by decide)] at hP1; exact hP1) hS1 hl)
    · cases hx
theorem k_last (C : Cx p s m args c cc own nL G sh) {q n : Nat} (hs : sh[q]? = some (.inl (1, n))) {i : Int32} {x : Int64} {M' : Mem} (hx : stL M q n i x = some M') (d : decode cc pc = .ok (.lastore, 1)) (k : K p l e R s m args below meth c nL G sh Q (pc + 1) lv st M') : K p l e R s m args below meth c nL G sh Q pc lv (.long x :: .int i :: .ref (G.2.1 q) :: st) M := fun H locs ls hP hS hl => by
  unfold stL at hx
  split at hx
  · cases hx
  · next h => cases hx; exact va_last C.1 C.2.1 C.2.2.2.2.2.1 hP (k_D C.2.2.2.2.2.2.2) hS q 1 (k_ws_long hs) rfl h d (fun H1 locs1 hP1 _ hS1 => k H1 locs1 ls (by rw [k_set_l hs] at hP1; exact hP1) hS1 hl)
theorem k_alen (C : Cx p s m args c cc own nL G sh) {q n : Nat} (hs : sh[q]? = some (.inl (0, n))) (d : decode cc pc = .ok (.arraylength, 1)) (k : K p l e R s m args below meth c nL G sh Q (pc + 1) lv (.int (nI n) :: st) M) : K p l e R s m args below meth c nL G sh Q pc lv (.ref (G.2.1 q) :: st) M := fun H locs ls hP hS hl => va_alen C.1 C.2.1 C.2.2.2.2.2.1 hP q 0 (k_ws_int hs (by decide)) rfl rfl d (k H locs ls hP hS hl)
theorem k_alenL (C : Cx p s m args c cc own nL G sh) {q n : Nat} (hs : sh[q]? = some (.inl (1, n))) (d : decode cc pc = .ok (.arraylength, 1)) (k : K p l e R s m args below meth c nL G sh Q (pc + 1) lv (.int (nI n) :: st) M) : K p l e R s m args below meth c nL G sh Q pc lv (.ref (G.2.1 q) :: st) M := fun H locs ls hP hS hl => va_alen C.1 C.2.1 C.2.2.2.2.2.1 hP q 1 (k_ws_long hs) rfl rfl d (k H locs ls hP hS hl)
/-! fields: FL own index ci k: the constant at 'index' of class 'own' names field k of class ci -/
def FL (own : String) (index ci k : Nat) : Prop := ∃ (Cn : String) (T : u_T) (N : Nat), vwCl[ci]? = some (Cn, T, N) ∧ (∀ w ∈ u_ws Cn T N, w ∈ bigW) ∧ k < N ∧ Cond.fieldLink own index (T k).1 (T k).2.1 (T k).2.2.1 ∈ bigW
/-- a field that can be written: not final, of a type that keeps an int -/
def FW (ci k : Nat) (ty : FieldType) : Prop := ∃ (Cn : String) (T : u_T) (N : Nat) (ty0 : Nat → FieldType), vwCl[ci]? = some (Cn, T, N) ∧ (∀ j, j < N → parseFieldDescriptor (T j).2.2.1 = some (ty0 j)) ∧ (∀ a, a < N → ∀ b, b < N → a ≠ b → (T a).2.1 ≠ (T b).2.1) ∧ (T k).2.2.2 = false ∧ parseFieldDescriptor (T k).2.2.1 = some ty
theorem k_get (C : Cx p s m args c cc own nL G sh) {q ci j index : Nat} {fs : List (Option Nat)} {o : Option Nat} (hs : sh[q]? = some (.inr (ci, fs))) (hj : fs[j]? = some o) (F : FL own index ci j) (d : decode cc pc = .ok (.getfield index, 3)) (k : K p l e R s m args below meth c nL G sh Q (pc + 3) lv (k_fld G M q j o :: st) M) : K p l e R s m args below meth c nL G sh Q pc lv (.ref (G.2.1 q) :: st) M := fun H locs ls hP hS hl => by
  obtain ⟨Cn, T, N, h1, h2, h3, h4⟩ := F
  exact va_get C.1 C.2.1 C.2.2.2.2.1 h2 C.2.2.2.1 C.2.2.2.2.2.1 hP q (k_ws_obj hs) h1 j h3 (C.2.2.2.2.1 _ h4) (fun _ h => h) (v := k_fld G M q j o) (by rw [List.getElem?_mapIdx, hj]; rfl) d (k H locs ls hP hS hl)
theorem k_put (C : Cx p s m args c cc own nL G sh) {q ci j index : Nat} {fs : List (Option Nat)} (hs : sh[q]? = some (.inr (ci, fs))) (hj : fs[j]? = some none) (F : FL own index ci j) (Fw : FW ci j .int) {x : Int32} (d : decode cc pc = .ok (.putfield index, 3)) (k : K p l e R s m args below meth c nL G sh Q (pc + 3) lv st (wI M q j x)) : K p l e R s m args below meth c nL G sh Q pc lv (.int x :: .ref (G.2.1 q) :: st) M := fun H locs ls hP hS hl => by
  obtain ⟨Cn, T, N, h1, h2, h3, h4⟩ := F
  obtain ⟨Cn', T', N', ty0, g1, g2, g3, g4, g5⟩ := Fw
  cases h1.symm.trans g1
  exact va_put C.1 C.2.1 C.2.2.2.2.1 h2 ty0 g2 g3 C.2.2.2.1 C.2.2.2.2.2.1 hP (k_D C.2.2.2.2.2.2.2) hS q (k_ws_obj hs) h1 j h3 (C.2.2.2.2.1 _ h4) (fun _ h => h) g4 g5 rfl rfl (by have := (List.getElem?_eq_some_iff.mp hj).1; simpa using this) d (fun H1 locs1 hP1 _ hS1 => k H1 locs1 ls (by rw [k_set_f hs hj] at hP1; exact hP1) hS1 hl)
theorem k_putZ (C : Cx p s m args c cc own nL G sh) {q ci j index : Nat} {fs : List (Option Nat)} (hs : sh[q]? = some (.inr (ci, fs))) (hj : fs[j]? = some none) (F : FL own index ci j) (Fw : FW ci j .boolean) {x y : Int32} (hx : gZ x = some y) (d : decode cc pc = .ok (.putfield index, 3)) (k : K p l e R s m args below meth c nL G sh Q (pc + 3) lv st (wI M q j y)) : K p l e R s m args below meth c nL G sh Q pc lv (.int x :: .ref (G.2.1 q) :: st) M := fun H locs ls hP hS hl => by
  obtain ⟨Cn, T, N, h1, h2, h3, h4⟩ := F
  obtain ⟨Cn', T', N', ty0, g1, g2, g3, g4, g5⟩ := Fw
  cases h1.symm.trans g1
  unfold gZ at hx
  split at hx
  · next hz =>
    cases hx
    exact va_put C.1 C.2.1 C.2.2.2.2.1 h2 ty0 g2 g3 C.2.2.2.1 C.2.2.2.2.2.1 hP (k_D C.2.2.2.2.2.2.2) hS q (k_ws_obj hs) h1 j h3 (C.2.2.2.2.1 _ h4) (fun _ h => h) g4 g5 (by rcases hz with rfl | rfl <;> decide) (by rcases hz with rfl | rfl <;> decide) (by have := (List.getElem?_eq_some_iff.mp hj).1; simpa using this) d (fun H1 locs1 hP1 _ hS1 => k H1 locs1 ls (by rw [k_set_f hs hj] at hP1; exact hP1) hS1 hl)
  · cases hx
/-! ends -/
theorem k_iret {r : Int32} {M' : Mem} (C : Cx p s m args c cc own nL G sh) (hr : meth.sig.returnType = some .int) (hlk : meth.locks = false) {x : Int32} (hx : x = r) (hM : M = M') (d : decode cc pc = .ok (.ireturn, 1)) : K p l e R s m args below meth c nL G sh (MQ below (k_Qi G sh r M') args s 0 0 (k_A G sh.length)) pc lv [.int x] M := fun H locs ls hP hS hl => by
  subst hx hM
  exact W.iret C.1 C.2.1 hr (fun t ht hW => ⟨⟨x, (), rfl, rfl, by rw [ht]; exact hP, va_K.moved hW.alike C.2.2.2.2.2.1, C.2.2.2.2.2.2.1.warm hW⟩, hS.F ht⟩) hS.2.2 d hlk
theorem k_zret {r : Int32} {M' : Mem} (C : Cx p s m args c cc own nL G sh) (hr : meth.sig.returnType = some .boolean) (hlk : meth.locks = false) {x : Int32} (hz : gZ x = some r) (hM : M = M') (d : decode cc pc = .ok (.ireturn, 1)) : K p l e R s m args below meth c nL G sh (MQ below (k_Qi G sh r M') args s 0 0 (k_A G sh.length)) pc lv [.int x] M := fun H locs ls hP hS hl => by
  unfold gZ at hz
  split at hz
  · next h =>
    cases hz
    subst hM
    exact W.zret C.1 C.2.1 hr (by rcases h with rfl | rfl <;> decide) (fun t ht hW => ⟨⟨_, (), rfl, rfl, by rw [ht]; exact hP, va_K.moved hW.alike C.2.2.2.2.2.1, C.2.2.2.2.2.2.1.warm hW⟩, hS.F ht⟩) hS.2.2 d hlk
  · cases hz
theorem k_lret {r : Int64} {M' : Mem} (C : Cx p s m args c cc own nL G sh) (hr : meth.sig.returnType = some .long) (hlk : meth.locks = false) {x : Int64} (hx : x = r) (hM : M = M') (d : decode cc pc = .ok (.lreturn, 1)) : K p l e R s m args below meth c nL G sh (MQ below (k_Ql G sh r M') args s 0 0 (k_A G sh.length)) pc lv [.long x] M := fun H locs ls hP hS hl => by
  subst hx hM
  exact W.lret C.1 C.2.1 hr (fun t ht hW => ⟨⟨x, (), rfl, rfl, by rw [ht]; exact hP, va_K.moved hW.alike C.2.2.2.2.2.1, C.2.2.2.2.2.2.1.warm hW⟩, hS.F ht⟩) hS.2.2 d hlk
theorem k_vret {M' : Mem} (C : Cx p s m args c cc own nL G sh) (hr : meth.sig.returnType = none) (hlk : meth.locks = false) (hM : M = M') (d : decode cc pc = .ok (.return_, 1)) : K p l e R s m args below meth c nL G sh (MQ below (k_Qv G sh M') args s 0 0 (k_A G sh.length)) pc lv [] M := fun H locs ls hP hS hl => by
  subst hM
  exact W.vret C.1 C.2.1 hr (fun t ht hW => ⟨⟨(), rfl, trivial, by rw [ht]; exact hP, va_K.moved hW.alike C.2.2.2.2.2.1, C.2.2.2.2.2.2.1.warm hW⟩, hS.F ht⟩) hS.2.2 d hlk
end KR
end
section
/-! calls by contract, the JDK's small ones, a method's entry -/
def ML (y : MethodName) (bytes : ByteArray) (maxL : Nat) (ret : Option FieldType) (np : Nat) : Prop := Cond.instanceMethod y ∈ bigW ∧ Cond.selects y.cls y y ∈ bigW ∧ Cond.initialized y.cls ∈ bigW ∧ Cond.code y bytes maxL ret ∈ bigW ∧ (y.cls ≠ "java/lang/invoke/MethodHandle" ∧ y.cls ≠ "java/lang/invoke/VarHandle") ∧ (parseMethodDescriptor y.desc).map (fun d => d.parameters.length) = some np
def MS (y : MethodName) (bytes : ByteArray) (maxL : Nat) (ret : Option FieldType) (np : Nat) : Prop := Cond.static y ∈ bigW ∧ Cond.initialized y.cls ∈ bigW ∧ Cond.code y bytes maxL ret ∈ bigW ∧ (y.cls ≠ "java/lang/invoke/MethodHandle" ∧ y.cls ≠ "java/lang/invoke/VarHandle") ∧ (parseMethodDescriptor y.desc).map (fun d => d.parameters.length) = some np
section KCL
variable {p : Program} {l : Launch} {e : Env} {R : Room} {s : State} {m : MethodId} {args : Array Value} {below : List Frame} {meth : Method} {c : Code} {cc : ByteArray} {own : String} {nL : Nat} {G : Gx} {sh : List Sh} {Q : State → Prop} {pc : Nat} {lv lv' : List (Nat × Value)} {st : List Value} {M : Mem}
theorem k_callVi (C : Cx p s m args c cc own nL G sh) {y : MethodName} {bytes : ByteArray} {maxL fr lo np index : Nat} {ret : Option FieldType} {As st' : List Value} {M' : Mem} {r : Int32} {q ci : Nat} {fs : List (Option Nat)} (hM : k_Met l y bytes maxL ret fr lo G sh (.ref (G.2.1 q) :: As) M (k_Qi G sh r M')) (L : ML y bytes maxL ret np) (hk : Cond.methodLink own index y ∈ bigW) (hs : sh[q]? = some (.inr (ci, fs))) (hc : (vwCl[ci]?).map (fun x => x.1) = some y.cls) (hn : As.length = np) (hst : st' = As.reverse ++ .ref (G.2.1 q) :: st) (hR : fr + 1 ≤ R.frames ∧ 8 + (maxL + 11) + lo ≤ R.locals) (hcat : (st.map fun v => v.category).sum ≤ 8) (d : decode cc pc = .ok (.invokevirtual index, 3)) (k : K p l e R s m args below meth c nL G sh Q (pc + 3) lv (.int r :: st) M') : K p l e R s m args below meth c nL G sh Q pc lv st' M := fun H locs ls hP hS hl => by
  subst hst
  obtain ⟨L1, L2, L3, L4, L5, L6⟩ := L
  obtain ⟨x0, hx0, hx1⟩ := Option.map_eq_some_iff.mp hc
  have hrc := va_recv C.2.2.2.2.2.1 hP hx0 (k_ws_obj hs)
  rw [hx1] at hrc
  refine va_calli (va_runV (C := y.cls) (b := G.2.1 q) (As := As) (rest := st) ⟨C.1, C.2.1, C.2.2.1, C.2.2.2.1, C.2.2.2.2.1⟩ hM (cwV np C.2.2.2.2.1 (good_cons hk (good_cons L1 (good_cons L2 (good_cons L3 (good_cons L4 bigW_good))))) rfl rfl rfl ⟨rfl, L5.1, L5.2, L6⟩ hR) ⟨k_blind, hrc, fun U hU hW => ⟨rfl, by rw [hU]; exact hP, va_K.moved hW.alike C.2.2.2.2.2.1, C.2.2.2.2.2.2.1.warm hW⟩⟩ rfl hn hl.1 rfl (lv_room hcat) d ⟨Nat.zero_le _, Nat.zero_le _⟩) hS (fun q _ h => h) (fun q h => h) (fun r' u t H1 locs1 ht hvm hw hB hz1 hk1 hS1 => ?_)
  subst hw
  exact k H1 locs1 ls (by rw [← ht]; exact hB.1) hS1 hl
theorem k_callVl (C : Cx p s m args c cc own nL G sh) {y : MethodName} {bytes : ByteArray} {maxL fr lo np index : Nat} {ret : Option FieldType} {As st' : List Value} {M' : Mem} {r : Int64} {q ci : Nat} {fs : List (Option Nat)} (hM : k_Met l y bytes maxL ret fr lo G sh (.ref (G.2.1 q) :: As) M (k_Ql G sh r M')) (L : ML y bytes maxL ret np) (hk : Cond.methodLink own index y ∈ bigW) (hs : sh[q]? = some (.inr (ci, fs))) (hc : (vwCl[ci]?).map (fun x => x.1) = some y.cls) (hn : As.length = np) (hst : st' = As.reverse ++ .ref (G.2.1 q) :: st) (hR : fr + 1 ≤ R.frames ∧ 8 + (maxL + 11) + lo ≤ R.locals) (hcat : (st.map fun v => v.category).sum ≤ 8) (d : decode cc pc = .ok (.invokevirtual index, 3)) (k : K p l e R s m args below meth c nL G sh Q (pc + 3) lv (.long r :: st) M') : K p l e R s m args below meth c nL G sh Q pc lv st' M := fun H locs ls hP hS hl => by
  subst hst
  obtain ⟨L1, L2, L3, L4, L5, L6⟩ := L
  obtain ⟨x0, hx0, hx1⟩ := Option.map_eq_some_iff.mp hc
  have hrc := va_recv C.2.2.2.2.2.1 hP hx0 (k_ws_obj hs)
  rw [hx1] at hrc
  refine va_calll (va_runV (C := y.cls) (b := G.2.1 q) (As := As) (rest := st) ⟨C.1, C.2.1, C.2.2.1, C.2.2.2.1, C.2.2.2.2.1⟩ hM (cwV np C.2.2.2.2.1 (good_cons hk (good_cons L1 (good_cons L2 (good_cons L3 (good_cons L4 bigW_good))))) rfl rfl rfl ⟨rfl, L5.1, L5.2, L6⟩ hR) ⟨k_blind, hrc, fun U hU hW => ⟨rfl, by rw [hU]; exact hP, va_K.moved hW.alike C.2.2.2.2.2.1, C.2.2.2.2.2.2.1.warm hW⟩⟩ rfl hn hl.1 rfl (lv_room hcat) d ⟨Nat.zero_le _, Nat.zero_le _⟩) hS (fun q _ h => h) (fun q h => h) (fun r' u t H1 locs1 ht hvm hw hB hz1 hk1 hS1 => ?_)
  subst hw
  exact k H1 locs1 ls (by rw [← ht]; exact hB.1) hS1 hl
theorem k_callVv (C : Cx p s m args c cc own nL G sh) {y : MethodName} {bytes : ByteArray} {maxL fr lo np index : Nat} {ret : Option FieldType} {As st' : List Value} {M' : Mem}  {q ci : Nat} {fs : List (Option Nat)} (hM : k_Met l y bytes maxL ret fr lo G sh (.ref (G.2.1 q) :: As) M (k_Qv G sh M')) (L : ML y bytes maxL ret np) (hk : Cond.methodLink own index y ∈ bigW) (hs : sh[q]? = some (.inr (ci, fs))) (hc : (vwCl[ci]?).map (fun x => x.1) = some y.cls) (hn : As.length = np) (hst : st' = As.reverse ++ .ref (G.2.1 q) :: st) (hR : fr + 1 ≤ R.frames ∧ 8 + (maxL + 11) + lo ≤ R.locals) (hcat : (st.map fun v => v.category).sum ≤ 8) (d : decode cc pc = .ok (.invokevirtual index, 3)) (k : K p l e R s m args below meth c nL G sh Q (pc + 3) lv (st) M') : K p l e R s m args below meth c nL G sh Q pc lv st' M := fun H locs ls hP hS hl => by
  subst hst
  obtain ⟨L1, L2, L3, L4, L5, L6⟩ := L
  obtain ⟨x0, hx0, hx1⟩ := Option.map_eq_some_iff.mp hc
  have hrc := va_recv C.2.2.2.2.2.1 hP hx0 (k_ws_obj hs)
  rw [hx1] at hrc
  refine va_callv (va_runV (C := y.cls) (b := G.2.1 q) (As := As) (rest := st) ⟨C.1, C.2.1, C.2.2.1, C.2.2.2.1, C.2.2.2.2.1⟩ hM (cwV np C.2.2.2.2.1 (good_cons hk (good_cons L1 (good_cons L2 (good_cons L3 (good_cons L4 bigW_good))))) rfl rfl rfl ⟨rfl, L5.1, L5.2, L6⟩ hR) ⟨k_blind, hrc, fun U hU hW => ⟨rfl, by rw [hU]; exact hP, va_K.moved hW.alike C.2.2.2.2.2.1, C.2.2.2.2.2.2.1.warm hW⟩⟩ rfl hn hl.1 rfl (lv_room hcat) d ⟨Nat.zero_le _, Nat.zero_le _⟩) hS (fun q _ h => h) (fun q h => h) (fun  u t H1 locs1 ht hvm hw hB hz1 hk1 hS1 => ?_)
  exact k H1 locs1 ls (by rw [← ht]; exact hB.1) hS1 hl
theorem k_callSi (C : Cx p s m args c cc own nL G sh) {y : MethodName} {bytes : ByteArray} {maxL fr lo np index : Nat} {ret : Option FieldType} {As st' : List Value} {M' : Mem} {r : Int32} (hM : k_Met l y bytes maxL ret fr lo G sh (As) M (k_Qi G sh r M')) (L : MS y bytes maxL ret np) (hk : Cond.methodLink own index y ∈ bigW) (hn : As.length = np) (hst : st' = As.reverse ++ st) (hR : fr + 1 ≤ R.frames ∧ 8 + (maxL + 11) + lo ≤ R.locals) (hcat : (st.map fun v => v.category).sum ≤ 8) (d : decode cc pc = .ok (.invokestatic index, 3)) (k : K p l e R s m args below meth c nL G sh Q (pc + 3) lv (.int r :: st) M') : K p l e R s m args below meth c nL G sh Q pc lv st' M := fun H locs ls hP hS hl => by
  subst hst
  obtain ⟨L1, L3, L4, L5, L6⟩ := L
  refine va_calli (va_runS (As := As) (rest := st) ⟨C.1, C.2.1, C.2.2.1, C.2.2.2.1, C.2.2.2.2.1⟩ hM (va_cwS np C.2.2.2.2.1 (good_cons hk (good_cons L1 (good_cons L3 (good_cons L4 bigW_good)))) rfl rfl rfl ⟨L5.1, L5.2, L6⟩ hR) ⟨k_blind, fun U hU hW => ⟨rfl, by rw [hU]; exact hP, va_K.moved hW.alike C.2.2.2.2.2.1, C.2.2.2.2.2.2.1.warm hW⟩⟩ rfl hn hl.1 rfl (lv_room hcat) d ⟨Nat.zero_le _, Nat.zero_le _⟩) hS (fun q _ h => h) (fun q h => h) (fun r' u t H1 locs1 ht hvm hw hB hz1 hk1 hS1 => ?_)
  subst hw
  exact k H1 locs1 ls (by rw [← ht]; exact hB.1) hS1 hl
theorem k_callSl (C : Cx p s m args c cc own nL G sh) {y : MethodName} {bytes : ByteArray} {maxL fr lo np index : Nat} {ret : Option FieldType} {As st' : List Value} {M' : Mem} {r : Int64} (hM : k_Met l y bytes maxL ret fr lo G sh (As) M (k_Ql G sh r M')) (L : MS y bytes maxL ret np) (hk : Cond.methodLink own index y ∈ bigW) (hn : As.length = np) (hst : st' = As.reverse ++ st) (hR : fr + 1 ≤ R.frames ∧ 8 + (maxL + 11) + lo ≤ R.locals) (hcat : (st.map fun v => v.category).sum ≤ 8) (d : decode cc pc = .ok (.invokestatic index, 3)) (k : K p l e R s m args below meth c nL G sh Q (pc + 3) lv (.long r :: st) M') : K p l e R s m args below meth c nL G sh Q pc lv st' M := fun H locs ls hP hS hl => by
  subst hst
  obtain ⟨L1, L3, L4, L5, L6⟩ := L
  refine va_calll (va_runS (As := As) (rest := st) ⟨C.1, C.2.1, C.2.2.1, C.2.2.2.1, C.2.2.2.2.1⟩ hM (va_cwS np C.2.2.2.2.1 (good_cons hk (good_cons L1 (good_cons L3 (good_cons L4 bigW_good)))) rfl rfl rfl ⟨L5.1, L5.2, L6⟩ hR) ⟨k_blind, fun U hU hW => ⟨rfl, by rw [hU]; exact hP, va_K.moved hW.alike C.2.2.2.2.2.1, C.2.2.2.2.2.2.1.warm hW⟩⟩ rfl hn hl.1 rfl (lv_room hcat) d ⟨Nat.zero_le _, Nat.zero_le _⟩) hS (fun q _ h => h) (fun q h => h) (fun r' u t H1 locs1 ht hvm hw hB hz1 hk1 hS1 => ?_)
  subst hw
  exact k H1 locs1 ls (by rw [← ht]; exact hB.1) hS1 hl
theorem k_callSv (C : Cx p s m args c cc own nL G sh) {y : MethodName} {bytes : ByteArray} {maxL fr lo np index : Nat} {ret : Option FieldType} {As st' : List Value} {M' : Mem}  (hM : k_Met l y bytes maxL ret fr lo G sh (As) M (k_Qv G sh M')) (L : MS y bytes maxL ret np) (hk : Cond.methodLink own index y ∈ bigW) (hn : As.length = np) (hst : st' = As.reverse ++ st) (hR : fr + 1 ≤ R.frames ∧ 8 + (maxL + 11) + lo ≤ R.locals) (hcat : (st.map fun v => v.category).sum ≤ 8) (d : decode cc pc = .ok (.invokestatic index, 3)) (k : K p l e R s m args below meth c nL G sh Q (pc + 3) lv (st) M') : K p l e R s m args below meth c nL G sh Q pc lv st' M := fun H locs ls hP hS hl => by
  subst hst
  obtain ⟨L1, L3, L4, L5, L6⟩ := L
  refine va_callv (va_runS (As := As) (rest := st) ⟨C.1, C.2.1, C.2.2.1, C.2.2.2.1, C.2.2.2.2.1⟩ hM (va_cwS np C.2.2.2.2.1 (good_cons hk (good_cons L1 (good_cons L3 (good_cons L4 bigW_good)))) rfl rfl rfl ⟨L5.1, L5.2, L6⟩ hR) ⟨k_blind, fun U hU hW => ⟨rfl, by rw [hU]; exact hP, va_K.moved hW.alike C.2.2.2.2.2.1, C.2.2.2.2.2.2.1.warm hW⟩⟩ rfl hn hl.1 rfl (lv_room hcat) d ⟨Nat.zero_le _, Nat.zero_le _⟩) hS (fun q _ h => h) (fun q h => h) (fun  u t H1 locs1 ht hvm hw hB hz1 hk1 hS1 => ?_)
  exact k H1 locs1 ls (by rw [← ht]; exact hB.1) hS1 hl
theorem k_callNi (C : Cx p s m args c cc own nL G sh) {y : MethodName} {bytes : ByteArray} {maxL fr lo np index : Nat} {ret : Option FieldType} {As st' : List Value} {M' : Mem} {r : Int32} (hM : k_Met l y bytes maxL ret fr lo G sh (As) M (k_Qi G sh r M')) (L : MS y bytes maxL ret np) (hk : (index, y) ∈ k_nest) (ho : own = RX1) (hn : As.length = np) (hst : st' = As.reverse ++ st) (hR : fr + 1 ≤ R.frames ∧ 8 + (maxL + 11) + lo ≤ R.locals) (hcat : (st.map fun v => v.category).sum ≤ 8) (d : decode cc pc = .ok (.invokestatic index, 3)) (k : K p l e R s m args below meth c nL G sh Q (pc + 3) lv (.int r :: st) M') : K p l e R s m args below meth c nL G sh Q pc lv st' M := fun H locs ls hP hS hl => by
  subst hst
  obtain ⟨L1, L3, L4, L5, L6⟩ := L
  subst ho
  refine va_calli (va_runSN (As := As) (rest := st) ⟨C.1, C.2.1, C.2.2.1, C.2.2.2.1, C.2.2.2.2.1⟩ hM ⟨va_cnB np C.2.2.2.2.1 (good_cons L4 bigW_good) rfl rfl rfl (C.2.2.2.2.2.2.1 _ hk) (C.2.2.2.2.1 _ L3) ⟨L5.1, L5.2, L6⟩ hR, C.2.2.2.2.1 _ L1, trivial⟩ ⟨k_blind, fun U hU hW => ⟨rfl, by rw [hU]; exact hP, va_K.moved hW.alike C.2.2.2.2.2.1, C.2.2.2.2.2.2.1.warm hW⟩⟩ rfl hn hl.1 rfl (lv_room hcat) d ⟨Nat.zero_le _, Nat.zero_le _⟩) hS (fun q _ h => h) (fun q h => h) (fun r' u t H1 locs1 ht hvm hw hB hz1 hk1 hS1 => ?_)
  subst hw
  exact k H1 locs1 ls (by rw [← ht]; exact hB.1) hS1 hl
def mxI (x y : Int32) : Int32 := if x < y then y else x
def mnI (x y : Int32) : Int32 := if y < x then y else x
def mxL (x y : Int64) : Int64 := if y < x then x else y
def w_max : Prop := Cond.static Lib.Math.max.name ∈ bigW ∧ Cond.initialized "java/lang/Math" ∈ bigW ∧ Cond.code Lib.Math.max.name Lib.Math.max.code 2 (some .int) ∈ bigW
def w_min : Prop := Cond.static Lib.Math.min.name ∈ bigW ∧ Cond.initialized "java/lang/Math" ∈ bigW ∧ Cond.code Lib.Math.min.name Lib.Math.min.code 2 (some .int) ∈ bigW
def w_maxL : Prop := Cond.static Lib.MathLoose.max_long.x ∈ bigW ∧ Cond.initialized "java/lang/Math" ∈ bigW ∧ Cond.code Lib.MathLoose.max_long.x Lib.MathLoose.max_long.code 4 (some .long) ∈ bigW
def w_cpy : Prop := Cond.native arraycopyName ∈ bigW ∧ Cond.static arraycopyName ∈ bigW ∧ Cond.initialized "java/lang/System" ∈ bigW
theorem k_max (C : Cx p s m args c cc own nL G sh) {index : Nat} (w : w_max) (hk : Cond.methodLink own index Lib.Math.max.name ∈ bigW) (hR : 1 ≤ R.frames ∧ (st.map fun v => v.category).sum + 13 ≤ R.locals) {x y : Int32} (d : decode cc pc = .ok (.invokestatic index, 3)) (k : K p l e R s m args below meth c nL G sh Q (pc + 3) lv (.int (mxI x y) :: st) M) : K p l e R s m args below meth c nL G sh Q pc lv (.int y :: .int x :: st) M := fun H locs ls hP hS hl =>
  va_mmax C.1 C.2.1 (C.2.2.1.trans hl.1.symm) C.2.2.2.1 (C.2.2.2.2.1 _ hk) (C.2.2.2.2.1 _ w.1) (C.2.2.2.2.1 _ w.2.1) (C.2.2.2.2.1 _ w.2.2) hR.1 hR.2 (Nat.zero_le _) (Nat.zero_le _) d (k H locs ls hP hS hl)
theorem k_min (C : Cx p s m args c cc own nL G sh) {index : Nat} (w : w_min) (hk : Cond.methodLink own index Lib.Math.min.name ∈ bigW) (hR : 1 ≤ R.frames ∧ (st.map fun v => v.category).sum + 13 ≤ R.locals) {x y : Int32} (d : decode cc pc = .ok (.invokestatic index, 3)) (k : K p l e R s m args below meth c nL G sh Q (pc + 3) lv (.int (mnI x y) :: st) M) : K p l e R s m args below meth c nL G sh Q pc lv (.int y :: .int x :: st) M := fun H locs ls hP hS hl =>
  va_mmin C.1 C.2.1 (C.2.2.1.trans hl.1.symm) C.2.2.2.1 (C.2.2.2.2.1 _ hk) (C.2.2.2.2.1 _ w.1) (C.2.2.2.2.1 _ w.2.1) (C.2.2.2.2.1 _ w.2.2) hR.1 hR.2 (Nat.zero_le _) (Nat.zero_le _) d (k H locs ls hP hS hl)
theorem k_maxL (C : Cx p s m args c cc own nL G sh) {index : Nat} (w : w_maxL) (hk : Cond.methodLink own index Lib.MathLoose.max_long.x ∈ bigW) (hR : 1 ≤ R.frames ∧ (st.map fun v => v.category).sum + 15 ≤ R.locals) {x y : Int64} (d : decode cc pc = .ok (.invokestatic index, 3)) (k : K p l e R s m args below meth c nL G sh Q (pc + 3) lv (.long (mxL x y) :: st) M) : K p l e R s m args below meth c nL G sh Q pc lv (.long y :: .long x :: st) M := fun H locs ls hP hS hl =>
  va_mmax_long C.1 C.2.1 (C.2.2.1.trans hl.1.symm) C.2.2.2.1 (C.2.2.2.2.1 _ hk) (C.2.2.2.2.1 _ w.1) (C.2.2.2.2.1 _ w.2.1) (C.2.2.2.2.1 _ w.2.2) hR.1 hR.2 (Nat.zero_le _) (Nat.zero_le _) d (k H locs ls hP hS hl)
def cpI (M : Mem) (q0 n0 q1 n1 : Nat) (sp dp n : Int32) : Option Mem := if sp < 0 ∨ dp < 0 ∨ n < 0 ∨ n0 < sp.toNatClampNeg + n.toNatClampNeg ∨ n1 < dp.toNatClampNeg + n.toNatClampNeg then none else some (wA M q1 (va_cpy (M.1 q0) (M.1 q1) sp.toNatClampNeg dp.toNatClampNeg n.toNatClampNeg))
theorem k_cpy (C : Cx p s m args c cc own nL G sh) {index : Nat} (w : w_cpy) (hk : Cond.methodLink own index arraycopyName ∈ bigW) (hR : 1 ≤ R.frames ∧ (st.map fun v => v.category).sum + (nativeFrameWords "java/lang/System" "arraycopy" 5 + 11) ≤ R.locals) {q0 n0 q1 n1 : Nat} (hs0 : sh[q0]? = some (.inl (0, n0))) (hs1 : sh[q1]? = some (.inl (0, n1))) {sp dp n : Int32} {M' : Mem} (hx : cpI M q0 n0 q1 n1 sp dp n = some M') (d : decode cc pc = .ok (.invokestatic index, 3)) (k : K p l e R s m args below meth c nL G sh Q (pc + 3) lv st M') : K p l e R s m args below meth c nL G sh Q pc lv (.int n :: .int dp :: .ref (G.2.1 q1) :: .int sp :: .ref (G.2.1 q0) :: st) M := fun H locs ls hP hS hl => by
  unfold cpI at hx
  split at hx
  · cases hx
  · next h =>
    cases hx
    simp only [not_or, Nat.not_lt] at h
    exact va_copyi C.1 C.2.1 (C.2.2.1.trans hl.1.symm) C.2.2.2.1 (C.2.2.2.2.1 _ hk) (C.2.2.2.2.1 _ w.1) (C.2.2.2.2.1 _ w.2.1) (C.2.2.2.2.1 _ w.2.2) C.2.2.2.2.2.1 hP (k_D C.2.2.2.2.2.2.2) hS q0 q1 0 0 (k_ws_int hs0 (by decide)) (k_ws_int hs1 (by decide)) rfl rfl rfl h.1 h.2.1 h.2.2.1 h.2.2.2.1 h.2.2.2.2 (fun _ _ => rfl) hR.1 hR.2 d (fun H1 locs1 hP1 _ hS1 => k H1 locs1 ls (by rw [k_set_a hs1 (by decide)] at hP1; exact hP1) hS1 hl)
end KCL
theorem k_Met_of {l : Launch} {y : MethodName} {b : ByteArray} {n fr lo : Nat} {ret : Option FieldType} {G : Gx} {sh : List Sh} {av : List Value} {M : Mem} {Q : Array Value → State → Outcome → State → Prop} (hy : plainName y.cls = true) (hap : k_ap G sh.length) (hlen : (lg_sl av).length ≤ n)
    (body : ∀ (p : Program) (e : Env) (s : State) (m : MethodId) (args : Array Value) (below : List Frame) (meth : Method) (c : Code), Cx p s m args c b y.cls n G sh → meth.sig.returnType = ret → meth.locks = false → K p l e (k_rm fr lo) s m args below meth c n G sh (MQ below Q args s 0 0 (k_A G sh.length)) 0 (lv_args 0 av) [] M) : k_Met l y b n ret fr lo G sh av M Q := by
  refine Met.ofW (cc := b) (maxL := n) (ret := ret) hy rfl ?_
  intro p e s m args below meth c s₁ B hml hv
  obtain ⟨rfl, hP, hK, hN⟩ := hv
  have hts := atoms_spec (ws := k_ws1 y b n ret) B.pre
  have C : Cx p s m av.toArray c b y.cls n G sh := ⟨B.exec, B.bytes, hml, findClass_of_methodNamed B.named, fun w hw => hts w (List.mem_cons_of_mem _ hw), hK, hN, hap⟩
  have hl := lv_entry av hlen
  rw [lg_entry_eq]
  exact body p e s m _ below meth c C B.returns B.notSynchronized s.heap [] _ hP va_S.rf hl
/-! what comes of 'some' -/
theorem bnd {α β : Type} {o : Option α} {k : α → Option β} {r : β} (h : o.bind k = some r) : ∃ x, o = some x ∧ k x = some r := Option.bind_eq_some_iff.mp h
theorem ite_s {P : Prop} [Decidable P] {α : Type} {a b : Option α} {r : α} (h : (if P then a else b) = some r) : (P ∧ a = some r) ∨ (¬ P ∧ b = some r) := by
  by_cases hP : P
  · rw [if_pos hP] at h; exact Or.inl ⟨hP, h⟩
  · rw [if_neg hP] at h; exact Or.inr ⟨hP, h⟩
theorem i_ne {x y : Int32} (h : ¬ x = y) : x.toInt ≠ y.toInt := fun q => h (Int32.toInt_inj.mp q)
end
section
/-! what the printed walks stand on: shapes of the two worlds, rows in the words of the functions -/
def FU : Nat := 100000
def jshl (x y : Int32) : Int32 := x <<< (y &&& 31)
def jshr (x y : Int32) : Int32 := x >>> (y &&& 31)
def jushr (x y : Int32) : Int32 := (x.toUInt32 >>> (y.toUInt32 &&& Int32.toUInt32 31)).toInt32
def jrm (x y : Int32) : Int32 := x - x / y * y
def bp {α β γ : Type} (p : α × β) (f : α → β → γ) : γ := f p.1 p.2
theorem bp_s {α β γ : Type} {a : α} {b : β} {f : α → β → γ} {r : γ} (h : bp (a, b) f = r) : f a b = r := h
theorem gZ0 : gZ 0 = some 0 := rfl
theorem gZ1 : gZ 1 = some 1 := rfl
theorem i_ne2 {x y : Int32} (h : ¬ x = y) {k : Int} (hk : y.toInt = k) : x.toInt ≠ k := hk ▸ i_ne h
section KR2
variable {p : Program} {l : Launch} {e : Env} {R : Room} {s : State} {m : MethodId} {args : Array Value} {below : List Frame} {meth : Method} {c : Code} {cc : ByteArray} {own : String} {nL : Nat} {G : Gx} {sh : List Sh} {Q : State → Prop} {pc : Nat} {lv lv' : List (Nat × Value)} {st : List Value} {M : Mem}
theorem k_geti (C : Cx p s m args c cc own nL G sh) {q ci j index : Nat} {fs : List (Option Nat)} (hs : sh[q]? = some (.inr (ci, fs))) (hj : fs[j]? = some none) (F : FL own index ci j) (d : decode cc pc = .ok (.getfield index, 3)) (k : K p l e R s m args below meth c nL G sh Q (pc + 3) lv (.int (M.1 q j) :: st) M) : K p l e R s m args below meth c nL G sh Q pc lv (.ref (G.2.1 q) :: st) M := k_get C hs hj F d k
theorem k_getr (C : Cx p s m args c cc own nL G sh) {q ci j index r : Nat} {fs : List (Option Nat)} (hs : sh[q]? = some (.inr (ci, fs))) (hj : fs[j]? = some (some r)) (F : FL own index ci j) (d : decode cc pc = .ok (.getfield index, 3)) (k : K p l e R s m args below meth c nL G sh Q (pc + 3) lv (.ref (G.2.1 r) :: st) M) : K p l e R s m args below meth c nL G sh Q pc lv (.ref (G.2.1 q) :: st) M := k_get C hs hj F d k
theorem k_ishlJ (C : Cx p s m args c cc own nL G sh) {x y : Int32} (d : decode cc pc = .ok (.ishl, 1)) (k : K p l e R s m args below meth c nL G sh Q (pc + 1) lv (.int (jshl x y) :: st) M) : K p l e R s m args below meth c nL G sh Q pc lv (.int y :: .int x :: st) M := k_ishl C d k
theorem k_ishrJ (C : Cx p s m args c cc own nL G sh) {x y : Int32} (d : decode cc pc = .ok (.ishr, 1)) (k : K p l e R s m args below meth c nL G sh Q (pc + 1) lv (.int (jshr x y) :: st) M) : K p l e R s m args below meth c nL G sh Q pc lv (.int y :: .int x :: st) M := k_ishr C d k
theorem k_iushrJ (C : Cx p s m args c cc own nL G sh) {x y : Int32} (d : decode cc pc = .ok (.iushr, 1)) (k : K p l e R s m args below meth c nL G sh Q (pc + 1) lv (.int (jushr x y) :: st) M) : K p l e R s m args below meth c nL G sh Q pc lv (.int y :: .int x :: st) M := k_iushr C d k
theorem k_iremJ (C : Cx p s m args c cc own nL G sh) {x y : Int32} (d : decode cc pc = .ok (.irem, 1)) (hn : ¬ y = 0) (k : K p l e R s m args below meth c nL G sh Q (pc + 1) lv (.int (jrm x y) :: st) M) : K p l e R s m args below meth c nL G sh Q pc lv (.int y :: .int x :: st) M := k_irem C d hn k
theorem k_idivO (C : Cx p s m args c cc own nL G sh) {x y z : Int32} (d : decode cc pc = .ok (.idiv, 1)) (h : dvI x y = some z) (k : K p l e R s m args below meth c nL G sh Q (pc + 1) lv (.int z :: st) M) : K p l e R s m args below meth c nL G sh Q pc lv (.int y :: .int x :: st) M := by
  unfold dvI at h
  split at h
  · cases h
  · next hn => cases h; exact k_idiv C d hn k
theorem k_iremO (C : Cx p s m args c cc own nL G sh) {x y z : Int32} (d : decode cc pc = .ok (.irem, 1)) (h : rmI x y = some z) (k : K p l e R s m args below meth c nL G sh Q (pc + 1) lv (.int z :: st) M) : K p l e R s m args below meth c nL G sh Q pc lv (.int y :: .int x :: st) M := by
  unfold rmI at h
  split at h
  · cases h
  · next hn => cases h; exact k_irem C d hn k
theorem k_ldivO (C : Cx p s m args c cc own nL G sh) {x y z : Int64} (d : decode cc pc = .ok (.ldiv, 1)) (h : dvL x y = some z) (k : K p l e R s m args below meth c nL G sh Q (pc + 1) lv (.long z :: st) M) : K p l e R s m args below meth c nL G sh Q pc lv (.long y :: .long x :: st) M := by
  unfold dvL at h
  split at h
  · cases h
  · next hn => cases h; exact k_ldiv C d hn k
theorem k_lremO (C : Cx p s m args c cc own nL G sh) {x y z : Int64} (d : decode cc pc = .ok (.lrem, 1)) (h : rmL x y = some z) (k : K p l e R s m args below meth c nL G sh Q (pc + 1) lv (.long z :: st) M) : K p l e R s m args below meth c nL G sh Q pc lv (.long y :: .long x :: st) M := by
  unfold rmL at h
  split at h
  · cases h
  · next hn => cases h; exact k_lrem C d hn k
end KR2
def shC : List Sh := [.inr (11, [some 1, some 6, none, some 11, some 16, some 23, some 25, some 28, some 32, some 34, some 36, some 41, some 42, some 43]), .inr (0, [some 2, some 3, some 4, some 5, none, none, none, none]), .inl (0, 8), .inl (0, 8), .inl (0, 8), .inl (0, 12), .inr (0, [some 7, some 8, some 9, some 10, none, none, none, none]), .inl (0, 8), .inl (0, 8), .inl (0, 8), .inl (0, 12), .inr (10, [some 12, some 13, some 14, some 15, none]), .inl (0, 8), .inl (0, 8), .inl (0, 8), .inl (0, 8), .inr (1, [some 17, some 18, none]), .inl (0, 96), .inr (0, [some 19, some 20, some 21, some 22, none, none, none, none]), .inl (0, 8), .inl (0, 8), .inl (0, 8), .inl (0, 12), .inr (9, [some 24, none]), .inl (0, 12), .inr (8, [some 1, some 26, some 27]), .inl (0, 8), .inl (0, 8), .inr (3, [some 1, some 25, some 29, some 30, some 31]), .inl (0, 12), .inl (0, 12), .inl (0, 12), .inr (7, [some 1, some 25, some 23, some 33]), .inl (0, 288), .inr (6, [some 1, some 25, some 35]), .inl (0, 256), .inr (2, [some 1, some 25, some 37, some 38, some 39, some 40]), .inl (0, 256), .inl (2, 256), .inl (1, 81), .inl (1, 81), .inr (5, [some 1, some 25]), .inr (4, [some 1, some 25]), .inl (0, 7)]
theorem shC_0 : shC[0]? = some (.inr (11, [some 1, some 6, none, some 11, some 16, some 23, some 25, some 28, some 32, some 34, some 36, some 41, some 42, some 43])) := rfl
theorem shC_1 : shC[1]? = some (.inr (0, [some 2, some 3, some 4, some 5, none, none, none, none])) := rfl
theorem shC_2 : shC[2]? = some (.inl (0, 8)) := rfl
theorem shC_3 : shC[3]? = some (.inl (0, 8)) := rfl
theorem shC_4 : shC[4]? = some (.inl (0, 8)) := rfl
theorem shC_5 : shC[5]? = some (.inl (0, 12)) := rfl
theorem shC_6 : shC[6]? = some (.inr (0, [some 7, some 8, some 9, some 10, none, none, none, none])) := rfl
theorem shC_7 : shC[7]? = some (.inl (0, 8)) := rfl
theorem shC_8 : shC[8]? = some (.inl (0, 8)) := rfl
theorem shC_9 : shC[9]? = some (.inl (0, 8)) := rfl
theorem shC_10 : shC[10]? = some (.inl (0, 12)) := rfl
theorem shC_11 : shC[11]? = some (.inr (10, [some 12, some 13, some 14, some 15, none])) := rfl
theorem shC_12 : shC[12]? = some (.inl (0, 8)) := rfl
theorem shC_13 : shC[13]? = some (.inl (0, 8)) := rfl
theorem shC_14 : shC[14]? = some (.inl (0, 8)) := rfl
theorem shC_15 : shC[15]? = some (.inl (0, 8)) := rfl
theorem shC_16 : shC[16]? = some (.inr (1, [some 17, some 18, none])) := rfl
theorem shC_17 : shC[17]? = some (.inl (0, 96)) := rfl
theorem shC_18 : shC[18]? = some (.inr (0, [some 19, some 20, some 21, some 22, none, none, none, none])) := rfl
theorem shC_19 : shC[19]? = some (.inl (0, 8)) := rfl
theorem shC_20 : shC[20]? = some (.inl (0, 8)) := rfl
theorem shC_21 : shC[21]? = some (.inl (0, 8)) := rfl
theorem shC_22 : shC[22]? = some (.inl (0, 12)) := rfl
theorem shC_23 : shC[23]? = some (.inr (9, [some 24, none])) := rfl
theorem shC_24 : shC[24]? = some (.inl (0, 12)) := rfl
theorem shC_25 : shC[25]? = some (.inr (8, [some 1, some 26, some 27])) := rfl
theorem shC_26 : shC[26]? = some (.inl (0, 8)) := rfl
theorem shC_27 : shC[27]? = some (.inl (0, 8)) := rfl
theorem shC_28 : shC[28]? = some (.inr (3, [some 1, some 25, some 29, some 30, some 31])) := rfl
theorem shC_29 : shC[29]? = some (.inl (0, 12)) := rfl
theorem shC_30 : shC[30]? = some (.inl (0, 12)) := rfl
theorem shC_31 : shC[31]? = some (.inl (0, 12)) := rfl
theorem shC_32 : shC[32]? = some (.inr (7, [some 1, some 25, some 23, some 33])) := rfl
theorem shC_33 : shC[33]? = some (.inl (0, 288)) := rfl
theorem shC_34 : shC[34]? = some (.inr (6, [some 1, some 25, some 35])) := rfl
theorem shC_35 : shC[35]? = some (.inl (0, 256)) := rfl
theorem shC_36 : shC[36]? = some (.inr (2, [some 1, some 25, some 37, some 38, some 39, some 40])) := rfl
theorem shC_37 : shC[37]? = some (.inl (0, 256)) := rfl
theorem shC_38 : shC[38]? = some (.inl (2, 256)) := rfl
theorem shC_39 : shC[39]? = some (.inl (1, 81)) := rfl
theorem shC_40 : shC[40]? = some (.inl (1, 81)) := rfl
theorem shC_41 : shC[41]? = some (.inr (5, [some 1, some 25])) := rfl
theorem shC_42 : shC[42]? = some (.inr (4, [some 1, some 25])) := rfl
theorem shC_43 : shC[43]? = some (.inl (0, 7)) := rfl
def shR : List Sh := [.inr (12, [some 1, some 2, some 3, some 4, some 5, none, none, none, none, some 6, some 7, some 8, some 9, none, none, none, some 10, none, none, none, none, some 11, some 12, some 13, none, some 14, some 15, some 16, some 17]), .inl (0, 7), .inl (0, 8), .inl (0, 8), .inl (0, 8), .inl (0, 12), .inl (0, 96), .inl (0, 48), .inl (0, 48), .inl (0, 144), .inl (0, 480), .inl (0, 256), .inl (0, 256), .inl (0, 12), .inl (0, 36), .inl (1, 81), .inl (1, 81), .inl (0, 8)]
theorem shR_0 : shR[0]? = some (.inr (12, [some 1, some 2, some 3, some 4, some 5, none, none, none, none, some 6, some 7, some 8, some 9, none, none, none, some 10, none, none, none, none, some 11, some 12, some 13, none, some 14, some 15, some 16, some 17])) := rfl
theorem shR_1 : shR[1]? = some (.inl (0, 7)) := rfl
theorem shR_2 : shR[2]? = some (.inl (0, 8)) := rfl
theorem shR_3 : shR[3]? = some (.inl (0, 8)) := rfl
theorem shR_4 : shR[4]? = some (.inl (0, 8)) := rfl
theorem shR_5 : shR[5]? = some (.inl (0, 12)) := rfl
theorem shR_6 : shR[6]? = some (.inl (0, 96)) := rfl
theorem shR_7 : shR[7]? = some (.inl (0, 48)) := rfl
theorem shR_8 : shR[8]? = some (.inl (0, 48)) := rfl
theorem shR_9 : shR[9]? = some (.inl (0, 144)) := rfl
theorem shR_10 : shR[10]? = some (.inl (0, 480)) := rfl
theorem shR_11 : shR[11]? = some (.inl (0, 256)) := rfl
theorem shR_12 : shR[12]? = some (.inl (0, 256)) := rfl
theorem shR_13 : shR[13]? = some (.inl (0, 12)) := rfl
theorem shR_14 : shR[14]? = some (.inl (0, 36)) := rfl
theorem shR_15 : shR[15]? = some (.inl (1, 81)) := rfl
theorem shR_16 : shR[16]? = some (.inl (1, 81)) := rfl
theorem shR_17 : shR[17]? = some (.inl (0, 8)) := rfl
def BD (b : Nat) : Prop := shC[b]? = some (.inr (0, [some (b + 1), some (b + 2), some (b + 3), some (b + 4), none, none, none, none])) ∧ shC[b + 1]? = some (.inl (0, 8)) ∧ shC[b + 2]? = some (.inl (0, 8)) ∧ shC[b + 3]? = some (.inl (0, 8)) ∧ shC[b + 4]? = some (.inl (0, 12))
theorem BD_1 : BD 1 := ⟨rfl, rfl, rfl, rfl, rfl⟩
theorem BD_6 : BD 6 := ⟨rfl, rfl, rfl, rfl, rfl⟩
theorem BD_18 : BD 18 := ⟨rfl, rfl, rfl, rfl, rfl⟩
end
section
/-! the methods as functions of the store, printed by a program of mine out of their bytecode -/
def f_X0_setLaw (b : Nat) (v1 : Int32) (v2 : Int32) (M0 : Mem) : Option Mem := some (wI (wI M0 b 6 v1) b 7 v2)
def f_X0_become (b : Nat) (b2 : Nat) (M0 : Mem) : Option Mem := (cpI M0 (b2 + 1) 8 (b + 1) 8 (0 : Int32) (0 : Int32) (8 : Int32)).bind fun M1 => (cpI M1 (b2 + 2) 8 (b + 2) 8 (0 : Int32) (0 : Int32) (8 : Int32)).bind fun M2 => (cpI M2 (b2 + 3) 8 (b + 3) 8 (0 : Int32) (0 : Int32) (8 : Int32)).bind fun M3 => (cpI M3 (b2 + 4) 12 (b + 4) 12 (0 : Int32) (0 : Int32) (12 : Int32)).bind fun M4 => (f_X0_setLaw b ((wI (wI M4 b 4 (M4.1 b2 4)) b 5 ((wI M4 b 4 (M4.1 b2 4)).1 b2 5)).1 b2 6) ((wI (wI M4 b 4 (M4.1 b2 4)) b 5 ((wI M4 b 4 (M4.1 b2 4)).1 b2 5)).1 b2 7) (wI (wI M4 b 4 (M4.1 b2 4)) b 5 ((wI M4 b 4 (M4.1 b2 4)).1 b2 5))).bind fun M5 => some M5
def f_X0_hasDoing (b : Nat) (v1 : Int32) (M0 : Mem) : Int32 := (if v1 < 0 then (0 : Int32) else (if (M0.1 b 4) ≤ v1 then (0 : Int32) else (1 : Int32)))
def f_X0_hasPlace (b : Nat) (v1 : Int32) (M0 : Mem) : Int32 := (if v1 < 0 then (0 : Int32) else (if (M0.1 b 5) ≤ v1 then (0 : Int32) else (1 : Int32)))
def f_X0_hasRoomForDoing (b : Nat) (M0 : Mem) : Int32 := (if (8 : Int32) ≤ (M0.1 b 4) then (0 : Int32) else (1 : Int32))
def f_X0_hasRoomForPlace (b : Nat) (M0 : Mem) : Int32 := (if (12 : Int32) ≤ (M0.1 b 5) then (0 : Int32) else (1 : Int32))
def f_X0_setKind (b : Nat) (v1 : Int32) (v2 : Int32) (v3 : Int32) (M0 : Mem) : Option Mem := (stI M0 (b + 1) 8 v1 v2).bind fun M1 => (stI M1 (b + 2) 8 v1 v3).bind fun M2 => some M2
def f_X0_addDoing (b : Nat) (v1 : Int32) (v2 : Int32) (v3 : Int32) (M0 : Mem) : Option (Int32 × Mem) := (if (f_X0_hasRoomForDoing b M0) = 0 then some ((-6 : Int32), M0) else (f_X0_setKind b (M0.1 b 4) v1 v2 (wI M0 b 4 ((M0.1 b 4) + (1 : Int32)))).bind fun M2 => (stI M2 (b + 3) 8 (M0.1 b 4) v3).bind fun M3 => some ((M0.1 b 4), M3))
def f_X0_addPlace (b : Nat) (v1 : Int32) (M0 : Mem) : Option Mem := (if (f_X0_hasRoomForPlace b M0) = 0 then some M0 else (stI (wI M0 b 5 ((M0.1 b 5) + (1 : Int32))) (b + 4) 12 (M0.1 b 5) v1).bind fun M2 => some M2)
def f_X0_flipMark (b : Nat) (v1 : Int32) (v2 : Int32) (M0 : Mem) : Option Mem := (ldI M0 (b + 3) 8 v1).bind fun t1 => (stI M0 (b + 3) 8 v1 (t1 ^^^ (jshl (1 : Int32) v2))).bind fun M2 => some M2
def f_J6_bitCount_0f7a4 (v0 : Int32) : Int32 := ((((((((v0 - ((jushr v0 (1 : Int32)) &&& (1431655765 : Int32))) &&& (858993459 : Int32)) + ((jushr (v0 - ((jushr v0 (1 : Int32)) &&& (1431655765 : Int32))) (2 : Int32)) &&& (858993459 : Int32))) + (jushr (((v0 - ((jushr v0 (1 : Int32)) &&& (1431655765 : Int32))) &&& (858993459 : Int32)) + ((jushr (v0 - ((jushr v0 (1 : Int32)) &&& (1431655765 : Int32))) (2 : Int32)) &&& (858993459 : Int32))) (4 : Int32))) &&& (252645135 : Int32)) + (jushr (((((v0 - ((jushr v0 (1 : Int32)) &&& (1431655765 : Int32))) &&& (858993459 : Int32)) + ((jushr (v0 - ((jushr v0 (1 : Int32)) &&& (1431655765 : Int32))) (2 : Int32)) &&& (858993459 : Int32))) + (jushr (((v0 - ((jushr v0 (1 : Int32)) &&& (1431655765 : Int32))) &&& (858993459 : Int32)) + ((jushr (v0 - ((jushr v0 (1 : Int32)) &&& (1431655765 : Int32))) (2 : Int32)) &&& (858993459 : Int32))) (4 : Int32))) &&& (252645135 : Int32)) (8 : Int32))) + (jushr ((((((v0 - ((jushr v0 (1 : Int32)) &&& (1431655765 : Int32))) &&& (858993459 : Int32)) + ((jushr (v0 - ((jushr v0 (1 : Int32)) &&& (1431655765 : Int32))) (2 : Int32)) &&& (858993459 : Int32))) + (jushr (((v0 - ((jushr v0 (1 : Int32)) &&& (1431655765 : Int32))) &&& (858993459 : Int32)) + ((jushr (v0 - ((jushr v0 (1 : Int32)) &&& (1431655765 : Int32))) (2 : Int32)) &&& (858993459 : Int32))) (4 : Int32))) &&& (252645135 : Int32)) + (jushr (((((v0 - ((jushr v0 (1 : Int32)) &&& (1431655765 : Int32))) &&& (858993459 : Int32)) + ((jushr (v0 - ((jushr v0 (1 : Int32)) &&& (1431655765 : Int32))) (2 : Int32)) &&& (858993459 : Int32))) + (jushr (((v0 - ((jushr v0 (1 : Int32)) &&& (1431655765 : Int32))) &&& (858993459 : Int32)) + ((jushr (v0 - ((jushr v0 (1 : Int32)) &&& (1431655765 : Int32))) (2 : Int32)) &&& (858993459 : Int32))) (4 : Int32))) &&& (252645135 : Int32)) (8 : Int32))) (16 : Int32))) &&& (63 : Int32))
def f_X0_areAlike (b : Nat) (v1 : Int32) (v2 : Int32) (v3 : Int32) (v4 : Int32) (M0 : Mem) : Option Int32 := (if v1 = v2 then some (1 : Int32) else (if v3 = (0 : Int32) then (ldI M0 (b + 3) 8 v1).bind fun t3 => (ldI M0 (b + 3) 8 v2).bind fun t4 => (if t3 = t4 then some (1 : Int32) else some (0 : Int32)) else (if v3 = (1 : Int32) then (ldI M0 (b + 1) 8 v1).bind fun t7 => (ldI M0 (b + 1) 8 v2).bind fun t8 => (if t7 = t8 then some (1 : Int32) else some (0 : Int32)) else (if v3 = (2 : Int32) then (ldI M0 (b + 3) 8 v1).bind fun t11 => (ldI M0 (b + 3) 8 v2).bind fun t12 => (if (f_J6_bitCount_0f7a4 (t11 &&& t12)) < v4 then some (0 : Int32) else some (1 : Int32)) else (ldI M0 (b + 3) 8 v1).bind fun t14 => (ldI M0 (b + 3) 8 v2).bind fun t15 => (if v4 < (f_J6_bitCount_0f7a4 (t14 ^^^ t15)) then some (0 : Int32) else some (1 : Int32))))))
def f_X0_dueFor (b : Nat) (v1 : Int32) (v2 : Int32) (M0 : Mem) : Option Int32 := (ldI M0 (b + 2) 8 v1).bind fun t1 => (ldI M0 (b + 1) 8 v1).bind fun t2 => (if t2 = (1 : Int32) then some (((t1 + (1 : Int32)) * v2) / (2 : Int32)) else (if t2 = (2 : Int32) then some ((2 : Int32) * ((t1 + (1 : Int32)) * v2)) else (if t2 = (3 : Int32) then some (0 : Int32) else (if t2 = (4 : Int32) then (if v2 ≤ 0 then some (0 : Int32) else (ldI M0 (b + 2) 8 v1).bind fun t8 => some (((2 : Int32) * (t8 + (1 : Int32))) * (v2 - (1 : Int32)))) else (if t2 = (5 : Int32) then (if v2 ≤ 0 then some (0 : Int32) else some ((((t1 + (1 : Int32)) * v2) / (2 : Int32)) + (3 : Int32))) else some ((t1 + (1 : Int32)) * v2))))))
def f_X1_add (v1 : Int32) (M0 : Mem) : Option (Int32 × Mem) := (if (96 : Int32) ≤ (M0.1 16 2) then some ((M0.1 16 2), M0) else (stI (wI M0 16 2 ((M0.1 16 2) + (1 : Int32))) 17 96 (M0.1 16 2) v1).bind fun M2 => some ((M2.1 16 2), M2))
def f_X1_letterAt (v1 : Int32) (M0 : Mem) : Option Int32 := (if v1 < 0 then some (-1 : Int32) else (if (M0.1 16 2) ≤ v1 then some (-1 : Int32) else (ldI M0 17 96 v1).bind fun t3 => some t3))
def f_X1_digitsBehind (v0 : Int32) : Int32 := (if v0 = (100 : Int32) then (5 : Int32) else (if v0 = (108 : Int32) then (2 : Int32) else (if v0 = (109 : Int32) then (2 : Int32) else (if v0 = (111 : Int32) then (1 : Int32) else (if v0 = (120 : Int32) then (0 : Int32) else (-1 : Int32))))))
def f_X1_isDigit (v0 : Int32) : Int32 := (if v0 < (48 : Int32) then (0 : Int32) else (if (57 : Int32) < v0 then (0 : Int32) else (1 : Int32)))
def f_X1_firstWithoutForm_b26 (M0 : Mem) (k2 : Int32 → Option Int32) : Nat → Int32 → Int32 → Option Int32
  | 0, _, _ => none
  | n26 + 1, v1, v3 => (if v3 ≤ v1 then (f_X1_letterAt v1 M0).bind fun t4 => (if t4 = (59 : Int32) then (if (v1 + (1 : Int32)) < (M0.1 16 2) then k2 (v1 + (1 : Int32)) else some (-1 : Int32)) else some v1) else (f_X1_letterAt v1 M0).bind fun t7 => (if (f_X1_isDigit t7) = 0 then some v1 else (f_X1_firstWithoutForm_b26 M0 k2 n26) (v1 + (1 : Int32)) v3))
def f_X1_firstWithoutForm_b2 (M0 : Mem) : Nat → Int32 → Option Int32
  | 0, _ => none
  | n2 + 1, v1 => (f_X1_letterAt v1 M0).bind fun t1 => (if 0 ≤ (f_X1_digitsBehind t1) then f_X1_firstWithoutForm_b26 M0 (f_X1_firstWithoutForm_b2 M0 n2) FU (v1 + (1 : Int32)) ((v1 + (1 : Int32)) + (f_X1_digitsBehind t1)) else some v1)
def f_X1_firstWithoutForm (M0 : Mem) : Option Int32 := f_X1_firstWithoutForm_b2 M0 FU (0 : Int32)
def f_X1_digitAt (v1 : Int32) (M0 : Mem) : Option Int32 := (f_X1_letterAt v1 M0).bind fun t1 => (if (f_X1_isDigit t1) = 0 then some (0 : Int32) else some (t1 - (48 : Int32)))
def f_X11_isKind (v0 : Int32) : Int32 := (if v0 < 0 then (0 : Int32) else (if (6 : Int32) ≤ v0 then (0 : Int32) else (1 : Int32)))
def f_X1_comesDoing (v1 : Int32) (v2 : Int32) (v3 : Int32) (M0 : Mem) : Option (Int32 × Mem) := (if (f_X11_isKind v1) = 0 then some ((0 : Int32), M0) else (if (255 : Int32) < v3 then some ((0 : Int32), M0) else (if (f_X0_hasRoomForDoing 18 M0) = 0 then some ((0 : Int32), M0) else (f_X0_addDoing 18 v1 v2 v3 M0).bind fun pt4 => bp pt4 fun t4 M4 => some ((1 : Int32), M4))))
def f_X1_comesDone (v1 : Int32) (M0 : Mem) : Option (Int32 × Mem) := (if (f_X0_hasDoing 18 v1 M0) = 0 then some ((0 : Int32), M0) else (if (f_X0_hasRoomForPlace 18 M0) = 0 then some ((0 : Int32), M0) else (f_X0_addPlace 18 v1 M0).bind fun M3 => some ((1 : Int32), M3)))
def f_X11_isType (v0 : Int32) : Int32 := (if v0 < 0 then (0 : Int32) else (if (4 : Int32) ≤ v0 then (0 : Int32) else (1 : Int32)))
def f_X1_comesLaw (v1 : Int32) (v2 : Int32) (M0 : Mem) : Option (Int32 × Mem) := (if (f_X11_isType v1) = 0 then some ((0 : Int32), M0) else (if v2 ≤ (8 : Int32) then (f_X0_setLaw 18 v1 v2 M0).bind fun M3 => some ((1 : Int32), M3) else some ((0 : Int32), M0)))
def f_X11_isMark (v0 : Int32) : Int32 := (if v0 < 0 then (0 : Int32) else (if (8 : Int32) ≤ v0 then (0 : Int32) else (1 : Int32)))
def f_X1_comesMark (v1 : Int32) (v2 : Int32) (M0 : Mem) : Option (Int32 × Mem) := (if (f_X0_hasDoing 18 v1 M0) = 0 then some ((0 : Int32), M0) else (if (f_X11_isMark v2) = 0 then some ((0 : Int32), M0) else (f_X0_flipMark 18 v1 v2 M0).bind fun M3 => some ((1 : Int32), M3)))
def f_X1_comes (v1 : Int32) (M0 : Mem) : Option (Int32 × Mem) := (f_X1_digitAt (v1 + (1 : Int32)) M0).bind fun t1 => (f_X1_digitAt (v1 + (2 : Int32)) M0).bind fun t2 => (f_X1_letterAt v1 M0).bind fun t3 => (if t3 = (100 : Int32) then (f_X1_digitAt (v1 + (3 : Int32)) M0).bind fun t5 => (f_X1_digitAt (v1 + (4 : Int32)) M0).bind fun t6 => (f_X1_digitAt (v1 + (5 : Int32)) M0).bind fun t7 => (f_X1_comesDoing t1 t2 ((((100 : Int32) * t5) + ((10 : Int32) * t6)) + t7) M0).bind fun pt8 => bp pt8 fun t8 M8 => (gZ t8).bind fun t9 => some (t9, M8) else (if t3 = (108 : Int32) then (f_X1_comesLaw t1 t2 M0).bind fun pt11 => bp pt11 fun t11 M11 => (gZ t11).bind fun t12 => some (t12, M11) else (if t3 = (109 : Int32) then (f_X1_comesMark t1 t2 M0).bind fun pt14 => bp pt14 fun t14 M14 => (gZ t14).bind fun t15 => some (t15, M14) else (if t3 = (111 : Int32) then (f_X1_comesDone t1 M0).bind fun pt17 => bp pt17 fun t17 M17 => (gZ t17).bind fun t18 => some (t18, M17) else some ((1 : Int32), (wI M0 18 5 (0 : Int32)))))))
def f_X1_hear_b28 : Nat → Int32 → Int32 → Mem → Option (Int32 × Mem)
  | 0, _, _, _ => none
  | n28 + 1, v3, v4, M => (if (M.1 16 2) ≤ v4 then (f_X0_become 1 18 M).bind fun M5 => some (v3, M5) else (f_X1_comes v4 M).bind fun pt6 => bp pt6 fun t6 M6 => (if t6 = 0 then some (((-2000 : Int32) - v4), M6) else (ldI M6 17 96 v4).bind fun t8 => (f_X1_hear_b28 n28) (v3 + (1 : Int32)) (v4 + ((2 : Int32) + (f_X1_digitsBehind t8))) M6))
def f_X1_hear (M0 : Mem) : Option (Int32 × Mem) := (f_X1_firstWithoutForm M0).bind fun t1 => (if t1 < 0 then (f_X0_become 18 1 M0).bind fun M3 => f_X1_hear_b28 FU (0 : Int32) (0 : Int32) M3 else some (((-1000 : Int32) - t1), M0))
def f_X1_tell (M0 : Mem) : Option (Int32 × Mem) := (f_X1_hear M0).bind fun pt1 => bp pt1 fun t1 M1 => some (t1, (wI M1 16 2 (0 : Int32)))
def f_X2_sets (M0 : Mem) : Int32 := (jshl (1 : Int32) (M0.1 1 4))
def f_X2_areApart_b2 (M0 : Mem) : Nat → Int32 → Int32 → Option Int32
  | 0, _, _ => none
  | n2 + 1, v1, v2 => (if (M0.1 1 4) ≤ v2 then some (1 : Int32) else (if ((jshr v1 v2) &&& (1 : Int32)) = 0 then (f_X2_areApart_b2 M0 n2) v1 (v2 + (1 : Int32)) else (ldI M0 26 8 v2).bind fun t3 => (if (t3 &&& v1) = (jshl (1 : Int32) v2) then (f_X2_areApart_b2 M0 n2) v1 (v2 + (1 : Int32)) else some (0 : Int32))))
def f_X2_areApart (v1 : Int32) (M0 : Mem) : Option Int32 := f_X2_areApart_b2 M0 FU v1 (0 : Int32)
def f_J7_fill_53178_b5 (q : Nat) (n : Nat) : Nat → Int32 → Int32 → Int32 → Mem → Option Mem
  | 0, _, _, _, _ => none
  | n5 + 1, v1, v2, v3, M => (if v3 ≤ v2 then some M else (stI M q n v2 v1).bind fun M2 => (f_J7_fill_53178_b5 q n n5) v1 (v2 + (1 : Int32)) v3 M2)
def f_J7_fill_53178 (q : Nat) (n : Nat) (v1 : Int32) (M0 : Mem) : Option Mem := f_J7_fill_53178_b5 q n FU v1 (0 : Int32) (nI n) M0
def f_X8_forgetSteps (M0 : Mem) : Option Mem := (f_J7_fill_53178 27 8 (0 : Int32) M0).bind fun M1 => some M1
def f_X8_openBy_b25 (k2 : Int32 → Int32 → Int32 → Mem → Option Mem) : Nat → Int32 → Int32 → Int32 → Int32 → Mem → Option Mem
  | 0, _, _, _, _, _ => none
  | n25 + 1, v1, v2, v3, v4, M => (if v3 ≤ v4 then k2 v1 v2 (v3 + (1 : Int32)) M else (f_X0_areAlike 1 v3 v4 v1 v2 M).bind fun t6 => (if t6 = 0 then (f_X8_openBy_b25 k2 n25) v1 v2 v3 (v4 + (1 : Int32)) M else (ldI M 26 8 v3).bind fun t8 => (stI M 26 8 v3 (t8 ||| (jshl (1 : Int32) v4))).bind fun M9 => (ldI M9 26 8 v4).bind fun t10 => (stI M9 26 8 v4 (t10 ||| (jshl (1 : Int32) v3))).bind fun M11 => (f_X8_openBy_b25 k2 n25) v1 v2 v3 (v4 + (1 : Int32)) M11))
def f_X8_openBy_b2 : Nat → Int32 → Int32 → Int32 → Mem → Option Mem
  | 0, _, _, _, _ => none
  | n2 + 1, v1, v2, v3, M => (if (M.1 1 4) ≤ v3 then (f_X8_forgetSteps M).bind fun M2 => some M2 else (stI M 26 8 v3 (jshl (1 : Int32) v3)).bind fun M3 => f_X8_openBy_b25 (f_X8_openBy_b2 n2) FU v1 v2 v3 (0 : Int32) M3)
def f_X8_openBy (v1 : Int32) (v2 : Int32) (M0 : Mem) : Option Mem := f_X8_openBy_b2 FU v1 v2 (0 : Int32) M0
def f_X8_open (M0 : Mem) : Option Mem := (f_X8_openBy (M0.1 1 6) (M0.1 1 7) M0).bind fun M1 => some M1
def f_X2_mostApart_b11 : Nat → Int32 → Int32 → Mem → Option (Int32 × Mem)
  | 0, _, _, _ => none
  | n11 + 1, v1, v2, M => (if (f_X2_sets M) ≤ v2 then some (v1, M) else (if (f_J6_bitCount_0f7a4 v2) ≤ (f_J6_bitCount_0f7a4 v1) then (f_X2_mostApart_b11 n11) v1 (v2 + (1 : Int32)) M else (f_X2_areApart v2 M).bind fun t5 => (if t5 = 0 then (f_X2_mostApart_b11 n11) v1 (v2 + (1 : Int32)) M else (f_X2_mostApart_b11 n11) v2 (v2 + (1 : Int32)) M)))
def f_X2_mostApart (M0 : Mem) : Option (Int32 × Mem) := (f_X8_open M0).bind fun M1 => f_X2_mostApart_b11 FU (0 : Int32) (1 : Int32) M1
def f_X2_fewestFor_b5 (M0 : Mem) : Nat → Int32 → Int32 → Int32 → Option Int32
  | 0, _, _, _ => none
  | n5 + 1, v1, v2, v3 => (if v3 ≤ 0 then some v2 else (ldI M0 38 256 v3).bind fun t2 => (if t2 = 0 then (f_X2_fewestFor_b5 M0 n5) v1 v2 ((v3 - (1 : Int32)) &&& v1) else (ldI M0 37 256 (v1 &&& (v3 ^^^ (-1 : Int32)))).bind fun t4 => (f_X2_fewestFor_b5 M0 n5) v1 (mnI v2 (t4 + (1 : Int32))) ((v3 - (1 : Int32)) &&& v1)))
def f_X2_fewestFor (v1 : Int32) (M0 : Mem) : Option Int32 := f_X2_fewestFor_b5 M0 FU v1 (8 : Int32) v1
def f_X2_fewestPeople_b16 : Nat → Int32 → Mem → Option (Int32 × Mem)
  | 0, _, _ => none
  | n16 + 1, v1, M => (if (f_X2_sets M) ≤ v1 then (ldI M 37 256 ((f_X2_sets M) - (1 : Int32))).bind fun t5 => some (t5, M) else (f_X2_areApart v1 M).bind fun t6 => (stZ M 38 256 v1 t6).bind fun M7 => (f_X2_fewestFor v1 M7).bind fun t8 => (stI M7 37 256 v1 t8).bind fun M9 => (f_X2_fewestPeople_b16 n16) (v1 + (1 : Int32)) M9)
def f_X2_fewestPeople (M0 : Mem) : Option (Int32 × Mem) := (f_X8_open M0).bind fun M1 => (stI M1 37 256 (0 : Int32) (0 : Int32)).bind fun M2 => f_X2_fewestPeople_b16 FU (1 : Int32) M2
def f_X2_tiesOf (v1 : Int32) (M0 : Mem) : Option Int32 := (ldI M0 26 8 v1).bind fun t1 => some ((f_J6_bitCount_0f7a4 t1) - (1 : Int32))
def f_X2_likesOf (v1 : Int32) (M0 : Mem) : Option (Int32 × Mem) := (f_X8_open M0).bind fun M1 => (f_X2_tiesOf v1 M1).bind fun t2 => some (t2, M1)
def f_X2_withMostLikes_b14 : Nat → Int32 → Int32 → Int32 → Mem → Option (Int32 × Mem)
  | 0, _, _, _, _ => none
  | n14 + 1, v1, v2, v3, M => (if (M.1 1 4) ≤ v3 then some (v1, M) else (f_X2_tiesOf v3 M).bind fun t4 => (if t4 ≤ v2 then (f_X2_withMostLikes_b14 n14) v1 v2 (v3 + (1 : Int32)) M else (f_X2_withMostLikes_b14 n14) v3 t4 (v3 + (1 : Int32)) M))
def f_X2_withMostLikes (M0 : Mem) : Option (Int32 × Mem) := (f_X8_open M0).bind fun M1 => f_X2_withMostLikes_b14 FU (-9 : Int32) (-1 : Int32) (0 : Int32) M1
def f_X2_spread_b4 (M0 : Mem) : Nat → Int32 → Int32 → Int32 → Option Int32
  | 0, _, _, _ => none
  | n4 + 1, v1, v2, v3 => (if (M0.1 1 4) ≤ v3 then some v2 else (if ((jshr v1 v3) &&& (1 : Int32)) = 0 then (f_X2_spread_b4 M0 n4) v1 v2 (v3 + (1 : Int32)) else (ldI M0 26 8 v3).bind fun t3 => (f_X2_spread_b4 M0 n4) v1 (v2 ||| t3) (v3 + (1 : Int32))))
def f_X2_spread (v1 : Int32) (M0 : Mem) : Option Int32 := f_X2_spread_b4 M0 FU v1 v1 (0 : Int32)
def f_X2_shortestChain_b14 : Nat → Int32 → Int32 → Int32 → Mem → Option (Int32 × Mem)
  | 0, _, _, _, _ => none
  | n14 + 1, v2, v3, v4, M => (if (M.1 1 4) < v4 then some ((-9 : Int32), M) else (if ((jshr v3 v2) &&& (1 : Int32)) = 0 then (f_X2_spread v3 M).bind fun t4 => (f_X2_shortestChain_b14 n14) v2 t4 (v4 + (1 : Int32)) M else some (v4, M)))
def f_X2_shortestChain (v1 : Int32) (v2 : Int32) (M0 : Mem) : Option (Int32 × Mem) := (f_X8_open M0).bind fun M1 => f_X2_shortestChain_b14 FU v2 (jshl (1 : Int32) v1) (1 : Int32) M1
def f_X2_heapOf_b6 (M0 : Mem) : Nat → Int32 → Int32 → Option Int32
  | 0, _, _ => none
  | n6 + 1, v2, v3 => (if (M0.1 1 4) ≤ v3 then some v2 else (f_X2_spread v2 M0).bind fun t3 => (f_X2_heapOf_b6 M0 n6) t3 (v3 + (1 : Int32)))
def f_X2_heapOf (v1 : Int32) (M0 : Mem) : Option Int32 := f_X2_heapOf_b6 M0 FU (jshl (1 : Int32) v1) (0 : Int32)
def f_X2_allHeaps_b17 : Nat → Int32 → Int32 → Int32 → Int32 → Int32 → Mem → Option (Int32 × Mem)
  | 0, _, _, _, _, _, _ => none
  | n17 + 1, v1, v2, v3, v4, v5, M => (if (M.1 1 4) ≤ v5 then (if v1 = 0 then some (v2, M) else some (v3, M)) else (if ((jshr v4 v5) &&& (1 : Int32)) = 0 then (f_X2_heapOf v5 M).bind fun t6 => (f_X2_allHeaps_b17 n17) v1 (v2 + (1 : Int32)) (mxI v3 (f_J6_bitCount_0f7a4 t6)) (v4 ||| t6) (v5 + (1 : Int32)) M else (f_X2_allHeaps_b17 n17) v1 v2 v3 v4 (v5 + (1 : Int32)) M))
def f_X2_allHeaps (v1 : Int32) (M0 : Mem) : Option (Int32 × Mem) := (f_X8_open M0).bind fun M1 => f_X2_allHeaps_b17 FU v1 (0 : Int32) (0 : Int32) (0 : Int32) (0 : Int32) M1
def f_J7_fill_d0a16_b6 (q : Nat) (n : Nat) : Nat → Int64 → Int32 → Int32 → Mem → Option Mem
  | 0, _, _, _, _ => none
  | n6 + 1, v1, v3, v4, M => (if v4 ≤ v3 then some M else (stL M q n v3 v1).bind fun M2 => (f_J7_fill_d0a16_b6 q n n6) v1 (v3 + (1 : Int32)) v4 M2)
def f_J7_fill_d0a16 (q : Nat) (n : Nat) (v1 : Int64) (M0 : Mem) : Option Mem := f_J7_fill_d0a16_b6 q n FU v1 (0 : Int32) (nI n) M0
def f_X2_mayFollow (v1 : Int32) (v2 : Int32) (M0 : Mem) : Option Int32 := (if v2 = (8 : Int32) then some (1 : Int32) else (ldI M0 26 8 v1).bind fun t2 => (if ((jshr t2 v2) &&& (1 : Int32)) = 0 then some (1 : Int32) else some (0 : Int32)))
def f_X2_lengthen_b89 (k10 : Int32 → Int32 → Mem → Option Mem) (k18 : Int32 → Int32 → Int32 → Mem → Option Mem) (k40 : Int32 → Int32 → Int32 → Int64 → Int32 → Mem → Option Mem) (v1 : Int32) (v2 : Int32) (v3 : Int32) (v4 : Int64) (v6 : Int32) (M : Mem) : Option Mem := (ldL M 40 81 ((v3 * (9 : Int32)) + v6)).bind fun t10 => (stL M 40 81 ((v3 * (9 : Int32)) + v6) (t10 + v4)).bind fun M11 => k40 v1 v2 v3 v4 (v6 + (1 : Int32)) M11
def f_X2_lengthen_b74 (k10 : Int32 → Int32 → Mem → Option Mem) (k18 : Int32 → Int32 → Int32 → Mem → Option Mem) (k40 : Int32 → Int32 → Int32 → Int64 → Int32 → Mem → Option Mem) (v1 : Int32) (v2 : Int32) (v3 : Int32) (v4 : Int64) (v6 : Int32) (M : Mem) : Option Mem := (if v1 < (2 : Int32) then f_X2_lengthen_b89 k10 k18 k40 v1 v2 v3 v4 v6 M else (f_X2_mayFollow v6 v2 M).bind fun t12 => (if t12 = 0 then k40 v1 v2 v3 v4 (v6 + (1 : Int32)) M else f_X2_lengthen_b89 k10 k18 k40 v1 v2 v3 v4 v6 M))
def f_X2_lengthen_b40 (k10 : Int32 → Int32 → Mem → Option Mem) (k18 : Int32 → Int32 → Int32 → Mem → Option Mem) : Nat → Int32 → Int32 → Int32 → Int64 → Int32 → Mem → Option Mem
  | 0, _, _, _, _, _, _ => none
  | n40 + 1, v1, v2, v3, v4, v6, M => (if (M.1 1 4) ≤ v6 then k18 v1 v2 (v3 + (1 : Int32)) M else (if (lg_cmp v4 (0 : Int64)) ≤ 0 then k18 v1 v2 (v3 + (1 : Int32)) M else (if v1 < (1 : Int32) then f_X2_lengthen_b74 k10 k18 (f_X2_lengthen_b40 k10 k18 n40) v1 v2 v3 v4 v6 M else (f_X2_mayFollow v6 v3 M).bind fun t14 => (if t14 = 0 then (f_X2_lengthen_b40 k10 k18 n40) v1 v2 v3 v4 (v6 + (1 : Int32)) M else f_X2_lengthen_b74 k10 k18 (f_X2_lengthen_b40 k10 k18 n40) v1 v2 v3 v4 v6 M))))
def f_X2_lengthen_b18 (k10 : Int32 → Int32 → Mem → Option Mem) : Nat → Int32 → Int32 → Int32 → Mem → Option Mem
  | 0, _, _, _, _ => none
  | n18 + 1, v1, v2, v3, M => (if (9 : Int32) ≤ v3 then k10 v1 (v2 + (1 : Int32)) M else (ldL M 39 81 ((v2 * (9 : Int32)) + v3)).bind fun t5 => f_X2_lengthen_b40 k10 (f_X2_lengthen_b18 k10 n18) FU v1 v2 v3 t5 (0 : Int32) M)
def f_X2_lengthen_b10 : Nat → Int32 → Int32 → Mem → Option Mem
  | 0, _, _, _ => none
  | n10 + 1, v1, v2, M => (if (9 : Int32) ≤ v2 then (cpI M 40 81 39 81 (0 : Int32) (0 : Int32) (81 : Int32)).bind fun M3 => some M3 else f_X2_lengthen_b18 (f_X2_lengthen_b10 n10) FU v1 v2 (0 : Int32) M)
def f_X2_lengthen (v1 : Int32) (M0 : Mem) : Option Mem := (f_J7_fill_d0a16 40 81 (0 : Int64) M0).bind fun M1 => f_X2_lengthen_b10 FU v1 (0 : Int32) M1
def f_X2_songRows_b46 : Nat → Int64 → Int32 → Mem → Option (Int64 × Mem)
  | 0, _, _, _ => none
  | n46 + 1, v3, v5, M => (if (nI 81) ≤ v5 then some (v3, M) else (ldL M 39 81 v5).bind fun t7 => (f_X2_songRows_b46 n46) (v3 + t7) (v5 + (1 : Int32)) M)
def f_X2_songRows_b25 : Nat → Int32 → Int32 → Int32 → Mem → Option (Int64 × Mem)
  | 0, _, _, _, _ => none
  | n25 + 1, v1, v2, v3, M => (if v1 ≤ v3 then f_X2_songRows_b46 FU (0 : Int64) (0 : Int32) M else (f_X2_lengthen v2 M).bind fun M8 => (f_X2_songRows_b25 n25) v1 v2 (v3 + (1 : Int32)) M8)
def f_X2_songRows (v1 : Int32) (v2 : Int32) (M0 : Mem) : Option (Int64 × Mem) := (f_X8_open M0).bind fun M1 => (f_J7_fill_d0a16 39 81 (0 : Int64) M1).bind fun M2 => (stL M2 39 81 (80 : Int32) (1 : Int64)).bind fun M3 => f_X2_songRows_b25 FU v1 v2 (0 : Int32) M3
def f_X2_firstCaught_b14 : Nat → Int32 → Int32 → Int32 → Int32 → Mem → Option (Int32 × Mem)
  | 0, _, _, _, _, _ => none
  | n14 + 1, v1, v2, v3, v4, M => (if ((M.1 1 4) + (1 : Int32)) < v4 then some ((-9 : Int32), M) else (if (M.1 1 4) ≤ 0 then some ((-9 : Int32), M) else (ldI M 26 8 v3).bind fun t4 => (if (t4 &&& v2) = 0 then (rmI (v3 + v1) (M.1 1 4)).bind fun t6 => (f_X2_firstCaught_b14 n14) v1 (v2 ||| (jshl (1 : Int32) v3)) t6 (v4 + (1 : Int32)) M else some (v4, M))))
def f_X2_firstCaught (v1 : Int32) (M0 : Mem) : Option (Int32 × Mem) := (f_X8_open M0).bind fun M1 => f_X2_firstCaught_b14 FU v1 (0 : Int32) (0 : Int32) (1 : Int32) M1
def f_X8_shift_b10 : Nat → Int32 → Int32 → Int32 → Mem → Option Mem
  | 0, _, _, _, _ => none
  | n10 + 1, v2, v3, v4, M => (if (M.1 1 4) ≤ v4 then some M else (if ((jshr v3 v4) &&& (1 : Int32)) = 0 then (f_X8_shift_b10 n10) v2 v3 (v4 + (1 : Int32)) M else (ldI M 27 8 v4).bind fun t4 => (stI M 27 8 v4 (t4 + v2)).bind fun M5 => (f_X8_shift_b10 n10) v2 v3 (v4 + (1 : Int32)) M5))
def f_X8_shift (v1 : Int32) (v2 : Int32) (M0 : Mem) : Option Mem := (ldI M0 26 8 v1).bind fun t1 => f_X8_shift_b10 FU v2 t1 (0 : Int32) M0
def f_X8_step (v1 : Int32) (M0 : Mem) : Option (Int32 × Mem) := (ldI M0 27 8 v1).bind fun t1 => (f_X0_dueFor 1 v1 t1 M0).bind fun t2 => (f_X8_shift v1 (1 : Int32) M0).bind fun M3 => some (t2, M3)
def f_X3_reckonPlaces_b9 : Nat → Int32 → Mem → Option Mem
  | 0, _, _ => none
  | n9 + 1, v1, M => (if (M.1 1 5) ≤ v1 then some M else (ldI M 5 12 v1).bind fun t3 => (ldI M 27 8 t3).bind fun t4 => (stI M 29 12 v1 t4).bind fun M5 => (f_X8_step t3 M5).bind fun pt6 => bp pt6 fun t6 M6 => (stI M6 30 12 v1 t6).bind fun M7 => (f_X3_reckonPlaces_b9 n9) (v1 + (1 : Int32)) M7)
def f_X3_reckonPlaces (M0 : Mem) : Option Mem := (f_X8_open M0).bind fun M1 => f_X3_reckonPlaces_b9 FU (0 : Int32) M1
def f_X8_walkLog_b4 : Nat → Int32 → Int32 → Mem → Option (Int32 × Mem)
  | 0, _, _, _ => none
  | n4 + 1, v1, v2, M => (if (M.1 1 5) ≤ v2 then some (v1, M) else (ldI M 5 12 v2).bind fun t2 => (f_X8_step t2 M).bind fun pt3 => bp pt3 fun t3 M3 => (f_X8_walkLog_b4 n4) (v1 + t3) (v2 + (1 : Int32)) M3)
def f_X8_walkLog (M0 : Mem) : Option (Int32 × Mem) := f_X8_walkLog_b4 FU (0 : Int32) (0 : Int32) M0
def f_X8_total (M0 : Mem) : Option (Int32 × Mem) := (f_X8_openBy (M0.1 1 6) (M0.1 1 7) M0).bind fun M1 => (f_X8_walkLog M1).bind fun pt2 => bp pt2 fun t2 M2 => some (t2, M2)
def f_X3_total (M0 : Mem) : Option (Int32 × Mem) := (f_X8_total M0).bind fun pt1 => bp pt1 fun t1 M1 => some (t1, M1)
def f_X3_ofPlace (v1 : Int32) (v2 : Int32) (M0 : Mem) : Option (Int32 × Mem) := (f_X3_reckonPlaces M0).bind fun M1 => (if v2 = (1 : Int32) then (ldI M1 29 12 v1).bind fun t4 => some (t4, M1) else (ldI M1 30 12 v1).bind fun t3 => some (t3, M1))
def f_X3_firstAbove_b6 : Nat → Int32 → Int32 → Mem → Option (Int32 × Mem)
  | 0, _, _, _ => none
  | n6 + 1, v1, v2, M => (if (M.1 1 5) ≤ v2 then some ((-9 : Int32), M) else (ldI M 30 12 v2).bind fun t3 => (if t3 ≤ v1 then (f_X3_firstAbove_b6 n6) v1 (v2 + (1 : Int32)) M else some (v2, M)))
def f_X3_firstAbove (v1 : Int32) (M0 : Mem) : Option (Int32 × Mem) := (f_X3_reckonPlaces M0).bind fun M1 => f_X3_firstAbove_b6 FU v1 (0 : Int32) M1
def f_X3_withoutRepeats_b8 : Nat → Int32 → Int32 → Mem → Option (Int32 × Mem)
  | 0, _, _, _ => none
  | n8 + 1, v1, v2, M => (if (M.1 1 5) ≤ v2 then some (v1, M) else (ldI M 29 12 v2).bind fun t3 => (if t3 = 0 then (f_X3_withoutRepeats_b8 n8) (v1 ||| (jshl (1 : Int32) v2)) (v2 + (1 : Int32)) M else (f_X3_withoutRepeats_b8 n8) v1 (v2 + (1 : Int32)) M))
def f_X3_withoutRepeats (M0 : Mem) : Option (Int32 × Mem) := (f_X3_reckonPlaces M0).bind fun M1 => f_X3_withoutRepeats_b8 FU (0 : Int32) (0 : Int32) M1
def f_X3_sumOfKind_b4 (M0 : Mem) : Nat → Int32 → Int32 → Int32 → Option Int32
  | 0, _, _, _ => none
  | n4 + 1, v1, v2, v3 => (if (M0.1 1 5) ≤ v3 then some v2 else (ldI M0 5 12 v3).bind fun t2 => (ldI M0 2 8 t2).bind fun t3 => (if t3 = v1 then (ldI M0 30 12 v3).bind fun t5 => (f_X3_sumOfKind_b4 M0 n4) v1 (v2 + t5) (v3 + (1 : Int32)) else (f_X3_sumOfKind_b4 M0 n4) v1 v2 (v3 + (1 : Int32))))
def f_X3_sumOfKind (v1 : Int32) (M0 : Mem) : Option Int32 := f_X3_sumOfKind_b4 M0 FU v1 (0 : Int32) (0 : Int32)
def f_X3_totalOfKind (v1 : Int32) (M0 : Mem) : Option (Int32 × Mem) := (f_X3_reckonPlaces M0).bind fun M1 => (f_X3_sumOfKind v1 M1).bind fun t2 => some (t2, M1)
def f_X3_dearestKind_b23 : Nat → Int32 → Int32 → Int32 → Mem → Option (Int32 × Mem)
  | 0, _, _, _, _ => none
  | n23 + 1, v1, v2, v3, M => (if (6 : Int32) ≤ v3 then some (v1, M) else (f_X3_sumOfKind v3 M).bind fun t5 => (if t5 ≤ v2 then (f_X3_dearestKind_b23 n23) v1 v2 (v3 + (1 : Int32)) M else (f_X3_dearestKind_b23 n23) v3 t5 (v3 + (1 : Int32)) M))
def f_X3_dearestKind (M0 : Mem) : Option (Int32 × Mem) := (if (M0.1 1 5) = 0 then some ((-9 : Int32), M0) else (f_X3_reckonPlaces M0).bind fun M2 => f_X3_dearestKind_b23 FU (0 : Int32) (-1 : Int32) (0 : Int32) M2)
def f_X3_sumWithout_b11 : Nat → Int32 → Int32 → Int32 → Mem → Option (Int32 × Mem)
  | 0, _, _, _, _ => none
  | n11 + 1, v1, v2, v3, M => (if (M.1 1 5) ≤ v3 then some (v2, M) else (if v3 = v1 then (f_X3_sumWithout_b11 n11) v1 v2 (v3 + (1 : Int32)) M else (ldI M 5 12 v3).bind fun t4 => (f_X8_step t4 M).bind fun pt5 => bp pt5 fun t5 M5 => (f_X3_sumWithout_b11 n11) v1 (v2 + t5) (v3 + (1 : Int32)) M5))
def f_X3_sumWithout (v1 : Int32) (M0 : Mem) : Option (Int32 × Mem) := (f_X8_forgetSteps M0).bind fun M1 => f_X3_sumWithout_b11 FU v1 (0 : Int32) (0 : Int32) M1
def f_X3_savingOf (v1 : Int32) (M0 : Mem) : Option (Int32 × Mem) := (f_X8_total M0).bind fun pt1 => bp pt1 fun t1 M1 => (f_X3_sumWithout v1 M1).bind fun pt2 => bp pt2 fun t2 M2 => some ((t1 - t2), M2)
def f_X3_bestSaving_b15 : Nat → Int32 → Int32 → Int32 → Mem → Option (Int32 × Mem)
  | 0, _, _, _, _ => none
  | n15 + 1, v1, v2, v3, M => (if (M.1 1 5) ≤ v3 then some (v1, M) else (f_X3_sumWithout v3 M).bind fun pt4 => bp pt4 fun t4 M4 => (if v2 ≤ t4 then (f_X3_bestSaving_b15 n15) v1 v2 (v3 + (1 : Int32)) M4 else (f_X3_bestSaving_b15 n15) v3 t4 (v3 + (1 : Int32)) M4))
def f_X3_bestSaving (M0 : Mem) : Option (Int32 × Mem) := (f_X8_open M0).bind fun M1 => f_X3_bestSaving_b15 FU (-9 : Int32) (2147483647 : Int32) (0 : Int32) M1
def f_X3_sumMoved (v1 : Int32) (M0 : Mem) : Option (Int32 × Mem) := (f_X3_sumWithout v1 M0).bind fun pt1 => bp pt1 fun t1 M1 => (ldI M1 5 12 v1).bind fun t2 => (f_X8_step t2 M1).bind fun pt3 => bp pt3 fun t3 M3 => some ((t1 + t3), M3)
def f_X3_totalMoved (v1 : Int32) (M0 : Mem) : Option (Int32 × Mem) := (f_X8_open M0).bind fun M1 => (f_X3_sumMoved v1 M1).bind fun pt2 => bp pt2 fun t2 M2 => some (t2, M2)
def f_X3_bestMove_b13 : Nat → Int32 → Int32 → Int32 → Mem → Option (Int32 × Mem)
  | 0, _, _, _, _ => none
  | n13 + 1, v1, v2, v3, M => (if (M.1 1 5) ≤ v3 then some (v1, M) else (f_X3_sumMoved v3 M).bind fun pt4 => bp pt4 fun t4 M4 => (if v2 ≤ t4 then (f_X3_bestMove_b13 n13) v1 v2 (v3 + (1 : Int32)) M4 else (f_X3_bestMove_b13 n13) v3 t4 (v3 + (1 : Int32)) M4))
def f_X3_bestMove (M0 : Mem) : Option (Int32 × Mem) := (f_X8_total M0).bind fun pt1 => bp pt1 fun t1 M1 => f_X3_bestMove_b13 FU (-9 : Int32) t1 (0 : Int32) M1
def f_X3_totalFromBehind_b19 : Nat → Int32 → Int32 → Mem → Option (Int32 × Mem)
  | 0, _, _, _ => none
  | n19 + 1, v1, v2, M => (if v2 < 0 then some (v1, M) else (ldI M 5 12 v2).bind fun t3 => (f_X8_step t3 M).bind fun pt4 => bp pt4 fun t4 M4 => (f_X3_totalFromBehind_b19 n19) (v1 + t4) (v2 + (-1 : Int32)) M4)
def f_X3_totalFromBehind (M0 : Mem) : Option (Int32 × Mem) := (f_X8_open M0).bind fun M1 => f_X3_totalFromBehind_b19 FU (0 : Int32) ((M1.1 1 5) - (1 : Int32)) M1
def f_X3_sumExchanged_b46 (k12 : Int32 → Int32 → Int32 → Int32 → Mem → Option (Int32 × Mem)) (v1 : Int32) (v2 : Int32) (v3 : Int32) (v4 : Int32) (s0 : Int32) (M : Mem) : Option (Int32 × Mem) := (ldI M 5 12 s0).bind fun t3 => (f_X8_step t3 M).bind fun pt4 => bp pt4 fun t4 M4 => k12 v1 v2 (v3 + t4) (v4 + (1 : Int32)) M4
def f_X3_sumExchanged_b12 : Nat → Int32 → Int32 → Int32 → Int32 → Mem → Option (Int32 × Mem)
  | 0, _, _, _, _, _ => none
  | n12 + 1, v1, v2, v3, v4, M => (if (M.1 1 5) ≤ v4 then some (v3, M) else f_X3_sumExchanged_b46 (f_X3_sumExchanged_b12 n12) v1 v2 v3 v4 (if v4 = v1 then v2 else (if v4 = v2 then v1 else v4)) M)
def f_X3_sumExchanged (v1 : Int32) (v2 : Int32) (M0 : Mem) : Option (Int32 × Mem) := (f_X8_forgetSteps M0).bind fun M1 => f_X3_sumExchanged_b12 FU v1 v2 (0 : Int32) (0 : Int32) M1
def f_X3_bestExchange_b29 (k13 : Int32 → Int32 → Int32 → Mem → Option (Int32 × Mem)) : Nat → Int32 → Int32 → Int32 → Int32 → Mem → Option (Int32 × Mem)
  | 0, _, _, _, _, _ => none
  | n29 + 1, v1, v2, v3, v4, M => (if (M.1 1 5) ≤ v4 then k13 v1 v2 (v3 + (1 : Int32)) M else (f_X3_sumExchanged v3 v4 M).bind fun pt5 => bp pt5 fun t5 M5 => (if v2 ≤ t5 then (f_X3_bestExchange_b29 k13 n29) v1 v2 v3 (v4 + (1 : Int32)) M5 else (f_X3_bestExchange_b29 k13 n29) (((100 : Int32) * v3) + v4) t5 v3 (v4 + (1 : Int32)) M5))
def f_X3_bestExchange_b13 : Nat → Int32 → Int32 → Int32 → Mem → Option (Int32 × Mem)
  | 0, _, _, _, _ => none
  | n13 + 1, v1, v2, v3, M => (if (M.1 1 5) ≤ v3 then some (v1, M) else f_X3_bestExchange_b29 (f_X3_bestExchange_b13 n13) FU v1 v2 v3 (v3 + (1 : Int32)) M)
def f_X3_bestExchange (M0 : Mem) : Option (Int32 × Mem) := (f_X8_total M0).bind fun pt1 => bp pt1 fun t1 M1 => f_X3_bestExchange_b13 FU (-9 : Int32) t1 (0 : Int32) M1
def f_X3_isInLog_b2 (M0 : Mem) : Nat → Int32 → Int32 → Option Int32
  | 0, _, _ => none
  | n2 + 1, v1, v2 => (if (M0.1 1 5) ≤ v2 then some (0 : Int32) else (ldI M0 5 12 v2).bind fun t2 => (if t2 = v1 then some (1 : Int32) else (f_X3_isInLog_b2 M0 n2) v1 (v2 + (1 : Int32))))
def f_X3_isInLog (v1 : Int32) (M0 : Mem) : Option Int32 := f_X3_isInLog_b2 M0 FU v1 (0 : Int32)
def f_X3_sumBanning_b11 : Nat → Int32 → Int32 → Int32 → Mem → Option (Int32 × Mem)
  | 0, _, _, _, _ => none
  | n11 + 1, v1, v2, v3, M => (if (M.1 1 5) ≤ v3 then some (v2, M) else (ldI M 5 12 v3).bind fun t3 => (if t3 = v1 then (f_X3_sumBanning_b11 n11) v1 v2 (v3 + (1 : Int32)) M else (ldI M 5 12 v3).bind fun t5 => (f_X8_step t5 M).bind fun pt6 => bp pt6 fun t6 M6 => (f_X3_sumBanning_b11 n11) v1 (v2 + t6) (v3 + (1 : Int32)) M6))
def f_X3_sumBanning (v1 : Int32) (M0 : Mem) : Option (Int32 × Mem) := (f_X8_forgetSteps M0).bind fun M1 => f_X3_sumBanning_b11 FU v1 (0 : Int32) (0 : Int32) M1
def f_X3_bestBan_b48 (k16 : Int32 → Int32 → Int32 → Int32 → Mem → Option (Int32 × Mem)) (v1 : Int32) (v2 : Int32) (v3 : Int32) (v4 : Int32) (s0 : Int32) (M : Mem) : Option (Int32 × Mem) := (if v3 ≤ s0 then k16 v1 v2 v3 (v4 + (1 : Int32)) M else k16 v1 v4 s0 (v4 + (1 : Int32)) M)
def f_X3_bestBan_b16 : Nat → Int32 → Int32 → Int32 → Int32 → Mem → Option (Int32 × Mem)
  | 0, _, _, _, _, _ => none
  | n16 + 1, v1, v2, v3, v4, M => (if (M.1 1 4) ≤ v4 then (if v1 = 0 then some (v2, M) else (if v2 = (-9 : Int32) then some (v2, M) else some (v3, M))) else (f_X3_isInLog v4 M).bind fun t6 => (if t6 = 0 then f_X3_bestBan_b48 (f_X3_bestBan_b16 n16) v1 v2 v3 v4 (2147483647 : Int32) M else (f_X3_sumBanning v4 M).bind fun pt10 => bp pt10 fun t10 M10 => f_X3_bestBan_b48 (f_X3_bestBan_b16 n16) v1 v2 v3 v4 t10 M10))
def f_X3_bestBan (v1 : Int32) (M0 : Mem) : Option (Int32 × Mem) := (f_X8_open M0).bind fun M1 => f_X3_bestBan_b16 FU v1 (-9 : Int32) (2147483647 : Int32) (0 : Int32) M1
def f_X3_areAlikePlaces (v1 : Int32) (v2 : Int32) (M0 : Mem) : Option Int32 := (ldI M0 5 12 v1).bind fun t1 => (ldI M0 26 8 t1).bind fun t2 => (ldI M0 5 12 v2).bind fun t3 => (if ((jshr t2 t3) &&& (1 : Int32)) = 0 then some (0 : Int32) else some (1 : Int32))
def f_X3_readAhead_b29 (k9 : Int32 → Mem → Option Mem) : Nat → Int32 → Int32 → Mem → Option Mem
  | 0, _, _, _ => none
  | n29 + 1, v1, v2, M => (if v1 ≤ v2 then k9 (v1 + (1 : Int32)) M else (f_X3_areAlikePlaces v2 v1 M).bind fun t6 => (if t6 = 0 then (f_X3_readAhead_b29 k9 n29) v1 (v2 + (1 : Int32)) M else (ldI M 31 12 v1).bind fun t8 => (stI M 31 12 v1 (t8 ||| (jshl (1 : Int32) v2))).bind fun M9 => (f_X3_readAhead_b29 k9 n29) v1 (v2 + (1 : Int32)) M9))
def f_X3_readAhead_b9 : Nat → Int32 → Mem → Option Mem
  | 0, _, _ => none
  | n9 + 1, v1, M => (if (M.1 1 5) ≤ v1 then some M else (stI M 31 12 v1 (0 : Int32)).bind fun M3 => f_X3_readAhead_b29 (f_X3_readAhead_b9 n9) FU v1 (0 : Int32) M3)
def f_X3_readAhead (M0 : Mem) : Option Mem := (f_X8_open M0).bind fun M1 => f_X3_readAhead_b9 FU (0 : Int32) M1
def f_X3_sumSplit_b38 (M0 : Mem) (k5 : Int32 → Int32 → Int32 → Int32 → Option Int32) (v1 : Int32) (v2 : Int32) (v3 : Int32) (v4 : Int32) (s0 : Int32) : Option Int32 := (ldI M0 5 12 v4).bind fun t3 => (ldI M0 31 12 v4).bind fun t4 => (f_X0_dueFor 1 t3 (f_J6_bitCount_0f7a4 (t4 &&& s0)) M0).bind fun t5 => k5 v1 v2 (v3 + t5) (v4 + (1 : Int32))
def f_X3_sumSplit_b5 (M0 : Mem) : Nat → Int32 → Int32 → Int32 → Int32 → Option Int32
  | 0, _, _, _, _ => none
  | n5 + 1, v1, v2, v3, v4 => (if (M0.1 1 5) ≤ v4 then some v3 else (if v2 ≤ v3 then some v3 else f_X3_sumSplit_b38 M0 (f_X3_sumSplit_b5 M0 n5) v1 v2 v3 v4 (if ((jshr v1 v4) &&& (1 : Int32)) = 0 then (v1 ^^^ (-1 : Int32)) else v1)))
def f_X3_sumSplit (v1 : Int32) (v2 : Int32) (M0 : Mem) : Option Int32 := f_X3_sumSplit_b5 M0 FU v1 v2 (0 : Int32) (0 : Int32)
def f_X3_splitInTwo_b17 : Nat → Int32 → Int32 → Int32 → Int32 → Mem → Option (Int32 × Mem)
  | 0, _, _, _, _, _ => none
  | n17 + 1, v1, v2, v3, v4, M => (if (jshl (1 : Int32) (mxI (0 : Int32) ((M.1 1 5) - (1 : Int32)))) ≤ v4 then (if v1 = 0 then some (v3, M) else some (v2, M)) else (f_X3_sumSplit v4 v3 M).bind fun t6 => (if v3 ≤ t6 then (f_X3_splitInTwo_b17 n17) v1 v2 v3 (v4 + (1 : Int32)) M else (f_X3_splitInTwo_b17 n17) v1 v4 t6 (v4 + (1 : Int32)) M))
def f_X3_splitInTwo (v1 : Int32) (M0 : Mem) : Option (Int32 × Mem) := (f_X3_readAhead M0).bind fun M1 => (f_X8_walkLog M1).bind fun pt2 => bp pt2 fun t2 M2 => f_X3_splitInTwo_b17 FU v1 (0 : Int32) t2 (1 : Int32) M2
def f_X3_pureFrom_b15 (M0 : Mem) (k2 : Int32 → Int32 → Option Int32) : Nat → Int32 → Int32 → Int32 → Option Int32
  | 0, _, _, _ => none
  | n15 + 1, v1, v2, v3 => (if v2 ≤ v3 then k2 v1 (v2 + (1 : Int32)) else (f_X3_areAlikePlaces v3 v2 M0).bind fun t3 => (if t3 = 0 then (f_X3_pureFrom_b15 M0 k2 n15) v1 v2 (v3 + (1 : Int32)) else some (v2 - v1)))
def f_X3_pureFrom_b2 (M0 : Mem) : Nat → Int32 → Int32 → Option Int32
  | 0, _, _ => none
  | n2 + 1, v1, v2 => (if (M0.1 1 5) ≤ v2 then some ((M0.1 1 5) - v1) else f_X3_pureFrom_b15 M0 (f_X3_pureFrom_b2 M0 n2) FU v1 v2 v1)
def f_X3_pureFrom (v1 : Int32) (M0 : Mem) : Option Int32 := f_X3_pureFrom_b2 M0 FU v1 v1
def f_X3_longestPure_b15 : Nat → Int32 → Int32 → Int32 → Int32 → Mem → Option (Int32 × Mem)
  | 0, _, _, _, _, _ => none
  | n15 + 1, v1, v2, v3, v4, M => (if (M.1 1 5) ≤ v4 then (if v1 = 0 then some (v2, M) else some (v3, M)) else (f_X3_pureFrom v4 M).bind fun t5 => (if t5 ≤ v2 then (f_X3_longestPure_b15 n15) v1 v2 v3 (v4 + (1 : Int32)) M else (f_X3_longestPure_b15 n15) v1 t5 v4 (v4 + (1 : Int32)) M))
def f_X3_longestPure (v1 : Int32) (M0 : Mem) : Option (Int32 × Mem) := (f_X8_open M0).bind fun M1 => f_X3_longestPure_b15 FU v1 (0 : Int32) (-9 : Int32) (0 : Int32) M1
def f_X3_longestStreak_b44 (k13 : Int32 → Int32 → Int32 → Mem → Option (Int32 × Mem)) (v1 : Int32) (v2 : Int32) (v3 : Int32) (s0 : Int32) (M : Mem) : Option (Int32 × Mem) := k13 (mxI v1 (if s0 = 0 then (1 : Int32) else (v2 + (1 : Int32)))) (if s0 = 0 then (1 : Int32) else (v2 + (1 : Int32))) (v3 + (1 : Int32)) M
def f_X3_longestStreak_b43 (k13 : Int32 → Int32 → Int32 → Mem → Option (Int32 × Mem)) (v1 : Int32) (v2 : Int32) (v3 : Int32) (M : Mem) : Option (Int32 × Mem) := f_X3_longestStreak_b44 k13 v1 v2 v3 (0 : Int32) M
def f_X3_longestStreak_b13 : Nat → Int32 → Int32 → Int32 → Mem → Option (Int32 × Mem)
  | 0, _, _, _, _ => none
  | n13 + 1, v1, v2, v3, M => (if (M.1 1 5) ≤ v3 then some (v1, M) else (if v3 ≤ 0 then f_X3_longestStreak_b43 (f_X3_longestStreak_b13 n13) v1 v2 v3 M else (f_X3_areAlikePlaces (v3 - (1 : Int32)) v3 M).bind fun t7 => f_X3_longestStreak_b44 (f_X3_longestStreak_b13 n13) v1 v2 v3 (if t7 = 0 then (0 : Int32) else (1 : Int32)) M))
def f_X3_longestStreak (M0 : Mem) : Option (Int32 × Mem) := (f_X8_open M0).bind fun M1 => f_X3_longestStreak_b13 FU (0 : Int32) (0 : Int32) (0 : Int32) M1
def f_X8_dueNow (v1 : Int32) (M0 : Mem) : Option Int32 := (ldI M0 27 8 v1).bind fun t1 => (f_X0_dueFor 1 v1 t1 M0).bind fun t2 => some t2
def f_X4_lowest_b60 (v0 : Int64) (v2 : Int64) (v4 : Int32) (v5 : Int64) : Option Int64 := (dvL (if v4 = 0 then v0 else v2) (mxL (1 : Int64) v5)).bind fun t5 => some t5
def f_X4_lowest_b25 : Nat → Int64 → Int64 → Int32 → Int64 → Int64 → Int32 → Option Int64
  | 0, _, _, _, _, _, _ => none
  | n25 + 1, v0, v2, v4, v5, v7, v9 => (if (64 : Int32) ≤ v9 then f_X4_lowest_b60 v0 v2 v4 v5 else (if (lg_cmp v7 (0 : Int64)) = 0 then f_X4_lowest_b60 v0 v2 v4 v5 else (rmL v5 v7).bind fun t10 => (f_X4_lowest_b25 n25) v0 v2 v4 v7 t10 (v9 + (1 : Int32))))
def f_X4_lowest (v0 : Int64) (v2 : Int64) (v4 : Int32) : Option Int64 := (if (lg_cmp v0 (0 : Int64)) = 0 then some (v4).toInt64 else (if (lg_cmp v2 (0 : Int64)) = 0 then some (v4).toInt64 else f_X4_lowest_b25 FU v0 v2 v4 v0 v2 (0 : Int32)))
def f_X8_openBehindLog (M0 : Mem) : Option Mem := (f_X8_open M0).bind fun M1 => (f_X8_walkLog M1).bind fun pt2 => bp pt2 fun t2 M2 => some M2
def f_X4_meanNext_b12 : Nat → Int32 → Int64 → Int32 → Mem → Option (Int64 × Mem)
  | 0, _, _, _, _ => none
  | n12 + 1, v1, v2, v4, M => (if (M.1 1 4) ≤ v4 then (f_X4_lowest v2 ((M.1 1 4)).toInt64 v1).bind fun t4 => some (t4, M) else (f_X8_dueNow v4 M).bind fun t5 => (f_X4_meanNext_b12 n12) v1 (v2 + (t5).toInt64) (v4 + (1 : Int32)) M)
def f_X4_meanNext (v1 : Int32) (M0 : Mem) : Option (Int64 × Mem) := (f_X8_openBehindLog M0).bind fun M1 => f_X4_meanNext_b12 FU v1 (0 : Int64) (0 : Int32) M1
def f_X4_weeks_b128 (v3 : Int32) (v5 : Int32) (v6 : Int32) (M : Mem) : Option (Int32 × Mem) := (if v3 = 0 then some (v5, M) else some (v6, M))
def f_X4_weeks_b48 (k19 : Int32 → Int32 → Int32 → Int32 → Int32 → Int32 → Mem → Option (Int32 × Mem)) : Nat → Int32 → Int32 → Int32 → Int32 → Int32 → Int32 → Int32 → Int32 → Mem → Option (Int32 × Mem)
  | 0, _, _, _, _, _, _, _, _, _ => none
  | n48 + 1, v1, v3, v4, v5, v6, v7, v8, v9, M => (if (12 : Int32) ≤ v9 then k19 v1 v3 v4 (v5 + v8) (v6 + (if v8 = 0 then (1 : Int32) else (0 : Int32))) (v7 + (1 : Int32)) M else (rmI ((((v4 * (1103515245 : Int32)) + (12345 : Int32)) &&& (2147483647 : Int32)) / (65536 : Int32)) (M.1 1 4)).bind fun t11 => (f_X8_step t11 M).bind fun pt12 => bp pt12 fun t12 M12 => (f_X4_weeks_b48 k19 n48) v1 v3 ((v4 * (1103515245 : Int32)) + (12345 : Int32)) v5 v6 v7 (v8 + t12) (v9 + (1 : Int32)) M12)
def f_X4_weeks_b19 : Nat → Int32 → Int32 → Int32 → Int32 → Int32 → Int32 → Mem → Option (Int32 × Mem)
  | 0, _, _, _, _, _, _, _ => none
  | n19 + 1, v1, v3, v4, v5, v6, v7, M => (if v1 ≤ v7 then f_X4_weeks_b128 v3 v5 v6 M else (if (M.1 1 4) ≤ 0 then f_X4_weeks_b128 v3 v5 v6 M else (f_X8_forgetSteps M).bind fun M7 => f_X4_weeks_b48 (f_X4_weeks_b19 n19) FU v1 v3 v4 v5 v6 v7 (0 : Int32) (0 : Int32) M7))
def f_X4_weeks (v1 : Int32) (v2 : Int32) (v3 : Int32) (M0 : Mem) : Option (Int32 × Mem) := (f_X8_open M0).bind fun M1 => f_X4_weeks_b19 FU v1 v3 v2 (0 : Int32) (0 : Int32) (0 : Int32) M1
def f_X5_allCounted_b4 (M0 : Mem) : Nat → Int32 → Int32 → Option Int32
  | 0, _, _ => none
  | n4 + 1, v1, v2 => (if (M0.1 1 4) ≤ v2 then some v1 else (ldI M0 4 8 v2).bind fun t2 => (f_X5_allCounted_b4 M0 n4) (v1 + (f_J6_bitCount_0f7a4 t2)) (v2 + (1 : Int32)))
def f_X5_allCounted (M0 : Mem) : Option Int32 := f_X5_allCounted_b4 M0 FU (0 : Int32) (0 : Int32)
def f_X5_totalFlipped (v1 : Int32) (v2 : Int32) (M0 : Mem) : Option (Int32 × Mem) := (f_X0_flipMark 1 v1 v2 M0).bind fun M1 => (f_X8_total M1).bind fun pt2 => bp pt2 fun t2 M2 => (f_X0_flipMark 1 v1 v2 M2).bind fun M3 => some (t2, M3)
def f_X5_bestFlip_b27 (k13 : Int32 → Int32 → Int32 → Mem → Option (Int32 × Mem)) : Nat → Int32 → Int32 → Int32 → Int32 → Mem → Option (Int32 × Mem)
  | 0, _, _, _, _, _ => none
  | n27 + 1, v1, v2, v3, v4, M => (if (8 : Int32) ≤ v4 then k13 v1 v2 (v3 + (1 : Int32)) M else (f_X5_totalFlipped v3 v4 M).bind fun pt5 => bp pt5 fun t5 M5 => (if v2 ≤ t5 then (f_X5_bestFlip_b27 k13 n27) v1 v2 v3 (v4 + (1 : Int32)) M5 else (f_X5_bestFlip_b27 k13 n27) (((10 : Int32) * v3) + v4) t5 v3 (v4 + (1 : Int32)) M5))
def f_X5_bestFlip_b13 : Nat → Int32 → Int32 → Int32 → Mem → Option (Int32 × Mem)
  | 0, _, _, _, _ => none
  | n13 + 1, v1, v2, v3, M => (if (M.1 1 4) ≤ v3 then some (v1, M) else f_X5_bestFlip_b27 (f_X5_bestFlip_b13 n13) FU v1 v2 v3 (0 : Int32) M)
def f_X5_bestFlip (M0 : Mem) : Option (Int32 × Mem) := (f_X8_total M0).bind fun pt1 => bp pt1 fun t1 M1 => f_X5_bestFlip_b13 FU (-9 : Int32) t1 (0 : Int32) M1
def f_X5_marksOf_b4 (M0 : Mem) : Nat → Int32 → Int32 → Int32 → Option Int32
  | 0, _, _, _ => none
  | n4 + 1, v1, v2, v3 => (if (M0.1 1 4) ≤ v3 then some v2 else (if ((jshr v1 v3) &&& (1 : Int32)) = 0 then (f_X5_marksOf_b4 M0 n4) v1 v2 (v3 + (1 : Int32)) else (ldI M0 4 8 v3).bind fun t3 => (f_X5_marksOf_b4 M0 n4) v1 (v2 ||| t3) (v3 + (1 : Int32))))
def f_X5_marksOf (v1 : Int32) (M0 : Mem) : Option Int32 := f_X5_marksOf_b4 M0 FU v1 (0 : Int32) (0 : Int32)
def f_X5_nextOf_b4 (M0 : Mem) : Nat → Int32 → Int32 → Int32 → Option Int32
  | 0, _, _, _ => none
  | n4 + 1, v1, v2, v3 => (if (M0.1 1 4) ≤ v3 then some v2 else (if ((jshr v1 v3) &&& (1 : Int32)) = 0 then (f_X5_nextOf_b4 M0 n4) v1 v2 (v3 + (1 : Int32)) else (f_X8_dueNow v3 M0).bind fun t4 => (f_X5_nextOf_b4 M0 n4) v1 (v2 + t4) (v3 + (1 : Int32))))
def f_X5_nextOf (v1 : Int32) (M0 : Mem) : Option Int32 := f_X5_nextOf_b4 M0 FU v1 (0 : Int32) (0 : Int32)
def f_X5_covering_b80 (k25 : Int32 → Int32 → Int32 → Int32 → Int32 → Int32 → Int32 → Mem → Option (Int32 × Mem)) (v1 : Int32) (v2 : Int32) (v3 : Int32) (v4 : Int32) (v5 : Int32) (v6 : Int32) (v7 : Int32) (v8 : Int32) (M : Mem) : Option (Int32 × Mem) := (if v6 ≤ v8 then k25 v1 v2 v3 v4 v5 v6 (v7 + (1 : Int32)) M else k25 v1 v2 v3 v7 v5 v8 (v7 + (1 : Int32)) M)
def f_X5_covering_b25 : Nat → Int32 → Int32 → Int32 → Int32 → Int32 → Int32 → Int32 → Mem → Option (Int32 × Mem)
  | 0, _, _, _, _, _, _, _, _ => none
  | n25 + 1, v1, v2, v3, v4, v5, v6, v7, M => (if (jshl (1 : Int32) (M.1 1 4)) ≤ v7 then (if v2 = 0 then some (v3, M) else (if v2 = (1 : Int32) then some (v4, M) else (if v4 = (-9 : Int32) then some (v4, M) else some (v6, M)))) else (f_X5_marksOf v7 M).bind fun t7 => (if (v1 &&& (t7 ^^^ (-1 : Int32))) = 0 then (f_X5_nextOf v7 M).bind fun t10 => (if v5 ≤ (f_J6_bitCount_0f7a4 v7) then f_X5_covering_b80 (f_X5_covering_b25 n25) v1 v2 v3 v4 v5 v6 v7 t10 M else f_X5_covering_b80 (f_X5_covering_b25 n25) v1 v2 v7 v4 (f_J6_bitCount_0f7a4 v7) v6 v7 t10 M) else (f_X5_covering_b25 n25) v1 v2 v3 v4 v5 v6 (v7 + (1 : Int32)) M))
def f_X5_covering (v1 : Int32) (v2 : Int32) (M0 : Mem) : Option (Int32 × Mem) := (f_X8_openBehindLog M0).bind fun M1 => f_X5_covering_b25 FU v1 v2 (-9 : Int32) (-9 : Int32) (9 : Int32) (2147483647 : Int32) (0 : Int32) M1
def f_X5_closestTwo_b26 (M0 : Mem) (k8 : Int32 → Int32 → Int32 → Int32 → Option Int32) : Nat → Int32 → Int32 → Int32 → Int32 → Int32 → Option Int32
  | 0, _, _, _, _, _ => none
  | n26 + 1, v1, v2, v3, v4, v5 => (if (M0.1 1 4) ≤ v5 then k8 v1 v2 v3 (v4 + (1 : Int32)) else (ldI M0 4 8 v4).bind fun t5 => (ldI M0 4 8 v5).bind fun t6 => (if (f_J6_bitCount_0f7a4 (t5 &&& t6)) ≤ v3 then (f_X5_closestTwo_b26 M0 k8 n26) v1 v2 v3 v4 (v5 + (1 : Int32)) else (f_X5_closestTwo_b26 M0 k8 n26) v1 (((10 : Int32) * v4) + v5) (f_J6_bitCount_0f7a4 (t5 &&& t6)) v4 (v5 + (1 : Int32))))
def f_X5_closestTwo_b8 (M0 : Mem) : Nat → Int32 → Int32 → Int32 → Int32 → Option Int32
  | 0, _, _, _, _ => none
  | n8 + 1, v1, v2, v3, v4 => (if (M0.1 1 4) ≤ v4 then (if v1 = 0 then some v2 else (if v2 = (-9 : Int32) then some v2 else some v3)) else f_X5_closestTwo_b26 M0 (f_X5_closestTwo_b8 M0 n8) FU v1 v2 v3 v4 (v4 + (1 : Int32)))
def f_X5_closestTwo (v1 : Int32) (M0 : Mem) : Option Int32 := f_X5_closestTwo_b8 M0 FU v1 (-9 : Int32) (-1 : Int32) (0 : Int32)
def f_X5_distance (v1 : Int32) (v2 : Int32) (M0 : Mem) : Option Int32 := (ldI M0 4 8 v1).bind fun t1 => (ldI M0 4 8 v2).bind fun t2 => some (f_J6_bitCount_0f7a4 (t1 ^^^ t2))
def f_X5_farthestTwo_b19 (M0 : Mem) (k4 : Int32 → Int32 → Option Int32) : Nat → Int32 → Int32 → Int32 → Option Int32
  | 0, _, _, _ => none
  | n19 + 1, v1, v2, v3 => (if (M0.1 1 4) ≤ v3 then k4 v1 (v2 + (1 : Int32)) else (f_X5_distance v2 v3 M0).bind fun t4 => (f_X5_farthestTwo_b19 M0 k4 n19) (mxI v1 t4) v2 (v3 + (1 : Int32)))
def f_X5_farthestTwo_b4 (M0 : Mem) : Nat → Int32 → Int32 → Option Int32
  | 0, _, _ => none
  | n4 + 1, v1, v2 => (if (M0.1 1 4) ≤ v2 then some v1 else f_X5_farthestTwo_b19 M0 (f_X5_farthestTwo_b4 M0 n4) FU v1 v2 (v2 + (1 : Int32)))
def f_X5_farthestTwo (M0 : Mem) : Option Int32 := f_X5_farthestTwo_b4 M0 FU (0 : Int32) (0 : Int32)
def f_X5_distancesFrom_b4 (M0 : Mem) : Nat → Int32 → Int32 → Int32 → Option Int32
  | 0, _, _, _ => none
  | n4 + 1, v1, v2, v3 => (if (M0.1 1 4) ≤ v3 then some v2 else (f_X5_distance v1 v3 M0).bind fun t3 => (f_X5_distancesFrom_b4 M0 n4) v1 (v2 + t3) (v3 + (1 : Int32)))
def f_X5_distancesFrom (v1 : Int32) (M0 : Mem) : Option Int32 := f_X5_distancesFrom_b4 M0 FU v1 (0 : Int32) (0 : Int32)
def f_X5_centre_b8 (M0 : Mem) : Nat → Int32 → Int32 → Int32 → Option Int32
  | 0, _, _, _ => none
  | n8 + 1, v1, v2, v3 => (if (M0.1 1 4) ≤ v3 then some v1 else (f_X5_distancesFrom v3 M0).bind fun t3 => (if v2 ≤ t3 then (f_X5_centre_b8 M0 n8) v1 v2 (v3 + (1 : Int32)) else (f_X5_centre_b8 M0 n8) v3 t3 (v3 + (1 : Int32))))
def f_X5_centre (M0 : Mem) : Option Int32 := f_X5_centre_b8 M0 FU (-9 : Int32) (2147483647 : Int32) (0 : Int32)
def f_X5_mostlyHad_b15 (M0 : Mem) (k4 : Int32 → Int32 → Option Int32) : Nat → Int32 → Int32 → Int32 → Int32 → Option Int32
  | 0, _, _, _, _ => none
  | n15 + 1, v1, v2, v3, v4 => (if (M0.1 1 4) ≤ v4 then (if ((2 : Int32) * v3) ≤ (M0.1 1 4) then k4 v1 (v2 + (1 : Int32)) else k4 (v1 ||| (jshl (1 : Int32) v2)) (v2 + (1 : Int32))) else (ldI M0 4 8 v4).bind fun t4 => (f_X5_mostlyHad_b15 M0 k4 n15) v1 v2 (v3 + ((jshr t4 v2) &&& (1 : Int32))) (v4 + (1 : Int32)))
def f_X5_mostlyHad_b4 (M0 : Mem) : Nat → Int32 → Int32 → Option Int32
  | 0, _, _ => none
  | n4 + 1, v1, v2 => (if (8 : Int32) ≤ v2 then some v1 else f_X5_mostlyHad_b15 M0 (f_X5_mostlyHad_b4 M0 n4) FU v1 v2 (0 : Int32) (0 : Int32))
def f_X5_mostlyHad (M0 : Mem) : Option Int32 := f_X5_mostlyHad_b4 M0 FU (0 : Int32) (0 : Int32)
def f_X5_isNewSet_b2 (M0 : Mem) : Nat → Int32 → Int32 → Option Int32
  | 0, _, _ => none
  | n2 + 1, v1, v2 => (if v1 ≤ v2 then some (1 : Int32) else (ldI M0 4 8 v2).bind fun t2 => (ldI M0 4 8 v1).bind fun t3 => (if t2 = t3 then some (0 : Int32) else (f_X5_isNewSet_b2 M0 n2) v1 (v2 + (1 : Int32))))
def f_X5_isNewSet (v1 : Int32) (M0 : Mem) : Option Int32 := f_X5_isNewSet_b2 M0 FU v1 (0 : Int32)
def f_X5_unlikeSets_b4 (M0 : Mem) : Nat → Int32 → Int32 → Option Int32
  | 0, _, _ => none
  | n4 + 1, v1, v2 => (if (M0.1 1 4) ≤ v2 then some v1 else (f_X5_isNewSet v2 M0).bind fun t3 => (if t3 = 0 then (f_X5_unlikeSets_b4 M0 n4) v1 (v2 + (1 : Int32)) else (f_X5_unlikeSets_b4 M0 n4) (v1 + (1 : Int32)) (v2 + (1 : Int32))))
def f_X5_unlikeSets (M0 : Mem) : Option Int32 := f_X5_unlikeSets_b4 M0 FU (0 : Int32) (0 : Int32)
def f_X6_dueBehind (v1 : Int32) (v2 : Int32) (M0 : Mem) : Option Int32 := (ldI M0 26 8 v1).bind fun t1 => (ldI M0 27 8 v1).bind fun t2 => (f_X0_dueFor 1 v1 (t2 + (f_J6_bitCount_0f7a4 (t1 &&& v2))) M0).bind fun t3 => some t3
def f_X6_leastRest_b6 (M0 : Mem) : Nat → Int32 → Int32 → Int32 → Int32 → Option Int32
  | 0, _, _, _, _ => none
  | n6 + 1, v1, v2, v3, v4 => (if (M0.1 1 4) ≤ v4 then some v3 else (if ((jshr (v1 &&& (v2 ^^^ (-1 : Int32))) v4) &&& (1 : Int32)) = 0 then (f_X6_leastRest_b6 M0 n6) v1 v2 v3 (v4 + (1 : Int32)) else (f_X6_dueBehind v4 v2 M0).bind fun t4 => (ldI M0 35 256 (v2 ||| (jshl (1 : Int32) v4))).bind fun t5 => (f_X6_leastRest_b6 M0 n6) v1 v2 (mnI v3 (t4 + t5)) (v4 + (1 : Int32))))
def f_X6_leastRest (v1 : Int32) (v2 : Int32) (M0 : Mem) : Option Int32 := f_X6_leastRest_b6 M0 FU v1 v2 (2147483647 : Int32) (0 : Int32)
def f_X6_reckonRests_b11 : Nat → Int32 → Int32 → Mem → Option Mem
  | 0, _, _, _ => none
  | n11 + 1, v1, v2, M => (if v2 < 0 then some M else (if (v2 &&& (v1 ^^^ (-1 : Int32))) = 0 then (f_X6_leastRest v1 v2 M).bind fun t5 => (stI M 35 256 v2 t5).bind fun M6 => (f_X6_reckonRests_b11 n11) v1 (v2 + (-1 : Int32)) M6 else (f_X6_reckonRests_b11 n11) v1 (v2 + (-1 : Int32)) M))
def f_X6_reckonRests (v1 : Int32) (M0 : Mem) : Option Mem := (stI M0 35 256 v1 (0 : Int32)).bind fun M1 => f_X6_reckonRests_b11 FU v1 (v1 - (1 : Int32)) M1
def f_X6_firstOnBestWay_b2 (M0 : Mem) : Nat → Int32 → Int32 → Int32 → Option Int32
  | 0, _, _, _ => none
  | n2 + 1, v1, v2, v3 => (if (M0.1 1 4) ≤ v3 then some (-9 : Int32) else (if ((jshr (v1 &&& (v2 ^^^ (-1 : Int32))) v3) &&& (1 : Int32)) = 0 then (f_X6_firstOnBestWay_b2 M0 n2) v1 v2 (v3 + (1 : Int32)) else (f_X6_dueBehind v3 v2 M0).bind fun t3 => (ldI M0 35 256 (v2 ||| (jshl (1 : Int32) v3))).bind fun t4 => (ldI M0 35 256 v2).bind fun t5 => (if (t3 + t4) = t5 then some v3 else (f_X6_firstOnBestWay_b2 M0 n2) v1 v2 (v3 + (1 : Int32)))))
def f_X6_firstOnBestWay (v1 : Int32) (v2 : Int32) (M0 : Mem) : Option Int32 := f_X6_firstOnBestWay_b2 M0 FU v1 v2 (0 : Int32)
def f_X6_ithDone_b5 (M0 : Mem) : Nat → Int32 → Int32 → Int32 → Int32 → Option Int32
  | 0, _, _, _, _ => none
  | n5 + 1, v1, v2, v3, v4 => (if (M0.1 1 4) ≤ v4 then some (-9 : Int32) else (f_X6_firstOnBestWay v1 v3 M0).bind fun t2 => (if t2 < 0 then some t2 else (if v4 = v2 then some t2 else (f_X6_ithDone_b5 M0 n5) v1 v2 (v3 ||| (jshl (1 : Int32) t2)) (v4 + (1 : Int32)))))
def f_X6_ithDone (v1 : Int32) (v2 : Int32) (M0 : Mem) : Option Int32 := f_X6_ithDone_b5 M0 FU v1 v2 (0 : Int32) (0 : Int32)
def f_X6_inOrder (v1 : Int32) (v2 : Int32) (M0 : Mem) : Option (Int32 × Mem) := (f_X8_openBehindLog M0).bind fun M1 => (f_X6_reckonRests v1 M1).bind fun M2 => (if 0 ≤ v2 then (f_X6_ithDone v1 v2 M2).bind fun t4 => some (t4, M2) else (ldI M2 35 256 (0 : Int32)).bind fun t5 => some (t5, M2))
def f_X6_timesMore_b12 : Nat → Int32 → Int32 → Int32 → Int32 → Mem → Option (Int32 × Mem)
  | 0, _, _, _, _, _ => none
  | n12 + 1, v1, v2, v3, v4, M => (if (60 : Int32) ≤ v4 then some ((60 : Int32), M) else (f_X8_step v1 M).bind fun pt3 => bp pt3 fun t3 M3 => (if (v3 + t3) ≤ v2 then (f_X6_timesMore_b12 n12) v1 v2 (v3 + t3) (v4 + (1 : Int32)) M3 else some (v4, M3)))
def f_X6_timesMore (v1 : Int32) (v2 : Int32) (M0 : Mem) : Option (Int32 × Mem) := (f_X8_openBehindLog M0).bind fun M1 => f_X6_timesMore_b12 FU v1 v2 (0 : Int32) (0 : Int32) M1
def f_X8_cheapestNext_b8 (M0 : Mem) : Nat → Int32 → Int32 → Int32 → Option Int32
  | 0, _, _, _ => none
  | n8 + 1, v1, v2, v3 => (if (M0.1 1 4) ≤ v3 then some v1 else (f_X8_dueNow v3 M0).bind fun t3 => (if v2 ≤ t3 then (f_X8_cheapestNext_b8 M0 n8) v1 v2 (v3 + (1 : Int32)) else (f_X8_cheapestNext_b8 M0 n8) v3 t3 (v3 + (1 : Int32))))
def f_X8_cheapestNext (M0 : Mem) : Option Int32 := f_X8_cheapestNext_b8 M0 FU (-9 : Int32) (2147483647 : Int32) (0 : Int32)
def f_X6_cheapestSteps_b59 (v2 : Int32) (v3 : Int32) (v4 : Int32) (M : Mem) : Option (Int32 × Mem) := (if v2 = 0 then some (v3, M) else some (v4, M))
def f_X6_cheapestSteps_b16 : Nat → Int32 → Int32 → Int32 → Int32 → Int32 → Mem → Option (Int32 × Mem)
  | 0, _, _, _, _, _, _ => none
  | n16 + 1, v1, v2, v3, v4, v5, M => (if v1 ≤ v5 then f_X6_cheapestSteps_b59 v2 v3 v4 M else (if (M.1 1 4) ≤ 0 then f_X6_cheapestSteps_b59 v2 v3 v4 M else (f_X8_cheapestNext M).bind fun t7 => (f_X8_step t7 M).bind fun pt8 => bp pt8 fun t8 M8 => (f_X6_cheapestSteps_b16 n16) v1 v2 (v3 + t8) t7 (v5 + (1 : Int32)) M8))
def f_X6_cheapestSteps (v1 : Int32) (v2 : Int32) (M0 : Mem) : Option (Int32 × Mem) := (f_X8_openBehindLog M0).bind fun M1 => f_X6_cheapestSteps_b16 FU v1 v2 (0 : Int32) (-9 : Int32) (0 : Int32) M1
def f_X6_stepsWithin_b11 : Nat → Int32 → Int32 → Int32 → Mem → Option (Int32 × Mem)
  | 0, _, _, _, _ => none
  | n11 + 1, v1, v2, v3, M => (if (60 : Int32) ≤ v3 then some ((60 : Int32), M) else (if (M.1 1 4) ≤ 0 then some ((60 : Int32), M) else (f_X8_cheapestNext M).bind fun t4 => (f_X8_step t4 M).bind fun pt5 => bp pt5 fun t5 M5 => (if (v2 + t5) ≤ v1 then (f_X6_stepsWithin_b11 n11) v1 (v2 + t5) (v3 + (1 : Int32)) M5 else some (v3, M5))))
def f_X6_stepsWithin (v1 : Int32) (M0 : Mem) : Option (Int32 × Mem) := (f_X8_openBehindLog M0).bind fun M1 => f_X6_stepsWithin_b11 FU v1 (0 : Int32) (0 : Int32) M1
def f_X6_totalByTurns_b13 : Nat → Int32 → Int32 → Int32 → Int32 → Int32 → Mem → Option (Int32 × Mem)
  | 0, _, _, _, _, _, _ => none
  | n13 + 1, v1, v2, v3, v4, v5, M => (if v3 ≤ v5 then some (v4, M) else (f_X8_step v1 M).bind fun pt4 => bp pt4 fun t4 M4 => (f_X8_step v2 M4).bind fun pt5 => bp pt5 fun t5 M5 => (f_X6_totalByTurns_b13 n13) v1 v2 v3 ((v4 + t4) + t5) (v5 + (1 : Int32)) M5)
def f_X6_totalByTurns (v1 : Int32) (v2 : Int32) (v3 : Int32) (M0 : Mem) : Option (Int32 × Mem) := (f_X8_forgetSteps M0).bind fun M1 => f_X6_totalByTurns_b13 FU v1 v2 v3 (0 : Int32) (0 : Int32) M1
def f_X6_cheapestTwo_b35 (k17 : Int32 → Int32 → Int32 → Int32 → Int32 → Mem → Option (Int32 × Mem)) : Nat → Int32 → Int32 → Int32 → Int32 → Int32 → Int32 → Mem → Option (Int32 × Mem)
  | 0, _, _, _, _, _, _, _ => none
  | n35 + 1, v1, v2, v3, v4, v5, v6, M => (if (M.1 1 4) ≤ v6 then k17 v1 v2 v3 v4 (v5 + (1 : Int32)) M else (f_X6_totalByTurns v5 v6 v1 M).bind fun pt7 => bp pt7 fun t7 M7 => (if v4 ≤ t7 then (f_X6_cheapestTwo_b35 k17 n35) v1 v2 v3 v4 v5 (v6 + (1 : Int32)) M7 else (f_X6_cheapestTwo_b35 k17 n35) v1 v2 (((10 : Int32) * v5) + v6) t7 v5 (v6 + (1 : Int32)) M7))
def f_X6_cheapestTwo_b17 : Nat → Int32 → Int32 → Int32 → Int32 → Int32 → Mem → Option (Int32 × Mem)
  | 0, _, _, _, _, _, _ => none
  | n17 + 1, v1, v2, v3, v4, v5, M => (if (M.1 1 4) ≤ v5 then (if v2 = 0 then some (v3, M) else (if v3 = (-9 : Int32) then some (v3, M) else some (v4, M))) else f_X6_cheapestTwo_b35 (f_X6_cheapestTwo_b17 n17) FU v1 v2 v3 v4 v5 (v5 + (1 : Int32)) M)
def f_X6_cheapestTwo (v1 : Int32) (v2 : Int32) (M0 : Mem) : Option (Int32 × Mem) := (f_X8_open M0).bind fun M1 => f_X6_cheapestTwo_b17 FU v1 v2 (-9 : Int32) (2147483647 : Int32) (0 : Int32) M1
def f_X8_totalBy (v1 : Int32) (v2 : Int32) (M0 : Mem) : Option (Int32 × Mem) := (f_X8_openBy v1 v2 M0).bind fun M1 => (f_X8_walkLog M1).bind fun pt2 => bp pt2 fun t2 M2 => some (t2, M2)
def f_X7_mildest_b17 (k8 : Int32 → Int32 → Int32 → Int32 → Mem → Option (Int32 × Mem)) : Nat → Int32 → Int32 → Int32 → Int32 → Int32 → Mem → Option (Int32 × Mem)
  | 0, _, _, _, _, _, _ => none
  | n17 + 1, v1, v2, v3, v4, v5, M => (if (8 : Int32) < v5 then k8 v1 v2 v3 (v4 + (1 : Int32)) M else (f_X8_totalBy v4 v5 M).bind fun pt5 => bp pt5 fun t5 M5 => (if v3 ≤ t5 then (f_X7_mildest_b17 k8 n17) v1 v2 v3 v4 (v5 + (1 : Int32)) M5 else (f_X7_mildest_b17 k8 n17) v1 (((10 : Int32) * v4) + v5) t5 v4 (v5 + (1 : Int32)) M5))
def f_X7_mildest_b8 : Nat → Int32 → Int32 → Int32 → Int32 → Mem → Option (Int32 × Mem)
  | 0, _, _, _, _, _ => none
  | n8 + 1, v1, v2, v3, v4, M => (if (4 : Int32) ≤ v4 then (if v1 = 0 then some (v2, M) else some (v3, M)) else f_X7_mildest_b17 (f_X7_mildest_b8 n8) FU v1 v2 v3 v4 (0 : Int32) M)
def f_X7_mildest (v1 : Int32) (M0 : Mem) : Option (Int32 × Mem) := f_X7_mildest_b8 FU v1 (0 : Int32) (2147483647 : Int32) (0 : Int32) M0
def f_X7_mildestT_b7 : Nat → Int32 → Int32 → Int32 → Mem → Option (Int32 × Mem)
  | 0, _, _, _, _ => none
  | n7 + 1, v1, v2, v3, M => (if (8 : Int32) < v3 then some (v1, M) else (f_X8_totalBy (M.1 1 6) v3 M).bind fun pt3 => bp pt3 fun t3 M3 => (if v2 ≤ t3 then (f_X7_mildestT_b7 n7) v1 v2 (v3 + (1 : Int32)) M3 else (f_X7_mildestT_b7 n7) v3 t3 (v3 + (1 : Int32)) M3))
def f_X7_mildestT (M0 : Mem) : Option (Int32 × Mem) := f_X7_mildestT_b7 FU (0 : Int32) (2147483647 : Int32) (0 : Int32) M0
def f_X7_isAsTold_b11 : Nat → Int32 → Mem → Option (Int32 × Mem)
  | 0, _, _ => none
  | n11 + 1, v3, M => (if (M.1 23 1) ≤ v3 then some ((1 : Int32), M) else (if (M.1 1 5) ≤ v3 then some ((1 : Int32), M) else (ldI M 5 12 v3).bind fun t4 => (f_X8_step t4 M).bind fun pt5 => bp pt5 fun t5 M5 => (ldI M5 24 12 v3).bind fun t6 => (if (mnI t5 (99 : Int32)) = t6 then (f_X7_isAsTold_b11 n11) (v3 + (1 : Int32)) M5 else some ((0 : Int32), M5))))
def f_X7_isAsTold (v1 : Int32) (v2 : Int32) (M0 : Mem) : Option (Int32 × Mem) := (f_X8_openBy v1 v2 M0).bind fun M1 => f_X7_isAsTold_b11 FU (0 : Int32) M1
def f_X7_howManyFit_b11 (k4 : Int32 → Int32 → Mem → Option (Int32 × Mem)) : Nat → Int32 → Int32 → Int32 → Mem → Option (Int32 × Mem)
  | 0, _, _, _, _ => none
  | n11 + 1, v1, v2, v3, M => (if (8 : Int32) < v3 then k4 v1 (v2 + (1 : Int32)) M else (f_X7_isAsTold v2 v3 M).bind fun pt4 => bp pt4 fun t4 M4 => (if t4 = 0 then (f_X7_howManyFit_b11 k4 n11) v1 v2 (v3 + (1 : Int32)) M4 else (f_X7_howManyFit_b11 k4 n11) (v1 + (1 : Int32)) v2 (v3 + (1 : Int32)) M4))
def f_X7_howManyFit_b4 : Nat → Int32 → Int32 → Mem → Option (Int32 × Mem)
  | 0, _, _, _ => none
  | n4 + 1, v1, v2, M => (if (4 : Int32) ≤ v2 then some (v1, M) else f_X7_howManyFit_b11 (f_X7_howManyFit_b4 n4) FU v1 v2 (0 : Int32) M)
def f_X7_howManyFit (M0 : Mem) : Option (Int32 × Mem) := f_X7_howManyFit_b4 FU (0 : Int32) (0 : Int32) M0
def f_X7_firstFitting_b9 (k2 : Int32 → Mem → Option (Int32 × Mem)) : Nat → Int32 → Int32 → Mem → Option (Int32 × Mem)
  | 0, _, _, _ => none
  | n9 + 1, v1, v2, M => (if (8 : Int32) < v2 then k2 (v1 + (1 : Int32)) M else (f_X7_isAsTold v1 v2 M).bind fun pt3 => bp pt3 fun t3 M3 => (if t3 = 0 then (f_X7_firstFitting_b9 k2 n9) v1 (v2 + (1 : Int32)) M3 else some ((((10 : Int32) * v1) + v2), M3)))
def f_X7_firstFitting_b2 : Nat → Int32 → Mem → Option (Int32 × Mem)
  | 0, _, _ => none
  | n2 + 1, v1, M => (if (4 : Int32) ≤ v1 then some ((-9 : Int32), M) else f_X7_firstFitting_b9 (f_X7_firstFitting_b2 n2) FU v1 (0 : Int32) M)
def f_X7_firstFitting (M0 : Mem) : Option (Int32 × Mem) := f_X7_firstFitting_b2 FU (0 : Int32) M0
def f_X7_keepNexts_b2 : Nat → Int32 → Int32 → Mem → Option Mem
  | 0, _, _, _ => none
  | n2 + 1, v1, v2, M => (if (M.1 1 4) ≤ v2 then some M else (f_X8_dueNow v2 M).bind fun t3 => (stI M 33 288 ((v1 * (8 : Int32)) + v2) t3).bind fun M4 => (f_X7_keepNexts_b2 n2) v1 (v2 + (1 : Int32)) M4)
def f_X7_keepNexts (v1 : Int32) (M0 : Mem) : Option Mem := f_X7_keepNexts_b2 FU v1 (0 : Int32) M0
def f_X7_gatherNexts_b11 (k4 : Int32 → Int32 → Mem → Option (Int32 × Mem)) : Nat → Int32 → Int32 → Int32 → Mem → Option (Int32 × Mem)
  | 0, _, _, _, _ => none
  | n11 + 1, v1, v2, v3, M => (if (8 : Int32) < v3 then k4 v1 (v2 + (1 : Int32)) M else (f_X7_isAsTold v2 v3 M).bind fun pt4 => bp pt4 fun t4 M4 => (if t4 = 0 then (f_X7_gatherNexts_b11 k4 n11) v1 v2 (v3 + (1 : Int32)) M4 else (f_X8_totalBy v2 v3 M4).bind fun pt7 => bp pt7 fun t7 M7 => (f_X7_keepNexts v1 M7).bind fun M8 => (f_X7_gatherNexts_b11 k4 n11) (v1 + (1 : Int32)) v2 (v3 + (1 : Int32)) M8))
def f_X7_gatherNexts_b4 : Nat → Int32 → Int32 → Mem → Option (Int32 × Mem)
  | 0, _, _, _ => none
  | n4 + 1, v1, v2, M => (if (4 : Int32) ≤ v2 then some (v1, M) else f_X7_gatherNexts_b11 (f_X7_gatherNexts_b4 n4) FU v1 v2 (0 : Int32) M)
def f_X7_gatherNexts (M0 : Mem) : Option (Int32 × Mem) := f_X7_gatherNexts_b4 FU (0 : Int32) (0 : Int32) M0
def f_X7_isNewNext_b2 (M0 : Mem) : Nat → Int32 → Int32 → Int32 → Option Int32
  | 0, _, _, _ => none
  | n2 + 1, v1, v2, v3 => (if v2 ≤ v3 then some (1 : Int32) else (ldI M0 33 288 ((v3 * (8 : Int32)) + v1)).bind fun t2 => (ldI M0 33 288 ((v2 * (8 : Int32)) + v1)).bind fun t3 => (if t2 = t3 then some (0 : Int32) else (f_X7_isNewNext_b2 M0 n2) v1 v2 (v3 + (1 : Int32))))
def f_X7_isNewNext (v1 : Int32) (v2 : Int32) (M0 : Mem) : Option Int32 := f_X7_isNewNext_b2 M0 FU v1 v2 (0 : Int32)
def f_X7_unlikeNexts_b5 (M0 : Mem) : Nat → Int32 → Int32 → Int32 → Int32 → Option Int32
  | 0, _, _, _, _ => none
  | n5 + 1, v1, v2, v3, v4 => (if v2 ≤ v4 then some v3 else (f_X7_isNewNext v1 v4 M0).bind fun t3 => (if t3 = 0 then (f_X7_unlikeNexts_b5 M0 n5) v1 v2 v3 (v4 + (1 : Int32)) else (f_X7_unlikeNexts_b5 M0 n5) v1 v2 (v3 + (1 : Int32)) (v4 + (1 : Int32))))
def f_X7_unlikeNexts (v1 : Int32) (v2 : Int32) (M0 : Mem) : Option Int32 := f_X7_unlikeNexts_b5 M0 FU v1 v2 (0 : Int32) (0 : Int32)
def f_X7_mostTelling_b14 : Nat → Int32 → Int32 → Int32 → Int32 → Int32 → Mem → Option (Int32 × Mem)
  | 0, _, _, _, _, _, _ => none
  | n14 + 1, v1, v2, v3, v4, v5, M => (if (M.1 1 4) ≤ v5 then (if v1 = 0 then some (v3, M) else (if v3 = (-9 : Int32) then some (v3, M) else some (v4, M))) else (f_X7_unlikeNexts v5 v2 M).bind fun t6 => (if t6 ≤ v4 then (f_X7_mostTelling_b14 n14) v1 v2 v3 v4 (v5 + (1 : Int32)) M else (f_X7_mostTelling_b14 n14) v1 v2 v5 t6 (v5 + (1 : Int32)) M))
def f_X7_mostTelling (v1 : Int32) (M0 : Mem) : Option (Int32 × Mem) := (f_X7_gatherNexts M0).bind fun pt1 => bp pt1 fun t1 M1 => f_X7_mostTelling_b14 FU v1 t1 (-9 : Int32) (0 : Int32) (0 : Int32) M1
def f_X8_nextDue (v1 : Int32) (M0 : Mem) : Option (Int32 × Mem) := (f_X8_openBehindLog M0).bind fun M1 => (f_X8_dueNow v1 M1).bind fun t2 => some (t2, M1)
def f_X8_dearestNext_b7 (M0 : Mem) : Nat → Int32 → Int32 → Int32 → Option Int32
  | 0, _, _, _ => none
  | n7 + 1, v1, v2, v3 => (if (M0.1 1 4) ≤ v3 then some v1 else (f_X8_dueNow v3 M0).bind fun t3 => (if t3 ≤ v2 then (f_X8_dearestNext_b7 M0 n7) v1 v2 (v3 + (1 : Int32)) else (f_X8_dearestNext_b7 M0 n7) v3 t3 (v3 + (1 : Int32))))
def f_X8_dearestNext (M0 : Mem) : Option Int32 := f_X8_dearestNext_b7 M0 FU (-9 : Int32) (-1 : Int32) (0 : Int32)
def f_X9_add (v1 : Int32) (M0 : Mem) : Option (Int32 × Mem) := (if (12 : Int32) ≤ (M0.1 23 1) then some ((M0.1 23 1), M0) else (stI (wI M0 23 1 ((M0.1 23 1) + (1 : Int32))) 24 12 (M0.1 23 1) v1).bind fun M2 => some ((M2.1 23 1), M2))
def f_X9_firstNotIn_b2 (M0 : Mem) : Nat → Int32 → Option Int32
  | 0, _ => none
  | n2 + 1, v2 => (if (M0.1 23 1) ≤ v2 then some (-9 : Int32) else (if (f_X0_hasPlace 1 v2 M0) = 0 then some v2 else (ldI M0 5 12 v2).bind fun t3 => (ldI M0 24 12 v2).bind fun t4 => (if t3 = t4 then (f_X9_firstNotIn_b2 M0 n2) (v2 + (1 : Int32)) else some v2)))
def f_X9_firstNotIn (M0 : Mem) : Option Int32 := f_X9_firstNotIn_b2 M0 FU (0 : Int32)
def f_X10_forget (M0 : Mem) : Option Mem := some (wI M0 11 4 (0 : Int32))
def f_X10_dropOldest (M0 : Mem) : Option Mem := (cpI (wI M0 11 4 (7 : Int32)) 12 8 12 8 (1 : Int32) (0 : Int32) ((wI M0 11 4 (7 : Int32)).1 11 4)).bind fun M1 => (cpI M1 13 8 13 8 (1 : Int32) (0 : Int32) (M1.1 11 4)).bind fun M2 => (cpI M2 14 8 14 8 (1 : Int32) (0 : Int32) (M2.1 11 4)).bind fun M3 => (cpI M3 15 8 15 8 (1 : Int32) (0 : Int32) (M3.1 11 4)).bind fun M4 => some M4
def f_X10_keep_b13 (v1 : Int32) (v2 : Int32) (v3 : Int32) (v4 : Int32) (M : Mem) : Option Mem := (stI M 12 8 (M.1 11 4) v1).bind fun M3 => (stI M3 13 8 (M3.1 11 4) v2).bind fun M4 => (stI M4 14 8 (M4.1 11 4) v3).bind fun M5 => (stI M5 15 8 (M5.1 11 4) v4).bind fun M6 => some (wI M6 11 4 ((M6.1 11 4) + (1 : Int32)))
def f_X10_keep (v1 : Int32) (v2 : Int32) (v3 : Int32) (v4 : Int32) (M0 : Mem) : Option Mem := (if (M0.1 11 4) < (8 : Int32) then f_X10_keep_b13 v1 v2 v3 v4 M0 else (f_X10_dropOldest M0).bind fun M7 => f_X10_keep_b13 v1 v2 v3 v4 M7)
def f_X10_undoLatest (M0 : Mem) : Option (Int32 × Mem) := (if 0 < (M0.1 11 4) then (ldI (wI M0 11 4 ((M0.1 11 4) - (1 : Int32))) 12 8 ((wI M0 11 4 ((M0.1 11 4) - (1 : Int32))).1 11 4)).bind fun t2 => (if t2 = (0 : Int32) then some (((wI (wI M0 11 4 ((M0.1 11 4) - (1 : Int32))) 1 5 (mxI (0 : Int32) (((wI M0 11 4 ((M0.1 11 4) - (1 : Int32))).1 1 5) - (1 : Int32)))).1 11 4), (wI (wI M0 11 4 ((M0.1 11 4) - (1 : Int32))) 1 5 (mxI (0 : Int32) (((wI M0 11 4 ((M0.1 11 4) - (1 : Int32))).1 1 5) - (1 : Int32))))) else (if t2 = (1 : Int32) then (ldI (wI M0 11 4 ((M0.1 11 4) - (1 : Int32))) 13 8 ((wI M0 11 4 ((M0.1 11 4) - (1 : Int32))).1 11 4)).bind fun t5 => (ldI (wI M0 11 4 ((M0.1 11 4) - (1 : Int32))) 14 8 ((wI M0 11 4 ((M0.1 11 4) - (1 : Int32))).1 11 4)).bind fun t6 => (ldI (wI M0 11 4 ((M0.1 11 4) - (1 : Int32))) 15 8 ((wI M0 11 4 ((M0.1 11 4) - (1 : Int32))).1 11 4)).bind fun t7 => (f_X0_setKind 1 t5 t6 t7 (wI M0 11 4 ((M0.1 11 4) - (1 : Int32)))).bind fun M8 => some ((M8.1 11 4), M8) else (if t2 = (2 : Int32) then (ldI (wI M0 11 4 ((M0.1 11 4) - (1 : Int32))) 13 8 ((wI M0 11 4 ((M0.1 11 4) - (1 : Int32))).1 11 4)).bind fun t10 => (ldI (wI M0 11 4 ((M0.1 11 4) - (1 : Int32))) 14 8 ((wI M0 11 4 ((M0.1 11 4) - (1 : Int32))).1 11 4)).bind fun t11 => (f_X0_flipMark 1 t10 t11 (wI M0 11 4 ((M0.1 11 4) - (1 : Int32)))).bind fun M12 => some ((M12.1 11 4), M12) else (ldI (wI M0 11 4 ((M0.1 11 4) - (1 : Int32))) 14 8 ((wI M0 11 4 ((M0.1 11 4) - (1 : Int32))).1 11 4)).bind fun t13 => (ldI (wI M0 11 4 ((M0.1 11 4) - (1 : Int32))) 15 8 ((wI M0 11 4 ((M0.1 11 4) - (1 : Int32))).1 11 4)).bind fun t14 => (f_X0_setLaw 1 t13 t14 (wI M0 11 4 ((M0.1 11 4) - (1 : Int32)))).bind fun M15 => some ((M15.1 11 4), M15)))) else some ((0 : Int32), M0))
def f_X11_refuse (v1 : Int32) (M0 : Mem) : Option (Int32 × Mem) := (if (-v1) < 0 then some (v1, M0) else (if (nI 7) ≤ (-v1) then some (v1, M0) else (ldI M0 43 7 (-v1)).bind fun t3 => (stI M0 43 7 (-v1) (t3 + (1 : Int32))).bind fun M4 => some (v1, M4)))
def f_X11_feed (v1 : Int32) (M0 : Mem) : Option (Int32 × Mem) := (if 0 ≤ v1 then (if (255 : Int32) < v1 then (f_X11_refuse (-6 : Int32) M0).bind fun pt3 => bp pt3 fun t3 M3 => some (t3, M3) else (if (M0.1 16 2) < (96 : Int32) then (f_X1_add v1 M0).bind fun pt5 => bp pt5 fun t5 M5 => some (t5, M5) else (f_X11_refuse (-6 : Int32) M0).bind fun pt6 => bp pt6 fun t6 M6 => some (t6, M6))) else (f_X11_refuse (-4 : Int32) M0).bind fun pt7 => bp pt7 fun t7 M7 => some (t7, M7))
def f_X11_state (M0 : Mem) : Option (Int32 × Mem) := (f_X1_tell M0).bind fun pt1 => bp pt1 fun t1 M1 => (if t1 < 0 then some (t1, M1) else (f_X10_forget M1).bind fun M4 => some (t1, M4))
def f_X11_doingOf (v1 : Int32) (v2 : Int32) (M0 : Mem) : Option (Int32 × Mem) := (if (f_X0_hasDoing 1 v1 M0) = 0 then (f_X11_refuse (-1 : Int32) M0).bind fun pt9 => bp pt9 fun t9 M9 => some (t9, M9) else (if v2 = (0 : Int32) then (ldI M0 2 8 v1).bind fun t3 => some (t3, M0) else (if v2 = (1 : Int32) then (ldI M0 3 8 v1).bind fun t5 => some (t5, M0) else (if v2 = (2 : Int32) then (ldI M0 4 8 v1).bind fun t7 => some (t7, M0) else (f_X11_refuse (-2 : Int32) M0).bind fun pt8 => bp pt8 fun t8 M8 => some (t8, M8)))))
def f_X11_doing (v1 : Int32) (v2 : Int32) (v3 : Int32) (M0 : Mem) : Option (Int32 × Mem) := (if (f_X11_isKind v1) = 0 then (f_X11_refuse (-2 : Int32) M0).bind fun pt14 => bp pt14 fun t14 M14 => some (t14, M14) else (if v2 < 0 then (f_X11_refuse (-4 : Int32) M0).bind fun pt3 => bp pt3 fun t3 M3 => some (t3, M3) else (if 0 ≤ v3 then (if (9 : Int32) < v2 then (f_X11_refuse (-6 : Int32) M0).bind fun pt6 => bp pt6 fun t6 M6 => some (t6, M6) else (if (255 : Int32) < v3 then (f_X11_refuse (-6 : Int32) M0).bind fun pt8 => bp pt8 fun t8 M8 => some (t8, M8) else (if (f_X0_hasRoomForDoing 1 M0) = 0 then (f_X11_refuse (-6 : Int32) M0).bind fun pt12 => bp pt12 fun t12 M12 => some (t12, M12) else (f_X10_forget M0).bind fun M10 => (f_X0_addDoing 1 v1 v2 v3 M10).bind fun pt11 => bp pt11 fun t11 M11 => some (t11, M11)))) else (f_X11_refuse (-4 : Int32) M0).bind fun pt13 => bp pt13 fun t13 M13 => some (t13, M13))))
def f_X11_does (v1 : Int32) (M0 : Mem) : Option (Int32 × Mem) := (if (f_X0_hasDoing 1 v1 M0) = 0 then (f_X11_refuse (-1 : Int32) M0).bind fun pt7 => bp pt7 fun t7 M7 => some (t7, M7) else (if (f_X0_hasRoomForPlace 1 M0) = 0 then (f_X11_refuse (-6 : Int32) M0).bind fun pt6 => bp pt6 fun t6 M6 => some (t6, M6) else (f_X8_nextDue v1 M0).bind fun pt3 => bp pt3 fun t3 M3 => (f_X0_addPlace 1 v1 M3).bind fun M4 => (f_X10_keep (0 : Int32) v1 (0 : Int32) (0 : Int32) M4).bind fun M5 => some (t3, M5)))
def f_X11_empties (M0 : Mem) : Option (Int32 × Mem) := (f_X10_forget (wI M0 1 5 (0 : Int32))).bind fun M1 => some ((M0.1 1 5), M1)
def f_X11_turn (v1 : Int32) (v2 : Int32) (v3 : Int32) (M0 : Mem) : Option (Int32 × Mem) := (if (f_X0_hasDoing 1 v1 M0) = 0 then (f_X11_refuse (-1 : Int32) M0).bind fun pt12 => bp pt12 fun t12 M12 => some (t12, M12) else (if (f_X11_isKind v2) = 0 then (f_X11_refuse (-2 : Int32) M0).bind fun pt11 => bp pt11 fun t11 M11 => some (t11, M11) else (if 0 ≤ v3 then (if v3 ≤ (9 : Int32) then (ldI M0 2 8 v1).bind fun t5 => (ldI M0 3 8 v1).bind fun t6 => (f_X0_setKind 1 v1 v2 v3 M0).bind fun M7 => (f_X10_keep (1 : Int32) v1 t5 t6 M7).bind fun M8 => some ((((10 : Int32) * t5) + t6), M8) else (f_X11_refuse (-6 : Int32) M0).bind fun pt9 => bp pt9 fun t9 M9 => some (t9, M9)) else (f_X11_refuse (-4 : Int32) M0).bind fun pt10 => bp pt10 fun t10 M10 => some (t10, M10))))
def f_X11_marks (v1 : Int32) (v2 : Int32) (M0 : Mem) : Option (Int32 × Mem) := (if (f_X0_hasDoing 1 v1 M0) = 0 then (f_X11_refuse (-1 : Int32) M0).bind fun pt2 => bp pt2 fun t2 M2 => some (t2, M2) else (if (f_X11_isMark v2) = 0 then (f_X11_refuse (-1 : Int32) M0).bind fun pt7 => bp pt7 fun t7 M7 => some (t7, M7) else (f_X0_flipMark 1 v1 v2 M0).bind fun M4 => (f_X10_keep (2 : Int32) v1 v2 (0 : Int32) M4).bind fun M5 => (ldI M5 4 8 v1).bind fun t6 => some (((jshr t6 v2) &&& (1 : Int32)), M5)))
def f_X11_law (v1 : Int32) (v2 : Int32) (M0 : Mem) : Option (Int32 × Mem) := (if (f_X11_isType v1) = 0 then (f_X11_refuse (-2 : Int32) M0).bind fun pt8 => bp pt8 fun t8 M8 => some (t8, M8) else (if 0 ≤ v2 then (if v2 ≤ (8 : Int32) then (f_X0_setLaw 1 v1 v2 M0).bind fun M4 => (f_X10_keep (3 : Int32) (0 : Int32) (M0.1 1 6) (M0.1 1 7) M4).bind fun M5 => some ((((10 : Int32) * (M0.1 1 6)) + (M0.1 1 7)), M5) else (f_X11_refuse (-6 : Int32) M0).bind fun pt6 => bp pt6 fun t6 M6 => some (t6, M6)) else (f_X11_refuse (-4 : Int32) M0).bind fun pt7 => bp pt7 fun t7 M7 => some (t7, M7)))
def f_X11_back (M0 : Mem) : Option (Int32 × Mem) := (if 0 < (M0.1 11 4) then (f_X10_undoLatest M0).bind fun pt2 => bp pt2 fun t2 M2 => some (t2, M2) else (f_X11_refuse (-3 : Int32) M0).bind fun pt3 => bp pt3 fun t3 M3 => some (t3, M3))
def f_X11_same (v1 : Int32) (v2 : Int32) (M0 : Mem) : Option (Int32 × Mem) := (if (f_X0_hasDoing 1 v1 M0) = 0 then (f_X11_refuse (-1 : Int32) M0).bind fun pt2 => bp pt2 fun t2 M2 => some (t2, M2) else (if (f_X0_hasDoing 1 v2 M0) = 0 then (f_X11_refuse (-1 : Int32) M0).bind fun pt6 => bp pt6 fun t6 M6 => some (t6, M6) else (f_X0_areAlike 1 v1 v2 (M0.1 1 6) (M0.1 1 7) M0).bind fun t4 => (if t4 = 0 then some ((0 : Int32), M0) else some ((1 : Int32), M0))))
def f_X11_place (v1 : Int32) (v2 : Int32) (M0 : Mem) : Option (Int32 × Mem) := (if (f_X0_hasPlace 1 v1 M0) = 0 then (f_X11_refuse (-1 : Int32) M0).bind fun pt9 => bp pt9 fun t9 M9 => some (t9, M9) else (if v2 < 0 then (f_X11_refuse (-2 : Int32) M0).bind fun pt3 => bp pt3 fun t3 M3 => some (t3, M3) else (if v2 ≤ (2 : Int32) then (if v2 = 0 then (ldI M0 5 12 v1).bind fun t7 => some (t7, M0) else (f_X3_ofPlace v1 v2 M0).bind fun pt6 => bp pt6 fun t6 M6 => some (t6, M6)) else (f_X11_refuse (-2 : Int32) M0).bind fun pt8 => bp pt8 fun t8 M8 => some (t8, M8))))
def f_X11_allDue (M0 : Mem) : Option (Int32 × Mem) := (f_X3_total M0).bind fun pt1 => bp pt1 fun t1 M1 => some (t1, M1)
def f_X11_next (v1 : Int32) (M0 : Mem) : Option (Int32 × Mem) := (if (f_X0_hasDoing 1 v1 M0) = 0 then (f_X11_refuse (-1 : Int32) M0).bind fun pt3 => bp pt3 fun t3 M3 => some (t3, M3) else (f_X8_nextDue v1 M0).bind fun pt2 => bp pt2 fun t2 M2 => some (t2, M2))
def f_X11_isEither (v0 : Int32) : Int32 := (if v0 = 0 then (1 : Int32) else (if v0 = (1 : Int32) then (1 : Int32) else (0 : Int32)))
def f_X11_best (v1 : Int32) (M0 : Mem) : Option (Int32 × Mem) := (if (f_X11_isEither v1) = 0 then (f_X11_refuse (-2 : Int32) M0).bind fun pt6 => bp pt6 fun t6 M6 => some (t6, M6) else (f_X8_openBehindLog M0).bind fun M2 => (if v1 = 0 then (f_X8_cheapestNext M2).bind fun t5 => some (t5, M2) else (f_X8_dearestNext M2).bind fun t4 => some (t4, M2)))
def f_X11_charged (v1 : Int32) (M0 : Mem) : Option (Int32 × Mem) := (if 0 ≤ v1 then (if v1 ≤ (999 : Int32) then (f_X3_firstAbove v1 M0).bind fun pt3 => bp pt3 fun t3 M3 => some (t3, M3) else (f_X11_refuse (-6 : Int32) M0).bind fun pt4 => bp pt4 fun t4 M4 => some (t4, M4)) else (f_X11_refuse (-4 : Int32) M0).bind fun pt5 => bp pt5 fun t5 M5 => some (t5, M5))
def f_X11_order (v1 : Int32) (v2 : Int32) (M0 : Mem) : Option (Int32 × Mem) := (if v1 < 0 then (f_X11_refuse (-4 : Int32) M0).bind fun pt2 => bp pt2 fun t2 M2 => some (t2, M2) else (if (-1 : Int32) ≤ v2 then (if (jshr v1 (M0.1 1 4)) = 0 then (if (f_J6_bitCount_0f7a4 v1) ≤ (6 : Int32) then (f_X6_inOrder v1 v2 M0).bind fun pt6 => bp pt6 fun t6 M6 => some (t6, M6) else (f_X11_refuse (-3 : Int32) M0).bind fun pt7 => bp pt7 fun t7 M7 => some (t7, M7)) else (f_X11_refuse (-6 : Int32) M0).bind fun pt8 => bp pt8 fun t8 M8 => some (t8, M8)) else (f_X11_refuse (-4 : Int32) M0).bind fun pt9 => bp pt9 fun t9 M9 => some (t9, M9)))
def f_X11_unlike (M0 : Mem) : Option (Int32 × Mem) := (f_X2_mostApart M0).bind fun pt1 => bp pt1 fun t1 M1 => some (t1, M1)
def f_X11_people (M0 : Mem) : Option (Int32 × Mem) := (f_X2_fewestPeople M0).bind fun pt1 => bp pt1 fun t1 M1 => some (t1, M1)
def f_X11_like (v1 : Int32) (M0 : Mem) : Option (Int32 × Mem) := (if v1 < (-1 : Int32) then (f_X11_refuse (-1 : Int32) M0).bind fun pt2 => bp pt2 fun t2 M2 => some (t2, M2) else (if v1 < (M0.1 1 4) then (if 0 ≤ v1 then (f_X2_likesOf v1 M0).bind fun pt5 => bp pt5 fun t5 M5 => some (t5, M5) else (f_X2_withMostLikes M0).bind fun pt6 => bp pt6 fun t6 M6 => some (t6, M6)) else (f_X11_refuse (-1 : Int32) M0).bind fun pt7 => bp pt7 fun t7 M7 => some (t7, M7)))
def f_X11_reading (v1 : Int32) (M0 : Mem) : Option (Int32 × Mem) := (if (f_X11_isEither v1) = 0 then (f_X11_refuse (-2 : Int32) M0).bind fun pt3 => bp pt3 fun t3 M3 => some (t3, M3) else (f_X7_mildest v1 M0).bind fun pt2 => bp pt2 fun t2 M2 => some (t2, M2))
def f_X11_fits (v1 : Int32) (M0 : Mem) : Option (Int32 × Mem) := (if (f_X11_isEither v1) = 0 then (f_X11_refuse (-2 : Int32) M0).bind fun pt7 => bp pt7 fun t7 M7 => some (t7, M7) else (if (M0.1 23 1) ≤ (M0.1 1 5) then (if v1 = 0 then (f_X7_howManyFit M0).bind fun pt5 => bp pt5 fun t5 M5 => some (t5, M5) else (f_X7_firstFitting M0).bind fun pt4 => bp pt4 fun t4 M4 => some (t4, M4)) else (f_X11_refuse (-3 : Int32) M0).bind fun pt6 => bp pt6 fun t6 M6 => some (t6, M6)))
def f_X11_tellsMost (v1 : Int32) (M0 : Mem) : Option (Int32 × Mem) := (if (f_X11_isEither v1) = 0 then (f_X11_refuse (-2 : Int32) M0).bind fun pt5 => bp pt5 fun t5 M5 => some (t5, M5) else (if (M0.1 23 1) ≤ (M0.1 1 5) then (f_X7_mostTelling v1 M0).bind fun pt3 => bp pt3 fun t3 M3 => some (t3, M3) else (f_X11_refuse (-3 : Int32) M0).bind fun pt4 => bp pt4 fun t4 M4 => some (t4, M4)))
def f_X11_loophole (M0 : Mem) : Option (Int32 × Mem) := (f_X5_bestFlip M0).bind fun pt1 => bp pt1 fun t1 M1 => some (t1, M1)
def f_X11_shared (v1 : Int32) (M0 : Mem) : Option (Int32 × Mem) := (if (f_X11_isEither v1) = 0 then (f_X11_refuse (-2 : Int32) M0).bind fun pt3 => bp pt3 fun t3 M3 => some (t3, M3) else (f_X3_splitInTwo v1 M0).bind fun pt2 => bp pt2 fun t2 M2 => some (t2, M2))
def f_X11_saves (v1 : Int32) (M0 : Mem) : Option (Int32 × Mem) := (if v1 < (-1 : Int32) then (f_X11_refuse (-1 : Int32) M0).bind fun pt2 => bp pt2 fun t2 M2 => some (t2, M2) else (if v1 < (M0.1 1 5) then (if 0 ≤ v1 then (f_X3_savingOf v1 M0).bind fun pt5 => bp pt5 fun t5 M5 => some (t5, M5) else (f_X3_bestSaving M0).bind fun pt6 => bp pt6 fun t6 M6 => some (t6, M6)) else (f_X11_refuse (-1 : Int32) M0).bind fun pt7 => bp pt7 fun t7 M7 => some (t7, M7)))
def f_X11_turned (M0 : Mem) : Option (Int32 × Mem) := (f_X3_totalFromBehind M0).bind fun pt1 => bp pt1 fun t1 M1 => some (t1, M1)
def f_X11_changed (M0 : Mem) : Option (Int32 × Mem) := (f_X3_bestExchange M0).bind fun pt1 => bp pt1 fun t1 M1 => some (t1, M1)
def f_X11_wants (v1 : Int32) (v2 : Int32) (M0 : Mem) : Option (Int32 × Mem) := (if 0 ≤ v1 then (if v1 ≤ (255 : Int32) then (if v2 < 0 then (f_X11_refuse (-2 : Int32) M0).bind fun pt4 => bp pt4 fun t4 M4 => some (t4, M4) else (if v2 ≤ (2 : Int32) then (f_X5_covering v1 v2 M0).bind fun pt6 => bp pt6 fun t6 M6 => some (t6, M6) else (f_X11_refuse (-2 : Int32) M0).bind fun pt7 => bp pt7 fun t7 M7 => some (t7, M7))) else (f_X11_refuse (-6 : Int32) M0).bind fun pt8 => bp pt8 fun t8 M8 => some (t8, M8)) else (f_X11_refuse (-4 : Int32) M0).bind fun pt9 => bp pt9 fun t9 M9 => some (t9, M9))
def f_X11_refuseLong (v1 : Int32) (M0 : Mem) : Option (Int64 × Mem) := (f_X11_refuse v1 M0).bind fun pt1 => bp pt1 fun t1 M1 => some (((4000000000000000000 : Int64) - (t1).toInt64), M1)
def f_X11_songs (v1 : Int32) (v2 : Int32) (M0 : Mem) : Option (Int64 × Mem) := (if v1 < 0 then (f_X11_refuseLong (-4 : Int32) M0).bind fun pt2 => bp pt2 fun t2 M2 => some (t2, M2) else (if 0 ≤ v2 then (if (8 : Int32) < v1 then (f_X11_refuseLong (-6 : Int32) M0).bind fun pt5 => bp pt5 fun t5 M5 => some (t5, M5) else (if v2 ≤ (2 : Int32) then (f_X2_songRows v1 v2 M0).bind fun pt7 => bp pt7 fun t7 M7 => some (t7, M7) else (f_X11_refuseLong (-6 : Int32) M0).bind fun pt8 => bp pt8 fun t8 M8 => some (t8, M8))) else (f_X11_refuseLong (-4 : Int32) M0).bind fun pt9 => bp pt9 fun t9 M9 => some (t9, M9)))
def f_X11_inspectors (v1 : Int32) (M0 : Mem) : Option (Int32 × Mem) := (if (1 : Int32) ≤ v1 then (if v1 ≤ (9 : Int32) then (f_X2_firstCaught v1 M0).bind fun pt3 => bp pt3 fun t3 M3 => some (t3, M3) else (f_X11_refuse (-6 : Int32) M0).bind fun pt4 => bp pt4 fun t4 M4 => some (t4, M4)) else (f_X11_refuse (-4 : Int32) M0).bind fun pt5 => bp pt5 fun t5 M5 => some (t5, M5))
def f_X11_mean (v1 : Int32) (M0 : Mem) : Option (Int64 × Mem) := (if (f_X11_isEither v1) = 0 then (f_X11_refuseLong (-2 : Int32) M0).bind fun pt3 => bp pt3 fun t3 M3 => some (t3, M3) else (f_X4_meanNext v1 M0).bind fun pt2 => bp pt2 fun t2 M2 => some (t2, M2))
def f_X11_twins (v1 : Int32) (M0 : Mem) : Option (Int32 × Mem) := (if (f_X11_isEither v1) = 0 then (f_X11_refuse (-2 : Int32) M0).bind fun pt3 => bp pt3 fun t3 M3 => some (t3, M3) else (f_X5_closestTwo v1 M0).bind fun t2 => some (t2, M0))
def f_X11_chain (v1 : Int32) (v2 : Int32) (M0 : Mem) : Option (Int32 × Mem) := (if (f_X0_hasDoing 1 v1 M0) = 0 then (f_X11_refuse (-1 : Int32) M0).bind fun pt2 => bp pt2 fun t2 M2 => some (t2, M2) else (if (f_X0_hasDoing 1 v2 M0) = 0 then (f_X11_refuse (-1 : Int32) M0).bind fun pt5 => bp pt5 fun t5 M5 => some (t5, M5) else (f_X2_shortestChain v1 v2 M0).bind fun pt4 => bp pt4 fun t4 M4 => some (t4, M4)))
def f_X11_heaps (v1 : Int32) (M0 : Mem) : Option (Int32 × Mem) := (if (f_X11_isEither v1) = 0 then (f_X11_refuse (-2 : Int32) M0).bind fun pt3 => bp pt3 fun t3 M3 => some (t3, M3) else (f_X2_allHeaps v1 M0).bind fun pt2 => bp pt2 fun t2 M2 => some (t2, M2))
def f_X11_pure (v1 : Int32) (M0 : Mem) : Option (Int32 × Mem) := (if (f_X11_isEither v1) = 0 then (f_X11_refuse (-2 : Int32) M0).bind fun pt3 => bp pt3 fun t3 M3 => some (t3, M3) else (f_X3_longestPure v1 M0).bind fun pt2 => bp pt2 fun t2 M2 => some (t2, M2))
def f_X11_bestT (M0 : Mem) : Option (Int32 × Mem) := (f_X7_mildestT M0).bind fun pt1 => bp pt1 fun t1 M1 => some (t1, M1)
def f_X11_margin (v1 : Int32) (v2 : Int32) (M0 : Mem) : Option (Int32 × Mem) := (if (f_X0_hasDoing 1 v1 M0) = 0 then (f_X11_refuse (-1 : Int32) M0).bind fun pt7 => bp pt7 fun t7 M7 => some (t7, M7) else (if 0 ≤ v2 then (if v2 ≤ (999 : Int32) then (f_X6_timesMore v1 v2 M0).bind fun pt4 => bp pt4 fun t4 M4 => some (t4, M4) else (f_X11_refuse (-6 : Int32) M0).bind fun pt5 => bp pt5 fun t5 M5 => some (t5, M5)) else (f_X11_refuse (-4 : Int32) M0).bind fun pt6 => bp pt6 fun t6 M6 => some (t6, M6)))
def f_X11_firsts (M0 : Mem) : Option (Int32 × Mem) := (f_X3_withoutRepeats M0).bind fun pt1 => bp pt1 fun t1 M1 => some (t1, M1)
def f_X11_greedily (v1 : Int32) (v2 : Int32) (M0 : Mem) : Option (Int32 × Mem) := (if 0 ≤ v1 then (if v1 ≤ (12 : Int32) then (if (f_X11_isEither v2) = 0 then (f_X11_refuse (-2 : Int32) M0).bind fun pt5 => bp pt5 fun t5 M5 => some (t5, M5) else (f_X6_cheapestSteps v1 v2 M0).bind fun pt4 => bp pt4 fun t4 M4 => some (t4, M4)) else (f_X11_refuse (-6 : Int32) M0).bind fun pt6 => bp pt6 fun t6 M6 => some (t6, M6)) else (f_X11_refuse (-4 : Int32) M0).bind fun pt7 => bp pt7 fun t7 M7 => some (t7, M7))
def f_X11_pair (v1 : Int32) (v2 : Int32) (M0 : Mem) : Option (Int32 × Mem) := (if 0 ≤ v1 then (if v1 ≤ (6 : Int32) then (if (f_X11_isEither v2) = 0 then (f_X11_refuse (-2 : Int32) M0).bind fun pt5 => bp pt5 fun t5 M5 => some (t5, M5) else (f_X6_cheapestTwo v1 v2 M0).bind fun pt4 => bp pt4 fun t4 M4 => some (t4, M4)) else (f_X11_refuse (-6 : Int32) M0).bind fun pt6 => bp pt6 fun t6 M6 => some (t6, M6)) else (f_X11_refuse (-4 : Int32) M0).bind fun pt7 => bp pt7 fun t7 M7 => some (t7, M7))
def f_X11_quota (v1 : Int32) (M0 : Mem) : Option (Int32 × Mem) := (if 0 ≤ v1 then (if v1 ≤ (999 : Int32) then (f_X6_stepsWithin v1 M0).bind fun pt3 => bp pt3 fun t3 M3 => some (t3, M3) else (f_X11_refuse (-6 : Int32) M0).bind fun pt4 => bp pt4 fun t4 M4 => some (t4, M4)) else (f_X11_refuse (-4 : Int32) M0).bind fun pt5 => bp pt5 fun t5 M5 => some (t5, M5))
def f_X11_radius (v1 : Int32) (M0 : Mem) : Option (Int32 × Mem) := (if (f_X11_isEither v1) = 0 then (f_X11_refuse (-2 : Int32) M0).bind fun pt5 => bp pt5 fun t5 M5 => some (t5, M5) else (if v1 = 0 then (f_X5_farthestTwo M0).bind fun t4 => some (t4, M0) else (f_X5_centre M0).bind fun t3 => some (t3, M0)))
def f_X11_majority (M0 : Mem) : Option Int32 := (f_X5_mostlyHad M0).bind fun t1 => some t1
def f_X11_byKind (v1 : Int32) (M0 : Mem) : Option (Int32 × Mem) := (if v1 < (-1 : Int32) then (f_X11_refuse (-2 : Int32) M0).bind fun pt2 => bp pt2 fun t2 M2 => some (t2, M2) else (if v1 < (6 : Int32) then (if 0 ≤ v1 then (f_X3_totalOfKind v1 M0).bind fun pt5 => bp pt5 fun t5 M5 => some (t5, M5) else (f_X3_dearestKind M0).bind fun pt6 => bp pt6 fun t6 M6 => some (t6, M6)) else (f_X11_refuse (-2 : Int32) M0).bind fun pt7 => bp pt7 fun t7 M7 => some (t7, M7)))
def f_X11_banned (v1 : Int32) (M0 : Mem) : Option (Int32 × Mem) := (if (f_X11_isEither v1) = 0 then (f_X11_refuse (-2 : Int32) M0).bind fun pt3 => bp pt3 fun t3 M3 => some (t3, M3) else (f_X3_bestBan v1 M0).bind fun pt2 => bp pt2 fun t2 M2 => some (t2, M2))
def f_X11_moved (v1 : Int32) (M0 : Mem) : Option (Int32 × Mem) := (if v1 < (-1 : Int32) then (f_X11_refuse (-1 : Int32) M0).bind fun pt2 => bp pt2 fun t2 M2 => some (t2, M2) else (if v1 < (M0.1 1 5) then (if 0 ≤ v1 then (f_X3_totalMoved v1 M0).bind fun pt5 => bp pt5 fun t5 M5 => some (t5, M5) else (f_X3_bestMove M0).bind fun pt6 => bp pt6 fun t6 M6 => some (t6, M6)) else (f_X11_refuse (-1 : Int32) M0).bind fun pt7 => bp pt7 fun t7 M7 => some (t7, M7)))
def f_X11_unlikeMarks (M0 : Mem) : Option Int32 := (f_X5_unlikeSets M0).bind fun t1 => some t1
def f_X11_streak (M0 : Mem) : Option (Int32 × Mem) := (f_X3_longestStreak M0).bind fun pt1 => bp pt1 fun t1 M1 => some (t1, M1)
def f_X11_row (v1 : Int32) (M0 : Mem) : Option (Int32 × Mem) := (if 0 ≤ v1 then (if (99 : Int32) < v1 then (f_X11_refuse (-6 : Int32) M0).bind fun pt3 => bp pt3 fun t3 M3 => some (t3, M3) else (if (M0.1 23 1) < (12 : Int32) then (f_X9_add v1 M0).bind fun pt5 => bp pt5 fun t5 M5 => some (t5, M5) else (f_X11_refuse (-6 : Int32) M0).bind fun pt6 => bp pt6 fun t6 M6 => some (t6, M6))) else (f_X11_refuse (-4 : Int32) M0).bind fun pt7 => bp pt7 fun t7 M7 => some (t7, M7))
def f_X11_judge (M0 : Mem) : Option (Int32 × Mem) := (f_X9_firstNotIn M0).bind fun t1 => some (t1, (wI M0 23 1 (0 : Int32)))
def f_X11_clear (M0 : Mem) : Option (Int32 × Mem) := some ((M0.1 23 1), (wI M0 23 1 (0 : Int32)))
def f_X11_lots (v1 : Int32) (v2 : Int32) (v3 : Int32) (M0 : Mem) : Option (Int32 × Mem) := (if (1 : Int32) ≤ v1 then (if v1 ≤ (20 : Int32) then (if (f_X11_isEither v3) = 0 then (f_X11_refuse (-2 : Int32) M0).bind fun pt5 => bp pt5 fun t5 M5 => some (t5, M5) else (f_X4_weeks v1 v2 v3 M0).bind fun pt4 => bp pt4 fun t4 M4 => some (t4, M4)) else (f_X11_refuse (-6 : Int32) M0).bind fun pt6 => bp pt6 fun t6 M6 => some (t6, M6)) else (f_X11_refuse (-4 : Int32) M0).bind fun pt7 => bp pt7 fun t7 M7 => some (t7, M7))
def f_X11_image (M0 : Mem) : Option (Int32 × Mem) := (f_X0_become 6 1 M0).bind fun M1 => some (((wI M1 0 2 (1 : Int32)).1 1 5), (wI M1 0 2 (1 : Int32)))
def f_X11_restore (M0 : Mem) : Option (Int32 × Mem) := (if (M0.1 0 2) = 0 then (f_X11_refuse (-3 : Int32) M0).bind fun pt4 => bp pt4 fun t4 M4 => some (t4, M4) else (f_X0_become 1 6 M0).bind fun M2 => (f_X10_forget M2).bind fun M3 => some ((M3.1 1 5), M3))
def f_X11_countRefused (v1 : Int32) (M0 : Mem) : Option Int32 := (if v1 < (1 : Int32) then some (-9 : Int32) else (if (nI 7) ≤ v1 then some (-9 : Int32) else (ldI M0 43 7 v1).bind fun t3 => some t3))
def f_X11_count (v1 : Int32) (M0 : Mem) : Option (Int32 × Mem) := (if v1 = (0 : Int32) then some ((M0.1 1 4), M0) else (if v1 = (1 : Int32) then some ((M0.1 1 5), M0) else (if v1 = (2 : Int32) then some ((M0.1 1 6), M0) else (if v1 = (3 : Int32) then some ((M0.1 1 7), M0) else (if v1 = (4 : Int32) then (f_X3_total M0).bind fun pt6 => bp pt6 fun t6 M6 => some (t6, M6) else (if v1 = (5 : Int32) then (f_X5_allCounted M0).bind fun t8 => some (t8, M0) else (if v1 = (6 : Int32) then some ((M0.1 16 2), M0) else (if v1 = (7 : Int32) then some ((M0.1 23 1), M0) else (if v1 = (8 : Int32) then some ((M0.1 11 4), M0) else (f_X11_countRefused (v1 - (10 : Int32)) M0).bind fun t12 => some (t12, M0))))))))))
def f_X12_no (v1 : Int32) (M0 : Mem) : Option (Int32 × Mem) := (ldI M0 1 7 (-v1)).bind fun t1 => (stI M0 1 7 (-v1) (t1 + (1 : Int32))).bind fun M2 => some (v1, M2)
def f_X12_lowest (v1 : Int32) (M0 : Mem) : Option (Int64 × Mem) := (ldI M0 1 7 (-v1)).bind fun t1 => (stI M0 1 7 (-v1) (t1 + (1 : Int32))).bind fun M2 => some (((4000000000000000000 : Int64) - (v1).toInt64), M2)
def f_X12_isIn (v0 : Int32) (v1 : Int32) (v2 : Int32) : Int32 := (if v0 < v1 then (0 : Int32) else (if v2 < v0 then (0 : Int32) else (1 : Int32)))
def f_X12_bound (v0 : Int32) (v1 : Int32) (v2 : Int32) : Int32 := (if v1 ≤ v0 then (if v0 ≤ v2 then (0 : Int32) else (-6 : Int32)) else (-4 : Int32))
def f_X12_has (v0 : Int32) (v1 : Int32) : Int32 := (if ((jshr v0 v1) &&& (1 : Int32)) = (1 : Int32) then (1 : Int32) else (0 : Int32))
def f_X12_bits_b4 : Nat → Int32 → Int32 → Int32 → Option Int32
  | 0, _, _, _ => none
  | n4 + 1, v0, v1, v2 => (if (31 : Int32) ≤ v2 then some v1 else (f_X12_bits_b4 n4) v0 (v1 + ((jshr v0 v2) &&& (1 : Int32))) (v2 + (1 : Int32)))
def f_X12_bits (v0 : Int32) : Option Int32 := f_X12_bits_b4 FU v0 (0 : Int32) (0 : Int32)
def f_X12_isDoing (v1 : Int32) (M0 : Mem) : Int32 := (if v1 < 0 then (0 : Int32) else (if (M0.1 0 5) ≤ v1 then (0 : Int32) else (1 : Int32)))
def f_X12_isMark (v0 : Int32) : Int32 := (if v0 < 0 then (0 : Int32) else (if (8 : Int32) ≤ v0 then (0 : Int32) else (1 : Int32)))
def f_X12_feed_b25 (v1 : Int32) (v2 : Int32) (M : Mem) : Option (Int32 × Mem) := (if v2 = 0 then (stI M 6 96 (M.1 0 13) v1).bind fun M3 => some (((wI M3 0 13 ((M3.1 0 13) + (1 : Int32))).1 0 13), (wI M3 0 13 ((M3.1 0 13) + (1 : Int32)))) else (f_X12_no v2 M).bind fun pt4 => bp pt4 fun t4 M4 => some (t4, M4))
def f_X12_feed (v1 : Int32) (M0 : Mem) : Option (Int32 × Mem) := (if (f_X12_bound v1 (0 : Int32) (255 : Int32)) = 0 then (if (M0.1 0 13) = (96 : Int32) then f_X12_feed_b25 v1 (-6 : Int32) M0 else f_X12_feed_b25 v1 (f_X12_bound v1 (0 : Int32) (255 : Int32)) M0) else f_X12_feed_b25 v1 (f_X12_bound v1 (0 : Int32) (255 : Int32)) M0)
def f_X12_peeked (M0 : Mem) : Option Int32 := (if (M0.1 0 13) ≤ (M0.1 0 14) then some (-1 : Int32) else (ldI M0 6 96 (M0.1 0 14)).bind fun t2 => some t2)
def f_X12_readsDigits_b5 : Nat → Int32 → Int32 → Int32 → Int32 → Mem → Option (Int32 × Mem)
  | 0, _, _, _, _, _ => none
  | n5 + 1, v1, v2, v3, v4, M => (if v2 ≤ v4 then (stI M 9 144 v1 v3).bind fun M2 => some ((1 : Int32), M2) else (f_X12_peeked M).bind fun t3 => (if (f_X12_isIn t3 (48 : Int32) (57 : Int32)) = 0 then some ((0 : Int32), M) else (f_X12_peeked M).bind fun t5 => (f_X12_readsDigits_b5 n5) v1 v2 ((((10 : Int32) * v3) + t5) - (48 : Int32)) (v4 + (1 : Int32)) (wI M 0 14 ((M.1 0 14) + (1 : Int32)))))
def f_X12_readsDigits (v1 : Int32) (v2 : Int32) (M0 : Mem) : Option (Int32 × Mem) := f_X12_readsDigits_b5 FU v1 v2 (0 : Int32) (0 : Int32) M0
def f_X12_readsAll (v1 : Int32) (v2 : Int32) (M0 : Mem) : Option (Int32 × Mem) := (if v1 = (100 : Int32) then (f_X12_readsDigits v2 (1 : Int32) M0).bind fun pt2 => bp pt2 fun t2 M2 => (if t2 = 0 then some ((0 : Int32), M2) else (f_X12_readsDigits (v2 + (1 : Int32)) (1 : Int32) M2).bind fun pt4 => bp pt4 fun t4 M4 => (if t4 = 0 then some ((0 : Int32), M4) else (f_X12_readsDigits (v2 + (2 : Int32)) (3 : Int32) M4).bind fun pt6 => bp pt6 fun t6 M6 => (if t6 = 0 then some ((0 : Int32), M6) else some ((1 : Int32), M6)))) else (if v1 = (111 : Int32) then (f_X12_readsDigits v2 (1 : Int32) M0).bind fun pt9 => bp pt9 fun t9 M9 => (gZ t9).bind fun t10 => some (t10, M9) else (if v1 = (120 : Int32) then some ((1 : Int32), M0) else (f_X12_readsDigits v2 (1 : Int32) M0).bind fun pt12 => bp pt12 fun t12 M12 => (if t12 = 0 then some ((0 : Int32), M12) else (f_X12_readsDigits (v2 + (1 : Int32)) (1 : Int32) M12).bind fun pt14 => bp pt14 fun t14 M14 => (if t14 = 0 then some ((0 : Int32), M14) else some ((1 : Int32), M14))))))
def f_X12_statement_b37 (v1 : Int32) (M : Mem) : Option (Int32 × Mem) := (stI M 7 48 (M.1 0 15) v1).bind fun M3 => (stI M3 8 48 (M3.1 0 15) (M3.1 0 14)).bind fun M4 => (f_X12_readsAll v1 ((3 : Int32) * ((wI M4 0 14 ((M4.1 0 14) + (1 : Int32))).1 0 15)) (wI M4 0 14 ((M4.1 0 14) + (1 : Int32)))).bind fun pt5 => bp pt5 fun t5 M5 => (if t5 = 0 then some ((0 : Int32), M5) else (f_X12_peeked M5).bind fun t7 => (if t7 = (59 : Int32) then some ((1 : Int32), (wI M5 0 14 ((M5.1 0 14) + (1 : Int32)))) else some ((0 : Int32), M5)))
def f_X12_statement (M0 : Mem) : Option (Int32 × Mem) := (f_X12_peeked M0).bind fun t1 => (if t1 = (100 : Int32) then f_X12_statement_b37 t1 M0 else (if t1 = (111 : Int32) then f_X12_statement_b37 t1 M0 else (if t1 = (108 : Int32) then f_X12_statement_b37 t1 M0 else (if t1 = (109 : Int32) then f_X12_statement_b37 t1 M0 else (if t1 = (120 : Int32) then f_X12_statement_b37 t1 M0 else some ((0 : Int32), M0))))))
def f_X12_adds (v1 : Int32) (v2 : Int32) (v3 : Int32) (M0 : Mem) : Option Mem := (stI M0 2 8 (M0.1 0 5) v1).bind fun M1 => (stI M1 3 8 (M1.1 0 5) v2).bind fun M2 => (stI M2 4 8 (M2.1 0 5) v3).bind fun M3 => some (wI M3 0 5 ((M3.1 0 5) + (1 : Int32)))
def f_X12_comes (v1 : Int32) (M0 : Mem) : Option (Int32 × Mem) := (ldI M0 9 144 ((3 : Int32) * v1)).bind fun t1 => (ldI M0 9 144 (((3 : Int32) * v1) + (1 : Int32))).bind fun t2 => (ldI M0 7 48 v1).bind fun t3 => (if t3 = (100 : Int32) then (if (5 : Int32) < t1 then some ((0 : Int32), M0) else (ldI M0 9 144 (((3 : Int32) * v1) + (2 : Int32))).bind fun t6 => (if (255 : Int32) < t6 then some ((0 : Int32), M0) else (if (M0.1 0 5) = (8 : Int32) then some ((0 : Int32), M0) else (ldI M0 9 144 (((3 : Int32) * v1) + (2 : Int32))).bind fun t9 => (f_X12_adds t1 t2 t9 M0).bind fun M10 => some ((1 : Int32), M10)))) else (if t3 = (108 : Int32) then (if (4 : Int32) ≤ t1 then some ((0 : Int32), (wI (wI M0 0 7 t1) 0 8 t2)) else (if (8 : Int32) < t2 then some ((0 : Int32), (wI (wI M0 0 7 t1) 0 8 t2)) else some ((1 : Int32), (wI (wI M0 0 7 t1) 0 8 t2)))) else (if t3 = (109 : Int32) then (if (f_X12_isDoing t1 M0) = 0 then some ((0 : Int32), M0) else (if (f_X12_isMark t2) = 0 then some ((0 : Int32), M0) else (ldI M0 4 8 t1).bind fun t17 => (stI M0 4 8 t1 (t17 ^^^ (jshl (1 : Int32) t2))).bind fun M18 => some ((1 : Int32), M18))) else (if t3 = (111 : Int32) then (if (f_X12_isDoing t1 M0) = 0 then some ((0 : Int32), M0) else (if (M0.1 0 6) = (12 : Int32) then some ((0 : Int32), M0) else (stI M0 5 12 (M0.1 0 6) t1).bind fun M22 => some ((1 : Int32), (wI M22 0 6 ((M22.1 0 6) + (1 : Int32)))))) else some ((1 : Int32), (wI M0 0 6 (0 : Int32)))))))
def f_X12_passes_b2 (q : Nat) (n : Nat) : Nat → Int32 → Mem → Option Mem
  | 0, _, _ => none
  | n2 + 1, v2, M => (if (nI n) ≤ v2 then some M else (if (M.1 0 18) = 0 then (ldI M 10 480 (M.1 0 19)).bind fun t3 => (stI M q n v2 t3).bind fun M4 => (f_X12_passes_b2 q n n2) (v2 + (1 : Int32)) (wI M4 0 19 ((M4.1 0 19) + (1 : Int32))) else (ldI M q n v2).bind fun t5 => (stI M 10 480 (M.1 0 19) t5).bind fun M6 => (f_X12_passes_b2 q n n2) (v2 + (1 : Int32)) (wI M6 0 19 ((M6.1 0 19) + (1 : Int32)))))
def f_X12_passes (q : Nat) (n : Nat) (M0 : Mem) : Option Mem := f_X12_passes_b2 q n FU (0 : Int32) M0
def f_X12_passOne_b20 (v1 : Int32) (s0 : Int32) (M : Mem) : Option (Int32 × Mem) := (if (M.1 0 18) = 0 then some (s0, (wI M 0 19 ((M.1 0 19) + (1 : Int32)))) else (stI M 10 480 (M.1 0 19) v1).bind fun M4 => some (s0, (wI M4 0 19 ((M4.1 0 19) + (1 : Int32)))))
def f_X12_passOne (v1 : Int32) (M0 : Mem) : Option (Int32 × Mem) := (if (M0.1 0 18) = 0 then (ldI M0 10 480 (M0.1 0 19)).bind fun t2 => f_X12_passOne_b20 v1 t2 M0 else f_X12_passOne_b20 v1 v1 M0)
def f_X12_passesAll (v1 : Int32) (v2 : Int32) (M0 : Mem) : Option Mem := (gZ v2).bind fun t1 => (f_X12_passes 2 8 (wI (wI M0 0 19 ((40 : Int32) * v1)) 0 18 t1)).bind fun M2 => (f_X12_passes 3 8 M2).bind fun M3 => (f_X12_passes 4 8 M3).bind fun M4 => (f_X12_passes 5 12 M4).bind fun M5 => (f_X12_passOne (M5.1 0 5) M5).bind fun pt6 => bp pt6 fun t6 M6 => (f_X12_passOne ((wI M6 0 5 t6).1 0 6) (wI M6 0 5 t6)).bind fun pt7 => bp pt7 fun t7 M7 => (f_X12_passOne ((wI M7 0 6 t7).1 0 7) (wI M7 0 6 t7)).bind fun pt8 => bp pt8 fun t8 M8 => (f_X12_passOne ((wI M8 0 7 t8).1 0 8) (wI M8 0 7 t8)).bind fun pt9 => bp pt9 fun t9 M9 => some (wI M9 0 8 t9)
def f_X12_state_b86 : Nat → Int32 → Mem → Option (Int32 × Mem)
  | 0, _, _ => none
  | n86 + 1, v2, M => (if (M.1 0 15) ≤ v2 then some (((wI M 0 20 (0 : Int32)).1 0 15), (wI M 0 20 (0 : Int32))) else (f_X12_comes v2 M).bind fun pt6 => bp pt6 fun t6 M6 => (if t6 = 0 then (f_X12_passesAll (1 : Int32) (0 : Int32) M6).bind fun M8 => (ldI M8 8 48 v2).bind fun t9 => some (((-2000 : Int32) - t9), M8) else (f_X12_state_b86 n86) (v2 + (1 : Int32)) M6))
def f_X12_state_b60 (v1 : Int32) (M : Mem) : Option (Int32 × Mem) := (if v1 = 0 then some (((-1000 : Int32) - ((wI M 0 13 (0 : Int32)).1 0 14)), (wI M 0 13 (0 : Int32))) else (f_X12_passesAll (1 : Int32) (1 : Int32) (wI M 0 13 (0 : Int32))).bind fun M4 => f_X12_state_b86 FU (0 : Int32) M4)
def f_X12_state_b34 (k12 : Int32 → Mem → Option (Int32 × Mem)) (M : Mem) : Option (Int32 × Mem) := (f_X12_statement M).bind fun pt12 => bp pt12 fun t12 M12 => k12 t12 (wI M12 0 15 ((M12.1 0 15) + (if t12 = 0 then (0 : Int32) else (1 : Int32))))
def f_X12_state_b12 : Nat → Int32 → Mem → Option (Int32 × Mem)
  | 0, _, _ => none
  | n12 + 1, v1, M => (if v1 = 0 then f_X12_state_b60 v1 M else (if (M.1 0 14) < (M.1 0 13) then f_X12_state_b34 (f_X12_state_b12 n12) M else (if (M.1 0 15) = 0 then f_X12_state_b34 (f_X12_state_b12 n12) M else f_X12_state_b60 v1 M)))
def f_X12_state (M0 : Mem) : Option (Int32 × Mem) := f_X12_state_b12 FU (1 : Int32) (wI (wI M0 0 14 (0 : Int32)) 0 15 (0 : Int32))
def f_X12_thinks (M0 : Mem) : Option Mem := (f_X12_passesAll (2 : Int32) (1 : Int32) M0).bind fun M1 => some M1
def f_X12_forgets (M0 : Mem) : Option Mem := (f_X12_passesAll (2 : Int32) (0 : Int32) M0).bind fun M1 => some M1
def f_X12_keepsBack_b12 : Nat → Int32 → Mem → Option Mem
  | 0, _, _ => none
  | n12 + 1, v1, M => (if (400 : Int32) ≤ v1 then (f_X12_passesAll ((3 : Int32) + ((wI M 0 20 ((M.1 0 20) - (1 : Int32))).1 0 20)) (1 : Int32) (wI M 0 20 ((M.1 0 20) - (1 : Int32)))).bind fun M4 => some (wI M4 0 20 ((M4.1 0 20) + (1 : Int32))) else (ldI M 10 480 (v1 + (40 : Int32))).bind fun t5 => (stI M 10 480 v1 t5).bind fun M6 => (f_X12_keepsBack_b12 n12) (v1 + (1 : Int32)) M6)
def f_X12_keepsBack (M0 : Mem) : Option Mem := (if (M0.1 0 20) = (8 : Int32) then f_X12_keepsBack_b12 FU (120 : Int32) M0 else (f_X12_passesAll ((3 : Int32) + (M0.1 0 20)) (1 : Int32) M0).bind fun M2 => some (wI M2 0 20 ((M2.1 0 20) + (1 : Int32))))
def f_X12_back (M0 : Mem) : Option (Int32 × Mem) := (if (M0.1 0 20) = 0 then (f_X12_no (-3 : Int32) M0).bind fun pt3 => bp pt3 fun t3 M3 => some (t3, M3) else (f_X12_passesAll ((3 : Int32) + ((wI M0 0 20 ((M0.1 0 20) - (1 : Int32))).1 0 20)) (0 : Int32) (wI M0 0 20 ((M0.1 0 20) - (1 : Int32)))).bind fun M2 => some ((M2.1 0 20), M2))
def f_X12_image (M0 : Mem) : Option (Int32 × Mem) := (f_X12_passesAll (0 : Int32) (1 : Int32) (wI M0 0 17 (1 : Int32))).bind fun M1 => some ((M1.1 0 6), M1)
def f_X12_restore (M0 : Mem) : Option (Int32 × Mem) := (if (M0.1 0 17) = 0 then (f_X12_no (-3 : Int32) M0).bind fun pt3 => bp pt3 fun t3 M3 => some (t3, M3) else (f_X12_passesAll (0 : Int32) (0 : Int32) M0).bind fun M2 => some (((wI M2 0 20 (0 : Int32)).1 0 6), (wI M2 0 20 (0 : Int32))))
def f_X12_areSame (v1 : Int32) (v2 : Int32) (M0 : Mem) : Option Int32 := (if v1 = v2 then some (1 : Int32) else (if (M0.1 0 7) = (0 : Int32) then (ldI M0 4 8 v1).bind fun t3 => (ldI M0 4 8 v2).bind fun t4 => (if t3 = t4 then some (1 : Int32) else some (0 : Int32)) else (if (M0.1 0 7) = (1 : Int32) then (ldI M0 2 8 v1).bind fun t7 => (ldI M0 2 8 v2).bind fun t8 => (if t7 = t8 then some (1 : Int32) else some (0 : Int32)) else (if (M0.1 0 7) = (2 : Int32) then (ldI M0 4 8 v1).bind fun t11 => (ldI M0 4 8 v2).bind fun t12 => (f_X12_bits (t11 &&& t12)).bind fun t13 => (if t13 < (M0.1 0 8) then some (0 : Int32) else some (1 : Int32)) else (ldI M0 4 8 v1).bind fun t15 => (ldI M0 4 8 v2).bind fun t16 => (f_X12_bits (t15 ^^^ t16)).bind fun t17 => (if (M0.1 0 8) < t17 then some (0 : Int32) else some (1 : Int32))))))
def f_X12_dueOf (v1 : Int32) (v2 : Int32) (M0 : Mem) : Option Int32 := (ldI M0 3 8 v1).bind fun t1 => (ldI M0 2 8 v1).bind fun t2 => (if t2 = (1 : Int32) then some (((t1 + (1 : Int32)) * v2) / (2 : Int32)) else (if t2 = (2 : Int32) then some ((2 : Int32) * ((t1 + (1 : Int32)) * v2)) else (if t2 = (3 : Int32) then some (0 : Int32) else (if t2 = (4 : Int32) then (if v2 = 0 then some (0 : Int32) else (ldI M0 3 8 v1).bind fun t8 => some ((2 : Int32) * ((((t1 + (1 : Int32)) * v2) - t8) - (1 : Int32)))) else (if t2 = (5 : Int32) then some ((((t1 + (1 : Int32)) * v2) / (2 : Int32)) + (if v2 ≤ 0 then (0 : Int32) else (3 : Int32))) else some ((t1 + (1 : Int32)) * v2))))))
def f_X12_repeatsAt_b5 (M0 : Mem) : Nat → Int32 → Int32 → Int32 → Int32 → Option Int32
  | 0, _, _, _, _ => none
  | n5 + 1, v1, v2, v3, v4 => (if v1 ≤ v4 then some v3 else (ldI M0 5 12 v4).bind fun t2 => (f_X12_areSame t2 v2 M0).bind fun t3 => (f_X12_repeatsAt_b5 M0 n5) v1 v2 (v3 + (if t3 = 0 then (0 : Int32) else (1 : Int32))) (v4 + (1 : Int32)))
def f_X12_repeatsAt (v1 : Int32) (v2 : Int32) (M0 : Mem) : Option Int32 := f_X12_repeatsAt_b5 M0 FU v1 v2 (0 : Int32) (0 : Int32)
def f_X12_dueAt (v1 : Int32) (M0 : Mem) : Option Int32 := (ldI M0 5 12 v1).bind fun t1 => (ldI M0 5 12 v1).bind fun t2 => (f_X12_repeatsAt v1 t2 M0).bind fun t3 => (f_X12_dueOf t1 t3 M0).bind fun t4 => some t4
def f_X12_all_b4 (M0 : Mem) : Nat → Int32 → Int32 → Option Int32
  | 0, _, _ => none
  | n4 + 1, v1, v2 => (if (M0.1 0 6) ≤ v2 then some v1 else (f_X12_dueAt v2 M0).bind fun t3 => (f_X12_all_b4 M0 n4) (v1 + t3) (v2 + (1 : Int32)))
def f_X12_all (M0 : Mem) : Option Int32 := f_X12_all_b4 M0 FU (0 : Int32) (0 : Int32)
def f_X12_nextOf (v1 : Int32) (M0 : Mem) : Option Int32 := (f_X12_repeatsAt (M0.1 0 6) v1 M0).bind fun t1 => (f_X12_dueOf v1 t1 M0).bind fun t2 => some t2
def f_X12_doingOf (v1 : Int32) (v2 : Int32) (M0 : Mem) : Option (Int32 × Mem) := (if (f_X12_isDoing v1 M0) = 0 then (f_X12_no (-1 : Int32) M0).bind fun pt9 => bp pt9 fun t9 M9 => some (t9, M9) else (if v2 = 0 then (ldI M0 2 8 v1).bind fun t8 => some (t8, M0) else (if v2 = (1 : Int32) then (ldI M0 3 8 v1).bind fun t7 => some (t7, M0) else (if v2 = (2 : Int32) then (ldI M0 4 8 v1).bind fun t6 => some (t6, M0) else (f_X12_no (-2 : Int32) M0).bind fun pt5 => bp pt5 fun t5 M5 => some (t5, M5)))))
def f_X12_doing_b55 (v1 : Int32) (v2 : Int32) (v3 : Int32) (s0 : Int32) (M : Mem) : Option (Int32 × Mem) := (if s0 = 0 then (f_X12_adds v1 v2 v3 (wI M 0 20 (0 : Int32))).bind fun M2 => some (((M2.1 0 5) - (1 : Int32)), M2) else (f_X12_no s0 M).bind fun pt3 => bp pt3 fun t3 M3 => some (t3, M3))
def f_X12_doing (v1 : Int32) (v2 : Int32) (v3 : Int32) (M0 : Mem) : Option (Int32 × Mem) := f_X12_doing_b55 v1 v2 v3 (if (f_X12_isIn v1 (0 : Int32) (5 : Int32)) = 0 then (-2 : Int32) else (if v2 < 0 then (-4 : Int32) else (if 0 ≤ v3 then (if (9 : Int32) < v2 then (-6 : Int32) else (if (255 : Int32) < v3 then (-6 : Int32) else (if (M0.1 0 5) = (8 : Int32) then (-6 : Int32) else (0 : Int32)))) else (-4 : Int32)))) M0
def f_X12_does_b27 (v1 : Int32) (s0 : Int32) (M : Mem) : Option (Int32 × Mem) := (if s0 = 0 then (f_X12_keepsBack M).bind fun M2 => (stI M2 5 12 (M2.1 0 6) v1).bind fun M3 => (f_X12_dueAt (((wI M3 0 6 ((M3.1 0 6) + (1 : Int32))).1 0 6) - (1 : Int32)) (wI M3 0 6 ((M3.1 0 6) + (1 : Int32)))).bind fun t4 => some (t4, (wI M3 0 6 ((M3.1 0 6) + (1 : Int32)))) else (f_X12_no s0 M).bind fun pt5 => bp pt5 fun t5 M5 => some (t5, M5))
def f_X12_does (v1 : Int32) (M0 : Mem) : Option (Int32 × Mem) := f_X12_does_b27 v1 (if (f_X12_isDoing v1 M0) = 0 then (-1 : Int32) else (if (M0.1 0 6) = (12 : Int32) then (-6 : Int32) else (0 : Int32))) M0
def f_X12_empties (M0 : Mem) : Option (Int32 × Mem) := some (((wI M0 0 20 (0 : Int32)).1 0 6), (wI (wI M0 0 20 (0 : Int32)) 0 6 (0 : Int32)))
def f_X12_turn_b33 (v1 : Int32) (v2 : Int32) (v3 : Int32) (s0 : Int32) (M : Mem) : Option (Int32 × Mem) := (if s0 = 0 then (f_X12_keepsBack M).bind fun M2 => (ldI M2 2 8 v1).bind fun t3 => (ldI M2 3 8 v1).bind fun t4 => (stI M2 2 8 v1 v2).bind fun M5 => (stI M5 3 8 v1 v3).bind fun M6 => some ((((10 : Int32) * t3) + t4), M6) else (f_X12_no s0 M).bind fun pt7 => bp pt7 fun t7 M7 => some (t7, M7))
def f_X12_turn (v1 : Int32) (v2 : Int32) (v3 : Int32) (M0 : Mem) : Option (Int32 × Mem) := f_X12_turn_b33 v1 v2 v3 (if (f_X12_isDoing v1 M0) = 0 then (-1 : Int32) else (if (f_X12_isIn v2 (0 : Int32) (5 : Int32)) = 0 then (-2 : Int32) else (f_X12_bound v3 (0 : Int32) (9 : Int32)))) M0
def f_X12_marks (v1 : Int32) (v2 : Int32) (M0 : Mem) : Option (Int32 × Mem) := (if (f_X12_isDoing v1 M0) = 0 then (f_X12_no (-1 : Int32) M0).bind fun pt2 => bp pt2 fun t2 M2 => some (t2, M2) else (if (f_X12_isMark v2) = 0 then (f_X12_no (-1 : Int32) M0).bind fun pt8 => bp pt8 fun t8 M8 => some (t8, M8) else (f_X12_keepsBack M0).bind fun M4 => (ldI M4 4 8 v1).bind fun t5 => (stI M4 4 8 v1 (t5 ^^^ (jshl (1 : Int32) v2))).bind fun M6 => (ldI M6 4 8 v1).bind fun t7 => some (((jshr t7 v2) &&& (1 : Int32)), M6)))
def f_X12_law_b21 (v1 : Int32) (v2 : Int32) (s0 : Int32) (M : Mem) : Option (Int32 × Mem) := (if s0 = 0 then (f_X12_keepsBack M).bind fun M2 => some ((((10 : Int32) * (M2.1 0 7)) + (M2.1 0 8)), (wI (wI M2 0 7 v1) 0 8 v2)) else (f_X12_no s0 M).bind fun pt3 => bp pt3 fun t3 M3 => some (t3, M3))
def f_X12_law (v1 : Int32) (v2 : Int32) (M0 : Mem) : Option (Int32 × Mem) := f_X12_law_b21 v1 v2 (if (f_X12_isIn v1 (0 : Int32) (3 : Int32)) = 0 then (-2 : Int32) else (f_X12_bound v2 (0 : Int32) (8 : Int32))) M0
def f_X12_same (v1 : Int32) (v2 : Int32) (M0 : Mem) : Option (Int32 × Mem) := (if (f_X12_isDoing v1 M0) = 0 then (f_X12_no (-1 : Int32) M0).bind fun pt2 => bp pt2 fun t2 M2 => some (t2, M2) else (if (f_X12_isDoing v2 M0) = 0 then (f_X12_no (-1 : Int32) M0).bind fun pt6 => bp pt6 fun t6 M6 => some (t6, M6) else (f_X12_areSame v1 v2 M0).bind fun t4 => (if t4 = 0 then some ((0 : Int32), M0) else some ((1 : Int32), M0))))
def f_X12_isPlace (v1 : Int32) (M0 : Mem) : Int32 := (if v1 < 0 then (0 : Int32) else (if (M0.1 0 6) ≤ v1 then (0 : Int32) else (1 : Int32)))
def f_X12_place (v1 : Int32) (v2 : Int32) (M0 : Mem) : Option (Int32 × Mem) := (if (f_X12_isPlace v1 M0) = 0 then (f_X12_no (-1 : Int32) M0).bind fun pt10 => bp pt10 fun t10 M10 => some (t10, M10) else (if v2 = 0 then (ldI M0 5 12 v1).bind fun t9 => some (t9, M0) else (if v2 = (1 : Int32) then (ldI M0 5 12 v1).bind fun t7 => (f_X12_repeatsAt v1 t7 M0).bind fun t8 => some (t8, M0) else (if v2 = (2 : Int32) then (f_X12_dueAt v1 M0).bind fun t6 => some (t6, M0) else (f_X12_no (-2 : Int32) M0).bind fun pt5 => bp pt5 fun t5 M5 => some (t5, M5)))))
def f_X12_allDue (M0 : Mem) : Option Int32 := (f_X12_all M0).bind fun t1 => some t1
def f_X12_next (v1 : Int32) (M0 : Mem) : Option (Int32 × Mem) := (if (f_X12_isDoing v1 M0) = 0 then (f_X12_no (-1 : Int32) M0).bind fun pt2 => bp pt2 fun t2 M2 => some (t2, M2) else (f_X12_nextOf v1 M0).bind fun t3 => some (t3, M0))
def f_X12_best_b48 (k21 : Int32 → Int32 → Int32 → Mem → Option (Int32 × Mem)) (v1 : Int32) (v2 : Int32) (v3 : Int32) (s0 : Int32) (M : Mem) : Option (Int32 × Mem) := (if v2 < 0 then k21 v1 v3 (v3 + (1 : Int32)) M else (if v1 = 0 then (if 0 ≤ s0 then k21 v1 v2 (v3 + (1 : Int32)) M else k21 v1 v3 (v3 + (1 : Int32)) M) else (if s0 ≤ 0 then k21 v1 v2 (v3 + (1 : Int32)) M else k21 v1 v3 (v3 + (1 : Int32)) M)))
def f_X12_best_b21 : Nat → Int32 → Int32 → Int32 → Mem → Option (Int32 × Mem)
  | 0, _, _, _, _ => none
  | n21 + 1, v1, v2, v3, M => (if (M.1 0 5) ≤ v3 then some (v2, M) else (if 0 ≤ v2 then (f_X12_nextOf v3 M).bind fun t6 => (f_X12_nextOf v2 M).bind fun t7 => f_X12_best_b48 (f_X12_best_b21 n21) v1 v2 v3 (t6 - t7) M else f_X12_best_b48 (f_X12_best_b21 n21) v1 v2 v3 (0 : Int32) M))
def f_X12_best (v1 : Int32) (M0 : Mem) : Option (Int32 × Mem) := (if (f_X12_isIn v1 (0 : Int32) (1 : Int32)) = 0 then (f_X12_no (-2 : Int32) M0).bind fun pt12 => bp pt12 fun t12 M12 => some (t12, M12) else f_X12_best_b21 FU v1 (-9 : Int32) (0 : Int32) M0)
def f_X12_charged_b21 : Nat → Int32 → Int32 → Mem → Option (Int32 × Mem)
  | 0, _, _, _ => none
  | n21 + 1, v1, v3, M => (if (M.1 0 6) ≤ v3 then some ((-9 : Int32), M) else (f_X12_dueAt v3 M).bind fun t3 => (if t3 ≤ v1 then (f_X12_charged_b21 n21) v1 (v3 + (1 : Int32)) M else some (v3, M)))
def f_X12_charged (v1 : Int32) (M0 : Mem) : Option (Int32 × Mem) := (if (f_X12_bound v1 (0 : Int32) (999 : Int32)) = 0 then f_X12_charged_b21 FU v1 (0 : Int32) M0 else (f_X12_no (f_X12_bound v1 (0 : Int32) (999 : Int32)) M0).bind fun pt5 => bp pt5 fun t5 M5 => some (t5, M5))
def f_X12_dueBehind_b13 (M0 : Mem) : Nat → Int32 → Int32 → Int32 → Int32 → Option Int32
  | 0, _, _, _, _ => none
  | n13 + 1, v1, v2, v3, v4 => (if (M0.1 0 5) ≤ v4 then (f_X12_dueOf v2 v3 M0).bind fun t3 => some t3 else (if (f_X12_has v1 v4) = 0 then (f_X12_dueBehind_b13 M0 n13) v1 v2 (v3 + (0 : Int32)) (v4 + (1 : Int32)) else (f_X12_areSame v4 v2 M0).bind fun t6 => (f_X12_dueBehind_b13 M0 n13) v1 v2 (v3 + (if t6 = 0 then (0 : Int32) else (1 : Int32))) (v4 + (1 : Int32))))
def f_X12_dueBehind (v1 : Int32) (v2 : Int32) (M0 : Mem) : Option Int32 := (f_X12_repeatsAt (M0.1 0 6) v2 M0).bind fun t1 => f_X12_dueBehind_b13 M0 FU v1 v2 t1 (0 : Int32)
def f_X12_findLeast_b38 (k2 : Int32 → Int32 → Mem → Option Mem) : Nat → Int32 → Int32 → Int32 → Mem → Option Mem
  | 0, _, _, _, _ => none
  | n38 + 1, v1, v2, v3, M => (if (M.1 0 5) ≤ v3 then k2 v1 (v2 + (1 : Int32)) M else (if (f_X12_has v2 v3) = 0 then (f_X12_findLeast_b38 k2 n38) v1 v2 (v3 + (1 : Int32)) M else (f_X12_dueBehind (v1 &&& (v2 ^^^ (-1 : Int32))) v3 M).bind fun t8 => (ldI M 11 256 (v2 &&& ((jshl (1 : Int32) v3) ^^^ (-1 : Int32)))).bind fun t9 => (ldI M 11 256 v2).bind fun t10 => (if t10 ≤ (t8 + t9) then (ldI M 11 256 v2).bind fun t12 => (stI M 11 256 v2 t12).bind fun M13 => (f_X12_findLeast_b38 k2 n38) v1 v2 (v3 + (1 : Int32)) M13 else (stI M 11 256 v2 (t8 + t9)).bind fun M14 => (f_X12_findLeast_b38 k2 n38) v1 v2 (v3 + (1 : Int32)) M14)))
def f_X12_findLeast_b2 : Nat → Int32 → Int32 → Mem → Option Mem
  | 0, _, _, _ => none
  | n2 + 1, v1, v2, M => (if (256 : Int32) ≤ v2 then some M else (if (v2 &&& (v1 ^^^ (-1 : Int32))) = 0 then (stI M 11 256 v2 (if v2 = 0 then (0 : Int32) else (1000000 : Int32))).bind fun M3 => f_X12_findLeast_b38 (f_X12_findLeast_b2 n2) FU v1 v2 (0 : Int32) M3 else (f_X12_findLeast_b2 n2) v1 (v2 + (1 : Int32)) M))
def f_X12_findLeast (v1 : Int32) (M0 : Mem) : Option Mem := f_X12_findLeast_b2 FU v1 (0 : Int32) M0
def f_X12_firstOf_b2 (M0 : Mem) : Nat → Int32 → Int32 → Int32 → Option Int32
  | 0, _, _, _ => none
  | n2 + 1, v1, v2, v3 => (if (f_X12_has v2 v3) = 0 then (f_X12_firstOf_b2 M0 n2) v1 v2 (v3 + (1 : Int32)) else (f_X12_dueBehind (v1 &&& (v2 ^^^ (-1 : Int32))) v3 M0).bind fun t2 => (ldI M0 11 256 (v2 &&& ((jshl (1 : Int32) v3) ^^^ (-1 : Int32)))).bind fun t3 => (ldI M0 11 256 v2).bind fun t4 => (if (t2 + t3) = t4 then some v3 else (f_X12_firstOf_b2 M0 n2) v1 v2 (v3 + (1 : Int32))))
def f_X12_firstOf (v1 : Int32) (v2 : Int32) (M0 : Mem) : Option Int32 := f_X12_firstOf_b2 M0 FU v1 v2 (0 : Int32)
def f_X12_order_b88 : Nat → Int32 → Int32 → Int32 → Int32 → Mem → Option (Int32 × Mem)
  | 0, _, _, _, _, _ => none
  | n88 + 1, v1, v2, v4, v5, M => (if v2 ≤ v5 then (f_X12_firstOf v1 v4 M).bind fun t10 => some (t10, M) else (f_X12_firstOf v1 v4 M).bind fun t11 => (f_X12_order_b88 n88) v1 v2 (v4 &&& ((jshl (1 : Int32) t11) ^^^ (-1 : Int32))) (v5 + (1 : Int32)) M)
def f_X12_order_b44 (v1 : Int32) (v2 : Int32) (s0 : Int32) (M : Mem) : Option (Int32 × Mem) := (if s0 = 0 then (f_X12_findLeast v1 M).bind fun M4 => (if 0 ≤ v2 then (f_X12_bits v1).bind fun t6 => (if v2 < t6 then f_X12_order_b88 FU v1 v2 v1 (0 : Int32) M4 else some ((-9 : Int32), M4)) else (ldI M4 11 256 v1).bind fun t12 => some (t12, M4)) else (f_X12_no s0 M).bind fun pt13 => bp pt13 fun t13 M13 => some (t13, M13))
def f_X12_order_b9 (v1 : Int32) (v2 : Int32) (M : Mem) : Option (Int32 × Mem) := f_X12_order_b44 v1 v2 (-4 : Int32) M
def f_X12_order (v1 : Int32) (v2 : Int32) (M0 : Mem) : Option (Int32 × Mem) := (if v1 < 0 then f_X12_order_b9 v1 v2 M0 else (if (-1 : Int32) ≤ v2 then (if v1 < (jshl (1 : Int32) (M0.1 0 5)) then (f_X12_bits v1).bind fun t18 => f_X12_order_b44 v1 v2 (if t18 ≤ (6 : Int32) then (0 : Int32) else (-3 : Int32)) M0 else f_X12_order_b44 v1 v2 (-6 : Int32) M0) else f_X12_order_b9 v1 v2 M0))
def f_X12_areUnlike_b2 (M0 : Mem) : Nat → Int32 → Int32 → Option Int32
  | 0, _, _ => none
  | n2 + 1, v1, v2 => (if (64 : Int32) ≤ v2 then some (1 : Int32) else (if (jrm v2 (8 : Int32)) ≤ (v2 / (8 : Int32)) then (f_X12_areUnlike_b2 M0 n2) v1 (v2 + (1 : Int32)) else (if (f_X12_has v1 (v2 / (8 : Int32))) = 0 then (f_X12_areUnlike_b2 M0 n2) v1 (v2 + (1 : Int32)) else (if (f_X12_has v1 (jrm v2 (8 : Int32))) = 0 then (f_X12_areUnlike_b2 M0 n2) v1 (v2 + (1 : Int32)) else (f_X12_areSame (v2 / (8 : Int32)) (jrm v2 (8 : Int32)) M0).bind fun t5 => (if t5 = 0 then (f_X12_areUnlike_b2 M0 n2) v1 (v2 + (1 : Int32)) else some (0 : Int32))))))
def f_X12_areUnlike (v1 : Int32) (M0 : Mem) : Option Int32 := f_X12_areUnlike_b2 M0 FU v1 (0 : Int32)
def f_X12_unlike_b4 (M0 : Mem) : Nat → Int32 → Int32 → Option Int32
  | 0, _, _ => none
  | n4 + 1, v1, v2 => (if (jshl (1 : Int32) (M0.1 0 5)) ≤ v2 then some v1 else (f_X12_bits v2).bind fun t3 => (f_X12_bits v1).bind fun t4 => (if t3 ≤ t4 then (f_X12_unlike_b4 M0 n4) v1 (v2 + (1 : Int32)) else (f_X12_areUnlike v2 M0).bind fun t7 => (f_X12_unlike_b4 M0 n4) (if t7 = 0 then v1 else v2) (v2 + (1 : Int32))))
def f_X12_unlike (M0 : Mem) : Option Int32 := f_X12_unlike_b4 M0 FU (0 : Int32) (1 : Int32)
def f_X12_people_b30 (k2 : Int32 → Mem → Option (Int32 × Mem)) : Nat → Int32 → Int32 → Mem → Option (Int32 × Mem)
  | 0, _, _, _ => none
  | n30 + 1, v1, v2, M => (if v2 ≤ 0 then k2 (v1 + (1 : Int32)) M else (f_X12_areUnlike v2 M).bind fun t6 => (if t6 = 0 then (f_X12_people_b30 k2 n30) v1 ((v2 - (1 : Int32)) &&& v1) M else (ldI M 12 256 (v1 &&& (v2 ^^^ (-1 : Int32)))).bind fun t8 => (ldI M 12 256 v1).bind fun t9 => (if t9 ≤ (t8 + (1 : Int32)) then (f_X12_people_b30 k2 n30) v1 ((v2 - (1 : Int32)) &&& v1) M else (ldI M 12 256 (v1 &&& (v2 ^^^ (-1 : Int32)))).bind fun t11 => (stI M 12 256 v1 (t11 + (1 : Int32))).bind fun M12 => (f_X12_people_b30 k2 n30) v1 ((v2 - (1 : Int32)) &&& v1) M12)))
def f_X12_people_b2 : Nat → Int32 → Mem → Option (Int32 × Mem)
  | 0, _, _ => none
  | n2 + 1, v1, M => (if (jshl (1 : Int32) (M.1 0 5)) ≤ v1 then (ldI M 12 256 ((jshl (1 : Int32) (M.1 0 5)) - (1 : Int32))).bind fun t2 => some (t2, M) else (stI M 12 256 v1 (if v1 = 0 then (0 : Int32) else (8 : Int32))).bind fun M3 => f_X12_people_b30 (f_X12_people_b2 n2) FU v1 v1 M3)
def f_X12_people (M0 : Mem) : Option (Int32 × Mem) := f_X12_people_b2 FU (0 : Int32) M0
def f_X12_likesOf_b4 (M0 : Mem) : Nat → Int32 → Int32 → Int32 → Option Int32
  | 0, _, _, _ => none
  | n4 + 1, v1, v2, v3 => (if (M0.1 0 5) ≤ v3 then some v2 else (f_X12_areSame v3 v1 M0).bind fun t3 => (f_X12_likesOf_b4 M0 n4) v1 (v2 + (if t3 = 0 then (0 : Int32) else (1 : Int32))) (v3 + (1 : Int32)))
def f_X12_likesOf (v1 : Int32) (M0 : Mem) : Option Int32 := f_X12_likesOf_b4 M0 FU v1 (-1 : Int32) (0 : Int32)
def f_X12_like_b45 : Nat → Int32 → Int32 → Mem → Option (Int32 × Mem)
  | 0, _, _, _ => none
  | n45 + 1, v2, v3, M => (if (M.1 0 5) ≤ v3 then some (v2, M) else (f_X12_likesOf v3 M).bind fun t5 => (f_X12_likesOf v2 M).bind fun t6 => (f_X12_like_b45 n45) (if t5 ≤ t6 then v2 else v3) (v3 + (1 : Int32)) M)
def f_X12_like_b19 (v1 : Int32) (M : Mem) : Option (Int32 × Mem) := (if v1 < 0 then f_X12_like_b45 FU (if (M.1 0 5) = 0 then (-9 : Int32) else (0 : Int32)) (1 : Int32) M else (f_X12_likesOf v1 M).bind fun t11 => some (t11, M))
def f_X12_like (v1 : Int32) (M0 : Mem) : Option (Int32 × Mem) := (if v1 = (-1 : Int32) then f_X12_like_b19 v1 M0 else (if (f_X12_isDoing v1 M0) = 0 then (f_X12_no (-1 : Int32) M0).bind fun pt13 => bp pt13 fun t13 M13 => some (t13, M13) else f_X12_like_b19 v1 M0))
def f_X12_lays (v1 : Int32) (M0 : Mem) : Option Mem := some (wI (wI M0 0 7 (v1 / (9 : Int32))) 0 8 (jrm v1 (9 : Int32)))
def f_X12_codeOf (v0 : Int32) : Int32 := (((10 : Int32) * (v0 / (9 : Int32))) + (jrm v0 (9 : Int32)))
def f_X12_reading_b28 : Nat → Int32 → Int32 → Int32 → Int32 → Mem → Option (Int32 × Mem)
  | 0, _, _, _, _, _ => none
  | n28 + 1, v1, v2, v3, v4, M => (if (36 : Int32) ≤ v4 then (f_X12_forgets M).bind fun M5 => (if v1 = 0 then some ((f_X12_codeOf v2), M5) else some (v3, M5)) else (f_X12_lays v4 M).bind fun M7 => (f_X12_all M7).bind fun t8 => (if t8 < v3 then (f_X12_reading_b28 n28) v1 v4 t8 (v4 + (1 : Int32)) M7 else (f_X12_reading_b28 n28) v1 v2 v3 (v4 + (1 : Int32)) M7))
def f_X12_reading (v1 : Int32) (M0 : Mem) : Option (Int32 × Mem) := (if (f_X12_isIn v1 (0 : Int32) (1 : Int32)) = 0 then (f_X12_no (-2 : Int32) M0).bind fun pt10 => bp pt10 fun t10 M10 => some (t10, M10) else (f_X12_thinks M0).bind fun M2 => f_X12_reading_b28 FU v1 (0 : Int32) (1000000 : Int32) (0 : Int32) M2)
def f_X12_isSo_b28 (M0 : Mem) (k2 : Int32 → Option Int32) (v1 : Int32) (s0 : Int32) : Option Int32 := (ldI M0 13 12 v1).bind fun t3 => (if s0 = t3 then k2 (v1 + (1 : Int32)) else some (0 : Int32))
def f_X12_isSo_b2 (M0 : Mem) : Nat → Int32 → Option Int32
  | 0, _ => none
  | n2 + 1, v1 => (if (M0.1 0 24) ≤ v1 then some (1 : Int32) else (f_X12_dueAt v1 M0).bind fun t2 => f_X12_isSo_b28 M0 (f_X12_isSo_b2 M0 n2) v1 (if t2 ≤ (99 : Int32) then t2 else (99 : Int32)))
def f_X12_isSo (M0 : Mem) : Option Int32 := f_X12_isSo_b2 M0 FU (0 : Int32)
def f_X12_fits_b56 : Nat → Int32 → Int32 → Int32 → Int32 → Mem → Option (Int32 × Mem)
  | 0, _, _, _, _, _ => none
  | n56 + 1, v1, v3, v4, v5, M => (if v5 < 0 then (f_X12_forgets M).bind fun M5 => (if v1 = 0 then some (v3, M5) else some (v4, M5)) else (f_X12_lays v5 M).bind fun M7 => (f_X12_isSo M7).bind fun t8 => (if t8 = 0 then (f_X12_fits_b56 n56) v1 v3 v4 (v5 + (-1 : Int32)) M7 else (f_X12_fits_b56 n56) v1 (v3 + (1 : Int32)) (f_X12_codeOf v5) (v5 + (-1 : Int32)) M7))
def f_X12_fits_b31 (v1 : Int32) (s0 : Int32) (M : Mem) : Option (Int32 × Mem) := (if s0 = 0 then (f_X12_thinks M).bind fun M2 => f_X12_fits_b56 FU v1 (0 : Int32) (-9 : Int32) (35 : Int32) M2 else (f_X12_no s0 M).bind fun pt10 => bp pt10 fun t10 M10 => some (t10, M10))
def f_X12_fits (v1 : Int32) (M0 : Mem) : Option (Int32 × Mem) := f_X12_fits_b31 v1 (if (f_X12_isIn v1 (0 : Int32) (1 : Int32)) = 0 then (-2 : Int32) else (if (M0.1 0 24) ≤ (M0.1 0 6) then (0 : Int32) else (-3 : Int32))) M0
def f_X12_unlikeDues_b42 (k8 : Int32 → Int32 → Int32 → Mem → Option (Int32 × Mem)) : Nat → Int32 → Int32 → Int32 → Int32 → Int32 → Int32 → Mem → Option (Int32 × Mem)
  | 0, _, _, _, _, _, _, _ => none
  | n42 + 1, v1, v2, v3, v4, v5, v6, M => (if v2 ≤ v6 then (if v5 = 0 then k8 v1 v2 (v3 + (1 : Int32)) M else (stI M 14 36 v2 v4).bind fun M12 => k8 v1 (v2 + (1 : Int32)) (v3 + (1 : Int32)) M12) else (if v5 = 0 then (f_X12_unlikeDues_b42 k8 n42) v1 v2 v3 v4 (0 : Int32) (v6 + (1 : Int32)) M else (ldI M 14 36 v6).bind fun t14 => (f_X12_unlikeDues_b42 k8 n42) v1 v2 v3 v4 (if t14 = v4 then (0 : Int32) else (1 : Int32)) (v6 + (1 : Int32)) M))
def f_X12_unlikeDues_b8 : Nat → Int32 → Int32 → Int32 → Mem → Option (Int32 × Mem)
  | 0, _, _, _, _ => none
  | n8 + 1, v1, v2, v3, M => (if (36 : Int32) ≤ v3 then (f_X12_forgets M).bind fun M4 => some (v2, M4) else (f_X12_lays v3 M).bind fun M5 => (f_X12_isSo M5).bind fun t6 => (if t6 = 0 then (f_X12_unlikeDues_b8 n8) v1 v2 (v3 + (1 : Int32)) M5 else (f_X12_nextOf v1 M5).bind fun t9 => f_X12_unlikeDues_b42 (f_X12_unlikeDues_b8 n8) FU v1 v2 v3 t9 (1 : Int32) (0 : Int32) M5))
def f_X12_unlikeDues (v1 : Int32) (M0 : Mem) : Option (Int32 × Mem) := (f_X12_thinks M0).bind fun M1 => f_X12_unlikeDues_b8 FU v1 (0 : Int32) (0 : Int32) M1
def f_X12_tellsMost_b51 : Nat → Int32 → Int32 → Int32 → Int32 → Mem → Option (Int32 × Mem)
  | 0, _, _, _, _, _ => none
  | n51 + 1, v1, v3, v4, v5, M => (if (M.1 0 5) ≤ v5 then (if v1 = 0 then some (v3, M) else (if 0 ≤ v3 then some (v4, M) else some (v3, M))) else (f_X12_unlikeDues v5 M).bind fun pt6 => bp pt6 fun t6 M6 => (if v4 < t6 then (f_X12_tellsMost_b51 n51) v1 v5 t6 (v5 + (1 : Int32)) M6 else (f_X12_tellsMost_b51 n51) v1 v3 v4 (v5 + (1 : Int32)) M6))
def f_X12_tellsMost_b31 (v1 : Int32) (s0 : Int32) (M : Mem) : Option (Int32 × Mem) := (if s0 = 0 then f_X12_tellsMost_b51 FU v1 (-9 : Int32) (0 : Int32) (0 : Int32) M else (f_X12_no s0 M).bind fun pt8 => bp pt8 fun t8 M8 => some (t8, M8))
def f_X12_tellsMost (v1 : Int32) (M0 : Mem) : Option (Int32 × Mem) := f_X12_tellsMost_b31 v1 (if (f_X12_isIn v1 (0 : Int32) (1 : Int32)) = 0 then (-2 : Int32) else (if (M0.1 0 24) ≤ (M0.1 0 6) then (0 : Int32) else (-3 : Int32))) M0
def f_X12_loophole_b10 : Nat → Int32 → Int32 → Int32 → Mem → Option (Int32 × Mem)
  | 0, _, _, _, _ => none
  | n10 + 1, v1, v2, v3, M => (if ((10 : Int32) * (M.1 0 5)) ≤ v3 then some (v1, M) else (if (jrm v3 (10 : Int32)) < (8 : Int32) then (ldI M 4 8 (v3 / (10 : Int32))).bind fun t4 => (stI M 4 8 (v3 / (10 : Int32)) (t4 ^^^ (jshl (1 : Int32) (jrm v3 (10 : Int32))))).bind fun M5 => (f_X12_all M5).bind fun t6 => (ldI M5 4 8 (v3 / (10 : Int32))).bind fun t7 => (stI M5 4 8 (v3 / (10 : Int32)) (t7 ^^^ (jshl (1 : Int32) (jrm v3 (10 : Int32))))).bind fun M8 => (if t6 < v2 then (f_X12_loophole_b10 n10) v3 t6 (v3 + (1 : Int32)) M8 else (f_X12_loophole_b10 n10) v1 v2 (v3 + (1 : Int32)) M8) else (f_X12_loophole_b10 n10) v1 v2 (v3 + (1 : Int32)) M))
def f_X12_loophole (M0 : Mem) : Option (Int32 × Mem) := (f_X12_all M0).bind fun t1 => f_X12_loophole_b10 FU (-9 : Int32) t1 (0 : Int32) M0
def f_X12_dueOfTwo_b18 (M0 : Mem) (k4 : Int32 → Int32 → Int32 → Option Int32) : Nat → Int32 → Int32 → Int32 → Int32 → Int32 → Option Int32
  | 0, _, _, _, _, _ => none
  | n18 + 1, v1, v2, v3, v4, v5 => (if v3 ≤ v5 then (ldI M0 5 12 v3).bind fun t3 => (f_X12_dueOf t3 v4 M0).bind fun t4 => k4 v1 (v2 + t4) (v3 + (1 : Int32)) else (if (f_X12_has v1 v5) = (f_X12_has v1 v3) then (ldI M0 5 12 v5).bind fun t6 => (ldI M0 5 12 v3).bind fun t7 => (f_X12_areSame t6 t7 M0).bind fun t8 => (f_X12_dueOfTwo_b18 M0 k4 n18) v1 v2 v3 (v4 + (if t8 = 0 then (0 : Int32) else (1 : Int32))) (v5 + (1 : Int32)) else (f_X12_dueOfTwo_b18 M0 k4 n18) v1 v2 v3 (v4 + (0 : Int32)) (v5 + (1 : Int32))))
def f_X12_dueOfTwo_b4 (M0 : Mem) : Nat → Int32 → Int32 → Int32 → Option Int32
  | 0, _, _, _ => none
  | n4 + 1, v1, v2, v3 => (if (M0.1 0 6) ≤ v3 then some v2 else f_X12_dueOfTwo_b18 M0 (f_X12_dueOfTwo_b4 M0 n4) FU v1 v2 v3 (0 : Int32) (0 : Int32))
def f_X12_dueOfTwo (v1 : Int32) (M0 : Mem) : Option Int32 := f_X12_dueOfTwo_b4 M0 FU v1 (0 : Int32) (0 : Int32)
def f_X12_shared_b27 : Nat → Int32 → Int32 → Int32 → Int32 → Mem → Option (Int32 × Mem)
  | 0, _, _, _, _, _ => none
  | n27 + 1, v1, v2, v3, v4, M => (if (jshl (1 : Int32) (M.1 0 6)) ≤ v4 then (if v1 = 0 then some (v3, M) else some (v2, M)) else (f_X12_dueOfTwo v4 M).bind fun t6 => (if t6 < v3 then (f_X12_shared_b27 n27) v1 v4 t6 (v4 + (1 : Int32)) M else (f_X12_shared_b27 n27) v1 v2 v3 (v4 + (1 : Int32)) M))
def f_X12_shared (v1 : Int32) (M0 : Mem) : Option (Int32 × Mem) := (if (f_X12_isIn v1 (0 : Int32) (1 : Int32)) = 0 then (f_X12_no (-2 : Int32) M0).bind fun pt8 => bp pt8 fun t8 M8 => some (t8, M8) else (f_X12_dueOfTwo (0 : Int32) M0).bind fun t2 => f_X12_shared_b27 FU v1 (0 : Int32) t2 (1 : Int32) M0)
def f_X12_savesAt_b21 : Nat → Int32 → Int32 → Mem → Option (Int32 × Mem)
  | 0, _, _, _ => none
  | n21 + 1, v2, v3, M => (if (M.1 0 6) ≤ v3 then (f_X12_all M).bind fun t4 => (f_X12_forgets M).bind fun M5 => some ((v2 - t4), M5) else (ldI M 5 12 (v3 + (1 : Int32))).bind fun t6 => (stI M 5 12 v3 t6).bind fun M7 => (f_X12_savesAt_b21 n21) v2 (v3 + (1 : Int32)) M7)
def f_X12_savesAt (v1 : Int32) (M0 : Mem) : Option (Int32 × Mem) := (f_X12_thinks M0).bind fun M1 => (f_X12_all M1).bind fun t2 => f_X12_savesAt_b21 FU t2 v1 (wI M1 0 6 ((M1.1 0 6) - (1 : Int32)))
def f_X12_saves_b45 : Nat → Int32 → Int32 → Mem → Option (Int32 × Mem)
  | 0, _, _, _ => none
  | n45 + 1, v2, v3, M => (if (M.1 0 6) ≤ v3 then some (v2, M) else (f_X12_savesAt v3 M).bind fun pt5 => bp pt5 fun t5 M5 => (f_X12_savesAt v2 M5).bind fun pt6 => bp pt6 fun t6 M6 => (f_X12_saves_b45 n45) (if t5 ≤ t6 then v2 else v3) (v3 + (1 : Int32)) M6)
def f_X12_saves_b19 (v1 : Int32) (M : Mem) : Option (Int32 × Mem) := (if v1 < 0 then f_X12_saves_b45 FU (if (M.1 0 6) = 0 then (-9 : Int32) else (0 : Int32)) (1 : Int32) M else (f_X12_savesAt v1 M).bind fun pt11 => bp pt11 fun t11 M11 => some (t11, M11))
def f_X12_saves (v1 : Int32) (M0 : Mem) : Option (Int32 × Mem) := (if v1 = (-1 : Int32) then f_X12_saves_b19 v1 M0 else (if (f_X12_isPlace v1 M0) = 0 then (f_X12_no (-1 : Int32) M0).bind fun pt13 => bp pt13 fun t13 M13 => some (t13, M13) else f_X12_saves_b19 v1 M0))
def f_X12_exchanges (v1 : Int32) (v2 : Int32) (M0 : Mem) : Option Mem := (ldI M0 5 12 v1).bind fun t1 => (ldI M0 5 12 v2).bind fun t2 => (stI M0 5 12 v1 t2).bind fun M3 => (stI M3 5 12 v2 t1).bind fun M4 => some M4
def f_X12_turned_b6 : Nat → Int32 → Mem → Option (Int32 × Mem)
  | 0, _, _ => none
  | n6 + 1, v1, M => (if ((M.1 0 6) / (2 : Int32)) ≤ v1 then (f_X12_all M).bind fun t4 => (f_X12_forgets M).bind fun M5 => some (t4, M5) else (f_X12_exchanges v1 (((M.1 0 6) - (1 : Int32)) - v1) M).bind fun M6 => (f_X12_turned_b6 n6) (v1 + (1 : Int32)) M6)
def f_X12_turned (M0 : Mem) : Option (Int32 × Mem) := (f_X12_thinks M0).bind fun M1 => f_X12_turned_b6 FU (0 : Int32) M1
def f_X12_changed_b23 (k10 : Int32 → Int32 → Int32 → Mem → Option (Int32 × Mem)) : Nat → Int32 → Int32 → Int32 → Int32 → Mem → Option (Int32 × Mem)
  | 0, _, _, _, _, _ => none
  | n23 + 1, v1, v2, v3, v4, M => (if (M.1 0 6) ≤ v4 then k10 v1 v2 (v3 + (1 : Int32)) M else (f_X12_exchanges v3 v4 M).bind fun M5 => (f_X12_all M5).bind fun t6 => (f_X12_exchanges v3 v4 M5).bind fun M7 => (if t6 < v2 then (f_X12_changed_b23 k10 n23) (((100 : Int32) * v3) + v4) t6 v3 (v4 + (1 : Int32)) M7 else (f_X12_changed_b23 k10 n23) v1 v2 v3 (v4 + (1 : Int32)) M7))
def f_X12_changed_b10 : Nat → Int32 → Int32 → Int32 → Mem → Option (Int32 × Mem)
  | 0, _, _, _, _ => none
  | n10 + 1, v1, v2, v3, M => (if (M.1 0 6) ≤ v3 then some (v1, M) else f_X12_changed_b23 (f_X12_changed_b10 n10) FU v1 v2 v3 (v3 + (1 : Int32)) M)
def f_X12_changed (M0 : Mem) : Option (Int32 × Mem) := (f_X12_all M0).bind fun t1 => f_X12_changed_b10 FU (-9 : Int32) t1 (0 : Int32) M0
def f_X12_marksOf_b4 (M0 : Mem) : Nat → Int32 → Int32 → Int32 → Option Int32
  | 0, _, _, _ => none
  | n4 + 1, v1, v2, v3 => (if (M0.1 0 5) ≤ v3 then some v2 else (if (f_X12_has v1 v3) = 0 then (f_X12_marksOf_b4 M0 n4) v1 (v2 ||| (0 : Int32)) (v3 + (1 : Int32)) else (ldI M0 4 8 v3).bind fun t3 => (f_X12_marksOf_b4 M0 n4) v1 (v2 ||| t3) (v3 + (1 : Int32))))
def f_X12_marksOf (v1 : Int32) (M0 : Mem) : Option Int32 := f_X12_marksOf_b4 M0 FU v1 (0 : Int32) (0 : Int32)
def f_X12_nextsOf_b4 (M0 : Mem) : Nat → Int32 → Int32 → Int32 → Option Int32
  | 0, _, _, _ => none
  | n4 + 1, v1, v2, v3 => (if (M0.1 0 5) ≤ v3 then some v2 else (if (f_X12_has v1 v3) = 0 then (f_X12_nextsOf_b4 M0 n4) v1 (v2 + (0 : Int32)) (v3 + (1 : Int32)) else (f_X12_nextOf v3 M0).bind fun t4 => (f_X12_nextsOf_b4 M0 n4) v1 (v2 + t4) (v3 + (1 : Int32))))
def f_X12_nextsOf (v1 : Int32) (M0 : Mem) : Option Int32 := f_X12_nextsOf_b4 M0 FU v1 (0 : Int32) (0 : Int32)
def f_X12_wants_b95 (k46 : Int32 → Int32 → Int32 → Int32 → Int32 → Mem → Option (Int32 × Mem)) (v1 : Int32) (v2 : Int32) (v4 : Int32) (v5 : Int32) (v6 : Int32) (M : Mem) : Option (Int32 × Mem) := (if v5 < 0 then k46 v1 v2 v4 v6 (v6 + (1 : Int32)) M else (f_X12_nextsOf v6 M).bind fun t13 => (f_X12_nextsOf v5 M).bind fun t14 => (if t14 ≤ t13 then k46 v1 v2 v4 v5 (v6 + (1 : Int32)) M else k46 v1 v2 v4 v6 (v6 + (1 : Int32)) M))
def f_X12_wants_b91 (k46 : Int32 → Int32 → Int32 → Int32 → Int32 → Mem → Option (Int32 × Mem)) (v1 : Int32) (v2 : Int32) (v5 : Int32) (v6 : Int32) (M : Mem) : Option (Int32 × Mem) := f_X12_wants_b95 k46 v1 v2 v6 v5 v6 M
def f_X12_wants_b46 : Nat → Int32 → Int32 → Int32 → Int32 → Int32 → Mem → Option (Int32 × Mem)
  | 0, _, _, _, _, _, _ => none
  | n46 + 1, v1, v2, v4, v5, v6, M => (if (jshl (1 : Int32) (M.1 0 5)) ≤ v6 then (if v2 = 0 then some (v4, M) else (if v2 = (1 : Int32) then some (v5, M) else (if 0 ≤ v5 then (f_X12_nextsOf v5 M).bind fun t8 => some (t8, M) else some (v5, M)))) else (f_X12_marksOf v6 M).bind fun t9 => (if (v1 &&& (t9 ^^^ (-1 : Int32))) = 0 then (if v4 < 0 then f_X12_wants_b91 (f_X12_wants_b46 n46) v1 v2 v5 v6 M else (f_X12_bits v6).bind fun t16 => (f_X12_bits v4).bind fun t17 => (if t17 ≤ t16 then f_X12_wants_b95 (f_X12_wants_b46 n46) v1 v2 v4 v5 v6 M else f_X12_wants_b91 (f_X12_wants_b46 n46) v1 v2 v5 v6 M)) else (f_X12_wants_b46 n46) v1 v2 v4 v5 (v6 + (1 : Int32)) M))
def f_X12_wants_b25 (v1 : Int32) (v2 : Int32) (v3 : Int32) (M : Mem) : Option (Int32 × Mem) := (if v3 = 0 then f_X12_wants_b46 FU v1 v2 (-9 : Int32) (-9 : Int32) (0 : Int32) M else (f_X12_no v3 M).bind fun pt19 => bp pt19 fun t19 M19 => some (t19, M19))
def f_X12_wants (v1 : Int32) (v2 : Int32) (M0 : Mem) : Option (Int32 × Mem) := (if (f_X12_bound v1 (0 : Int32) (255 : Int32)) = 0 then (if (f_X12_isIn v2 (0 : Int32) (2 : Int32)) = 0 then f_X12_wants_b25 v1 v2 (-2 : Int32) M0 else f_X12_wants_b25 v1 v2 (f_X12_bound v1 (0 : Int32) (255 : Int32)) M0) else f_X12_wants_b25 v1 v2 (f_X12_bound v1 (0 : Int32) (255 : Int32)) M0)
def f_X12_mayFollow_b19 (M0 : Mem) (v1 : Int32) (v2 : Int32) (v4 : Int32) : Option Int32 := (if v2 ≤ (1 : Int32) then some (1 : Int32) else (if (8 : Int32) ≤ v4 then some (1 : Int32) else (f_X12_areSame v4 v1 M0).bind fun t4 => (if t4 = 0 then some (1 : Int32) else some (0 : Int32))))
def f_X12_mayFollow (v1 : Int32) (v2 : Int32) (v3 : Int32) (v4 : Int32) (M0 : Mem) : Option Int32 := (if v2 ≤ 0 then f_X12_mayFollow_b19 M0 v1 v2 v4 else (if (8 : Int32) ≤ v3 then f_X12_mayFollow_b19 M0 v1 v2 v4 else (f_X12_areSame v3 v1 M0).bind fun t7 => (if t7 = 0 then f_X12_mayFollow_b19 M0 v1 v2 v4 else some (0 : Int32))))
def f_X12_songs_b236 : Nat → Int64 → Int32 → Mem → Option (Int64 × Mem)
  | 0, _, _, _ => none
  | n236 + 1, v4, v6, M => (if (81 : Int32) ≤ v6 then some (v4, M) else (ldL M 15 81 v6).bind fun t5 => (f_X12_songs_b236 n236) (v4 + t5) (v6 + (1 : Int32)) M)
def f_X12_songs_b197 (k79 : Int32 → Int32 → Int32 → Mem → Option (Int64 × Mem)) : Nat → Int32 → Int32 → Int32 → Int32 → Mem → Option (Int64 × Mem)
  | 0, _, _, _, _, _ => none
  | n197 + 1, v1, v2, v4, v5, M => (if (81 : Int32) ≤ v5 then k79 v1 v2 (v4 + (1 : Int32)) M else (ldL M 16 81 v5).bind fun t10 => (stL M 15 81 v5 t10).bind fun M11 => (f_X12_songs_b197 k79 n197) v1 v2 v4 (v5 + (1 : Int32)) M11)
def f_X12_songs_b112 (k79 : Int32 → Int32 → Int32 → Mem → Option (Int64 × Mem)) : Nat → Int32 → Int32 → Int32 → Int32 → Mem → Option (Int64 × Mem)
  | 0, _, _, _, _, _ => none
  | n112 + 1, v1, v2, v4, v5, M => (if ((81 : Int32) * (M.1 0 5)) ≤ v5 then f_X12_songs_b197 k79 FU v1 v2 v4 (0 : Int32) M else (dvI v5 (M.1 0 5)).bind fun t12 => (rmI v5 (M.1 0 5)).bind fun t13 => (f_X12_mayFollow t13 v2 (t12 / (9 : Int32)) (jrm t12 (9 : Int32)) M).bind fun t14 => (if t14 = 0 then (f_X12_songs_b112 k79 n112) v1 v2 v4 (v5 + (1 : Int32)) M else (ldL M 16 81 (((9 : Int32) * t13) + (t12 / (9 : Int32)))).bind fun t16 => (ldL M 15 81 t12).bind fun t17 => (stL M 16 81 (((9 : Int32) * t13) + (t12 / (9 : Int32))) (t16 + t17)).bind fun M18 => (f_X12_songs_b112 k79 n112) v1 v2 v4 (v5 + (1 : Int32)) M18))
def f_X12_songs_b88 (k79 : Int32 → Int32 → Int32 → Mem → Option (Int64 × Mem)) : Nat → Int32 → Int32 → Int32 → Int32 → Mem → Option (Int64 × Mem)
  | 0, _, _, _, _, _ => none
  | n88 + 1, v1, v2, v4, v5, M => (if (81 : Int32) ≤ v5 then f_X12_songs_b112 k79 FU v1 v2 v4 (0 : Int32) M else (stL M 16 81 v5 (0 : Int64)).bind fun M19 => (f_X12_songs_b88 k79 n88) v1 v2 v4 (v5 + (1 : Int32)) M19)
def f_X12_songs_b79 : Nat → Int32 → Int32 → Int32 → Mem → Option (Int64 × Mem)
  | 0, _, _, _, _ => none
  | n79 + 1, v1, v2, v4, M => (if v1 ≤ v4 then f_X12_songs_b236 FU (0 : Int64) (0 : Int32) M else f_X12_songs_b88 (f_X12_songs_b79 n79) FU v1 v2 v4 (0 : Int32) M)
def f_X12_songs_b44 : Nat → Int32 → Int32 → Int32 → Mem → Option (Int64 × Mem)
  | 0, _, _, _, _ => none
  | n44 + 1, v1, v2, v4, M => (if (81 : Int32) ≤ v4 then f_X12_songs_b79 FU v1 v2 (0 : Int32) M else (stL M 15 81 v4 (if v4 = (80 : Int32) then (1 : Int64) else (0 : Int64))).bind fun M20 => (f_X12_songs_b44 n44) v1 v2 (v4 + (1 : Int32)) M20)
def f_X12_songs_b30 (v1 : Int32) (v2 : Int32) (s0 : Int32) (M : Mem) : Option (Int64 × Mem) := (if s0 = 0 then f_X12_songs_b44 FU v1 v2 (0 : Int32) M else (f_X12_lowest s0 M).bind fun pt23 => bp pt23 fun t23 M23 => some (t23, M23))
def f_X12_songs (v1 : Int32) (v2 : Int32) (M0 : Mem) : Option (Int64 × Mem) := f_X12_songs_b30 v1 v2 (if v1 < 0 then (-4 : Int32) else (if 0 ≤ v2 then (if (8 : Int32) < v1 then (-6 : Int32) else (if v2 ≤ (2 : Int32) then (0 : Int32) else (-6 : Int32))) else (-4 : Int32))) M0
def f_X12_inspectors_b39 (k30 : Int32 → Int32 → Mem → Option (Int32 × Mem)) : Nat → Int32 → Int32 → Int32 → Mem → Option (Int32 × Mem)
  | 0, _, _, _, _ => none
  | n39 + 1, v1, v3, v4, M => (if v3 ≤ v4 then k30 v1 (v3 + (1 : Int32)) M else (rmI ((v4 - (1 : Int32)) * v1) (M.1 0 5)).bind fun t5 => (rmI ((v3 - (1 : Int32)) * v1) (M.1 0 5)).bind fun t6 => (f_X12_areSame t5 t6 M).bind fun t7 => (if t7 = 0 then (f_X12_inspectors_b39 k30 n39) v1 v3 (v4 + (1 : Int32)) M else some (v3, M)))
def f_X12_inspectors_b30 : Nat → Int32 → Int32 → Mem → Option (Int32 × Mem)
  | 0, _, _, _ => none
  | n30 + 1, v1, v3, M => (if (20 : Int32) ≤ v3 then some ((-9 : Int32), M) else f_X12_inspectors_b39 (f_X12_inspectors_b30 n30) FU v1 v3 (1 : Int32) M)
def f_X12_inspectors (v1 : Int32) (M0 : Mem) : Option (Int32 × Mem) := (if (f_X12_bound v1 (1 : Int32) (9 : Int32)) = 0 then (if (M0.1 0 5) = 0 then some ((-9 : Int32), M0) else f_X12_inspectors_b30 FU v1 (2 : Int32) M0) else (f_X12_no (f_X12_bound v1 (1 : Int32) (9 : Int32)) M0).bind fun pt9 => bp pt9 fun t9 M9 => some (t9, M9))
def f_X12_divisor_b6 : Nat → Int64 → Int64 → Option Int64
  | 0, _, _ => none
  | n6 + 1, v4, v6 => (if (lg_cmp v6 (0 : Int64)) = 0 then some v4 else (rmL v4 v6).bind fun t3 => (f_X12_divisor_b6 n6) v6 t3)
def f_X12_divisor (v0 : Int64) (v2 : Int64) : Option Int64 := f_X12_divisor_b6 FU v0 v2
def f_X12_partOf (v0 : Int64) (v2 : Int64) (v4 : Int32) : Option Int64 := (f_X12_divisor v0 v2).bind fun t1 => (dvL (if v4 = 0 then v0 else v2) t1).bind fun t2 => some t2
def f_X12_chance_b107 (k93 : Int32 → Int32 → Int32 → Int64 → Int32 → Mem → Option (Int64 × Mem)) : Nat → Int32 → Int32 → Int32 → Int64 → Int32 → Int32 → Int32 → Mem → Option (Int64 × Mem)
  | 0, _, _, _, _, _, _, _, _ => none
  | n107 + 1, v1, v2, v4, v5, v7, v8, v9, M => (if v1 ≤ v9 then (f_X12_all M).bind fun t11 => k93 v1 v2 v4 (v5 + (if t11 = 0 then (1 : Int64) else (0 : Int64))) (v7 + (1 : Int32)) M else (rmI v8 (M.1 0 5)).bind fun t14 => (stI M 5 12 v9 t14).bind fun M15 => (dvI v8 (M15.1 0 5)).bind fun t16 => (f_X12_chance_b107 k93 n107) v1 v2 v4 v5 v7 t16 (v9 + (1 : Int32)) M15)
def f_X12_chance_b93 : Nat → Int32 → Int32 → Int32 → Int64 → Int32 → Mem → Option (Int64 × Mem)
  | 0, _, _, _, _, _, _ => none
  | n93 + 1, v1, v2, v4, v5, v7, M => (if v4 ≤ v7 then (f_X12_forgets M).bind fun M7 => (f_X12_partOf v5 (v4).toInt64 v2).bind fun t8 => some (t8, M7) else f_X12_chance_b107 (f_X12_chance_b93 n93) FU v1 v2 v4 v5 v7 v7 (0 : Int32) M)
def f_X12_chance_b57 : Nat → Int32 → Int32 → Int32 → Int32 → Mem → Option (Int64 × Mem)
  | 0, _, _, _, _, _ => none
  | n57 + 1, v1, v2, v4, v5, M => (if v1 ≤ v5 then (f_X12_thinks M).bind fun M5 => f_X12_chance_b93 FU v1 v2 v4 (0 : Int64) (0 : Int32) (wI M5 0 6 v1) else (f_X12_chance_b57 n57) v1 v2 (v4 * (M.1 0 5)) (v5 + (1 : Int32)) M)
def f_X12_chance_b23 (v1 : Int32) (v2 : Int32) (v3 : Int32) (M : Mem) : Option (Int64 × Mem) := (if v3 = 0 then (if (M.1 0 5) = 0 then (if v1 = 0 then some ((1 : Int64), M) else some ((v2).toInt64, M)) else f_X12_chance_b57 FU v1 v2 (1 : Int32) (0 : Int32) M) else (f_X12_lowest v3 M).bind fun pt18 => bp pt18 fun t18 M18 => some (t18, M18))
def f_X12_chance (v1 : Int32) (v2 : Int32) (M0 : Mem) : Option (Int64 × Mem) := (if (f_X12_bound v1 (0 : Int32) (5 : Int32)) = 0 then (if (f_X12_isIn v2 (0 : Int32) (1 : Int32)) = 0 then f_X12_chance_b23 v1 v2 (-2 : Int32) M0 else f_X12_chance_b23 v1 v2 (f_X12_bound v1 (0 : Int32) (5 : Int32)) M0) else f_X12_chance_b23 v1 v2 (f_X12_bound v1 (0 : Int32) (5 : Int32)) M0)
def f_X12_mean (v1 : Int32) (M0 : Mem) : Option (Int64 × Mem) := (if (f_X12_isIn v1 (0 : Int32) (1 : Int32)) = 0 then (f_X12_lowest (-2 : Int32) M0).bind fun pt5 => bp pt5 fun t5 M5 => some (t5, M5) else (if (M0.1 0 5) = 0 then some ((v1).toInt64, M0) else (f_X12_nextsOf ((jshl (1 : Int32) (M0.1 0 5)) - (1 : Int32)) M0).bind fun t3 => (f_X12_partOf (t3).toInt64 ((M0.1 0 5)).toInt64 v1).bind fun t4 => some (t4, M0)))
def f_X12_twins_b40 (k25 : Int32 → Int32 → Int32 → Int32 → Mem → Option (Int32 × Mem)) : Nat → Int32 → Int32 → Int32 → Int32 → Int32 → Mem → Option (Int32 × Mem)
  | 0, _, _, _, _, _, _ => none
  | n40 + 1, v1, v2, v3, v4, v5, M => (if (M.1 0 5) ≤ v5 then k25 v1 v2 v3 (v4 + (1 : Int32)) M else (ldI M 4 8 v4).bind fun t5 => (ldI M 4 8 v5).bind fun t6 => (f_X12_bits (t5 &&& t6)).bind fun t7 => (if v3 < t7 then (ldI M 4 8 v4).bind fun t9 => (ldI M 4 8 v5).bind fun t10 => (f_X12_bits (t9 &&& t10)).bind fun t11 => (f_X12_twins_b40 k25 n40) v1 (((10 : Int32) * v4) + v5) t11 v4 (v5 + (1 : Int32)) M else (f_X12_twins_b40 k25 n40) v1 v2 v3 v4 (v5 + (1 : Int32)) M))
def f_X12_twins_b25 : Nat → Int32 → Int32 → Int32 → Int32 → Mem → Option (Int32 × Mem)
  | 0, _, _, _, _, _ => none
  | n25 + 1, v1, v2, v3, v4, M => (if (M.1 0 5) ≤ v4 then (if v1 = 0 then some (v2, M) else some (v3, M)) else f_X12_twins_b40 (f_X12_twins_b25 n25) FU v1 v2 v3 v4 (v4 + (1 : Int32)) M)
def f_X12_twins (v1 : Int32) (M0 : Mem) : Option (Int32 × Mem) := (if (f_X12_isIn v1 (0 : Int32) (1 : Int32)) = 0 then (f_X12_no (-2 : Int32) M0).bind fun pt12 => bp pt12 fun t12 M12 => some (t12, M12) else f_X12_twins_b25 FU v1 (-9 : Int32) (-9 : Int32) (0 : Int32) M0)
def f_X12_sameAs_b4 (M0 : Mem) : Nat → Int32 → Int32 → Int32 → Option Int32
  | 0, _, _, _ => none
  | n4 + 1, v1, v2, v3 => (if (64 : Int32) ≤ v3 then some v2 else (if (f_X12_has v1 (v3 / (8 : Int32))) = 0 then (f_X12_sameAs_b4 M0 n4) v1 (v2 ||| (0 : Int32)) (v3 + (1 : Int32)) else (if (f_X12_isDoing (jrm v3 (8 : Int32)) M0) = 0 then (f_X12_sameAs_b4 M0 n4) v1 (v2 ||| (0 : Int32)) (v3 + (1 : Int32)) else (f_X12_areSame (v3 / (8 : Int32)) (jrm v3 (8 : Int32)) M0).bind fun t6 => (f_X12_sameAs_b4 M0 n4) v1 (v2 ||| (if t6 = 0 then (0 : Int32) else (jshl (1 : Int32) (jrm v3 (8 : Int32))))) (v3 + (1 : Int32)))))
def f_X12_sameAs (v1 : Int32) (M0 : Mem) : Option Int32 := f_X12_sameAs_b4 M0 FU v1 v1 (0 : Int32)
def f_X12_chain_b29 : Nat → Int32 → Int32 → Int32 → Mem → Option (Int32 × Mem)
  | 0, _, _, _, _ => none
  | n29 + 1, v2, v3, v4, M => (if (8 : Int32) < v4 then some ((-9 : Int32), M) else (if (f_X12_has v3 v2) = 0 then (f_X12_sameAs v3 M).bind fun t6 => (f_X12_chain_b29 n29) v2 t6 (v4 + (1 : Int32)) M else some (v4, M)))
def f_X12_chain (v1 : Int32) (v2 : Int32) (M0 : Mem) : Option (Int32 × Mem) := (if (f_X12_isDoing v1 M0) = 0 then (f_X12_no (-1 : Int32) M0).bind fun pt2 => bp pt2 fun t2 M2 => some (t2, M2) else (if (f_X12_isDoing v2 M0) = 0 then (f_X12_no (-1 : Int32) M0).bind fun pt7 => bp pt7 fun t7 M7 => some (t7, M7) else f_X12_chain_b29 FU v2 (jshl (1 : Int32) v1) (1 : Int32) M0))
def f_X12_heapOf_b6 (M0 : Mem) : Nat → Int32 → Int32 → Option Int32
  | 0, _, _ => none
  | n6 + 1, v2, v3 => (if (8 : Int32) ≤ v3 then some v2 else (f_X12_sameAs v2 M0).bind fun t3 => (f_X12_heapOf_b6 M0 n6) t3 (v3 + (1 : Int32)))
def f_X12_heapOf (v1 : Int32) (M0 : Mem) : Option Int32 := f_X12_heapOf_b6 M0 FU (jshl (1 : Int32) v1) (0 : Int32)
def f_X12_heaps_b58 (k23 : Int32 → Int32 → Int32 → Int32 → Mem → Option (Int32 × Mem)) (v1 : Int32) (v3 : Int32) (v4 : Int32) (v5 : Int32) (s0 : Int32) (s1 : Int32) (M : Mem) : Option (Int32 × Mem) := (f_X12_bits v5).bind fun t6 => (if t6 ≤ v3 then k23 v1 (s1 + s0) v3 (v4 + (1 : Int32)) M else (f_X12_bits v5).bind fun t9 => k23 v1 (s1 + s0) t9 (v4 + (1 : Int32)) M)
def f_X12_heaps_b23 : Nat → Int32 → Int32 → Int32 → Int32 → Mem → Option (Int32 × Mem)
  | 0, _, _, _, _, _ => none
  | n23 + 1, v1, v2, v3, v4, M => (if (M.1 0 5) ≤ v4 then (if v1 = 0 then some (v2, M) else some (v3, M)) else (f_X12_heapOf v4 M).bind fun t5 => f_X12_heaps_b58 (f_X12_heaps_b23 n23) v1 v3 v4 t5 (if (t5 &&& ((jshl (1 : Int32) v4) - (1 : Int32))) = 0 then (1 : Int32) else (0 : Int32)) v2 M)
def f_X12_heaps (v1 : Int32) (M0 : Mem) : Option (Int32 × Mem) := (if (f_X12_isIn v1 (0 : Int32) (1 : Int32)) = 0 then (f_X12_no (-2 : Int32) M0).bind fun pt12 => bp pt12 fun t12 M12 => some (t12, M12) else f_X12_heaps_b23 FU v1 (0 : Int32) (0 : Int32) (0 : Int32) M0)
def f_X12_isPure_b12 (M0 : Mem) (k2 : Int32 → Int32 → Option Int32) : Nat → Int32 → Int32 → Int32 → Option Int32
  | 0, _, _, _ => none
  | n12 + 1, v2, v3, v4 => (if v2 ≤ v4 then k2 v2 (v3 + (1 : Int32)) else (ldI M0 5 12 v3).bind fun t3 => (ldI M0 5 12 v4).bind fun t4 => (f_X12_areSame t3 t4 M0).bind fun t5 => (if t5 = 0 then (f_X12_isPure_b12 M0 k2 n12) v2 v3 (v4 + (1 : Int32)) else some (0 : Int32)))
def f_X12_isPure_b2 (M0 : Mem) : Nat → Int32 → Int32 → Option Int32
  | 0, _, _ => none
  | n2 + 1, v2, v3 => (if v2 ≤ v3 then some (1 : Int32) else f_X12_isPure_b12 M0 (f_X12_isPure_b2 M0 n2) FU v2 v3 (v3 + (1 : Int32)))
def f_X12_isPure (v1 : Int32) (v2 : Int32) (M0 : Mem) : Option Int32 := f_X12_isPure_b2 M0 FU v2 v1
def f_X12_pure_b41 (k24 : Int32 → Int32 → Int32 → Int32 → Mem → Option (Int32 × Mem)) : Nat → Int32 → Int32 → Int32 → Int32 → Int32 → Mem → Option (Int32 × Mem)
  | 0, _, _, _, _, _, _ => none
  | n41 + 1, v1, v2, v3, v4, v5, M => (if (M.1 0 6) < v5 then k24 v1 v2 v3 (v4 + (1 : Int32)) M else (f_X12_isPure v4 v5 M).bind fun t6 => (if t6 = 0 then (f_X12_pure_b41 k24 n41) v1 v2 v3 v4 (v5 + (1 : Int32)) M else (f_X12_pure_b41 k24 n41) v1 (v5 - v4) v4 v4 (v5 + (1 : Int32)) M))
def f_X12_pure_b24 : Nat → Int32 → Int32 → Int32 → Int32 → Mem → Option (Int32 × Mem)
  | 0, _, _, _, _, _ => none
  | n24 + 1, v1, v2, v3, v4, M => (if (M.1 0 6) ≤ v4 then (if v1 = 0 then some (v2, M) else some (v3, M)) else f_X12_pure_b41 (f_X12_pure_b24 n24) FU v1 v2 v3 v4 ((v4 + v2) + (1 : Int32)) M)
def f_X12_pure (v1 : Int32) (M0 : Mem) : Option (Int32 × Mem) := (if (f_X12_isIn v1 (0 : Int32) (1 : Int32)) = 0 then (f_X12_no (-2 : Int32) M0).bind fun pt8 => bp pt8 fun t8 M8 => some (t8, M8) else f_X12_pure_b24 FU v1 (0 : Int32) (-9 : Int32) (0 : Int32) M0)
def f_X12_bestT_b13 : Nat → Int32 → Int32 → Int32 → Int32 → Mem → Option (Int32 × Mem)
  | 0, _, _, _, _, _ => none
  | n13 + 1, v1, v2, v3, v4, M => (if (8 : Int32) < v4 then some (v2, (wI M 0 8 v1)) else (f_X12_all (wI M 0 8 v4)).bind fun t2 => (if t2 < v3 then (f_X12_bestT_b13 n13) v1 v4 t2 (v4 + (1 : Int32)) (wI M 0 8 v4) else (f_X12_bestT_b13 n13) v1 v2 v3 (v4 + (1 : Int32)) (wI M 0 8 v4)))
def f_X12_bestT (M0 : Mem) : Option (Int32 × Mem) := f_X12_bestT_b13 FU (M0.1 0 8) (0 : Int32) (1000000 : Int32) (0 : Int32) M0
def f_X12_margin_b48 : Nat → Int32 → Int32 → Int32 → Int32 → Int32 → Mem → Option (Int32 × Mem)
  | 0, _, _, _, _, _, _ => none
  | n48 + 1, v1, v2, v4, v5, v6, M => (if (60 : Int32) ≤ v6 then some ((60 : Int32), M) else (f_X12_dueOf v1 (v4 + v6) M).bind fun t4 => (if (v5 + t4) ≤ v2 then (f_X12_margin_b48 n48) v1 v2 v4 (v5 + t4) (v6 + (1 : Int32)) M else some (v6, M)))
def f_X12_margin_b20 (v1 : Int32) (v2 : Int32) (s0 : Int32) (M : Mem) : Option (Int32 × Mem) := (if s0 = 0 then (f_X12_repeatsAt (M.1 0 6) v1 M).bind fun t2 => f_X12_margin_b48 FU v1 v2 t2 (0 : Int32) (0 : Int32) M else (f_X12_no s0 M).bind fun pt6 => bp pt6 fun t6 M6 => some (t6, M6))
def f_X12_margin (v1 : Int32) (v2 : Int32) (M0 : Mem) : Option (Int32 × Mem) := f_X12_margin_b20 v1 v2 (if (f_X12_isDoing v1 M0) = 0 then (-1 : Int32) else (f_X12_bound v2 (0 : Int32) (999 : Int32))) M0
def f_X12_firsts_b4 (M0 : Mem) : Nat → Int32 → Int32 → Option Int32
  | 0, _, _ => none
  | n4 + 1, v1, v2 => (if (M0.1 0 6) ≤ v2 then some v1 else (ldI M0 5 12 v2).bind fun t2 => (f_X12_repeatsAt v2 t2 M0).bind fun t3 => (f_X12_firsts_b4 M0 n4) (v1 ||| (if t3 = 0 then (jshl (1 : Int32) v2) else (0 : Int32))) (v2 + (1 : Int32)))
def f_X12_firsts (M0 : Mem) : Option Int32 := f_X12_firsts_b4 M0 FU (0 : Int32) (0 : Int32)
def f_X12_dueWithMore_b12 (M0 : Mem) : Nat → Int32 → Int32 → Int32 → Option Int32
  | 0, _, _, _ => none
  | n12 + 1, v1, v2, v3 => (if (M0.1 0 5) ≤ v3 then (f_X12_dueOf v1 v2 M0).bind fun t4 => some t4 else (f_X12_areSame v3 v1 M0).bind fun t5 => (if t5 = 0 then (f_X12_dueWithMore_b12 M0 n12) v1 (v2 + (0 : Int32)) (v3 + (1 : Int32)) else (ldI M0 17 8 v3).bind fun t7 => (f_X12_dueWithMore_b12 M0 n12) v1 (v2 + t7) (v3 + (1 : Int32))))
def f_X12_dueWithMore (v1 : Int32) (M0 : Mem) : Option Int32 := (f_X12_repeatsAt (M0.1 0 6) v1 M0).bind fun t1 => f_X12_dueWithMore_b12 M0 FU v1 t1 (0 : Int32)
def f_X12_leastWithMore_b5 (M0 : Mem) : Nat → Int32 → Int32 → Option Int32
  | 0, _, _ => none
  | n5 + 1, v1, v2 => (if (M0.1 0 5) ≤ v2 then some v1 else (if v1 < 0 then (f_X12_leastWithMore_b5 M0 n5) v2 (v2 + (1 : Int32)) else (f_X12_dueWithMore v2 M0).bind fun t3 => (f_X12_dueWithMore v1 M0).bind fun t4 => (if t4 ≤ t3 then (f_X12_leastWithMore_b5 M0 n5) v1 (v2 + (1 : Int32)) else (f_X12_leastWithMore_b5 M0 n5) v2 (v2 + (1 : Int32)))))
def f_X12_leastWithMore (M0 : Mem) : Option Int32 := f_X12_leastWithMore_b5 M0 FU (-9 : Int32) (0 : Int32)
def f_X12_noMore_b2 : Nat → Int32 → Mem → Option Mem
  | 0, _, _ => none
  | n2 + 1, v1, M => (if (8 : Int32) ≤ v1 then some M else (stI M 17 8 v1 (0 : Int32)).bind fun M2 => (f_X12_noMore_b2 n2) (v1 + (1 : Int32)) M2)
def f_X12_noMore (M0 : Mem) : Option Mem := f_X12_noMore_b2 FU (0 : Int32) M0
def f_X12_greedily_b95 (v2 : Int32) (v4 : Int32) (v5 : Int32) (M : Mem) : Option (Int32 × Mem) := (if v2 = 0 then some (v4, M) else some (v5, M))
def f_X12_greedily_b48 : Nat → Int32 → Int32 → Int32 → Int32 → Int32 → Mem → Option (Int32 × Mem)
  | 0, _, _, _, _, _, _ => none
  | n48 + 1, v1, v2, v4, v5, v6, M => (if v1 ≤ v6 then f_X12_greedily_b95 v2 v4 v5 M else (if (M.1 0 5) ≤ 0 then f_X12_greedily_b95 v2 v4 v5 M else (f_X12_leastWithMore M).bind fun t9 => (f_X12_dueWithMore t9 M).bind fun t10 => (ldI M 17 8 t9).bind fun t11 => (stI M 17 8 t9 (t11 + (1 : Int32))).bind fun M12 => (f_X12_greedily_b48 n48) v1 v2 (v4 + t10) t9 (v6 + (1 : Int32)) M12))
def f_X12_greedily_b24 (v1 : Int32) (v2 : Int32) (v3 : Int32) (M : Mem) : Option (Int32 × Mem) := (if v3 = 0 then (f_X12_noMore M).bind fun M3 => f_X12_greedily_b48 FU v1 v2 (0 : Int32) (-9 : Int32) (0 : Int32) M3 else (f_X12_no v3 M).bind fun pt13 => bp pt13 fun t13 M13 => some (t13, M13))
def f_X12_greedily (v1 : Int32) (v2 : Int32) (M0 : Mem) : Option (Int32 × Mem) := (if (f_X12_bound v1 (0 : Int32) (12 : Int32)) = 0 then (if (f_X12_isIn v2 (0 : Int32) (1 : Int32)) = 0 then f_X12_greedily_b24 v1 v2 (-2 : Int32) M0 else f_X12_greedily_b24 v1 v2 (f_X12_bound v1 (0 : Int32) (12 : Int32)) M0) else f_X12_greedily_b24 v1 v2 (f_X12_bound v1 (0 : Int32) (12 : Int32)) M0)
def f_X12_quota_b28 : Nat → Int32 → Int32 → Int32 → Mem → Option (Int32 × Mem)
  | 0, _, _, _, _ => none
  | n28 + 1, v1, v3, v4, M => (if (60 : Int32) ≤ v4 then some ((60 : Int32), M) else (if (M.1 0 5) ≤ 0 then some ((60 : Int32), M) else (f_X12_leastWithMore M).bind fun t5 => (f_X12_dueWithMore t5 M).bind fun t6 => (ldI M 17 8 t5).bind fun t7 => (stI M 17 8 t5 (t7 + (1 : Int32))).bind fun M8 => (if (v3 + t6) ≤ v1 then (f_X12_quota_b28 n28) v1 (v3 + t6) (v4 + (1 : Int32)) M8 else some (v4, M8))))
def f_X12_quota (v1 : Int32) (M0 : Mem) : Option (Int32 × Mem) := (if (f_X12_bound v1 (0 : Int32) (999 : Int32)) = 0 then (f_X12_noMore M0).bind fun M2 => f_X12_quota_b28 FU v1 (0 : Int32) (0 : Int32) M2 else (f_X12_no (f_X12_bound v1 (0 : Int32) (999 : Int32)) M0).bind fun pt10 => bp pt10 fun t10 M10 => some (t10, M10))
def f_X12_dueOfPair_b22 (M0 : Mem) : Nat → Int32 → Int32 → Int32 → Int32 → Int32 → Int32 → Option Int32
  | 0, _, _, _, _, _, _ => none
  | n22 + 1, v1, v2, v3, v4, v5, v6 => (if v3 ≤ v6 then some v5 else (f_X12_dueOf v1 (v4 * v6) M0).bind fun t4 => (f_X12_dueOf v2 (((v4 * v6) + v4) - (1 : Int32)) M0).bind fun t5 => (f_X12_dueOfPair_b22 M0 n22) v1 v2 v3 v4 (v5 + (t4 + t5)) (v6 + (1 : Int32)))
def f_X12_dueOfPair (v1 : Int32) (v2 : Int32) (v3 : Int32) (M0 : Mem) : Option Int32 := (f_X12_areSame v1 v2 M0).bind fun t1 => f_X12_dueOfPair_b22 M0 FU v1 v2 v3 (if t1 = 0 then (1 : Int32) else (2 : Int32)) (0 : Int32) (0 : Int32)
def f_X12_pair_b60 (k45 : Int32 → Int32 → Int32 → Int32 → Int32 → Mem → Option (Int32 × Mem)) : Nat → Int32 → Int32 → Int32 → Int32 → Int32 → Int32 → Mem → Option (Int32 × Mem)
  | 0, _, _, _, _, _, _, _ => none
  | n60 + 1, v1, v2, v4, v5, v6, v7, M => (if (M.1 0 5) ≤ v7 then k45 v1 v2 v4 v5 (v6 + (1 : Int32)) M else (f_X12_dueOfPair v6 v7 v1 M).bind fun t7 => (if v4 < 0 then (f_X12_pair_b60 k45 n60) v1 v2 (((10 : Int32) * v6) + v7) t7 v6 (v7 + (1 : Int32)) M else (if t7 < v5 then (f_X12_pair_b60 k45 n60) v1 v2 (((10 : Int32) * v6) + v7) t7 v6 (v7 + (1 : Int32)) M else (f_X12_pair_b60 k45 n60) v1 v2 v4 v5 v6 (v7 + (1 : Int32)) M)))
def f_X12_pair_b45 : Nat → Int32 → Int32 → Int32 → Int32 → Int32 → Mem → Option (Int32 × Mem)
  | 0, _, _, _, _, _, _ => none
  | n45 + 1, v1, v2, v4, v5, v6, M => (if (M.1 0 5) ≤ v6 then (if v2 = 0 then some (v4, M) else some (v5, M)) else f_X12_pair_b60 (f_X12_pair_b45 n45) FU v1 v2 v4 v5 v6 (v6 + (1 : Int32)) M)
def f_X12_pair_b24 (v1 : Int32) (v2 : Int32) (v3 : Int32) (M : Mem) : Option (Int32 × Mem) := (if v3 = 0 then f_X12_pair_b45 FU v1 v2 (-9 : Int32) (-9 : Int32) (0 : Int32) M else (f_X12_no v3 M).bind fun pt10 => bp pt10 fun t10 M10 => some (t10, M10))
def f_X12_pair (v1 : Int32) (v2 : Int32) (M0 : Mem) : Option (Int32 × Mem) := (if (f_X12_bound v1 (0 : Int32) (6 : Int32)) = 0 then (if (f_X12_isIn v2 (0 : Int32) (1 : Int32)) = 0 then f_X12_pair_b24 v1 v2 (-2 : Int32) M0 else f_X12_pair_b24 v1 v2 (f_X12_bound v1 (0 : Int32) (6 : Int32)) M0) else f_X12_pair_b24 v1 v2 (f_X12_bound v1 (0 : Int32) (6 : Int32)) M0)
def f_X12_apartOf_b4 (M0 : Mem) : Nat → Int32 → Int32 → Int32 → Option Int32
  | 0, _, _, _ => none
  | n4 + 1, v1, v2, v3 => (if (M0.1 0 5) ≤ v3 then some v2 else (ldI M0 4 8 v3).bind fun t2 => (ldI M0 4 8 v1).bind fun t3 => (f_X12_bits (t2 ^^^ t3)).bind fun t4 => (f_X12_apartOf_b4 M0 n4) v1 (v2 + t4) (v3 + (1 : Int32)))
def f_X12_apartOf (v1 : Int32) (M0 : Mem) : Option Int32 := f_X12_apartOf_b4 M0 FU v1 (0 : Int32) (0 : Int32)
def f_X12_radius_b57 (k24 : Int32 → Int32 → Int32 → Int32 → Mem → Option (Int32 × Mem)) : Nat → Int32 → Int32 → Int32 → Int32 → Int32 → Mem → Option (Int32 × Mem)
  | 0, _, _, _, _, _, _ => none
  | n57 + 1, v1, v2, v3, v4, v5, M => (if v4 ≤ v5 then k24 v1 v2 v3 (v4 + (1 : Int32)) M else (ldI M 4 8 v4).bind fun t6 => (ldI M 4 8 v5).bind fun t7 => (f_X12_bits (t6 ^^^ t7)).bind fun t8 => (if t8 ≤ v2 then (f_X12_radius_b57 k24 n57) v1 v2 v3 v4 (v5 + (1 : Int32)) M else (ldI M 4 8 v4).bind fun t10 => (ldI M 4 8 v5).bind fun t11 => (f_X12_bits (t10 ^^^ t11)).bind fun t12 => (f_X12_radius_b57 k24 n57) v1 t12 v3 v4 (v5 + (1 : Int32)) M))
def f_X12_radius_b24 : Nat → Int32 → Int32 → Int32 → Int32 → Mem → Option (Int32 × Mem)
  | 0, _, _, _, _, _ => none
  | n24 + 1, v1, v2, v3, v4, M => (if (M.1 0 5) ≤ v4 then (if v1 = 0 then some (v2, M) else some (v3, M)) else (if v3 < 0 then f_X12_radius_b57 (f_X12_radius_b24 n24) FU v1 v2 v4 v4 (0 : Int32) M else (f_X12_apartOf v4 M).bind fun t13 => (f_X12_apartOf v3 M).bind fun t14 => (if t14 ≤ t13 then f_X12_radius_b57 (f_X12_radius_b24 n24) FU v1 v2 v3 v4 (0 : Int32) M else f_X12_radius_b57 (f_X12_radius_b24 n24) FU v1 v2 v4 v4 (0 : Int32) M)))
def f_X12_radius (v1 : Int32) (M0 : Mem) : Option (Int32 × Mem) := (if (f_X12_isIn v1 (0 : Int32) (1 : Int32)) = 0 then (f_X12_no (-2 : Int32) M0).bind fun pt16 => bp pt16 fun t16 M16 => some (t16, M16) else f_X12_radius_b24 FU v1 (0 : Int32) (-9 : Int32) (0 : Int32) M0)
def f_X12_majority_b15 (M0 : Mem) (k4 : Int32 → Int32 → Option Int32) : Nat → Int32 → Int32 → Int32 → Int32 → Option Int32
  | 0, _, _, _, _ => none
  | n15 + 1, v1, v2, v3, v4 => (if (M0.1 0 5) ≤ v4 then k4 (v1 ||| (if ((2 : Int32) * v3) ≤ (M0.1 0 5) then (0 : Int32) else (jshl (1 : Int32) v2))) (v2 + (1 : Int32)) else (ldI M0 4 8 v4).bind fun t5 => (f_X12_majority_b15 M0 k4 n15) v1 v2 (v3 + ((jshr t5 v2) &&& (1 : Int32))) (v4 + (1 : Int32)))
def f_X12_majority_b4 (M0 : Mem) : Nat → Int32 → Int32 → Option Int32
  | 0, _, _ => none
  | n4 + 1, v1, v2 => (if (8 : Int32) ≤ v2 then some v1 else f_X12_majority_b15 M0 (f_X12_majority_b4 M0 n4) FU v1 v2 (0 : Int32) (0 : Int32))
def f_X12_majority (M0 : Mem) : Option Int32 := f_X12_majority_b4 M0 FU (0 : Int32) (0 : Int32)
def f_X12_dueOfKind_b4 (M0 : Mem) : Nat → Int32 → Int32 → Int32 → Option Int32
  | 0, _, _, _ => none
  | n4 + 1, v1, v2, v3 => (if (M0.1 0 6) ≤ v3 then some v2 else (ldI M0 5 12 v3).bind fun t2 => (ldI M0 2 8 t2).bind fun t3 => (if t3 = v1 then (f_X12_dueAt v3 M0).bind fun t6 => (f_X12_dueOfKind_b4 M0 n4) v1 (v2 + t6) (v3 + (1 : Int32)) else (f_X12_dueOfKind_b4 M0 n4) v1 (v2 + (0 : Int32)) (v3 + (1 : Int32))))
def f_X12_dueOfKind (v1 : Int32) (M0 : Mem) : Option Int32 := f_X12_dueOfKind_b4 M0 FU v1 (0 : Int32) (0 : Int32)
def f_X12_byKind_b30 : Nat → Int32 → Int32 → Mem → Option (Int32 × Mem)
  | 0, _, _, _ => none
  | n30 + 1, v2, v3, M => (if (6 : Int32) ≤ v3 then (if (M.1 0 6) = 0 then some ((-9 : Int32), M) else some (v2, M)) else (f_X12_dueOfKind v3 M).bind fun t6 => (f_X12_dueOfKind v2 M).bind fun t7 => (f_X12_byKind_b30 n30) (if t6 ≤ t7 then v2 else v3) (v3 + (1 : Int32)) M)
def f_X12_byKind (v1 : Int32) (M0 : Mem) : Option (Int32 × Mem) := (if (f_X12_isIn v1 (-1 : Int32) (5 : Int32)) = 0 then (f_X12_no (-2 : Int32) M0).bind fun pt11 => bp pt11 fun t11 M11 => some (t11, M11) else (if v1 < 0 then f_X12_byKind_b30 FU (0 : Int32) (1 : Int32) M0 else (f_X12_dueOfKind v1 M0).bind fun t10 => some (t10, M0)))
def f_X12_dueWithout_b8 : Nat → Int32 → Int32 → Int32 → Mem → Option (Int32 × Mem)
  | 0, _, _, _, _ => none
  | n8 + 1, v1, v2, v3, M => (if (M.1 0 6) ≤ v3 then (f_X12_all (wI M 0 6 v2)).bind fun t3 => (f_X12_forgets (wI M 0 6 v2)).bind fun M4 => some (t3, M4) else (ldI M 5 12 v3).bind fun t5 => (stI M 5 12 v2 t5).bind fun M6 => (ldI M6 5 12 v3).bind fun t7 => (f_X12_dueWithout_b8 n8) v1 (v2 + (if t7 = v1 then (0 : Int32) else (1 : Int32))) (v3 + (1 : Int32)) M6)
def f_X12_dueWithout (v1 : Int32) (M0 : Mem) : Option (Int32 × Mem) := (f_X12_thinks M0).bind fun M1 => f_X12_dueWithout_b8 FU v1 (0 : Int32) (0 : Int32) M1
def f_X12_isDone_b2 (M0 : Mem) : Nat → Int32 → Int32 → Option Int32
  | 0, _, _ => none
  | n2 + 1, v1, v2 => (if (M0.1 0 6) ≤ v2 then some (0 : Int32) else (ldI M0 5 12 v2).bind fun t2 => (if t2 = v1 then some (1 : Int32) else (f_X12_isDone_b2 M0 n2) v1 (v2 + (1 : Int32))))
def f_X12_isDone (v1 : Int32) (M0 : Mem) : Option Int32 := f_X12_isDone_b2 M0 FU v1 (0 : Int32)
def f_X12_banned_b25 : Nat → Int32 → Int32 → Int32 → Int32 → Mem → Option (Int32 × Mem)
  | 0, _, _, _, _, _ => none
  | n25 + 1, v1, v2, v3, v4, M => (if (M.1 0 5) ≤ v4 then (if v1 = 0 then some (v2, M) else some (v3, M)) else (f_X12_isDone v4 M).bind fun t5 => (if t5 = 0 then (f_X12_banned_b25 n25) v1 v2 v3 (v4 + (1 : Int32)) M else (f_X12_dueWithout v4 M).bind fun pt8 => bp pt8 fun t8 M8 => (if v2 < 0 then (f_X12_banned_b25 n25) v1 v4 t8 (v4 + (1 : Int32)) M8 else (if t8 < v3 then (f_X12_banned_b25 n25) v1 v4 t8 (v4 + (1 : Int32)) M8 else (f_X12_banned_b25 n25) v1 v2 v3 (v4 + (1 : Int32)) M8))))
def f_X12_banned (v1 : Int32) (M0 : Mem) : Option (Int32 × Mem) := (if (f_X12_isIn v1 (0 : Int32) (1 : Int32)) = 0 then (f_X12_no (-2 : Int32) M0).bind fun pt11 => bp pt11 fun t11 M11 => some (t11, M11) else f_X12_banned_b25 FU v1 (-9 : Int32) (-9 : Int32) (0 : Int32) M0)
def f_X12_dueMoved_b13 : Nat → Int32 → Int32 → Mem → Option (Int32 × Mem)
  | 0, _, _, _ => none
  | n13 + 1, v2, v3, M => (if ((M.1 0 6) - (1 : Int32)) ≤ v3 then (stI M 5 12 ((M.1 0 6) - (1 : Int32)) v2).bind fun M4 => (f_X12_all M4).bind fun t5 => (f_X12_forgets M4).bind fun M6 => some (t5, M6) else (ldI M 5 12 (v3 + (1 : Int32))).bind fun t7 => (stI M 5 12 v3 t7).bind fun M8 => (f_X12_dueMoved_b13 n13) v2 (v3 + (1 : Int32)) M8)
def f_X12_dueMoved (v1 : Int32) (M0 : Mem) : Option (Int32 × Mem) := (f_X12_thinks M0).bind fun M1 => (ldI M1 5 12 v1).bind fun t2 => f_X12_dueMoved_b13 FU t2 v1 M1
def f_X12_moved_b40 : Nat → Int32 → Int32 → Int32 → Mem → Option (Int32 × Mem)
  | 0, _, _, _, _ => none
  | n40 + 1, v2, v3, v4, M => (if (M.1 0 6) ≤ v4 then some (v2, M) else (f_X12_dueMoved v4 M).bind fun pt6 => bp pt6 fun t6 M6 => (if t6 < v3 then (f_X12_moved_b40 n40) v4 t6 (v4 + (1 : Int32)) M6 else (f_X12_moved_b40 n40) v2 v3 (v4 + (1 : Int32)) M6))
def f_X12_moved_b19 (v1 : Int32) (M : Mem) : Option (Int32 × Mem) := (if v1 < 0 then (f_X12_all M).bind fun t3 => f_X12_moved_b40 FU (-9 : Int32) t3 (0 : Int32) M else (f_X12_dueMoved v1 M).bind fun pt8 => bp pt8 fun t8 M8 => some (t8, M8))
def f_X12_moved (v1 : Int32) (M0 : Mem) : Option (Int32 × Mem) := (if v1 = (-1 : Int32) then f_X12_moved_b19 v1 M0 else (if (f_X12_isPlace v1 M0) = 0 then (f_X12_no (-1 : Int32) M0).bind fun pt10 => bp pt10 fun t10 M10 => some (t10, M10) else f_X12_moved_b19 v1 M0))
def f_X12_unlikeMarks_b17 (M0 : Mem) (k4 : Int32 → Int32 → Option Int32) : Nat → Int32 → Int32 → Int32 → Int32 → Option Int32
  | 0, _, _, _, _ => none
  | n17 + 1, v1, v2, v3, v4 => (if v2 ≤ v4 then k4 (v1 + (if v3 = 0 then (0 : Int32) else (1 : Int32))) (v2 + (1 : Int32)) else (if v3 = 0 then (f_X12_unlikeMarks_b17 M0 k4 n17) v1 v2 (0 : Int32) (v4 + (1 : Int32)) else (ldI M0 4 8 v2).bind fun t6 => (ldI M0 4 8 v4).bind fun t7 => (f_X12_unlikeMarks_b17 M0 k4 n17) v1 v2 (if t6 = t7 then (0 : Int32) else (1 : Int32)) (v4 + (1 : Int32))))
def f_X12_unlikeMarks_b4 (M0 : Mem) : Nat → Int32 → Int32 → Option Int32
  | 0, _, _ => none
  | n4 + 1, v1, v2 => (if (M0.1 0 5) ≤ v2 then some v1 else f_X12_unlikeMarks_b17 M0 (f_X12_unlikeMarks_b4 M0 n4) FU v1 v2 (1 : Int32) (0 : Int32))
def f_X12_unlikeMarks (M0 : Mem) : Option Int32 := f_X12_unlikeMarks_b4 M0 FU (0 : Int32) (0 : Int32)
def f_X12_streak_b46 (M0 : Mem) (k6 : Int32 → Int32 → Int32 → Option Int32) (v1 : Int32) (v3 : Int32) (s0 : Int32) : Option Int32 := k6 (if s0 ≤ v1 then v1 else s0) s0 (v3 + (1 : Int32))
def f_X12_streak_b45 (M0 : Mem) (k6 : Int32 → Int32 → Int32 → Option Int32) (v1 : Int32) (v3 : Int32) : Option Int32 := f_X12_streak_b46 M0 k6 v1 v3 (1 : Int32)
def f_X12_streak_b6 (M0 : Mem) : Nat → Int32 → Int32 → Int32 → Option Int32
  | 0, _, _, _ => none
  | n6 + 1, v1, v2, v3 => (if (M0.1 0 6) ≤ v3 then some v1 else (if v3 ≤ 0 then f_X12_streak_b45 M0 (f_X12_streak_b6 M0 n6) v1 v3 else (ldI M0 5 12 (v3 - (1 : Int32))).bind fun t5 => (ldI M0 5 12 v3).bind fun t6 => (f_X12_areSame t5 t6 M0).bind fun t7 => f_X12_streak_b46 M0 (f_X12_streak_b6 M0 n6) v1 v3 (if t7 = 0 then (1 : Int32) else (v2 + (1 : Int32)))))
def f_X12_streak (M0 : Mem) : Option Int32 := f_X12_streak_b6 M0 FU (0 : Int32) (0 : Int32) (0 : Int32)
def f_X12_row_b24 (v1 : Int32) (v2 : Int32) (M : Mem) : Option (Int32 × Mem) := (if v2 = 0 then (stI M 13 12 (M.1 0 24) v1).bind fun M3 => some (((wI M3 0 24 ((M3.1 0 24) + (1 : Int32))).1 0 24), (wI M3 0 24 ((M3.1 0 24) + (1 : Int32)))) else (f_X12_no v2 M).bind fun pt4 => bp pt4 fun t4 M4 => some (t4, M4))
def f_X12_row (v1 : Int32) (M0 : Mem) : Option (Int32 × Mem) := (if (f_X12_bound v1 (0 : Int32) (99 : Int32)) = 0 then (if (M0.1 0 24) = (12 : Int32) then f_X12_row_b24 v1 (-6 : Int32) M0 else f_X12_row_b24 v1 (f_X12_bound v1 (0 : Int32) (99 : Int32)) M0) else f_X12_row_b24 v1 (f_X12_bound v1 (0 : Int32) (99 : Int32)) M0)
def f_X12_judge_b12 : Nat → Int32 → Int32 → Mem → Option (Int32 × Mem)
  | 0, _, _, _ => none
  | n12 + 1, v1, v2, M => (if v1 ≤ v2 then some ((-9 : Int32), M) else (if (M.1 0 6) ≤ v2 then some (v2, M) else (ldI M 5 12 v2).bind fun t3 => (ldI M 13 12 v2).bind fun t4 => (if t3 = t4 then (f_X12_judge_b12 n12) v1 (v2 + (1 : Int32)) M else some (v2, M))))
def f_X12_judge (M0 : Mem) : Option (Int32 × Mem) := f_X12_judge_b12 FU (M0.1 0 24) (0 : Int32) (wI M0 0 24 (0 : Int32))
def f_X12_clear (M0 : Mem) : Option (Int32 × Mem) := some ((M0.1 0 24), (wI M0 0 24 (0 : Int32)))
def f_X12_lots_b79 (k70 : Int32 → Int32 → Int32 → Int32 → Int32 → Int32 → Mem → Option (Int32 × Mem)) : Nat → Int32 → Int32 → Int32 → Int32 → Int32 → Int32 → Int32 → Mem → Option (Int32 × Mem)
  | 0, _, _, _, _, _, _, _, _ => none
  | n79 + 1, v1, v3, v5, v6, v7, v8, v9, M => (if (12 : Int32) ≤ v9 then (f_X12_all M).bind fun t9 => (f_X12_all M).bind fun t10 => k70 v1 v3 v5 (v6 + t9) (v7 + (if t10 = 0 then (1 : Int32) else (0 : Int32))) (v8 + (1 : Int32)) M else (rmI ((((v5 * (1103515245 : Int32)) + (12345 : Int32)) &&& (2147483647 : Int32)) / (65536 : Int32)) (M.1 0 5)).bind fun t13 => (stI M 5 12 v9 t13).bind fun M14 => (f_X12_lots_b79 k70 n79) v1 v3 ((v5 * (1103515245 : Int32)) + (12345 : Int32)) v6 v7 v8 (v9 + (1 : Int32)) M14)
def f_X12_lots_b70 : Nat → Int32 → Int32 → Int32 → Int32 → Int32 → Int32 → Mem → Option (Int32 × Mem)
  | 0, _, _, _, _, _, _, _ => none
  | n70 + 1, v1, v3, v5, v6, v7, v8, M => (if v1 ≤ v8 then (f_X12_forgets M).bind fun M6 => (if v3 = 0 then some (v6, M6) else some (v7, M6)) else f_X12_lots_b79 (f_X12_lots_b70 n70) FU v1 v3 v5 v6 v7 v8 (0 : Int32) M)
def f_X12_lots_b27 (v1 : Int32) (v2 : Int32) (v3 : Int32) (v4 : Int32) (M : Mem) : Option (Int32 × Mem) := (if v4 = 0 then (if (M.1 0 5) = 0 then some ((0 : Int32), M) else (f_X12_thinks M).bind fun M4 => f_X12_lots_b70 FU v1 v3 v2 (0 : Int32) (0 : Int32) (0 : Int32) (wI M4 0 6 (12 : Int32))) else (f_X12_no v4 M).bind fun pt15 => bp pt15 fun t15 M15 => some (t15, M15))
def f_X12_lots (v1 : Int32) (v2 : Int32) (v3 : Int32) (M0 : Mem) : Option (Int32 × Mem) := (if (f_X12_bound v1 (1 : Int32) (20 : Int32)) = 0 then (if (f_X12_isIn v3 (0 : Int32) (1 : Int32)) = 0 then f_X12_lots_b27 v1 v2 v3 (-2 : Int32) M0 else f_X12_lots_b27 v1 v2 v3 (f_X12_bound v1 (1 : Int32) (20 : Int32)) M0) else f_X12_lots_b27 v1 v2 v3 (f_X12_bound v1 (1 : Int32) (20 : Int32)) M0)
def f_X12_count_b103 (M0 : Mem) : Nat → Int32 → Int32 → Option Int32
  | 0, _, _ => none
  | n103 + 1, v2, v3 => (if (M0.1 0 5) ≤ v3 then some v2 else (ldI M0 4 8 v3).bind fun t10 => (f_X12_bits t10).bind fun t11 => (f_X12_count_b103 M0 n103) (v2 + t11) (v3 + (1 : Int32)))
def f_X12_count (v1 : Int32) (M0 : Mem) : Option Int32 := (if (f_X12_isIn v1 (11 : Int32) (16 : Int32)) = 0 then (if v1 = (0 : Int32) then some (M0.1 0 5) else (if v1 = (1 : Int32) then some (M0.1 0 6) else (if v1 = (2 : Int32) then some (M0.1 0 7) else (if v1 = (3 : Int32) then some (M0.1 0 8) else (if v1 = (4 : Int32) then (f_X12_all M0).bind fun t7 => some t7 else (if v1 = (5 : Int32) then f_X12_count_b103 M0 FU (0 : Int32) (0 : Int32) else (if v1 = (6 : Int32) then some (M0.1 0 13) else (if v1 = (7 : Int32) then some (M0.1 0 24) else (if v1 = (8 : Int32) then some (M0.1 0 20) else some (-9 : Int32)))))))))) else (ldI M0 1 7 (v1 - (10 : Int32))).bind fun t15 => some t15)
end
section
/-! the tables' words that the walks use -/
theorem la_X0_0 : u_lay RX0 TX0 0 ∈ bigW := bw 166 (by decide +kernel) (by decide +kernel)
theorem la_X0_1 : u_lay RX0 TX0 1 ∈ bigW := bw 168 (by decide +kernel) (by decide +kernel)
theorem la_X0_2 : u_lay RX0 TX0 2 ∈ bigW := bw 170 (by decide +kernel) (by decide +kernel)
theorem la_X0_3 : u_lay RX0 TX0 3 ∈ bigW := bw 172 (by decide +kernel) (by decide +kernel)
theorem la_X0_4 : u_lay RX0 TX0 4 ∈ bigW := bw 174 (by decide +kernel) (by decide +kernel)
theorem la_X0_5 : u_lay RX0 TX0 5 ∈ bigW := bw 176 (by decide +kernel) (by decide +kernel)
theorem la_X0_6 : u_lay RX0 TX0 6 ∈ bigW := bw 178 (by decide +kernel) (by decide +kernel)
theorem la_X0_7 : u_lay RX0 TX0 7 ∈ bigW := bw 180 (by decide +kernel) (by decide +kernel)
theorem in_X0 : ∀ w ∈ u_ws RX0 TX0 8, w ∈ bigW := List.forall_mem_cons.mpr ⟨la_X0_0, List.forall_mem_cons.mpr ⟨la_X0_1, List.forall_mem_cons.mpr ⟨la_X0_2, List.forall_mem_cons.mpr ⟨la_X0_3, List.forall_mem_cons.mpr ⟨la_X0_4, List.forall_mem_cons.mpr ⟨la_X0_5, List.forall_mem_cons.mpr ⟨la_X0_6, List.forall_mem_cons.mpr ⟨la_X0_7, fun _ h => absurd h List.not_mem_nil⟩⟩⟩⟩⟩⟩⟩⟩
theorem la_X1_0 : u_lay RX1 TX1 0 ∈ bigW := bw 219 (by decide +kernel) (by decide +kernel)
theorem la_X1_1 : u_lay RX1 TX1 1 ∈ bigW := bw 221 (by decide +kernel) (by decide +kernel)
theorem la_X1_2 : u_lay RX1 TX1 2 ∈ bigW := bw 223 (by decide +kernel) (by decide +kernel)
theorem in_X1 : ∀ w ∈ u_ws RX1 TX1 3, w ∈ bigW := List.forall_mem_cons.mpr ⟨la_X1_0, List.forall_mem_cons.mpr ⟨la_X1_1, List.forall_mem_cons.mpr ⟨la_X1_2, fun _ h => absurd h List.not_mem_nil⟩⟩⟩
theorem la_X2_0 : u_lay RX2 TX2 0 ∈ bigW := bw 332 (by decide +kernel) (by decide +kernel)
theorem la_X2_1 : u_lay RX2 TX2 1 ∈ bigW := bw 334 (by decide +kernel) (by decide +kernel)
theorem la_X2_2 : u_lay RX2 TX2 2 ∈ bigW := bw 336 (by decide +kernel) (by decide +kernel)
theorem la_X2_3 : u_lay RX2 TX2 3 ∈ bigW := bw 338 (by decide +kernel) (by decide +kernel)
theorem la_X2_4 : u_lay RX2 TX2 4 ∈ bigW := bw 340 (by decide +kernel) (by decide +kernel)
theorem la_X2_5 : u_lay RX2 TX2 5 ∈ bigW := bw 342 (by decide +kernel) (by decide +kernel)
theorem in_X2 : ∀ w ∈ u_ws RX2 TX2 6, w ∈ bigW := List.forall_mem_cons.mpr ⟨la_X2_0, List.forall_mem_cons.mpr ⟨la_X2_1, List.forall_mem_cons.mpr ⟨la_X2_2, List.forall_mem_cons.mpr ⟨la_X2_3, List.forall_mem_cons.mpr ⟨la_X2_4, List.forall_mem_cons.mpr ⟨la_X2_5, fun _ h => absurd h List.not_mem_nil⟩⟩⟩⟩⟩⟩
theorem la_X3_0 : u_lay RX3 TX3 0 ∈ bigW := bw 274 (by decide +kernel) (by decide +kernel)
theorem la_X3_1 : u_lay RX3 TX3 1 ∈ bigW := bw 276 (by decide +kernel) (by decide +kernel)
theorem la_X3_2 : u_lay RX3 TX3 2 ∈ bigW := bw 278 (by decide +kernel) (by decide +kernel)
theorem la_X3_3 : u_lay RX3 TX3 3 ∈ bigW := bw 280 (by decide +kernel) (by decide +kernel)
theorem la_X3_4 : u_lay RX3 TX3 4 ∈ bigW := bw 282 (by decide +kernel) (by decide +kernel)
theorem in_X3 : ∀ w ∈ u_ws RX3 TX3 5, w ∈ bigW := List.forall_mem_cons.mpr ⟨la_X3_0, List.forall_mem_cons.mpr ⟨la_X3_1, List.forall_mem_cons.mpr ⟨la_X3_2, List.forall_mem_cons.mpr ⟨la_X3_3, List.forall_mem_cons.mpr ⟨la_X3_4, fun _ h => absurd h List.not_mem_nil⟩⟩⟩⟩⟩
theorem la_X4_0 : u_lay RX4 TX4 0 ∈ bigW := bw 368 (by decide +kernel) (by decide +kernel)
theorem la_X4_1 : u_lay RX4 TX4 1 ∈ bigW := bw 370 (by decide +kernel) (by decide +kernel)
theorem in_X4 : ∀ w ∈ u_ws RX4 TX4 2, w ∈ bigW := List.forall_mem_cons.mpr ⟨la_X4_0, List.forall_mem_cons.mpr ⟨la_X4_1, fun _ h => absurd h List.not_mem_nil⟩⟩
theorem la_X5_0 : u_lay RX5 TX5 0 ∈ bigW := bw 355 (by decide +kernel) (by decide +kernel)
theorem la_X5_1 : u_lay RX5 TX5 1 ∈ bigW := bw 357 (by decide +kernel) (by decide +kernel)
theorem in_X5 : ∀ w ∈ u_ws RX5 TX5 2, w ∈ bigW := List.forall_mem_cons.mpr ⟨la_X5_0, List.forall_mem_cons.mpr ⟨la_X5_1, fun _ h => absurd h List.not_mem_nil⟩⟩
theorem la_X6_0 : u_lay RX6 TX6 0 ∈ bigW := bw 313 (by decide +kernel) (by decide +kernel)
theorem la_X6_1 : u_lay RX6 TX6 1 ∈ bigW := bw 315 (by decide +kernel) (by decide +kernel)
theorem la_X6_2 : u_lay RX6 TX6 2 ∈ bigW := bw 317 (by decide +kernel) (by decide +kernel)
theorem in_X6 : ∀ w ∈ u_ws RX6 TX6 3, w ∈ bigW := List.forall_mem_cons.mpr ⟨la_X6_0, List.forall_mem_cons.mpr ⟨la_X6_1, List.forall_mem_cons.mpr ⟨la_X6_2, fun _ h => absurd h List.not_mem_nil⟩⟩⟩
theorem la_X7_0 : u_lay RX7 TX7 0 ∈ bigW := bw 295 (by decide +kernel) (by decide +kernel)
theorem la_X7_1 : u_lay RX7 TX7 1 ∈ bigW := bw 297 (by decide +kernel) (by decide +kernel)
theorem la_X7_2 : u_lay RX7 TX7 2 ∈ bigW := bw 299 (by decide +kernel) (by decide +kernel)
theorem la_X7_3 : u_lay RX7 TX7 3 ∈ bigW := bw 301 (by decide +kernel) (by decide +kernel)
theorem in_X7 : ∀ w ∈ u_ws RX7 TX7 4, w ∈ bigW := List.forall_mem_cons.mpr ⟨la_X7_0, List.forall_mem_cons.mpr ⟨la_X7_1, List.forall_mem_cons.mpr ⟨la_X7_2, List.forall_mem_cons.mpr ⟨la_X7_3, fun _ h => absurd h List.not_mem_nil⟩⟩⟩⟩
theorem la_X8_0 : u_lay RX8 TX8 0 ∈ bigW := bw 256 (by decide +kernel) (by decide +kernel)
theorem la_X8_1 : u_lay RX8 TX8 1 ∈ bigW := bw 258 (by decide +kernel) (by decide +kernel)
theorem la_X8_2 : u_lay RX8 TX8 2 ∈ bigW := bw 260 (by decide +kernel) (by decide +kernel)
theorem in_X8 : ∀ w ∈ u_ws RX8 TX8 3, w ∈ bigW := List.forall_mem_cons.mpr ⟨la_X8_0, List.forall_mem_cons.mpr ⟨la_X8_1, List.forall_mem_cons.mpr ⟨la_X8_2, fun _ h => absurd h List.not_mem_nil⟩⟩⟩
theorem la_X9_0 : u_lay RX9 TX9 0 ∈ bigW := bw 237 (by decide +kernel) (by decide +kernel)
theorem la_X9_1 : u_lay RX9 TX9 1 ∈ bigW := bw 239 (by decide +kernel) (by decide +kernel)
theorem in_X9 : ∀ w ∈ u_ws RX9 TX9 2, w ∈ bigW := List.forall_mem_cons.mpr ⟨la_X9_0, List.forall_mem_cons.mpr ⟨la_X9_1, fun _ h => absurd h List.not_mem_nil⟩⟩
theorem la_X10_0 : u_lay RX10 TX10 0 ∈ bigW := bw 196 (by decide +kernel) (by decide +kernel)
theorem la_X10_1 : u_lay RX10 TX10 1 ∈ bigW := bw 198 (by decide +kernel) (by decide +kernel)
theorem la_X10_2 : u_lay RX10 TX10 2 ∈ bigW := bw 200 (by decide +kernel) (by decide +kernel)
theorem la_X10_3 : u_lay RX10 TX10 3 ∈ bigW := bw 202 (by decide +kernel) (by decide +kernel)
theorem la_X10_4 : u_lay RX10 TX10 4 ∈ bigW := bw 204 (by decide +kernel) (by decide +kernel)
theorem in_X10 : ∀ w ∈ u_ws RX10 TX10 5, w ∈ bigW := List.forall_mem_cons.mpr ⟨la_X10_0, List.forall_mem_cons.mpr ⟨la_X10_1, List.forall_mem_cons.mpr ⟨la_X10_2, List.forall_mem_cons.mpr ⟨la_X10_3, List.forall_mem_cons.mpr ⟨la_X10_4, fun _ h => absurd h List.not_mem_nil⟩⟩⟩⟩⟩
theorem la_X11_0 : u_lay RX11 TX11 0 ∈ bigW := bw 387 (by decide +kernel) (by decide +kernel)
theorem la_X11_1 : u_lay RX11 TX11 1 ∈ bigW := bw 389 (by decide +kernel) (by decide +kernel)
theorem la_X11_2 : u_lay RX11 TX11 2 ∈ bigW := bw 391 (by decide +kernel) (by decide +kernel)
theorem la_X11_3 : u_lay RX11 TX11 3 ∈ bigW := bw 393 (by decide +kernel) (by decide +kernel)
theorem la_X11_4 : u_lay RX11 TX11 4 ∈ bigW := bw 395 (by decide +kernel) (by decide +kernel)
theorem la_X11_5 : u_lay RX11 TX11 5 ∈ bigW := bw 397 (by decide +kernel) (by decide +kernel)
theorem la_X11_6 : u_lay RX11 TX11 6 ∈ bigW := bw 399 (by decide +kernel) (by decide +kernel)
theorem la_X11_7 : u_lay RX11 TX11 7 ∈ bigW := bw 401 (by decide +kernel) (by decide +kernel)
theorem la_X11_8 : u_lay RX11 TX11 8 ∈ bigW := bw 403 (by decide +kernel) (by decide +kernel)
theorem la_X11_9 : u_lay RX11 TX11 9 ∈ bigW := bw 405 (by decide +kernel) (by decide +kernel)
theorem la_X11_10 : u_lay RX11 TX11 10 ∈ bigW := bw 407 (by decide +kernel) (by decide +kernel)
theorem la_X11_11 : u_lay RX11 TX11 11 ∈ bigW := bw 409 (by decide +kernel) (by decide +kernel)
theorem la_X11_12 : u_lay RX11 TX11 12 ∈ bigW := bw 411 (by decide +kernel) (by decide +kernel)
theorem la_X11_13 : u_lay RX11 TX11 13 ∈ bigW := bw 413 (by decide +kernel) (by decide +kernel)
theorem in_X11 : ∀ w ∈ u_ws RX11 TX11 14, w ∈ bigW := List.forall_mem_cons.mpr ⟨la_X11_0, List.forall_mem_cons.mpr ⟨la_X11_1, List.forall_mem_cons.mpr ⟨la_X11_2, List.forall_mem_cons.mpr ⟨la_X11_3, List.forall_mem_cons.mpr ⟨la_X11_4, List.forall_mem_cons.mpr ⟨la_X11_5, List.forall_mem_cons.mpr ⟨la_X11_6, List.forall_mem_cons.mpr ⟨la_X11_7, List.forall_mem_cons.mpr ⟨la_X11_8, List.forall_mem_cons.mpr ⟨la_X11_9, List.forall_mem_cons.mpr ⟨la_X11_10, List.forall_mem_cons.mpr ⟨la_X11_11, List.forall_mem_cons.mpr ⟨la_X11_12, List.forall_mem_cons.mpr ⟨la_X11_13, fun _ h => absurd h List.not_mem_nil⟩⟩⟩⟩⟩⟩⟩⟩⟩⟩⟩⟩⟩⟩
theorem la_X12_0 : u_lay RX12 TX12 0 ∈ bigW := bw 1298 (by decide +kernel) (by decide +kernel)
theorem la_X12_1 : u_lay RX12 TX12 1 ∈ bigW := bw 1300 (by decide +kernel) (by decide +kernel)
theorem la_X12_2 : u_lay RX12 TX12 2 ∈ bigW := bw 1302 (by decide +kernel) (by decide +kernel)
theorem la_X12_3 : u_lay RX12 TX12 3 ∈ bigW := bw 1304 (by decide +kernel) (by decide +kernel)
theorem la_X12_4 : u_lay RX12 TX12 4 ∈ bigW := bw 1306 (by decide +kernel) (by decide +kernel)
theorem la_X12_5 : u_lay RX12 TX12 5 ∈ bigW := bw 1308 (by decide +kernel) (by decide +kernel)
theorem la_X12_6 : u_lay RX12 TX12 6 ∈ bigW := bw 1310 (by decide +kernel) (by decide +kernel)
theorem la_X12_7 : u_lay RX12 TX12 7 ∈ bigW := bw 1312 (by decide +kernel) (by decide +kernel)
theorem la_X12_8 : u_lay RX12 TX12 8 ∈ bigW := bw 1314 (by decide +kernel) (by decide +kernel)
theorem la_X12_9 : u_lay RX12 TX12 9 ∈ bigW := bw 1316 (by decide +kernel) (by decide +kernel)
theorem la_X12_10 : u_lay RX12 TX12 10 ∈ bigW := bw 1318 (by decide +kernel) (by decide +kernel)
theorem la_X12_11 : u_lay RX12 TX12 11 ∈ bigW := bw 1320 (by decide +kernel) (by decide +kernel)
theorem la_X12_12 : u_lay RX12 TX12 12 ∈ bigW := bw 1322 (by decide +kernel) (by decide +kernel)
theorem la_X12_13 : u_lay RX12 TX12 13 ∈ bigW := bw 1324 (by decide +kernel) (by decide +kernel)
theorem la_X12_14 : u_lay RX12 TX12 14 ∈ bigW := bw 1326 (by decide +kernel) (by decide +kernel)
theorem la_X12_15 : u_lay RX12 TX12 15 ∈ bigW := bw 1328 (by decide +kernel) (by decide +kernel)
theorem la_X12_16 : u_lay RX12 TX12 16 ∈ bigW := bw 1330 (by decide +kernel) (by decide +kernel)
theorem la_X12_17 : u_lay RX12 TX12 17 ∈ bigW := bw 1332 (by decide +kernel) (by decide +kernel)
theorem la_X12_18 : u_lay RX12 TX12 18 ∈ bigW := bw 1334 (by decide +kernel) (by decide +kernel)
theorem la_X12_19 : u_lay RX12 TX12 19 ∈ bigW := bw 1336 (by decide +kernel) (by decide +kernel)
theorem la_X12_20 : u_lay RX12 TX12 20 ∈ bigW := bw 1338 (by decide +kernel) (by decide +kernel)
theorem la_X12_21 : u_lay RX12 TX12 21 ∈ bigW := bw 1340 (by decide +kernel) (by decide +kernel)
theorem la_X12_22 : u_lay RX12 TX12 22 ∈ bigW := bw 1342 (by decide +kernel) (by decide +kernel)
theorem la_X12_23 : u_lay RX12 TX12 23 ∈ bigW := bw 1344 (by decide +kernel) (by decide +kernel)
theorem la_X12_24 : u_lay RX12 TX12 24 ∈ bigW := bw 1346 (by decide +kernel) (by decide +kernel)
theorem la_X12_25 : u_lay RX12 TX12 25 ∈ bigW := bw 1348 (by decide +kernel) (by decide +kernel)
theorem la_X12_26 : u_lay RX12 TX12 26 ∈ bigW := bw 1350 (by decide +kernel) (by decide +kernel)
theorem la_X12_27 : u_lay RX12 TX12 27 ∈ bigW := bw 1352 (by decide +kernel) (by decide +kernel)
theorem la_X12_28 : u_lay RX12 TX12 28 ∈ bigW := bw 1354 (by decide +kernel) (by decide +kernel)
theorem in_X12 : ∀ w ∈ u_ws RX12 TX12 29, w ∈ bigW := List.forall_mem_cons.mpr ⟨la_X12_0, List.forall_mem_cons.mpr ⟨la_X12_1, List.forall_mem_cons.mpr ⟨la_X12_2, List.forall_mem_cons.mpr ⟨la_X12_3, List.forall_mem_cons.mpr ⟨la_X12_4, List.forall_mem_cons.mpr ⟨la_X12_5, List.forall_mem_cons.mpr ⟨la_X12_6, List.forall_mem_cons.mpr ⟨la_X12_7, List.forall_mem_cons.mpr ⟨la_X12_8, List.forall_mem_cons.mpr ⟨la_X12_9, List.forall_mem_cons.mpr ⟨la_X12_10, List.forall_mem_cons.mpr ⟨la_X12_11, List.forall_mem_cons.mpr ⟨la_X12_12, List.forall_mem_cons.mpr ⟨la_X12_13, List.forall_mem_cons.mpr ⟨la_X12_14, List.forall_mem_cons.mpr ⟨la_X12_15, List.forall_mem_cons.mpr ⟨la_X12_16, List.forall_mem_cons.mpr ⟨la_X12_17, List.forall_mem_cons.mpr ⟨la_X12_18, List.forall_mem_cons.mpr ⟨la_X12_19, List.forall_mem_cons.mpr ⟨la_X12_20, List.forall_mem_cons.mpr ⟨la_X12_21, List.forall_mem_cons.mpr ⟨la_X12_22, List.forall_mem_cons.mpr ⟨la_X12_23, List.forall_mem_cons.mpr ⟨la_X12_24, List.forall_mem_cons.mpr ⟨la_X12_25, List.forall_mem_cons.mpr ⟨la_X12_26, List.forall_mem_cons.mpr ⟨la_X12_27, List.forall_mem_cons.mpr ⟨la_X12_28, fun _ h => absurd h List.not_mem_nil⟩⟩⟩⟩⟩⟩⟩⟩⟩⟩⟩⟩⟩⟩⟩⟩⟩⟩⟩⟩⟩⟩⟩⟩⟩⟩⟩⟩⟩
theorem W_max : w_max := ⟨bw 643 (by decide +kernel) (by decide +kernel), bw 114 (by decide +kernel) (by decide +kernel), bw 644 (by decide +kernel) (by decide +kernel)⟩
theorem W_min : w_min := ⟨bw 738 (by decide +kernel) (by decide +kernel), bw 114 (by decide +kernel) (by decide +kernel), bw 739 (by decide +kernel) (by decide +kernel)⟩
theorem W_maxL : w_maxL := ⟨bw 999 (by decide +kernel) (by decide +kernel), bw 114 (by decide +kernel) (by decide +kernel), bw 1000 (by decide +kernel) (by decide +kernel)⟩
theorem W_cpy : w_cpy := ⟨bw 460 (by decide +kernel) (by decide +kernel), bw 459 (by decide +kernel) (by decide +kernel), bw 111 (by decide +kernel) (by decide +kernel)⟩
theorem wd_159 : Cond.fieldLink RX0 31 "SecondHelping$Board" "type" "I" ∈ bigW := bw 159 (by decide +kernel) (by decide +kernel)
theorem FL_X0_31 : FL RX0 31 0 6 := ⟨_, _, _, rfl, in_X0, by decide, wd_159⟩
theorem FW_X0_6 : FW 0 6 .int := ⟨_, _, _, tyX0, rfl, tyX0_ok, nmX0, by decide +kernel, by decide +kernel⟩
theorem wd_163 : Cond.fieldLink RX0 34 "SecondHelping$Board" "t" "I" ∈ bigW := bw 163 (by decide +kernel) (by decide +kernel)
theorem FL_X0_34 : FL RX0 34 0 7 := ⟨_, _, _, rfl, in_X0, by decide, wd_163⟩
theorem FW_X0_7 : FW 0 7 .int := ⟨_, _, _, tyX0, rfl, tyX0_ok, nmX0, by decide +kernel, by decide +kernel⟩
theorem wd_129 : Cond.fieldLink RX0 9 "SecondHelping$Board" "kinds" "[I" ∈ bigW := bw 129 (by decide +kernel) (by decide +kernel)
theorem FL_X0_9 : FL RX0 9 0 0 := ⟨_, _, _, rfl, in_X0, by decide, wd_129⟩
theorem wd_458 : Cond.methodLink RX0 37 arraycopyName ∈ bigW := bw 458 (by decide +kernel) (by decide +kernel)
theorem wd_132 : Cond.fieldLink RX0 15 "SecondHelping$Board" "figures" "[I" ∈ bigW := bw 132 (by decide +kernel) (by decide +kernel)
theorem FL_X0_15 : FL RX0 15 0 1 := ⟨_, _, _, rfl, in_X0, by decide, wd_132⟩
theorem wd_134 : Cond.fieldLink RX0 18 "SecondHelping$Board" "marks" "[I" ∈ bigW := bw 134 (by decide +kernel) (by decide +kernel)
theorem FL_X0_18 : FL RX0 18 0 2 := ⟨_, _, _, rfl, in_X0, by decide, wd_134⟩
theorem wd_137 : Cond.fieldLink RX0 21 "SecondHelping$Board" "log" "[I" ∈ bigW := bw 137 (by decide +kernel) (by decide +kernel)
theorem FL_X0_21 : FL RX0 21 0 3 := ⟨_, _, _, rfl, in_X0, by decide, wd_137⟩
theorem wd_143 : Cond.fieldLink RX0 24 "SecondHelping$Board" "doings" "I" ∈ bigW := bw 143 (by decide +kernel) (by decide +kernel)
theorem FL_X0_24 : FL RX0 24 0 4 := ⟨_, _, _, rfl, in_X0, by decide, wd_143⟩
theorem FW_X0_4 : FW 0 4 .int := ⟨_, _, _, tyX0, rfl, tyX0_ok, nmX0, by decide +kernel, by decide +kernel⟩
theorem wd_152 : Cond.fieldLink RX0 28 "SecondHelping$Board" "places" "I" ∈ bigW := bw 152 (by decide +kernel) (by decide +kernel)
theorem FL_X0_28 : FL RX0 28 0 5 := ⟨_, _, _, rfl, in_X0, by decide, wd_152⟩
theorem FW_X0_5 : FW 0 5 .int := ⟨_, _, _, tyX0, rfl, tyX0_ok, nmX0, by decide +kernel, by decide +kernel⟩
theorem wd_461 : Cond.methodLink RX0 43 yX0_setLaw ∈ bigW := bw 461 (by decide +kernel) (by decide +kernel)
theorem wd_99 : Cond.initialized RX0 ∈ bigW := bw 99 (by decide +kernel) (by decide +kernel)
theorem wd_464 : Cond.code yX0_setLaw cX0_setLaw 3 none ∈ bigW := bw 464 (by decide +kernel) (by decide +kernel)
theorem wd_462 : Cond.instanceMethod yX0_setLaw ∈ bigW := bw 462 (by decide +kernel) (by decide +kernel)
theorem wd_463 : Cond.selects RX0 yX0_setLaw yX0_setLaw ∈ bigW := bw 463 (by decide +kernel) (by decide +kernel)
theorem ML_X0_setLaw : ML yX0_setLaw cX0_setLaw 3 none 2 := ⟨wd_462, wd_463, wd_99, wd_464, ⟨by decide +kernel, by decide +kernel⟩, by decide +kernel⟩
theorem wd_488 : Cond.methodLink RX0 47 yX0_hasRoomForDoing ∈ bigW := bw 488 (by decide +kernel) (by decide +kernel)
theorem wd_483 : Cond.code yX0_hasRoomForDoing cX0_hasRoomForDoing 1 (some .boolean) ∈ bigW := bw 483 (by decide +kernel) (by decide +kernel)
theorem wd_481 : Cond.instanceMethod yX0_hasRoomForDoing ∈ bigW := bw 481 (by decide +kernel) (by decide +kernel)
theorem wd_482 : Cond.selects RX0 yX0_hasRoomForDoing yX0_hasRoomForDoing ∈ bigW := bw 482 (by decide +kernel) (by decide +kernel)
theorem ML_X0_hasRoomForDoing : ML yX0_hasRoomForDoing cX0_hasRoomForDoing 1 (some .boolean) 0 := ⟨wd_481, wd_482, wd_99, wd_483, ⟨by decide +kernel, by decide +kernel⟩, by decide +kernel⟩
theorem wd_489 : Cond.methodLink RX0 51 yX0_setKind ∈ bigW := bw 489 (by decide +kernel) (by decide +kernel)
theorem wd_492 : Cond.code yX0_setKind cX0_setKind 4 none ∈ bigW := bw 492 (by decide +kernel) (by decide +kernel)
theorem wd_490 : Cond.instanceMethod yX0_setKind ∈ bigW := bw 490 (by decide +kernel) (by decide +kernel)
theorem wd_491 : Cond.selects RX0 yX0_setKind yX0_setKind ∈ bigW := bw 491 (by decide +kernel) (by decide +kernel)
theorem ML_X0_setKind : ML yX0_setKind cX0_setKind 4 none 3 := ⟨wd_490, wd_491, wd_99, wd_492, ⟨by decide +kernel, by decide +kernel⟩, by decide +kernel⟩
theorem wd_509 : Cond.methodLink RX0 55 yX0_hasRoomForPlace ∈ bigW := bw 509 (by decide +kernel) (by decide +kernel)
theorem wd_504 : Cond.code yX0_hasRoomForPlace cX0_hasRoomForPlace 1 (some .boolean) ∈ bigW := bw 504 (by decide +kernel) (by decide +kernel)
theorem wd_502 : Cond.instanceMethod yX0_hasRoomForPlace ∈ bigW := bw 502 (by decide +kernel) (by decide +kernel)
theorem wd_503 : Cond.selects RX0 yX0_hasRoomForPlace yX0_hasRoomForPlace ∈ bigW := bw 503 (by decide +kernel) (by decide +kernel)
theorem ML_X0_hasRoomForPlace : ML yX0_hasRoomForPlace cX0_hasRoomForPlace 1 (some .boolean) 0 := ⟨wd_502, wd_503, wd_99, wd_504, ⟨by decide +kernel, by decide +kernel⟩, by decide +kernel⟩
theorem wd_573 : Cond.constant RJ6 265 (1431655765 : Int32) ∈ bigW := bw 573 (by decide +kernel) (by decide +kernel)
theorem wd_574 : Cond.constant RJ6 266 (858993459 : Int32) ∈ bigW := bw 574 (by decide +kernel) (by decide +kernel)
theorem wd_575 : Cond.constant RJ6 267 (252645135 : Int32) ∈ bigW := bw 575 (by decide +kernel) (by decide +kernel)
theorem wd_570 : Cond.methodLink RX0 58 yJ6_bitCount_0f7a4 ∈ bigW := bw 570 (by decide +kernel) (by decide +kernel)
theorem wd_112 : Cond.initialized RJ6 ∈ bigW := bw 112 (by decide +kernel) (by decide +kernel)
theorem wd_572 : Cond.code yJ6_bitCount_0f7a4 cJ6_bitCount_0f7a4 1 (some .int) ∈ bigW := bw 572 (by decide +kernel) (by decide +kernel)
theorem wd_571 : Cond.static yJ6_bitCount_0f7a4 ∈ bigW := bw 571 (by decide +kernel) (by decide +kernel)
theorem MS_J6_bitCount_0f7a4 : MS yJ6_bitCount_0f7a4 cJ6_bitCount_0f7a4 1 (some .int) 1 := ⟨wd_571, wd_112, wd_572, ⟨by decide +kernel, by decide +kernel⟩, by decide +kernel⟩
theorem wd_217 : Cond.fieldLink RX1 22 "SecondHelping$Letters" "count" "I" ∈ bigW := bw 217 (by decide +kernel) (by decide +kernel)
theorem FL_X1_22 : FL RX1 22 1 2 := ⟨_, _, _, rfl, in_X1, by decide, wd_217⟩
theorem wd_215 : Cond.fieldLink RX1 9 "SecondHelping$Letters" "letters" "[I" ∈ bigW := bw 215 (by decide +kernel) (by decide +kernel)
theorem FL_X1_9 : FL RX1 9 1 0 := ⟨_, _, _, rfl, in_X1, by decide, wd_215⟩
theorem FW_X1_2 : FW 1 2 .int := ⟨_, _, _, tyX1, rfl, tyX1_ok, nmX1, by decide +kernel, by decide +kernel⟩
theorem wd_444 : Cond.methodLink RX1 46 yX1_letterAt ∈ bigW := bw 444 (by decide +kernel) (by decide +kernel)
theorem wd_101 : Cond.initialized RX1 ∈ bigW := bw 101 (by decide +kernel) (by decide +kernel)
theorem wd_447 : Cond.code yX1_letterAt cX1_letterAt 2 (some .int) ∈ bigW := bw 447 (by decide +kernel) (by decide +kernel)
theorem wd_446 : Cond.instanceMethod yX1_letterAt ∈ bigW := bw 446 (by decide +kernel) (by decide +kernel)
theorem wd_3 : Cond.selects RX1 yX1_letterAt yX1_letterAt ∈ bigW := bw 3 (by decide +kernel) (by decide +kernel)
theorem ML_X1_letterAt : ML yX1_letterAt cX1_letterAt 2 (some .int) 1 := ⟨wd_446, wd_3, wd_101, wd_447, ⟨by decide +kernel, by decide +kernel⟩, by decide +kernel⟩
theorem wd_448 : Cond.methodLink RX1 42 yX1_digitsBehind ∈ bigW := bw 448 (by decide +kernel) (by decide +kernel)
theorem wd_450 : Cond.code yX1_digitsBehind cX1_digitsBehind 1 (some .int) ∈ bigW := bw 450 (by decide +kernel) (by decide +kernel)
theorem wd_449 : Cond.static yX1_digitsBehind ∈ bigW := bw 449 (by decide +kernel) (by decide +kernel)
theorem MS_X1_digitsBehind : MS yX1_digitsBehind cX1_digitsBehind 1 (some .int) 1 := ⟨wd_449, wd_101, wd_450, ⟨by decide +kernel, by decide +kernel⟩, by decide +kernel⟩
theorem wd_451 : Cond.methodLink RX1 49 yX1_isDigit ∈ bigW := bw 451 (by decide +kernel) (by decide +kernel)
theorem wd_453 : Cond.code yX1_isDigit cX1_isDigit 1 (some .boolean) ∈ bigW := bw 453 (by decide +kernel) (by decide +kernel)
theorem wd_452 : Cond.static yX1_isDigit ∈ bigW := bw 452 (by decide +kernel) (by decide +kernel)
theorem MS_X1_isDigit : MS yX1_isDigit cX1_isDigit 1 (some .boolean) 1 := ⟨wd_452, wd_101, wd_453, ⟨by decide +kernel, by decide +kernel⟩, by decide +kernel⟩
theorem wd_98 : Cond.initialized RX11 ∈ bigW := bw 98 (by decide +kernel) (by decide +kernel)
theorem wd_479 : Cond.code yX11_isKind cX11_isKind 1 (some .boolean) ∈ bigW := bw 479 (by decide +kernel) (by decide +kernel)
theorem wd_478 : Cond.static yX11_isKind ∈ bigW := bw 478 (by decide +kernel) (by decide +kernel)
theorem MS_X11_isKind : MS yX11_isKind cX11_isKind 1 (some .boolean) 1 := ⟨wd_478, wd_98, wd_479, ⟨by decide +kernel, by decide +kernel⟩, by decide +kernel⟩
theorem wd_216 : Cond.fieldLink RX1 18 "SecondHelping$Letters" "trial" "LSecondHelping$Board;" ∈ bigW := bw 216 (by decide +kernel) (by decide +kernel)
theorem FL_X1_18 : FL RX1 18 1 1 := ⟨_, _, _, rfl, in_X1, by decide, wd_216⟩
theorem wd_480 : Cond.methodLink RX1 75 yX0_hasRoomForDoing ∈ bigW := bw 480 (by decide +kernel) (by decide +kernel)
theorem wd_484 : Cond.methodLink RX1 79 yX0_addDoing ∈ bigW := bw 484 (by decide +kernel) (by decide +kernel)
theorem wd_487 : Cond.code yX0_addDoing cX0_addDoing 5 (some .int) ∈ bigW := bw 487 (by decide +kernel) (by decide +kernel)
theorem wd_485 : Cond.instanceMethod yX0_addDoing ∈ bigW := bw 485 (by decide +kernel) (by decide +kernel)
theorem wd_486 : Cond.selects RX0 yX0_addDoing yX0_addDoing ∈ bigW := bw 486 (by decide +kernel) (by decide +kernel)
theorem ML_X0_addDoing : ML yX0_addDoing cX0_addDoing 5 (some .int) 3 := ⟨wd_485, wd_486, wd_99, wd_487, ⟨by decide +kernel, by decide +kernel⟩, by decide +kernel⟩
theorem wd_497 : Cond.methodLink RX1 83 yX0_hasDoing ∈ bigW := bw 497 (by decide +kernel) (by decide +kernel)
theorem wd_500 : Cond.code yX0_hasDoing cX0_hasDoing 2 (some .boolean) ∈ bigW := bw 500 (by decide +kernel) (by decide +kernel)
theorem wd_498 : Cond.instanceMethod yX0_hasDoing ∈ bigW := bw 498 (by decide +kernel) (by decide +kernel)
theorem wd_499 : Cond.selects RX0 yX0_hasDoing yX0_hasDoing ∈ bigW := bw 499 (by decide +kernel) (by decide +kernel)
theorem ML_X0_hasDoing : ML yX0_hasDoing cX0_hasDoing 2 (some .boolean) 1 := ⟨wd_498, wd_499, wd_99, wd_500, ⟨by decide +kernel, by decide +kernel⟩, by decide +kernel⟩
theorem wd_501 : Cond.methodLink RX1 86 yX0_hasRoomForPlace ∈ bigW := bw 501 (by decide +kernel) (by decide +kernel)
theorem wd_505 : Cond.methodLink RX1 89 yX0_addPlace ∈ bigW := bw 505 (by decide +kernel) (by decide +kernel)
theorem wd_508 : Cond.code yX0_addPlace cX0_addPlace 2 none ∈ bigW := bw 508 (by decide +kernel) (by decide +kernel)
theorem wd_506 : Cond.instanceMethod yX0_addPlace ∈ bigW := bw 506 (by decide +kernel) (by decide +kernel)
theorem wd_507 : Cond.selects RX0 yX0_addPlace yX0_addPlace ∈ bigW := bw 507 (by decide +kernel) (by decide +kernel)
theorem ML_X0_addPlace : ML yX0_addPlace cX0_addPlace 2 none 1 := ⟨wd_506, wd_507, wd_99, wd_508, ⟨by decide +kernel, by decide +kernel⟩, by decide +kernel⟩
theorem wd_516 : Cond.code yX11_isType cX11_isType 1 (some .boolean) ∈ bigW := bw 516 (by decide +kernel) (by decide +kernel)
theorem wd_515 : Cond.static yX11_isType ∈ bigW := bw 515 (by decide +kernel) (by decide +kernel)
theorem MS_X11_isType : MS yX11_isType cX11_isType 1 (some .boolean) 1 := ⟨wd_515, wd_98, wd_516, ⟨by decide +kernel, by decide +kernel⟩, by decide +kernel⟩
theorem wd_517 : Cond.methodLink RX1 96 yX0_setLaw ∈ bigW := bw 517 (by decide +kernel) (by decide +kernel)
theorem wd_524 : Cond.code yX11_isMark cX11_isMark 1 (some .boolean) ∈ bigW := bw 524 (by decide +kernel) (by decide +kernel)
theorem wd_523 : Cond.static yX11_isMark ∈ bigW := bw 523 (by decide +kernel) (by decide +kernel)
theorem MS_X11_isMark : MS yX11_isMark cX11_isMark 1 (some .boolean) 1 := ⟨wd_523, wd_98, wd_524, ⟨by decide +kernel, by decide +kernel⟩, by decide +kernel⟩
theorem wd_525 : Cond.methodLink RX1 103 yX0_flipMark ∈ bigW := bw 525 (by decide +kernel) (by decide +kernel)
theorem wd_528 : Cond.code yX0_flipMark cX0_flipMark 3 none ∈ bigW := bw 528 (by decide +kernel) (by decide +kernel)
theorem wd_526 : Cond.instanceMethod yX0_flipMark ∈ bigW := bw 526 (by decide +kernel) (by decide +kernel)
theorem wd_527 : Cond.selects RX0 yX0_flipMark yX0_flipMark ∈ bigW := bw 527 (by decide +kernel) (by decide +kernel)
theorem ML_X0_flipMark : ML yX0_flipMark cX0_flipMark 3 none 2 := ⟨wd_526, wd_527, wd_99, wd_528, ⟨by decide +kernel, by decide +kernel⟩, by decide +kernel⟩
theorem wd_469 : Cond.methodLink RX1 52 yX1_digitAt ∈ bigW := bw 469 (by decide +kernel) (by decide +kernel)
theorem wd_472 : Cond.code yX1_digitAt cX1_digitAt 3 (some .int) ∈ bigW := bw 472 (by decide +kernel) (by decide +kernel)
theorem wd_471 : Cond.instanceMethod yX1_digitAt ∈ bigW := bw 471 (by decide +kernel) (by decide +kernel)
theorem wd_5 : Cond.selects RX1 yX1_digitAt yX1_digitAt ∈ bigW := bw 5 (by decide +kernel) (by decide +kernel)
theorem ML_X1_digitAt : ML yX1_digitAt cX1_digitAt 3 (some .int) 1 := ⟨wd_471, wd_5, wd_101, wd_472, ⟨by decide +kernel, by decide +kernel⟩, by decide +kernel⟩
theorem wd_473 : Cond.methodLink RX1 55 yX1_comesDoing ∈ bigW := bw 473 (by decide +kernel) (by decide +kernel)
theorem wd_476 : Cond.code yX1_comesDoing cX1_comesDoing 4 (some .boolean) ∈ bigW := bw 476 (by decide +kernel) (by decide +kernel)
theorem wd_475 : Cond.instanceMethod yX1_comesDoing ∈ bigW := bw 475 (by decide +kernel) (by decide +kernel)
theorem wd_6 : Cond.selects RX1 yX1_comesDoing yX1_comesDoing ∈ bigW := bw 6 (by decide +kernel) (by decide +kernel)
theorem ML_X1_comesDoing : ML yX1_comesDoing cX1_comesDoing 4 (some .boolean) 3 := ⟨wd_475, wd_6, wd_101, wd_476, ⟨by decide +kernel, by decide +kernel⟩, by decide +kernel⟩
theorem wd_510 : Cond.methodLink RX1 62 yX1_comesLaw ∈ bigW := bw 510 (by decide +kernel) (by decide +kernel)
theorem wd_513 : Cond.code yX1_comesLaw cX1_comesLaw 3 (some .boolean) ∈ bigW := bw 513 (by decide +kernel) (by decide +kernel)
theorem wd_512 : Cond.instanceMethod yX1_comesLaw ∈ bigW := bw 512 (by decide +kernel) (by decide +kernel)
theorem wd_8 : Cond.selects RX1 yX1_comesLaw yX1_comesLaw ∈ bigW := bw 8 (by decide +kernel) (by decide +kernel)
theorem ML_X1_comesLaw : ML yX1_comesLaw cX1_comesLaw 3 (some .boolean) 2 := ⟨wd_512, wd_8, wd_101, wd_513, ⟨by decide +kernel, by decide +kernel⟩, by decide +kernel⟩
theorem wd_518 : Cond.methodLink RX1 66 yX1_comesMark ∈ bigW := bw 518 (by decide +kernel) (by decide +kernel)
theorem wd_521 : Cond.code yX1_comesMark cX1_comesMark 3 (some .boolean) ∈ bigW := bw 521 (by decide +kernel) (by decide +kernel)
theorem wd_520 : Cond.instanceMethod yX1_comesMark ∈ bigW := bw 520 (by decide +kernel) (by decide +kernel)
theorem wd_9 : Cond.selects RX1 yX1_comesMark yX1_comesMark ∈ bigW := bw 9 (by decide +kernel) (by decide +kernel)
theorem ML_X1_comesMark : ML yX1_comesMark cX1_comesMark 3 (some .boolean) 2 := ⟨wd_520, wd_9, wd_101, wd_521, ⟨by decide +kernel, by decide +kernel⟩, by decide +kernel⟩
theorem wd_493 : Cond.methodLink RX1 59 yX1_comesDone ∈ bigW := bw 493 (by decide +kernel) (by decide +kernel)
theorem wd_496 : Cond.code yX1_comesDone cX1_comesDone 2 (some .boolean) ∈ bigW := bw 496 (by decide +kernel) (by decide +kernel)
theorem wd_495 : Cond.instanceMethod yX1_comesDone ∈ bigW := bw 495 (by decide +kernel) (by decide +kernel)
theorem wd_7 : Cond.selects RX1 yX1_comesDone yX1_comesDone ∈ bigW := bw 7 (by decide +kernel) (by decide +kernel)
theorem ML_X1_comesDone : ML yX1_comesDone cX1_comesDone 2 (some .boolean) 1 := ⟨wd_495, wd_7, wd_101, wd_496, ⟨by decide +kernel, by decide +kernel⟩, by decide +kernel⟩
theorem wd_158 : Cond.fieldLink RX1 69 "SecondHelping$Board" "places" "I" ∈ bigW := bw 158 (by decide +kernel) (by decide +kernel)
theorem FL_X1_69 : FL RX1 69 0 5 := ⟨_, _, _, rfl, in_X0, by decide, wd_158⟩
theorem wd_440 : Cond.methodLink RX1 30 yX1_firstWithoutForm ∈ bigW := bw 440 (by decide +kernel) (by decide +kernel)
theorem wd_443 : Cond.code yX1_firstWithoutForm cX1_firstWithoutForm 4 (some .int) ∈ bigW := bw 443 (by decide +kernel) (by decide +kernel)
theorem wd_442 : Cond.instanceMethod yX1_firstWithoutForm ∈ bigW := bw 442 (by decide +kernel) (by decide +kernel)
theorem wd_2 : Cond.selects RX1 yX1_firstWithoutForm yX1_firstWithoutForm ∈ bigW := bw 2 (by decide +kernel) (by decide +kernel)
theorem ML_X1_firstWithoutForm : ML yX1_firstWithoutForm cX1_firstWithoutForm 4 (some .int) 0 := ⟨wd_442, wd_2, wd_101, wd_443, ⟨by decide +kernel, by decide +kernel⟩, by decide +kernel⟩
theorem wd_454 : Cond.methodLink RX1 34 yX0_become ∈ bigW := bw 454 (by decide +kernel) (by decide +kernel)
theorem wd_457 : Cond.code yX0_become cX0_become 2 none ∈ bigW := bw 457 (by decide +kernel) (by decide +kernel)
theorem wd_455 : Cond.instanceMethod yX0_become ∈ bigW := bw 455 (by decide +kernel) (by decide +kernel)
theorem wd_456 : Cond.selects RX0 yX0_become yX0_become ∈ bigW := bw 456 (by decide +kernel) (by decide +kernel)
theorem ML_X0_become : ML yX0_become cX0_become 2 none 1 := ⟨wd_455, wd_456, wd_99, wd_457, ⟨by decide +kernel, by decide +kernel⟩, by decide +kernel⟩
theorem wd_465 : Cond.methodLink RX1 38 yX1_comes ∈ bigW := bw 465 (by decide +kernel) (by decide +kernel)
theorem wd_468 : Cond.code yX1_comes cX1_comes 5 (some .boolean) ∈ bigW := bw 468 (by decide +kernel) (by decide +kernel)
theorem wd_467 : Cond.instanceMethod yX1_comes ∈ bigW := bw 467 (by decide +kernel) (by decide +kernel)
theorem wd_4 : Cond.selects RX1 yX1_comes yX1_comes ∈ bigW := bw 4 (by decide +kernel) (by decide +kernel)
theorem ML_X1_comes : ML yX1_comes cX1_comes 5 (some .boolean) 1 := ⟨wd_467, wd_4, wd_101, wd_468, ⟨by decide +kernel, by decide +kernel⟩, by decide +kernel⟩
theorem wd_436 : Cond.methodLink RX1 26 yX1_hear ∈ bigW := bw 436 (by decide +kernel) (by decide +kernel)
theorem wd_439 : Cond.code yX1_hear cX1_hear 5 (some .int) ∈ bigW := bw 439 (by decide +kernel) (by decide +kernel)
theorem wd_438 : Cond.instanceMethod yX1_hear ∈ bigW := bw 438 (by decide +kernel) (by decide +kernel)
theorem wd_1 : Cond.selects RX1 yX1_hear yX1_hear ∈ bigW := bw 1 (by decide +kernel) (by decide +kernel)
theorem ML_X1_hear : ML yX1_hear cX1_hear 5 (some .int) 1 := ⟨wd_438, wd_1, wd_101, wd_439, ⟨by decide +kernel, by decide +kernel⟩, by decide +kernel⟩
theorem wd_326 : Cond.fieldLink RX2 26 "SecondHelping$Likeness" "board" "LSecondHelping$Board;" ∈ bigW := bw 326 (by decide +kernel) (by decide +kernel)
theorem FL_X2_26 : FL RX2 26 2 0 := ⟨_, _, _, rfl, in_X2, by decide, wd_326⟩
theorem wd_144 : Cond.fieldLink RX2 34 "SecondHelping$Board" "doings" "I" ∈ bigW := bw 144 (by decide +kernel) (by decide +kernel)
theorem FL_X2_34 : FL RX2 34 0 4 := ⟨_, _, _, rfl, in_X0, by decide, wd_144⟩
theorem wd_327 : Cond.fieldLink RX2 30 "SecondHelping$Likeness" "reckoning" "LSecondHelping$Reckoning;" ∈ bigW := bw 327 (by decide +kernel) (by decide +kernel)
theorem FL_X2_30 : FL RX2 30 2 1 := ⟨_, _, _, rfl, in_X2, by decide, wd_327⟩
theorem wd_250 : Cond.fieldLink RX2 40 "SecondHelping$Reckoning" "alike" "[I" ∈ bigW := bw 250 (by decide +kernel) (by decide +kernel)
theorem FL_X2_40 : FL RX2 40 8 1 := ⟨_, _, _, rfl, in_X8, by decide, wd_250⟩
theorem wd_253 : Cond.fieldLink RX8 15 "SecondHelping$Reckoning" "repeats" "[I" ∈ bigW := bw 253 (by decide +kernel) (by decide +kernel)
theorem FL_X8_15 : FL RX8 15 8 2 := ⟨_, _, _, rfl, in_X8, by decide, wd_253⟩
theorem wd_580 : Cond.methodLink RX8 52 yJ7_fill_53178 ∈ bigW := bw 580 (by decide +kernel) (by decide +kernel)
theorem wd_113 : Cond.initialized RJ7 ∈ bigW := bw 113 (by decide +kernel) (by decide +kernel)
theorem wd_582 : Cond.code yJ7_fill_53178 cJ7_fill_53178 4 none ∈ bigW := bw 582 (by decide +kernel) (by decide +kernel)
theorem wd_581 : Cond.static yJ7_fill_53178 ∈ bigW := bw 581 (by decide +kernel) (by decide +kernel)
theorem MS_J7_fill_53178 : MS yJ7_fill_53178 cJ7_fill_53178 4 none 2 := ⟨wd_581, wd_113, wd_582, ⟨by decide +kernel, by decide +kernel⟩, by decide +kernel⟩
theorem wd_248 : Cond.fieldLink RX8 18 "SecondHelping$Reckoning" "board" "LSecondHelping$Board;" ∈ bigW := bw 248 (by decide +kernel) (by decide +kernel)
theorem FL_X8_18 : FL RX8 18 8 0 := ⟨_, _, _, rfl, in_X8, by decide, wd_248⟩
theorem wd_147 : Cond.fieldLink RX8 35 "SecondHelping$Board" "doings" "I" ∈ bigW := bw 147 (by decide +kernel) (by decide +kernel)
theorem FL_X8_35 : FL RX8 35 0 4 := ⟨_, _, _, rfl, in_X0, by decide, wd_147⟩
theorem wd_249 : Cond.fieldLink RX8 9 "SecondHelping$Reckoning" "alike" "[I" ∈ bigW := bw 249 (by decide +kernel) (by decide +kernel)
theorem FL_X8_9 : FL RX8 9 8 1 := ⟨_, _, _, rfl, in_X8, by decide, wd_249⟩
theorem wd_576 : Cond.methodLink RX8 42 yX8_forgetSteps ∈ bigW := bw 576 (by decide +kernel) (by decide +kernel)
theorem wd_103 : Cond.initialized RX8 ∈ bigW := bw 103 (by decide +kernel) (by decide +kernel)
theorem wd_579 : Cond.code yX8_forgetSteps cX8_forgetSteps 1 none ∈ bigW := bw 579 (by decide +kernel) (by decide +kernel)
theorem wd_577 : Cond.instanceMethod yX8_forgetSteps ∈ bigW := bw 577 (by decide +kernel) (by decide +kernel)
theorem wd_578 : Cond.selects RX8 yX8_forgetSteps yX8_forgetSteps ∈ bigW := bw 578 (by decide +kernel) (by decide +kernel)
theorem ML_X8_forgetSteps : ML yX8_forgetSteps cX8_forgetSteps 1 none 0 := ⟨wd_577, wd_578, wd_103, wd_579, ⟨by decide +kernel, by decide +kernel⟩, by decide +kernel⟩
theorem wd_566 : Cond.methodLink RX8 38 yX0_areAlike ∈ bigW := bw 566 (by decide +kernel) (by decide +kernel)
theorem wd_569 : Cond.code yX0_areAlike cX0_areAlike 5 (some .boolean) ∈ bigW := bw 569 (by decide +kernel) (by decide +kernel)
theorem wd_567 : Cond.instanceMethod yX0_areAlike ∈ bigW := bw 567 (by decide +kernel) (by decide +kernel)
theorem wd_568 : Cond.selects RX0 yX0_areAlike yX0_areAlike ∈ bigW := bw 568 (by decide +kernel) (by decide +kernel)
theorem ML_X0_areAlike : ML yX0_areAlike cX0_areAlike 5 (some .boolean) 4 := ⟨wd_567, wd_568, wd_99, wd_569, ⟨by decide +kernel, by decide +kernel⟩, by decide +kernel⟩
theorem wd_160 : Cond.fieldLink RX8 22 "SecondHelping$Board" "type" "I" ∈ bigW := bw 160 (by decide +kernel) (by decide +kernel)
theorem FL_X8_22 : FL RX8 22 0 6 := ⟨_, _, _, rfl, in_X0, by decide, wd_160⟩
theorem wd_164 : Cond.fieldLink RX8 28 "SecondHelping$Board" "t" "I" ∈ bigW := bw 164 (by decide +kernel) (by decide +kernel)
theorem FL_X8_28 : FL RX8 28 0 7 := ⟨_, _, _, rfl, in_X0, by decide, wd_164⟩
theorem wd_562 : Cond.methodLink RX8 31 yX8_openBy ∈ bigW := bw 562 (by decide +kernel) (by decide +kernel)
theorem wd_565 : Cond.code yX8_openBy cX8_openBy 5 none ∈ bigW := bw 565 (by decide +kernel) (by decide +kernel)
theorem wd_563 : Cond.instanceMethod yX8_openBy ∈ bigW := bw 563 (by decide +kernel) (by decide +kernel)
theorem wd_564 : Cond.selects RX8 yX8_openBy yX8_openBy ∈ bigW := bw 564 (by decide +kernel) (by decide +kernel)
theorem ML_X8_openBy : ML yX8_openBy cX8_openBy 5 none 2 := ⟨wd_563, wd_564, wd_103, wd_565, ⟨by decide +kernel, by decide +kernel⟩, by decide +kernel⟩
theorem wd_756 : Cond.methodLink RX2 45 yX8_open ∈ bigW := bw 756 (by decide +kernel) (by decide +kernel)
theorem wd_561 : Cond.code yX8_open cX8_open 1 none ∈ bigW := bw 561 (by decide +kernel) (by decide +kernel)
theorem wd_559 : Cond.instanceMethod yX8_open ∈ bigW := bw 559 (by decide +kernel) (by decide +kernel)
theorem wd_560 : Cond.selects RX8 yX8_open yX8_open ∈ bigW := bw 560 (by decide +kernel) (by decide +kernel)
theorem ML_X8_open : ML yX8_open cX8_open 1 none 0 := ⟨wd_559, wd_560, wd_103, wd_561, ⟨by decide +kernel, by decide +kernel⟩, by decide +kernel⟩
theorem wd_757 : Cond.methodLink RX2 48 yX2_sets ∈ bigW := bw 757 (by decide +kernel) (by decide +kernel)
theorem wd_107 : Cond.initialized RX2 ∈ bigW := bw 107 (by decide +kernel) (by decide +kernel)
theorem wd_760 : Cond.code yX2_sets cX2_sets 1 (some .int) ∈ bigW := bw 760 (by decide +kernel) (by decide +kernel)
theorem wd_759 : Cond.instanceMethod yX2_sets ∈ bigW := bw 759 (by decide +kernel) (by decide +kernel)
theorem wd_17 : Cond.selects RX2 yX2_sets yX2_sets ∈ bigW := bw 17 (by decide +kernel) (by decide +kernel)
theorem ML_X2_sets : ML yX2_sets cX2_sets 1 (some .int) 0 := ⟨wd_759, wd_17, wd_107, wd_760, ⟨by decide +kernel, by decide +kernel⟩, by decide +kernel⟩
theorem wd_761 : Cond.methodLink RX2 52 yJ6_bitCount_0f7a4 ∈ bigW := bw 761 (by decide +kernel) (by decide +kernel)
theorem wd_762 : Cond.methodLink RX2 58 yX2_areApart ∈ bigW := bw 762 (by decide +kernel) (by decide +kernel)
theorem wd_765 : Cond.code yX2_areApart cX2_areApart 3 (some .boolean) ∈ bigW := bw 765 (by decide +kernel) (by decide +kernel)
theorem wd_764 : Cond.instanceMethod yX2_areApart ∈ bigW := bw 764 (by decide +kernel) (by decide +kernel)
theorem wd_18 : Cond.selects RX2 yX2_areApart yX2_areApart ∈ bigW := bw 18 (by decide +kernel) (by decide +kernel)
theorem ML_X2_areApart : ML yX2_areApart cX2_areApart 3 (some .boolean) 1 := ⟨wd_764, wd_18, wd_107, wd_765, ⟨by decide +kernel, by decide +kernel⟩, by decide +kernel⟩
theorem wd_329 : Cond.fieldLink RX2 15 "SecondHelping$Likeness" "apart" "[Z" ∈ bigW := bw 329 (by decide +kernel) (by decide +kernel)
theorem FL_X2_15 : FL RX2 15 2 3 := ⟨_, _, _, rfl, in_X2, by decide, wd_329⟩
theorem wd_328 : Cond.fieldLink RX2 9 "SecondHelping$Likeness" "needed" "[I" ∈ bigW := bw 328 (by decide +kernel) (by decide +kernel)
theorem FL_X2_9 : FL RX2 9 2 2 := ⟨_, _, _, rfl, in_X2, by decide, wd_328⟩
theorem wd_778 : Cond.methodLink RX2 65 Lib.Math.min.name ∈ bigW := bw 778 (by decide +kernel) (by decide +kernel)
theorem wd_774 : Cond.methodLink RX2 62 yX2_fewestFor ∈ bigW := bw 774 (by decide +kernel) (by decide +kernel)
theorem wd_777 : Cond.code yX2_fewestFor cX2_fewestFor 4 (some .int) ∈ bigW := bw 777 (by decide +kernel) (by decide +kernel)
theorem wd_776 : Cond.instanceMethod yX2_fewestFor ∈ bigW := bw 776 (by decide +kernel) (by decide +kernel)
theorem wd_19 : Cond.selects RX2 yX2_fewestFor yX2_fewestFor ∈ bigW := bw 19 (by decide +kernel) (by decide +kernel)
theorem ML_X2_fewestFor : ML yX2_fewestFor cX2_fewestFor 4 (some .int) 1 := ⟨wd_776, wd_19, wd_107, wd_777, ⟨by decide +kernel, by decide +kernel⟩, by decide +kernel⟩
theorem wd_787 : Cond.methodLink RX2 71 yX2_tiesOf ∈ bigW := bw 787 (by decide +kernel) (by decide +kernel)
theorem wd_790 : Cond.code yX2_tiesOf cX2_tiesOf 2 (some .int) ∈ bigW := bw 790 (by decide +kernel) (by decide +kernel)
theorem wd_789 : Cond.instanceMethod yX2_tiesOf ∈ bigW := bw 789 (by decide +kernel) (by decide +kernel)
theorem wd_20 : Cond.selects RX2 yX2_tiesOf yX2_tiesOf ∈ bigW := bw 20 (by decide +kernel) (by decide +kernel)
theorem ML_X2_tiesOf : ML yX2_tiesOf cX2_tiesOf 2 (some .int) 1 := ⟨wd_789, wd_20, wd_107, wd_790, ⟨by decide +kernel, by decide +kernel⟩, by decide +kernel⟩
theorem wd_1026 : Cond.methodLink RX2 74 yX2_spread ∈ bigW := bw 1026 (by decide +kernel) (by decide +kernel)
theorem wd_1029 : Cond.code yX2_spread cX2_spread 4 (some .int) ∈ bigW := bw 1029 (by decide +kernel) (by decide +kernel)
theorem wd_1028 : Cond.instanceMethod yX2_spread ∈ bigW := bw 1028 (by decide +kernel) (by decide +kernel)
theorem wd_37 : Cond.selects RX2 yX2_spread yX2_spread ∈ bigW := bw 37 (by decide +kernel) (by decide +kernel)
theorem ML_X2_spread : ML yX2_spread cX2_spread 4 (some .int) 1 := ⟨wd_1028, wd_37, wd_107, wd_1029, ⟨by decide +kernel, by decide +kernel⟩, by decide +kernel⟩
theorem wd_1038 : Cond.methodLink RX2 77 yX2_heapOf ∈ bigW := bw 1038 (by decide +kernel) (by decide +kernel)
theorem wd_1041 : Cond.code yX2_heapOf cX2_heapOf 4 (some .int) ∈ bigW := bw 1041 (by decide +kernel) (by decide +kernel)
theorem wd_1040 : Cond.instanceMethod yX2_heapOf ∈ bigW := bw 1040 (by decide +kernel) (by decide +kernel)
theorem wd_38 : Cond.selects RX2 yX2_heapOf yX2_heapOf ∈ bigW := bw 38 (by decide +kernel) (by decide +kernel)
theorem ML_X2_heapOf : ML yX2_heapOf cX2_heapOf 4 (some .int) 1 := ⟨wd_1040, wd_38, wd_107, wd_1041, ⟨by decide +kernel, by decide +kernel⟩, by decide +kernel⟩
theorem wd_1042 : Cond.methodLink RX2 80 Lib.Math.max.name ∈ bigW := bw 1042 (by decide +kernel) (by decide +kernel)
theorem wd_331 : Cond.fieldLink RX2 23 "SecondHelping$Likeness" "longer" "[J" ∈ bigW := bw 331 (by decide +kernel) (by decide +kernel)
theorem FL_X2_23 : FL RX2 23 2 5 := ⟨_, _, _, rfl, in_X2, by decide, wd_331⟩
theorem wd_961 : Cond.methodLink RX2 83 yJ7_fill_d0a16 ∈ bigW := bw 961 (by decide +kernel) (by decide +kernel)
theorem wd_963 : Cond.code yJ7_fill_d0a16 cJ7_fill_d0a16 5 none ∈ bigW := bw 963 (by decide +kernel) (by decide +kernel)
theorem wd_962 : Cond.static yJ7_fill_d0a16 ∈ bigW := bw 962 (by decide +kernel) (by decide +kernel)
theorem MS_J7_fill_d0a16 : MS yJ7_fill_d0a16 cJ7_fill_d0a16 5 none 2 := ⟨wd_962, wd_113, wd_963, ⟨by decide +kernel, by decide +kernel⟩, by decide +kernel⟩
theorem wd_330 : Cond.fieldLink RX2 19 "SecondHelping$Likeness" "rows" "[J" ∈ bigW := bw 330 (by decide +kernel) (by decide +kernel)
theorem FL_X2_19 : FL RX2 19 2 4 := ⟨_, _, _, rfl, in_X2, by decide, wd_330⟩
theorem wd_972 : Cond.methodLink RX2 97 arraycopyName ∈ bigW := bw 972 (by decide +kernel) (by decide +kernel)
theorem wd_968 : Cond.methodLink RX2 93 yX2_mayFollow ∈ bigW := bw 968 (by decide +kernel) (by decide +kernel)
theorem wd_971 : Cond.code yX2_mayFollow cX2_mayFollow 3 (some .boolean) ∈ bigW := bw 971 (by decide +kernel) (by decide +kernel)
theorem wd_970 : Cond.instanceMethod yX2_mayFollow ∈ bigW := bw 970 (by decide +kernel) (by decide +kernel)
theorem wd_36 : Cond.selects RX2 yX2_mayFollow yX2_mayFollow ∈ bigW := bw 36 (by decide +kernel) (by decide +kernel)
theorem ML_X2_mayFollow : ML yX2_mayFollow cX2_mayFollow 3 (some .boolean) 2 := ⟨wd_970, wd_36, wd_107, wd_971, ⟨by decide +kernel, by decide +kernel⟩, by decide +kernel⟩
theorem wd_964 : Cond.methodLink RX2 89 yX2_lengthen ∈ bigW := bw 964 (by decide +kernel) (by decide +kernel)
theorem wd_967 : Cond.code yX2_lengthen cX2_lengthen 7 none ∈ bigW := bw 967 (by decide +kernel) (by decide +kernel)
theorem wd_966 : Cond.instanceMethod yX2_lengthen ∈ bigW := bw 966 (by decide +kernel) (by decide +kernel)
theorem wd_35 : Cond.selects RX2 yX2_lengthen yX2_lengthen ∈ bigW := bw 35 (by decide +kernel) (by decide +kernel)
theorem ML_X2_lengthen : ML yX2_lengthen cX2_lengthen 7 none 1 := ⟨wd_966, wd_35, wd_107, wd_967, ⟨by decide +kernel, by decide +kernel⟩, by decide +kernel⟩
theorem wd_591 : Cond.methodLink RX8 58 yX0_dueFor ∈ bigW := bw 591 (by decide +kernel) (by decide +kernel)
theorem wd_594 : Cond.code yX0_dueFor cX0_dueFor 4 (some .int) ∈ bigW := bw 594 (by decide +kernel) (by decide +kernel)
theorem wd_592 : Cond.instanceMethod yX0_dueFor ∈ bigW := bw 592 (by decide +kernel) (by decide +kernel)
theorem wd_593 : Cond.selects RX0 yX0_dueFor yX0_dueFor ∈ bigW := bw 593 (by decide +kernel) (by decide +kernel)
theorem ML_X0_dueFor : ML yX0_dueFor cX0_dueFor 4 (some .int) 2 := ⟨wd_592, wd_593, wd_99, wd_594, ⟨by decide +kernel, by decide +kernel⟩, by decide +kernel⟩
theorem wd_595 : Cond.methodLink RX8 62 yX8_shift ∈ bigW := bw 595 (by decide +kernel) (by decide +kernel)
theorem wd_598 : Cond.code yX8_shift cX8_shift 5 none ∈ bigW := bw 598 (by decide +kernel) (by decide +kernel)
theorem wd_596 : Cond.instanceMethod yX8_shift ∈ bigW := bw 596 (by decide +kernel) (by decide +kernel)
theorem wd_597 : Cond.selects RX8 yX8_shift yX8_shift ∈ bigW := bw 597 (by decide +kernel) (by decide +kernel)
theorem ML_X8_shift : ML yX8_shift cX8_shift 5 none 2 := ⟨wd_596, wd_597, wd_103, wd_598, ⟨by decide +kernel, by decide +kernel⟩, by decide +kernel⟩
theorem wd_270 : Cond.fieldLink RX3 25 "SecondHelping$LogBook" "reckoning" "LSecondHelping$Reckoning;" ∈ bigW := bw 270 (by decide +kernel) (by decide +kernel)
theorem FL_X3_25 : FL RX3 25 3 1 := ⟨_, _, _, rfl, in_X3, by decide, wd_270⟩
theorem wd_669 : Cond.methodLink RX3 29 yX8_open ∈ bigW := bw 669 (by decide +kernel) (by decide +kernel)
theorem wd_269 : Cond.fieldLink RX3 21 "SecondHelping$LogBook" "board" "LSecondHelping$Board;" ∈ bigW := bw 269 (by decide +kernel) (by decide +kernel)
theorem FL_X3_21 : FL RX3 21 3 0 := ⟨_, _, _, rfl, in_X3, by decide, wd_269⟩
theorem wd_153 : Cond.fieldLink RX3 34 "SecondHelping$Board" "places" "I" ∈ bigW := bw 153 (by decide +kernel) (by decide +kernel)
theorem FL_X3_34 : FL RX3 34 0 5 := ⟨_, _, _, rfl, in_X0, by decide, wd_153⟩
theorem wd_138 : Cond.fieldLink RX3 40 "SecondHelping$Board" "log" "[I" ∈ bigW := bw 138 (by decide +kernel) (by decide +kernel)
theorem FL_X3_40 : FL RX3 40 0 3 := ⟨_, _, _, rfl, in_X0, by decide, wd_138⟩
theorem wd_271 : Cond.fieldLink RX3 9 "SecondHelping$LogBook" "repeats" "[I" ∈ bigW := bw 271 (by decide +kernel) (by decide +kernel)
theorem FL_X3_9 : FL RX3 9 3 2 := ⟨_, _, _, rfl, in_X3, by decide, wd_271⟩
theorem wd_254 : Cond.fieldLink RX3 43 "SecondHelping$Reckoning" "repeats" "[I" ∈ bigW := bw 254 (by decide +kernel) (by decide +kernel)
theorem FL_X3_43 : FL RX3 43 8 2 := ⟨_, _, _, rfl, in_X8, by decide, wd_254⟩
theorem wd_272 : Cond.fieldLink RX3 15 "SecondHelping$LogBook" "dues" "[I" ∈ bigW := bw 272 (by decide +kernel) (by decide +kernel)
theorem FL_X3_15 : FL RX3 15 3 3 := ⟨_, _, _, rfl, in_X3, by decide, wd_272⟩
theorem wd_670 : Cond.methodLink RX3 44 yX8_step ∈ bigW := bw 670 (by decide +kernel) (by decide +kernel)
theorem wd_590 : Cond.code yX8_step cX8_step 3 (some .int) ∈ bigW := bw 590 (by decide +kernel) (by decide +kernel)
theorem wd_588 : Cond.instanceMethod yX8_step ∈ bigW := bw 588 (by decide +kernel) (by decide +kernel)
theorem wd_589 : Cond.selects RX8 yX8_step yX8_step ∈ bigW := bw 589 (by decide +kernel) (by decide +kernel)
theorem ML_X8_step : ML yX8_step cX8_step 3 (some .int) 1 := ⟨wd_588, wd_589, wd_103, wd_590, ⟨by decide +kernel, by decide +kernel⟩, by decide +kernel⟩
theorem wd_157 : Cond.fieldLink RX8 65 "SecondHelping$Board" "places" "I" ∈ bigW := bw 157 (by decide +kernel) (by decide +kernel)
theorem FL_X8_65 : FL RX8 65 0 5 := ⟨_, _, _, rfl, in_X0, by decide, wd_157⟩
theorem wd_141 : Cond.fieldLink RX8 68 "SecondHelping$Board" "log" "[I" ∈ bigW := bw 141 (by decide +kernel) (by decide +kernel)
theorem FL_X8_68 : FL RX8 68 0 3 := ⟨_, _, _, rfl, in_X0, by decide, wd_141⟩
theorem wd_587 : Cond.methodLink RX8 71 yX8_step ∈ bigW := bw 587 (by decide +kernel) (by decide +kernel)
theorem wd_583 : Cond.methodLink RX8 48 yX8_walkLog ∈ bigW := bw 583 (by decide +kernel) (by decide +kernel)
theorem wd_586 : Cond.code yX8_walkLog cX8_walkLog 3 (some .int) ∈ bigW := bw 586 (by decide +kernel) (by decide +kernel)
theorem wd_584 : Cond.instanceMethod yX8_walkLog ∈ bigW := bw 584 (by decide +kernel) (by decide +kernel)
theorem wd_585 : Cond.selects RX8 yX8_walkLog yX8_walkLog ∈ bigW := bw 585 (by decide +kernel) (by decide +kernel)
theorem ML_X8_walkLog : ML yX8_walkLog cX8_walkLog 3 (some .int) 0 := ⟨wd_584, wd_585, wd_103, wd_586, ⟨by decide +kernel, by decide +kernel⟩, by decide +kernel⟩
theorem wd_679 : Cond.methodLink RX3 48 yX8_total ∈ bigW := bw 679 (by decide +kernel) (by decide +kernel)
theorem wd_682 : Cond.code yX8_total cX8_total 1 (some .int) ∈ bigW := bw 682 (by decide +kernel) (by decide +kernel)
theorem wd_680 : Cond.instanceMethod yX8_total ∈ bigW := bw 680 (by decide +kernel) (by decide +kernel)
theorem wd_681 : Cond.selects RX8 yX8_total yX8_total ∈ bigW := bw 681 (by decide +kernel) (by decide +kernel)
theorem ML_X8_total : ML yX8_total cX8_total 1 (some .int) 0 := ⟨wd_680, wd_681, wd_103, wd_682, ⟨by decide +kernel, by decide +kernel⟩, by decide +kernel⟩
theorem wd_665 : Cond.methodLink RX3 52 yX3_reckonPlaces ∈ bigW := bw 665 (by decide +kernel) (by decide +kernel)
theorem wd_104 : Cond.initialized RX3 ∈ bigW := bw 104 (by decide +kernel) (by decide +kernel)
theorem wd_668 : Cond.code yX3_reckonPlaces cX3_reckonPlaces 3 none ∈ bigW := bw 668 (by decide +kernel) (by decide +kernel)
theorem wd_667 : Cond.instanceMethod yX3_reckonPlaces ∈ bigW := bw 667 (by decide +kernel) (by decide +kernel)
theorem wd_11 : Cond.selects RX3 yX3_reckonPlaces yX3_reckonPlaces ∈ bigW := bw 11 (by decide +kernel) (by decide +kernel)
theorem ML_X3_reckonPlaces : ML yX3_reckonPlaces cX3_reckonPlaces 3 none 0 := ⟨wd_667, wd_11, wd_104, wd_668, ⟨by decide +kernel, by decide +kernel⟩, by decide +kernel⟩
theorem wd_131 : Cond.fieldLink RX3 58 "SecondHelping$Board" "kinds" "[I" ∈ bigW := bw 131 (by decide +kernel) (by decide +kernel)
theorem FL_X3_58 : FL RX3 58 0 0 := ⟨_, _, _, rfl, in_X0, by decide, wd_131⟩
theorem wd_1148 : Cond.methodLink RX3 55 yX3_sumOfKind ∈ bigW := bw 1148 (by decide +kernel) (by decide +kernel)
theorem wd_1151 : Cond.code yX3_sumOfKind cX3_sumOfKind 4 (some .int) ∈ bigW := bw 1151 (by decide +kernel) (by decide +kernel)
theorem wd_1150 : Cond.instanceMethod yX3_sumOfKind ∈ bigW := bw 1150 (by decide +kernel) (by decide +kernel)
theorem wd_43 : Cond.selects RX3 yX3_sumOfKind yX3_sumOfKind ∈ bigW := bw 43 (by decide +kernel) (by decide +kernel)
theorem ML_X3_sumOfKind : ML yX3_sumOfKind cX3_sumOfKind 4 (some .int) 1 := ⟨wd_1150, wd_43, wd_104, wd_1151, ⟨by decide +kernel, by decide +kernel⟩, by decide +kernel⟩
theorem wd_903 : Cond.methodLink RX3 61 yX8_forgetSteps ∈ bigW := bw 903 (by decide +kernel) (by decide +kernel)
theorem wd_899 : Cond.methodLink RX3 64 yX3_sumWithout ∈ bigW := bw 899 (by decide +kernel) (by decide +kernel)
theorem wd_902 : Cond.code yX3_sumWithout cX3_sumWithout 4 (some .int) ∈ bigW := bw 902 (by decide +kernel) (by decide +kernel)
theorem wd_901 : Cond.instanceMethod yX3_sumWithout ∈ bigW := bw 901 (by decide +kernel) (by decide +kernel)
theorem wd_30 : Cond.selects RX3 yX3_sumWithout yX3_sumWithout ∈ bigW := bw 30 (by decide +kernel) (by decide +kernel)
theorem ML_X3_sumWithout : ML yX3_sumWithout cX3_sumWithout 4 (some .int) 1 := ⟨wd_901, wd_30, wd_104, wd_902, ⟨by decide +kernel, by decide +kernel⟩, by decide +kernel⟩
theorem wd_898 : Cond.constant RX3 67 (2147483647 : Int32) ∈ bigW := bw 898 (by decide +kernel) (by decide +kernel)
theorem wd_1180 : Cond.methodLink RX3 68 yX3_sumMoved ∈ bigW := bw 1180 (by decide +kernel) (by decide +kernel)
theorem wd_1183 : Cond.code yX3_sumMoved cX3_sumMoved 3 (some .int) ∈ bigW := bw 1183 (by decide +kernel) (by decide +kernel)
theorem wd_1182 : Cond.instanceMethod yX3_sumMoved ∈ bigW := bw 1182 (by decide +kernel) (by decide +kernel)
theorem wd_46 : Cond.selects RX3 yX3_sumMoved yX3_sumMoved ∈ bigW := bw 46 (by decide +kernel) (by decide +kernel)
theorem ML_X3_sumMoved : ML yX3_sumMoved cX3_sumMoved 3 (some .int) 1 := ⟨wd_1182, wd_46, wd_104, wd_1183, ⟨by decide +kernel, by decide +kernel⟩, by decide +kernel⟩
theorem wd_924 : Cond.methodLink RX3 71 yX3_sumExchanged ∈ bigW := bw 924 (by decide +kernel) (by decide +kernel)
theorem wd_927 : Cond.code yX3_sumExchanged cX3_sumExchanged 6 (some .int) ∈ bigW := bw 927 (by decide +kernel) (by decide +kernel)
theorem wd_926 : Cond.instanceMethod yX3_sumExchanged ∈ bigW := bw 926 (by decide +kernel) (by decide +kernel)
theorem wd_31 : Cond.selects RX3 yX3_sumExchanged yX3_sumExchanged ∈ bigW := bw 31 (by decide +kernel) (by decide +kernel)
theorem ML_X3_sumExchanged : ML yX3_sumExchanged cX3_sumExchanged 6 (some .int) 2 := ⟨wd_926, wd_31, wd_104, wd_927, ⟨by decide +kernel, by decide +kernel⟩, by decide +kernel⟩
theorem wd_151 : Cond.fieldLink RX3 75 "SecondHelping$Board" "doings" "I" ∈ bigW := bw 151 (by decide +kernel) (by decide +kernel)
theorem FL_X3_75 : FL RX3 75 0 4 := ⟨_, _, _, rfl, in_X0, by decide, wd_151⟩
theorem wd_1164 : Cond.methodLink RX3 78 yX3_isInLog ∈ bigW := bw 1164 (by decide +kernel) (by decide +kernel)
theorem wd_1167 : Cond.code yX3_isInLog cX3_isInLog 3 (some .boolean) ∈ bigW := bw 1167 (by decide +kernel) (by decide +kernel)
theorem wd_1166 : Cond.instanceMethod yX3_isInLog ∈ bigW := bw 1166 (by decide +kernel) (by decide +kernel)
theorem wd_44 : Cond.selects RX3 yX3_isInLog yX3_isInLog ∈ bigW := bw 44 (by decide +kernel) (by decide +kernel)
theorem ML_X3_isInLog : ML yX3_isInLog cX3_isInLog 3 (some .boolean) 1 := ⟨wd_1166, wd_44, wd_104, wd_1167, ⟨by decide +kernel, by decide +kernel⟩, by decide +kernel⟩
theorem wd_1168 : Cond.methodLink RX3 82 yX3_sumBanning ∈ bigW := bw 1168 (by decide +kernel) (by decide +kernel)
theorem wd_1171 : Cond.code yX3_sumBanning cX3_sumBanning 4 (some .int) ∈ bigW := bw 1171 (by decide +kernel) (by decide +kernel)
theorem wd_1170 : Cond.instanceMethod yX3_sumBanning ∈ bigW := bw 1170 (by decide +kernel) (by decide +kernel)
theorem wd_45 : Cond.selects RX3 yX3_sumBanning yX3_sumBanning ∈ bigW := bw 45 (by decide +kernel) (by decide +kernel)
theorem ML_X3_sumBanning : ML yX3_sumBanning cX3_sumBanning 4 (some .int) 1 := ⟨wd_1170, wd_45, wd_104, wd_1171, ⟨by decide +kernel, by decide +kernel⟩, by decide +kernel⟩
theorem wd_252 : Cond.fieldLink RX3 111 "SecondHelping$Reckoning" "alike" "[I" ∈ bigW := bw 252 (by decide +kernel) (by decide +kernel)
theorem FL_X3_111 : FL RX3 111 8 1 := ⟨_, _, _, rfl, in_X8, by decide, wd_252⟩
theorem wd_273 : Cond.fieldLink RX3 18 "SecondHelping$LogBook" "alikeAhead" "[I" ∈ bigW := bw 273 (by decide +kernel) (by decide +kernel)
theorem FL_X3_18 : FL RX3 18 3 4 := ⟨_, _, _, rfl, in_X3, by decide, wd_273⟩
theorem wd_878 : Cond.methodLink RX3 99 yX3_areAlikePlaces ∈ bigW := bw 878 (by decide +kernel) (by decide +kernel)
theorem wd_881 : Cond.code yX3_areAlikePlaces cX3_areAlikePlaces 3 (some .boolean) ∈ bigW := bw 881 (by decide +kernel) (by decide +kernel)
theorem wd_880 : Cond.instanceMethod yX3_areAlikePlaces ∈ bigW := bw 880 (by decide +kernel) (by decide +kernel)
theorem wd_28 : Cond.selects RX3 yX3_areAlikePlaces yX3_areAlikePlaces ∈ bigW := bw 28 (by decide +kernel) (by decide +kernel)
theorem ML_X3_areAlikePlaces : ML yX3_areAlikePlaces cX3_areAlikePlaces 3 (some .boolean) 2 := ⟨wd_880, wd_28, wd_104, wd_881, ⟨by decide +kernel, by decide +kernel⟩, by decide +kernel⟩
theorem wd_888 : Cond.methodLink RX3 103 yJ6_bitCount_0f7a4 ∈ bigW := bw 888 (by decide +kernel) (by decide +kernel)
theorem wd_889 : Cond.methodLink RX3 108 yX0_dueFor ∈ bigW := bw 889 (by decide +kernel) (by decide +kernel)
theorem wd_874 : Cond.methodLink RX3 85 yX3_readAhead ∈ bigW := bw 874 (by decide +kernel) (by decide +kernel)
theorem wd_877 : Cond.code yX3_readAhead cX3_readAhead 3 none ∈ bigW := bw 877 (by decide +kernel) (by decide +kernel)
theorem wd_876 : Cond.instanceMethod yX3_readAhead ∈ bigW := bw 876 (by decide +kernel) (by decide +kernel)
theorem wd_27 : Cond.selects RX3 yX3_readAhead yX3_readAhead ∈ bigW := bw 27 (by decide +kernel) (by decide +kernel)
theorem ML_X3_readAhead : ML yX3_readAhead cX3_readAhead 3 none 0 := ⟨wd_876, wd_27, wd_104, wd_877, ⟨by decide +kernel, by decide +kernel⟩, by decide +kernel⟩
theorem wd_882 : Cond.methodLink RX3 88 yX8_walkLog ∈ bigW := bw 882 (by decide +kernel) (by decide +kernel)
theorem wd_883 : Cond.methodLink RX3 91 Lib.Math.max.name ∈ bigW := bw 883 (by decide +kernel) (by decide +kernel)
theorem wd_884 : Cond.methodLink RX3 96 yX3_sumSplit ∈ bigW := bw 884 (by decide +kernel) (by decide +kernel)
theorem wd_887 : Cond.code yX3_sumSplit cX3_sumSplit 6 (some .int) ∈ bigW := bw 887 (by decide +kernel) (by decide +kernel)
theorem wd_886 : Cond.instanceMethod yX3_sumSplit ∈ bigW := bw 886 (by decide +kernel) (by decide +kernel)
theorem wd_29 : Cond.selects RX3 yX3_sumSplit yX3_sumSplit ∈ bigW := bw 29 (by decide +kernel) (by decide +kernel)
theorem ML_X3_sumSplit : ML yX3_sumSplit cX3_sumSplit 6 (some .int) 2 := ⟨wd_886, wd_29, wd_104, wd_887, ⟨by decide +kernel, by decide +kernel⟩, by decide +kernel⟩
theorem wd_1051 : Cond.methodLink RX3 114 yX3_pureFrom ∈ bigW := bw 1051 (by decide +kernel) (by decide +kernel)
theorem wd_1054 : Cond.code yX3_pureFrom cX3_pureFrom 4 (some .int) ∈ bigW := bw 1054 (by decide +kernel) (by decide +kernel)
theorem wd_1053 : Cond.instanceMethod yX3_pureFrom ∈ bigW := bw 1053 (by decide +kernel) (by decide +kernel)
theorem wd_39 : Cond.selects RX3 yX3_pureFrom yX3_pureFrom ∈ bigW := bw 39 (by decide +kernel) (by decide +kernel)
theorem ML_X3_pureFrom : ML yX3_pureFrom cX3_pureFrom 4 (some .int) 1 := ⟨wd_1053, wd_39, wd_104, wd_1054, ⟨by decide +kernel, by decide +kernel⟩, by decide +kernel⟩
theorem wd_998 : Cond.methodLink RX4 47 Lib.MathLoose.max_long.x ∈ bigW := bw 998 (by decide +kernel) (by decide +kernel)
theorem wd_558 : Cond.methodLink RX8 45 yX8_open ∈ bigW := bw 558 (by decide +kernel) (by decide +kernel)
theorem wd_367 : Cond.fieldLink RX4 13 "SecondHelping$Luck" "reckoning" "LSecondHelping$Reckoning;" ∈ bigW := bw 367 (by decide +kernel) (by decide +kernel)
theorem FL_X4_13 : FL RX4 13 4 1 := ⟨_, _, _, rfl, in_X4, by decide, wd_367⟩
theorem wd_1009 : Cond.methodLink RX4 44 yX8_openBehindLog ∈ bigW := bw 1009 (by decide +kernel) (by decide +kernel)
theorem wd_557 : Cond.code yX8_openBehindLog cX8_openBehindLog 1 none ∈ bigW := bw 557 (by decide +kernel) (by decide +kernel)
theorem wd_555 : Cond.instanceMethod yX8_openBehindLog ∈ bigW := bw 555 (by decide +kernel) (by decide +kernel)
theorem wd_556 : Cond.selects RX8 yX8_openBehindLog yX8_openBehindLog ∈ bigW := bw 556 (by decide +kernel) (by decide +kernel)
theorem ML_X8_openBehindLog : ML yX8_openBehindLog cX8_openBehindLog 1 none 0 := ⟨wd_555, wd_556, wd_103, wd_557, ⟨by decide +kernel, by decide +kernel⟩, by decide +kernel⟩
theorem wd_366 : Cond.fieldLink RX4 7 "SecondHelping$Luck" "board" "LSecondHelping$Board;" ∈ bigW := bw 366 (by decide +kernel) (by decide +kernel)
theorem FL_X4_7 : FL RX4 7 4 0 := ⟨_, _, _, rfl, in_X4, by decide, wd_366⟩
theorem wd_146 : Cond.fieldLink RX4 22 "SecondHelping$Board" "doings" "I" ∈ bigW := bw 146 (by decide +kernel) (by decide +kernel)
theorem FL_X4_22 : FL RX4 22 0 4 := ⟨_, _, _, rfl, in_X0, by decide, wd_146⟩
theorem wd_993 : Cond.methodLink RX4 36 yX8_dueNow ∈ bigW := bw 993 (by decide +kernel) (by decide +kernel)
theorem wd_602 : Cond.code yX8_dueNow cX8_dueNow 2 (some .int) ∈ bigW := bw 602 (by decide +kernel) (by decide +kernel)
theorem wd_600 : Cond.instanceMethod yX8_dueNow ∈ bigW := bw 600 (by decide +kernel) (by decide +kernel)
theorem wd_601 : Cond.selects RX8 yX8_dueNow yX8_dueNow ∈ bigW := bw 601 (by decide +kernel) (by decide +kernel)
theorem ML_X8_dueNow : ML yX8_dueNow cX8_dueNow 2 (some .int) 1 := ⟨wd_600, wd_601, wd_103, wd_602, ⟨by decide +kernel, by decide +kernel⟩, by decide +kernel⟩
theorem wd_995 : Cond.methodLink RX4 32 yX4_lowest ∈ bigW := bw 995 (by decide +kernel) (by decide +kernel)
theorem wd_109 : Cond.initialized RX4 ∈ bigW := bw 109 (by decide +kernel) (by decide +kernel)
theorem wd_997 : Cond.code yX4_lowest cX4_lowest 12 (some .long) ∈ bigW := bw 997 (by decide +kernel) (by decide +kernel)
theorem wd_996 : Cond.static yX4_lowest ∈ bigW := bw 996 (by decide +kernel) (by decide +kernel)
theorem MS_X4_lowest : MS yX4_lowest cX4_lowest 12 (some .long) 3 := ⟨wd_996, wd_109, wd_997, ⟨by decide +kernel, by decide +kernel⟩, by decide +kernel⟩
theorem wd_989 : Cond.methodLink RX4 17 yX8_open ∈ bigW := bw 989 (by decide +kernel) (by decide +kernel)
theorem wd_1237 : Cond.methodLink RX4 53 yX8_forgetSteps ∈ bigW := bw 1237 (by decide +kernel) (by decide +kernel)
theorem wd_1238 : Cond.constant RX4 56 (1103515245 : Int32) ∈ bigW := bw 1238 (by decide +kernel) (by decide +kernel)
theorem wd_1239 : Cond.constant RX4 57 (2147483647 : Int32) ∈ bigW := bw 1239 (by decide +kernel) (by decide +kernel)
theorem wd_1240 : Cond.constant RX4 58 (65536 : Int32) ∈ bigW := bw 1240 (by decide +kernel) (by decide +kernel)
theorem wd_1241 : Cond.methodLink RX4 59 yX8_step ∈ bigW := bw 1241 (by decide +kernel) (by decide +kernel)
theorem wd_353 : Cond.fieldLink RX5 9 "SecondHelping$Marking" "board" "LSecondHelping$Board;" ∈ bigW := bw 353 (by decide +kernel) (by decide +kernel)
theorem FL_X5_9 : FL RX5 9 5 0 := ⟨_, _, _, rfl, in_X5, by decide, wd_353⟩
theorem wd_145 : Cond.fieldLink RX5 19 "SecondHelping$Board" "doings" "I" ∈ bigW := bw 145 (by decide +kernel) (by decide +kernel)
theorem FL_X5_19 : FL RX5 19 0 4 := ⟨_, _, _, rfl, in_X0, by decide, wd_145⟩
theorem wd_135 : Cond.fieldLink RX5 25 "SecondHelping$Board" "marks" "[I" ∈ bigW := bw 135 (by decide +kernel) (by decide +kernel)
theorem FL_X5_25 : FL RX5 25 0 2 := ⟨_, _, _, rfl, in_X0, by decide, wd_135⟩
theorem wd_947 : Cond.methodLink RX5 29 yJ6_bitCount_0f7a4 ∈ bigW := bw 947 (by decide +kernel) (by decide +kernel)
theorem wd_865 : Cond.methodLink RX5 45 yX0_flipMark ∈ bigW := bw 865 (by decide +kernel) (by decide +kernel)
theorem wd_354 : Cond.fieldLink RX5 15 "SecondHelping$Marking" "reckoning" "LSecondHelping$Reckoning;" ∈ bigW := bw 354 (by decide +kernel) (by decide +kernel)
theorem FL_X5_15 : FL RX5 15 5 1 := ⟨_, _, _, rfl, in_X5, by decide, wd_354⟩
theorem wd_860 : Cond.methodLink RX5 35 yX8_total ∈ bigW := bw 860 (by decide +kernel) (by decide +kernel)
theorem wd_861 : Cond.methodLink RX5 41 yX5_totalFlipped ∈ bigW := bw 861 (by decide +kernel) (by decide +kernel)
theorem wd_108 : Cond.initialized RX5 ∈ bigW := bw 108 (by decide +kernel) (by decide +kernel)
theorem wd_864 : Cond.code yX5_totalFlipped cX5_totalFlipped 4 (some .int) ∈ bigW := bw 864 (by decide +kernel) (by decide +kernel)
theorem wd_863 : Cond.instanceMethod yX5_totalFlipped ∈ bigW := bw 863 (by decide +kernel) (by decide +kernel)
theorem wd_26 : Cond.selects RX5 yX5_totalFlipped yX5_totalFlipped ∈ bigW := bw 26 (by decide +kernel) (by decide +kernel)
theorem ML_X5_totalFlipped : ML yX5_totalFlipped cX5_totalFlipped 4 (some .int) 2 := ⟨wd_863, wd_26, wd_108, wd_864, ⟨by decide +kernel, by decide +kernel⟩, by decide +kernel⟩
theorem wd_946 : Cond.methodLink RX5 59 yX8_dueNow ∈ bigW := bw 946 (by decide +kernel) (by decide +kernel)
theorem wd_936 : Cond.methodLink RX5 49 yX8_openBehindLog ∈ bigW := bw 936 (by decide +kernel) (by decide +kernel)
theorem wd_937 : Cond.constant RX5 52 (2147483647 : Int32) ∈ bigW := bw 937 (by decide +kernel) (by decide +kernel)
theorem wd_938 : Cond.methodLink RX5 53 yX5_marksOf ∈ bigW := bw 938 (by decide +kernel) (by decide +kernel)
theorem wd_941 : Cond.code yX5_marksOf cX5_marksOf 4 (some .int) ∈ bigW := bw 941 (by decide +kernel) (by decide +kernel)
theorem wd_940 : Cond.instanceMethod yX5_marksOf ∈ bigW := bw 940 (by decide +kernel) (by decide +kernel)
theorem wd_32 : Cond.selects RX5 yX5_marksOf yX5_marksOf ∈ bigW := bw 32 (by decide +kernel) (by decide +kernel)
theorem ML_X5_marksOf : ML yX5_marksOf cX5_marksOf 4 (some .int) 1 := ⟨wd_940, wd_32, wd_108, wd_941, ⟨by decide +kernel, by decide +kernel⟩, by decide +kernel⟩
theorem wd_942 : Cond.methodLink RX5 56 yX5_nextOf ∈ bigW := bw 942 (by decide +kernel) (by decide +kernel)
theorem wd_945 : Cond.code yX5_nextOf cX5_nextOf 4 (some .int) ∈ bigW := bw 945 (by decide +kernel) (by decide +kernel)
theorem wd_944 : Cond.instanceMethod yX5_nextOf ∈ bigW := bw 944 (by decide +kernel) (by decide +kernel)
theorem wd_33 : Cond.selects RX5 yX5_nextOf yX5_nextOf ∈ bigW := bw 33 (by decide +kernel) (by decide +kernel)
theorem ML_X5_nextOf : ML yX5_nextOf cX5_nextOf 4 (some .int) 1 := ⟨wd_944, wd_33, wd_108, wd_945, ⟨by decide +kernel, by decide +kernel⟩, by decide +kernel⟩
theorem wd_1119 : Cond.methodLink RX5 62 yX5_distance ∈ bigW := bw 1119 (by decide +kernel) (by decide +kernel)
theorem wd_1122 : Cond.code yX5_distance cX5_distance 3 (some .int) ∈ bigW := bw 1122 (by decide +kernel) (by decide +kernel)
theorem wd_1121 : Cond.instanceMethod yX5_distance ∈ bigW := bw 1121 (by decide +kernel) (by decide +kernel)
theorem wd_41 : Cond.selects RX5 yX5_distance yX5_distance ∈ bigW := bw 41 (by decide +kernel) (by decide +kernel)
theorem ML_X5_distance : ML yX5_distance cX5_distance 3 (some .int) 2 := ⟨wd_1121, wd_41, wd_108, wd_1122, ⟨by decide +kernel, by decide +kernel⟩, by decide +kernel⟩
theorem wd_1123 : Cond.methodLink RX5 65 Lib.Math.max.name ∈ bigW := bw 1123 (by decide +kernel) (by decide +kernel)
theorem wd_1128 : Cond.methodLink RX5 70 yX5_distancesFrom ∈ bigW := bw 1128 (by decide +kernel) (by decide +kernel)
theorem wd_1131 : Cond.code yX5_distancesFrom cX5_distancesFrom 4 (some .int) ∈ bigW := bw 1131 (by decide +kernel) (by decide +kernel)
theorem wd_1130 : Cond.instanceMethod yX5_distancesFrom ∈ bigW := bw 1130 (by decide +kernel) (by decide +kernel)
theorem wd_42 : Cond.selects RX5 yX5_distancesFrom yX5_distancesFrom ∈ bigW := bw 42 (by decide +kernel) (by decide +kernel)
theorem ML_X5_distancesFrom : ML yX5_distancesFrom cX5_distancesFrom 4 (some .int) 1 := ⟨wd_1130, wd_42, wd_108, wd_1131, ⟨by decide +kernel, by decide +kernel⟩, by decide +kernel⟩
theorem wd_1196 : Cond.methodLink RX5 73 yX5_isNewSet ∈ bigW := bw 1196 (by decide +kernel) (by decide +kernel)
theorem wd_1199 : Cond.code yX5_isNewSet cX5_isNewSet 3 (some .boolean) ∈ bigW := bw 1199 (by decide +kernel) (by decide +kernel)
theorem wd_1198 : Cond.instanceMethod yX5_isNewSet ∈ bigW := bw 1198 (by decide +kernel) (by decide +kernel)
theorem wd_47 : Cond.selects RX5 yX5_isNewSet yX5_isNewSet ∈ bigW := bw 47 (by decide +kernel) (by decide +kernel)
theorem ML_X5_isNewSet : ML yX5_isNewSet cX5_isNewSet 3 (some .boolean) 1 := ⟨wd_1198, wd_47, wd_108, wd_1199, ⟨by decide +kernel, by decide +kernel⟩, by decide +kernel⟩
theorem wd_311 : Cond.fieldLink RX6 19 "SecondHelping$Plans" "reckoning" "LSecondHelping$Reckoning;" ∈ bigW := bw 311 (by decide +kernel) (by decide +kernel)
theorem FL_X6_19 : FL RX6 19 6 1 := ⟨_, _, _, rfl, in_X6, by decide, wd_311⟩
theorem wd_251 : Cond.fieldLink RX6 54 "SecondHelping$Reckoning" "alike" "[I" ∈ bigW := bw 251 (by decide +kernel) (by decide +kernel)
theorem FL_X6_54 : FL RX6 54 8 1 := ⟨_, _, _, rfl, in_X8, by decide, wd_251⟩
theorem wd_735 : Cond.methodLink RX6 57 yJ6_bitCount_0f7a4 ∈ bigW := bw 735 (by decide +kernel) (by decide +kernel)
theorem wd_310 : Cond.fieldLink RX6 15 "SecondHelping$Plans" "board" "LSecondHelping$Board;" ∈ bigW := bw 310 (by decide +kernel) (by decide +kernel)
theorem FL_X6_15 : FL RX6 15 6 0 := ⟨_, _, _, rfl, in_X6, by decide, wd_310⟩
theorem wd_255 : Cond.fieldLink RX6 63 "SecondHelping$Reckoning" "repeats" "[I" ∈ bigW := bw 255 (by decide +kernel) (by decide +kernel)
theorem FL_X6_63 : FL RX6 63 8 2 := ⟨_, _, _, rfl, in_X8, by decide, wd_255⟩
theorem wd_736 : Cond.methodLink RX6 66 yX0_dueFor ∈ bigW := bw 736 (by decide +kernel) (by decide +kernel)
theorem wd_730 : Cond.constant RX6 39 (2147483647 : Int32) ∈ bigW := bw 730 (by decide +kernel) (by decide +kernel)
theorem wd_148 : Cond.fieldLink RX6 40 "SecondHelping$Board" "doings" "I" ∈ bigW := bw 148 (by decide +kernel) (by decide +kernel)
theorem FL_X6_40 : FL RX6 40 0 4 := ⟨_, _, _, rfl, in_X0, by decide, wd_148⟩
theorem wd_731 : Cond.methodLink RX6 46 yX6_dueBehind ∈ bigW := bw 731 (by decide +kernel) (by decide +kernel)
theorem wd_106 : Cond.initialized RX6 ∈ bigW := bw 106 (by decide +kernel) (by decide +kernel)
theorem wd_734 : Cond.code yX6_dueBehind cX6_dueBehind 4 (some .int) ∈ bigW := bw 734 (by decide +kernel) (by decide +kernel)
theorem wd_733 : Cond.instanceMethod yX6_dueBehind ∈ bigW := bw 733 (by decide +kernel) (by decide +kernel)
theorem wd_14 : Cond.selects RX6 yX6_dueBehind yX6_dueBehind ∈ bigW := bw 14 (by decide +kernel) (by decide +kernel)
theorem ML_X6_dueBehind : ML yX6_dueBehind cX6_dueBehind 4 (some .int) 2 := ⟨wd_733, wd_14, wd_106, wd_734, ⟨by decide +kernel, by decide +kernel⟩, by decide +kernel⟩
theorem wd_312 : Cond.fieldLink RX6 9 "SecondHelping$Plans" "rest" "[I" ∈ bigW := bw 312 (by decide +kernel) (by decide +kernel)
theorem FL_X6_9 : FL RX6 9 6 2 := ⟨_, _, _, rfl, in_X6, by decide, wd_312⟩
theorem wd_737 : Cond.methodLink RX6 49 Lib.Math.min.name ∈ bigW := bw 737 (by decide +kernel) (by decide +kernel)
theorem wd_726 : Cond.methodLink RX6 36 yX6_leastRest ∈ bigW := bw 726 (by decide +kernel) (by decide +kernel)
theorem wd_729 : Cond.code yX6_leastRest cX6_leastRest 5 (some .int) ∈ bigW := bw 729 (by decide +kernel) (by decide +kernel)
theorem wd_728 : Cond.instanceMethod yX6_leastRest ∈ bigW := bw 728 (by decide +kernel) (by decide +kernel)
theorem wd_13 : Cond.selects RX6 yX6_leastRest yX6_leastRest ∈ bigW := bw 13 (by decide +kernel) (by decide +kernel)
theorem ML_X6_leastRest : ML yX6_leastRest cX6_leastRest 5 (some .int) 2 := ⟨wd_728, wd_13, wd_106, wd_729, ⟨by decide +kernel, by decide +kernel⟩, by decide +kernel⟩
theorem wd_744 : Cond.methodLink RX6 69 yX6_firstOnBestWay ∈ bigW := bw 744 (by decide +kernel) (by decide +kernel)
theorem wd_747 : Cond.code yX6_firstOnBestWay cX6_firstOnBestWay 4 (some .int) ∈ bigW := bw 747 (by decide +kernel) (by decide +kernel)
theorem wd_746 : Cond.instanceMethod yX6_firstOnBestWay ∈ bigW := bw 746 (by decide +kernel) (by decide +kernel)
theorem wd_16 : Cond.selects RX6 yX6_firstOnBestWay yX6_firstOnBestWay ∈ bigW := bw 16 (by decide +kernel) (by decide +kernel)
theorem ML_X6_firstOnBestWay : ML yX6_firstOnBestWay cX6_firstOnBestWay 4 (some .int) 2 := ⟨wd_746, wd_16, wd_106, wd_747, ⟨by decide +kernel, by decide +kernel⟩, by decide +kernel⟩
theorem wd_721 : Cond.methodLink RX6 23 yX8_openBehindLog ∈ bigW := bw 721 (by decide +kernel) (by decide +kernel)
theorem wd_722 : Cond.methodLink RX6 28 yX6_reckonRests ∈ bigW := bw 722 (by decide +kernel) (by decide +kernel)
theorem wd_725 : Cond.code yX6_reckonRests cX6_reckonRests 3 none ∈ bigW := bw 725 (by decide +kernel) (by decide +kernel)
theorem wd_724 : Cond.instanceMethod yX6_reckonRests ∈ bigW := bw 724 (by decide +kernel) (by decide +kernel)
theorem wd_12 : Cond.selects RX6 yX6_reckonRests yX6_reckonRests ∈ bigW := bw 12 (by decide +kernel) (by decide +kernel)
theorem ML_X6_reckonRests : ML yX6_reckonRests cX6_reckonRests 3 none 1 := ⟨wd_724, wd_12, wd_106, wd_725, ⟨by decide +kernel, by decide +kernel⟩, by decide +kernel⟩
theorem wd_740 : Cond.methodLink RX6 32 yX6_ithDone ∈ bigW := bw 740 (by decide +kernel) (by decide +kernel)
theorem wd_743 : Cond.code yX6_ithDone cX6_ithDone 6 (some .int) ∈ bigW := bw 743 (by decide +kernel) (by decide +kernel)
theorem wd_742 : Cond.instanceMethod yX6_ithDone ∈ bigW := bw 742 (by decide +kernel) (by decide +kernel)
theorem wd_15 : Cond.selects RX6 yX6_ithDone yX6_ithDone ∈ bigW := bw 15 (by decide +kernel) (by decide +kernel)
theorem ML_X6_ithDone : ML yX6_ithDone cX6_ithDone 6 (some .int) 2 := ⟨wd_742, wd_15, wd_106, wd_743, ⟨by decide +kernel, by decide +kernel⟩, by decide +kernel⟩
theorem wd_1071 : Cond.methodLink RX6 72 yX8_step ∈ bigW := bw 1071 (by decide +kernel) (by decide +kernel)
theorem wd_699 : Cond.constant RX8 81 (2147483647 : Int32) ∈ bigW := bw 699 (by decide +kernel) (by decide +kernel)
theorem wd_599 : Cond.methodLink RX8 78 yX8_dueNow ∈ bigW := bw 599 (by decide +kernel) (by decide +kernel)
theorem wd_1088 : Cond.methodLink RX6 75 yX8_cheapestNext ∈ bigW := bw 1088 (by decide +kernel) (by decide +kernel)
theorem wd_698 : Cond.code yX8_cheapestNext cX8_cheapestNext 5 (some .int) ∈ bigW := bw 698 (by decide +kernel) (by decide +kernel)
theorem wd_696 : Cond.instanceMethod yX8_cheapestNext ∈ bigW := bw 696 (by decide +kernel) (by decide +kernel)
theorem wd_697 : Cond.selects RX8 yX8_cheapestNext yX8_cheapestNext ∈ bigW := bw 697 (by decide +kernel) (by decide +kernel)
theorem ML_X8_cheapestNext : ML yX8_cheapestNext cX8_cheapestNext 5 (some .int) 0 := ⟨wd_696, wd_697, wd_103, wd_698, ⟨by decide +kernel, by decide +kernel⟩, by decide +kernel⟩
theorem wd_1102 : Cond.methodLink RX6 86 yX8_forgetSteps ∈ bigW := bw 1102 (by decide +kernel) (by decide +kernel)
theorem wd_1097 : Cond.methodLink RX6 79 yX8_open ∈ bigW := bw 1097 (by decide +kernel) (by decide +kernel)
theorem wd_1098 : Cond.methodLink RX6 82 yX6_totalByTurns ∈ bigW := bw 1098 (by decide +kernel) (by decide +kernel)
theorem wd_1101 : Cond.code yX6_totalByTurns cX6_totalByTurns 6 (some .int) ∈ bigW := bw 1101 (by decide +kernel) (by decide +kernel)
theorem wd_1100 : Cond.instanceMethod yX6_totalByTurns ∈ bigW := bw 1100 (by decide +kernel) (by decide +kernel)
theorem wd_40 : Cond.selects RX6 yX6_totalByTurns yX6_totalByTurns ∈ bigW := bw 40 (by decide +kernel) (by decide +kernel)
theorem ML_X6_totalByTurns : ML yX6_totalByTurns cX6_totalByTurns 6 (some .int) 3 := ⟨wd_1100, wd_40, wd_106, wd_1101, ⟨by decide +kernel, by decide +kernel⟩, by decide +kernel⟩
theorem wd_803 : Cond.constant RX7 27 (2147483647 : Int32) ∈ bigW := bw 803 (by decide +kernel) (by decide +kernel)
theorem wd_292 : Cond.fieldLink RX7 19 "SecondHelping$Readings" "reckoning" "LSecondHelping$Reckoning;" ∈ bigW := bw 292 (by decide +kernel) (by decide +kernel)
theorem FL_X7_19 : FL RX7 19 7 1 := ⟨_, _, _, rfl, in_X7, by decide, wd_292⟩
theorem wd_804 : Cond.methodLink RX7 28 yX8_totalBy ∈ bigW := bw 804 (by decide +kernel) (by decide +kernel)
theorem wd_807 : Cond.code yX8_totalBy cX8_totalBy 3 (some .int) ∈ bigW := bw 807 (by decide +kernel) (by decide +kernel)
theorem wd_805 : Cond.instanceMethod yX8_totalBy ∈ bigW := bw 805 (by decide +kernel) (by decide +kernel)
theorem wd_806 : Cond.selects RX8 yX8_totalBy yX8_totalBy ∈ bigW := bw 806 (by decide +kernel) (by decide +kernel)
theorem ML_X8_totalBy : ML yX8_totalBy cX8_totalBy 3 (some .int) 2 := ⟨wd_805, wd_806, wd_103, wd_807, ⟨by decide +kernel, by decide +kernel⟩, by decide +kernel⟩
theorem wd_291 : Cond.fieldLink RX7 15 "SecondHelping$Readings" "board" "LSecondHelping$Board;" ∈ bigW := bw 291 (by decide +kernel) (by decide +kernel)
theorem FL_X7_15 : FL RX7 15 7 0 := ⟨_, _, _, rfl, in_X7, by decide, wd_291⟩
theorem wd_161 : Cond.fieldLink RX7 34 "SecondHelping$Board" "type" "I" ∈ bigW := bw 161 (by decide +kernel) (by decide +kernel)
theorem FL_X7_34 : FL RX7 34 0 6 := ⟨_, _, _, rfl, in_X0, by decide, wd_161⟩
theorem wd_820 : Cond.methodLink RX7 40 yX8_openBy ∈ bigW := bw 820 (by decide +kernel) (by decide +kernel)
theorem wd_293 : Cond.fieldLink RX7 23 "SecondHelping$Readings" "row" "LSecondHelping$Row;" ∈ bigW := bw 293 (by decide +kernel) (by decide +kernel)
theorem FL_X7_23 : FL RX7 23 7 2 := ⟨_, _, _, rfl, in_X7, by decide, wd_293⟩
theorem wd_235 : Cond.fieldLink RX7 44 "SecondHelping$Row" "count" "I" ∈ bigW := bw 235 (by decide +kernel) (by decide +kernel)
theorem FL_X7_44 : FL RX7 44 9 1 := ⟨_, _, _, rfl, in_X9, by decide, wd_235⟩
theorem wd_154 : Cond.fieldLink RX7 49 "SecondHelping$Board" "places" "I" ∈ bigW := bw 154 (by decide +kernel) (by decide +kernel)
theorem FL_X7_49 : FL RX7 49 0 5 := ⟨_, _, _, rfl, in_X0, by decide, wd_154⟩
theorem wd_140 : Cond.fieldLink RX7 52 "SecondHelping$Board" "log" "[I" ∈ bigW := bw 140 (by decide +kernel) (by decide +kernel)
theorem FL_X7_52 : FL RX7 52 0 3 := ⟨_, _, _, rfl, in_X0, by decide, wd_140⟩
theorem wd_821 : Cond.methodLink RX7 55 yX8_step ∈ bigW := bw 821 (by decide +kernel) (by decide +kernel)
theorem wd_822 : Cond.methodLink RX7 59 Lib.Math.min.name ∈ bigW := bw 822 (by decide +kernel) (by decide +kernel)
theorem wd_233 : Cond.fieldLink RX7 64 "SecondHelping$Row" "numbers" "[I" ∈ bigW := bw 233 (by decide +kernel) (by decide +kernel)
theorem FL_X7_64 : FL RX7 64 9 0 := ⟨_, _, _, rfl, in_X9, by decide, wd_233⟩
theorem wd_816 : Cond.methodLink RX7 67 yX7_isAsTold ∈ bigW := bw 816 (by decide +kernel) (by decide +kernel)
theorem wd_105 : Cond.initialized RX7 ∈ bigW := bw 105 (by decide +kernel) (by decide +kernel)
theorem wd_819 : Cond.code yX7_isAsTold cX7_isAsTold 4 (some .boolean) ∈ bigW := bw 819 (by decide +kernel) (by decide +kernel)
theorem wd_818 : Cond.instanceMethod yX7_isAsTold ∈ bigW := bw 818 (by decide +kernel) (by decide +kernel)
theorem wd_21 : Cond.selects RX7 yX7_isAsTold yX7_isAsTold ∈ bigW := bw 21 (by decide +kernel) (by decide +kernel)
theorem ML_X7_isAsTold : ML yX7_isAsTold cX7_isAsTold 4 (some .boolean) 2 := ⟨wd_818, wd_21, wd_105, wd_819, ⟨by decide +kernel, by decide +kernel⟩, by decide +kernel⟩
theorem wd_149 : Cond.fieldLink RX7 75 "SecondHelping$Board" "doings" "I" ∈ bigW := bw 149 (by decide +kernel) (by decide +kernel)
theorem FL_X7_75 : FL RX7 75 0 4 := ⟨_, _, _, rfl, in_X0, by decide, wd_149⟩
theorem wd_294 : Cond.fieldLink RX7 9 "SecondHelping$Readings" "nexts" "[I" ∈ bigW := bw 294 (by decide +kernel) (by decide +kernel)
theorem FL_X7_9 : FL RX7 9 7 3 := ⟨_, _, _, rfl, in_X7, by decide, wd_294⟩
theorem wd_843 : Cond.methodLink RX7 85 yX8_dueNow ∈ bigW := bw 843 (by decide +kernel) (by decide +kernel)
theorem wd_839 : Cond.methodLink RX7 81 yX7_keepNexts ∈ bigW := bw 839 (by decide +kernel) (by decide +kernel)
theorem wd_842 : Cond.code yX7_keepNexts cX7_keepNexts 3 none ∈ bigW := bw 842 (by decide +kernel) (by decide +kernel)
theorem wd_841 : Cond.instanceMethod yX7_keepNexts ∈ bigW := bw 841 (by decide +kernel) (by decide +kernel)
theorem wd_23 : Cond.selects RX7 yX7_keepNexts yX7_keepNexts ∈ bigW := bw 23 (by decide +kernel) (by decide +kernel)
theorem ML_X7_keepNexts : ML yX7_keepNexts cX7_keepNexts 3 none 1 := ⟨wd_841, wd_23, wd_105, wd_842, ⟨by decide +kernel, by decide +kernel⟩, by decide +kernel⟩
theorem wd_848 : Cond.methodLink RX7 88 yX7_isNewNext ∈ bigW := bw 848 (by decide +kernel) (by decide +kernel)
theorem wd_851 : Cond.code yX7_isNewNext cX7_isNewNext 4 (some .boolean) ∈ bigW := bw 851 (by decide +kernel) (by decide +kernel)
theorem wd_850 : Cond.instanceMethod yX7_isNewNext ∈ bigW := bw 850 (by decide +kernel) (by decide +kernel)
theorem wd_25 : Cond.selects RX7 yX7_isNewNext yX7_isNewNext ∈ bigW := bw 25 (by decide +kernel) (by decide +kernel)
theorem ML_X7_isNewNext : ML yX7_isNewNext cX7_isNewNext 4 (some .boolean) 2 := ⟨wd_850, wd_25, wd_105, wd_851, ⟨by decide +kernel, by decide +kernel⟩, by decide +kernel⟩
theorem wd_835 : Cond.methodLink RX7 71 yX7_gatherNexts ∈ bigW := bw 835 (by decide +kernel) (by decide +kernel)
theorem wd_838 : Cond.code yX7_gatherNexts cX7_gatherNexts 4 (some .int) ∈ bigW := bw 838 (by decide +kernel) (by decide +kernel)
theorem wd_837 : Cond.instanceMethod yX7_gatherNexts ∈ bigW := bw 837 (by decide +kernel) (by decide +kernel)
theorem wd_22 : Cond.selects RX7 yX7_gatherNexts yX7_gatherNexts ∈ bigW := bw 22 (by decide +kernel) (by decide +kernel)
theorem ML_X7_gatherNexts : ML yX7_gatherNexts cX7_gatherNexts 4 (some .int) 0 := ⟨wd_837, wd_22, wd_105, wd_838, ⟨by decide +kernel, by decide +kernel⟩, by decide +kernel⟩
theorem wd_844 : Cond.methodLink RX7 78 yX7_unlikeNexts ∈ bigW := bw 844 (by decide +kernel) (by decide +kernel)
theorem wd_847 : Cond.code yX7_unlikeNexts cX7_unlikeNexts 5 (some .int) ∈ bigW := bw 847 (by decide +kernel) (by decide +kernel)
theorem wd_846 : Cond.instanceMethod yX7_unlikeNexts ∈ bigW := bw 846 (by decide +kernel) (by decide +kernel)
theorem wd_24 : Cond.selects RX7 yX7_unlikeNexts yX7_unlikeNexts ∈ bigW := bw 24 (by decide +kernel) (by decide +kernel)
theorem ML_X7_unlikeNexts : ML yX7_unlikeNexts cX7_unlikeNexts 5 (some .int) 2 := ⟨wd_846, wd_24, wd_105, wd_847, ⟨by decide +kernel, by decide +kernel⟩, by decide +kernel⟩
theorem wd_554 : Cond.methodLink RX8 75 yX8_openBehindLog ∈ bigW := bw 554 (by decide +kernel) (by decide +kernel)
theorem wd_234 : Cond.fieldLink RX9 15 "SecondHelping$Row" "count" "I" ∈ bigW := bw 234 (by decide +kernel) (by decide +kernel)
theorem FL_X9_15 : FL RX9 15 9 1 := ⟨_, _, _, rfl, in_X9, by decide, wd_234⟩
theorem wd_232 : Cond.fieldLink RX9 9 "SecondHelping$Row" "numbers" "[I" ∈ bigW := bw 232 (by decide +kernel) (by decide +kernel)
theorem FL_X9_9 : FL RX9 9 9 0 := ⟨_, _, _, rfl, in_X9, by decide, wd_232⟩
theorem FW_X9_1 : FW 9 1 .int := ⟨_, _, _, tyX9, rfl, tyX9_ok, nmX9, by decide +kernel, by decide +kernel⟩
theorem wd_1224 : Cond.methodLink RX9 19 yX0_hasPlace ∈ bigW := bw 1224 (by decide +kernel) (by decide +kernel)
theorem wd_660 : Cond.code yX0_hasPlace cX0_hasPlace 2 (some .boolean) ∈ bigW := bw 660 (by decide +kernel) (by decide +kernel)
theorem wd_658 : Cond.instanceMethod yX0_hasPlace ∈ bigW := bw 658 (by decide +kernel) (by decide +kernel)
theorem wd_659 : Cond.selects RX0 yX0_hasPlace yX0_hasPlace ∈ bigW := bw 659 (by decide +kernel) (by decide +kernel)
theorem ML_X0_hasPlace : ML yX0_hasPlace cX0_hasPlace 2 (some .boolean) 1 := ⟨wd_658, wd_659, wd_99, wd_660, ⟨by decide +kernel, by decide +kernel⟩, by decide +kernel⟩
theorem wd_139 : Cond.fieldLink RX9 25 "SecondHelping$Board" "log" "[I" ∈ bigW := bw 139 (by decide +kernel) (by decide +kernel)
theorem FL_X9_25 : FL RX9 25 0 3 := ⟨_, _, _, rfl, in_X0, by decide, wd_139⟩
theorem wd_194 : Cond.fieldLink RX10 24 "SecondHelping$Takebacks" "count" "I" ∈ bigW := bw 194 (by decide +kernel) (by decide +kernel)
theorem FL_X10_24 : FL RX10 24 10 4 := ⟨_, _, _, rfl, in_X10, by decide, wd_194⟩
theorem FW_X10_4 : FW 10 4 .int := ⟨_, _, _, tyX10, rfl, tyX10_ok, nmX10, by decide +kernel, by decide +kernel⟩
theorem wd_190 : Cond.fieldLink RX10 9 "SecondHelping$Takebacks" "deeds" "[I" ∈ bigW := bw 190 (by decide +kernel) (by decide +kernel)
theorem FL_X10_9 : FL RX10 9 10 0 := ⟨_, _, _, rfl, in_X10, by decide, wd_190⟩
theorem wd_612 : Cond.methodLink RX10 31 arraycopyName ∈ bigW := bw 612 (by decide +kernel) (by decide +kernel)
theorem wd_191 : Cond.fieldLink RX10 15 "SecondHelping$Takebacks" "doings" "[I" ∈ bigW := bw 191 (by decide +kernel) (by decide +kernel)
theorem FL_X10_15 : FL RX10 15 10 1 := ⟨_, _, _, rfl, in_X10, by decide, wd_191⟩
theorem wd_192 : Cond.fieldLink RX10 18 "SecondHelping$Takebacks" "firsts" "[I" ∈ bigW := bw 192 (by decide +kernel) (by decide +kernel)
theorem FL_X10_18 : FL RX10 18 10 2 := ⟨_, _, _, rfl, in_X10, by decide, wd_192⟩
theorem wd_193 : Cond.fieldLink RX10 21 "SecondHelping$Takebacks" "seconds" "[I" ∈ bigW := bw 193 (by decide +kernel) (by decide +kernel)
theorem FL_X10_21 : FL RX10 21 10 3 := ⟨_, _, _, rfl, in_X10, by decide, wd_193⟩
theorem wd_608 : Cond.methodLink RX10 28 yX10_dropOldest ∈ bigW := bw 608 (by decide +kernel) (by decide +kernel)
theorem wd_100 : Cond.initialized RX10 ∈ bigW := bw 100 (by decide +kernel) (by decide +kernel)
theorem wd_611 : Cond.code yX10_dropOldest cX10_dropOldest 1 none ∈ bigW := bw 611 (by decide +kernel) (by decide +kernel)
theorem wd_610 : Cond.instanceMethod yX10_dropOldest ∈ bigW := bw 610 (by decide +kernel) (by decide +kernel)
theorem wd_10 : Cond.selects RX10 yX10_dropOldest yX10_dropOldest ∈ bigW := bw 10 (by decide +kernel) (by decide +kernel)
theorem ML_X10_dropOldest : ML yX10_dropOldest cX10_dropOldest 1 none 0 := ⟨wd_610, wd_10, wd_100, wd_611, ⟨by decide +kernel, by decide +kernel⟩, by decide +kernel⟩
theorem wd_155 : Cond.fieldLink RX10 37 "SecondHelping$Board" "places" "I" ∈ bigW := bw 155 (by decide +kernel) (by decide +kernel)
theorem FL_X10_37 : FL RX10 37 0 5 := ⟨_, _, _, rfl, in_X0, by decide, wd_155⟩
theorem wd_642 : Cond.methodLink RX10 42 Lib.Math.max.name ∈ bigW := bw 642 (by decide +kernel) (by decide +kernel)
theorem wd_645 : Cond.methodLink RX10 48 yX0_setKind ∈ bigW := bw 645 (by decide +kernel) (by decide +kernel)
theorem wd_646 : Cond.methodLink RX10 52 yX0_flipMark ∈ bigW := bw 646 (by decide +kernel) (by decide +kernel)
theorem wd_647 : Cond.methodLink RX10 56 yX0_setLaw ∈ bigW := bw 647 (by decide +kernel) (by decide +kernel)
theorem wd_386 : Cond.fieldLink RX11 99 "SecondHelping" "refusals" "[I" ∈ bigW := bw 386 (by decide +kernel) (by decide +kernel)
theorem FL_X11_99 : FL RX11 99 11 13 := ⟨_, _, _, rfl, in_X11, by decide, wd_386⟩
theorem wd_420 : Cond.methodLink RX11 103 yX11_refuse ∈ bigW := bw 420 (by decide +kernel) (by decide +kernel)
theorem wd_423 : Cond.code yX11_refuse cX11_refuse 3 (some .int) ∈ bigW := bw 423 (by decide +kernel) (by decide +kernel)
theorem wd_422 : Cond.instanceMethod yX11_refuse ∈ bigW := bw 422 (by decide +kernel) (by decide +kernel)
theorem wd_0 : Cond.selects RX11 yX11_refuse yX11_refuse ∈ bigW := bw 0 (by decide +kernel) (by decide +kernel)
theorem ML_X11_refuse : ML yX11_refuse cX11_refuse 3 (some .int) 1 := ⟨wd_422, wd_0, wd_98, wd_423, ⟨by decide +kernel, by decide +kernel⟩, by decide +kernel⟩
theorem wd_377 : Cond.fieldLink RX11 33 "SecondHelping" "letters" "LSecondHelping$Letters;" ∈ bigW := bw 377 (by decide +kernel) (by decide +kernel)
theorem FL_X11_33 : FL RX11 33 11 4 := ⟨_, _, _, rfl, in_X11, by decide, wd_377⟩
theorem wd_218 : Cond.fieldLink RX11 107 "SecondHelping$Letters" "count" "I" ∈ bigW := bw 218 (by decide +kernel) (by decide +kernel)
theorem FL_X11_107 : FL RX11 107 1 2 := ⟨_, _, _, rfl, in_X1, by decide, wd_218⟩
theorem wd_424 : Cond.methodLink RX11 111 yX1_add ∈ bigW := bw 424 (by decide +kernel) (by decide +kernel)
theorem wd_427 : Cond.code yX1_add cX1_add 2 (some .int) ∈ bigW := bw 427 (by decide +kernel) (by decide +kernel)
theorem wd_425 : Cond.instanceMethod yX1_add ∈ bigW := bw 425 (by decide +kernel) (by decide +kernel)
theorem wd_426 : Cond.selects RX1 yX1_add yX1_add ∈ bigW := bw 426 (by decide +kernel) (by decide +kernel)
theorem ML_X1_add : ML yX1_add cX1_add 2 (some .int) 1 := ⟨wd_425, wd_426, wd_101, wd_427, ⟨by decide +kernel, by decide +kernel⟩, by decide +kernel⟩
theorem wd_373 : Cond.fieldLink RX11 12 "SecondHelping" "now" "LSecondHelping$Board;" ∈ bigW := bw 373 (by decide +kernel) (by decide +kernel)
theorem FL_X11_12 : FL RX11 12 11 0 := ⟨_, _, _, rfl, in_X11, by decide, wd_373⟩
theorem wd_432 : Cond.methodLink RX11 114 yX1_tell ∈ bigW := bw 432 (by decide +kernel) (by decide +kernel)
theorem wd_435 : Cond.code yX1_tell cX1_tell 3 (some .int) ∈ bigW := bw 435 (by decide +kernel) (by decide +kernel)
theorem wd_433 : Cond.instanceMethod yX1_tell ∈ bigW := bw 433 (by decide +kernel) (by decide +kernel)
theorem wd_434 : Cond.selects RX1 yX1_tell yX1_tell ∈ bigW := bw 434 (by decide +kernel) (by decide +kernel)
theorem ML_X1_tell : ML yX1_tell cX1_tell 3 (some .int) 1 := ⟨wd_433, wd_434, wd_101, wd_435, ⟨by decide +kernel, by decide +kernel⟩, by decide +kernel⟩
theorem wd_376 : Cond.fieldLink RX11 26 "SecondHelping" "takebacks" "LSecondHelping$Takebacks;" ∈ bigW := bw 376 (by decide +kernel) (by decide +kernel)
theorem FL_X11_26 : FL RX11 26 11 3 := ⟨_, _, _, rfl, in_X11, by decide, wd_376⟩
theorem wd_529 : Cond.methodLink RX11 118 yX10_forget ∈ bigW := bw 529 (by decide +kernel) (by decide +kernel)
theorem wd_532 : Cond.code yX10_forget cX10_forget 1 none ∈ bigW := bw 532 (by decide +kernel) (by decide +kernel)
theorem wd_530 : Cond.instanceMethod yX10_forget ∈ bigW := bw 530 (by decide +kernel) (by decide +kernel)
theorem wd_531 : Cond.selects RX10 yX10_forget yX10_forget ∈ bigW := bw 531 (by decide +kernel) (by decide +kernel)
theorem ML_X10_forget : ML yX10_forget cX10_forget 1 none 0 := ⟨wd_530, wd_531, wd_100, wd_532, ⟨by decide +kernel, by decide +kernel⟩, by decide +kernel⟩
theorem wd_537 : Cond.methodLink RX11 121 yX0_hasDoing ∈ bigW := bw 537 (by decide +kernel) (by decide +kernel)
theorem wd_130 : Cond.fieldLink RX11 125 "SecondHelping$Board" "kinds" "[I" ∈ bigW := bw 130 (by decide +kernel) (by decide +kernel)
theorem FL_X11_125 : FL RX11 125 0 0 := ⟨_, _, _, rfl, in_X0, by decide, wd_130⟩
theorem wd_133 : Cond.fieldLink RX11 128 "SecondHelping$Board" "figures" "[I" ∈ bigW := bw 133 (by decide +kernel) (by decide +kernel)
theorem FL_X11_128 : FL RX11 128 0 1 := ⟨_, _, _, rfl, in_X0, by decide, wd_133⟩
theorem wd_136 : Cond.fieldLink RX11 131 "SecondHelping$Board" "marks" "[I" ∈ bigW := bw 136 (by decide +kernel) (by decide +kernel)
theorem FL_X11_131 : FL RX11 131 0 2 := ⟨_, _, _, rfl, in_X0, by decide, wd_136⟩
theorem wd_542 : Cond.methodLink RX11 134 yX11_isKind ∈ bigW := bw 542 (by decide +kernel) (by decide +kernel)
theorem wd_543 : Cond.methodLink RX11 137 yX0_hasRoomForDoing ∈ bigW := bw 543 (by decide +kernel) (by decide +kernel)
theorem wd_544 : Cond.methodLink RX11 141 yX0_addDoing ∈ bigW := bw 544 (by decide +kernel) (by decide +kernel)
theorem wd_549 : Cond.methodLink RX11 145 yX0_hasRoomForPlace ∈ bigW := bw 549 (by decide +kernel) (by decide +kernel)
theorem wd_379 : Cond.fieldLink RX11 49 "SecondHelping" "reckoning" "LSecondHelping$Reckoning;" ∈ bigW := bw 379 (by decide +kernel) (by decide +kernel)
theorem FL_X11_49 : FL RX11 49 11 6 := ⟨_, _, _, rfl, in_X11, by decide, wd_379⟩
theorem wd_550 : Cond.methodLink RX11 148 yX8_nextDue ∈ bigW := bw 550 (by decide +kernel) (by decide +kernel)
theorem wd_553 : Cond.code yX8_nextDue cX8_nextDue 2 (some .int) ∈ bigW := bw 553 (by decide +kernel) (by decide +kernel)
theorem wd_551 : Cond.instanceMethod yX8_nextDue ∈ bigW := bw 551 (by decide +kernel) (by decide +kernel)
theorem wd_552 : Cond.selects RX8 yX8_nextDue yX8_nextDue ∈ bigW := bw 552 (by decide +kernel) (by decide +kernel)
theorem ML_X8_nextDue : ML yX8_nextDue cX8_nextDue 2 (some .int) 1 := ⟨wd_551, wd_552, wd_103, wd_553, ⟨by decide +kernel, by decide +kernel⟩, by decide +kernel⟩
theorem wd_603 : Cond.methodLink RX11 151 yX0_addPlace ∈ bigW := bw 603 (by decide +kernel) (by decide +kernel)
theorem wd_604 : Cond.methodLink RX11 155 yX10_keep ∈ bigW := bw 604 (by decide +kernel) (by decide +kernel)
theorem wd_607 : Cond.code yX10_keep cX10_keep 5 none ∈ bigW := bw 607 (by decide +kernel) (by decide +kernel)
theorem wd_605 : Cond.instanceMethod yX10_keep ∈ bigW := bw 605 (by decide +kernel) (by decide +kernel)
theorem wd_606 : Cond.selects RX10 yX10_keep yX10_keep ∈ bigW := bw 606 (by decide +kernel) (by decide +kernel)
theorem ML_X10_keep : ML yX10_keep cX10_keep 5 none 4 := ⟨wd_605, wd_606, wd_100, wd_607, ⟨by decide +kernel, by decide +kernel⟩, by decide +kernel⟩
theorem wd_156 : Cond.fieldLink RX11 159 "SecondHelping$Board" "places" "I" ∈ bigW := bw 156 (by decide +kernel) (by decide +kernel)
theorem FL_X11_159 : FL RX11 159 0 5 := ⟨_, _, _, rfl, in_X0, by decide, wd_156⟩
theorem wd_621 : Cond.methodLink RX11 162 yX0_setKind ∈ bigW := bw 621 (by decide +kernel) (by decide +kernel)
theorem wd_626 : Cond.methodLink RX11 166 yX11_isMark ∈ bigW := bw 626 (by decide +kernel) (by decide +kernel)
theorem wd_627 : Cond.methodLink RX11 169 yX0_flipMark ∈ bigW := bw 627 (by decide +kernel) (by decide +kernel)
theorem wd_632 : Cond.methodLink RX11 173 yX11_isType ∈ bigW := bw 632 (by decide +kernel) (by decide +kernel)
theorem wd_162 : Cond.fieldLink RX11 176 "SecondHelping$Board" "type" "I" ∈ bigW := bw 162 (by decide +kernel) (by decide +kernel)
theorem FL_X11_176 : FL RX11 176 0 6 := ⟨_, _, _, rfl, in_X0, by decide, wd_162⟩
theorem wd_165 : Cond.fieldLink RX11 179 "SecondHelping$Board" "t" "I" ∈ bigW := bw 165 (by decide +kernel) (by decide +kernel)
theorem FL_X11_179 : FL RX11 179 0 7 := ⟨_, _, _, rfl, in_X0, by decide, wd_165⟩
theorem wd_633 : Cond.methodLink RX11 182 yX0_setLaw ∈ bigW := bw 633 (by decide +kernel) (by decide +kernel)
theorem wd_195 : Cond.fieldLink RX11 185 "SecondHelping$Takebacks" "count" "I" ∈ bigW := bw 195 (by decide +kernel) (by decide +kernel)
theorem FL_X11_185 : FL RX11 185 10 4 := ⟨_, _, _, rfl, in_X10, by decide, wd_195⟩
theorem wd_638 : Cond.methodLink RX11 186 yX10_undoLatest ∈ bigW := bw 638 (by decide +kernel) (by decide +kernel)
theorem wd_641 : Cond.code yX10_undoLatest cX10_undoLatest 2 (some .int) ∈ bigW := bw 641 (by decide +kernel) (by decide +kernel)
theorem wd_639 : Cond.instanceMethod yX10_undoLatest ∈ bigW := bw 639 (by decide +kernel) (by decide +kernel)
theorem wd_640 : Cond.selects RX10 yX10_undoLatest yX10_undoLatest ∈ bigW := bw 640 (by decide +kernel) (by decide +kernel)
theorem ML_X10_undoLatest : ML yX10_undoLatest cX10_undoLatest 2 (some .int) 1 := ⟨wd_639, wd_640, wd_100, wd_641, ⟨by decide +kernel, by decide +kernel⟩, by decide +kernel⟩
theorem wd_652 : Cond.methodLink RX11 189 yX0_areAlike ∈ bigW := bw 652 (by decide +kernel) (by decide +kernel)
theorem wd_657 : Cond.methodLink RX11 193 yX0_hasPlace ∈ bigW := bw 657 (by decide +kernel) (by decide +kernel)
theorem wd_380 : Cond.fieldLink RX11 58 "SecondHelping" "logBook" "LSecondHelping$LogBook;" ∈ bigW := bw 380 (by decide +kernel) (by decide +kernel)
theorem FL_X11_58 : FL RX11 58 11 7 := ⟨_, _, _, rfl, in_X11, by decide, wd_380⟩
theorem wd_661 : Cond.methodLink RX11 199 yX3_ofPlace ∈ bigW := bw 661 (by decide +kernel) (by decide +kernel)
theorem wd_664 : Cond.code yX3_ofPlace cX3_ofPlace 3 (some .int) ∈ bigW := bw 664 (by decide +kernel) (by decide +kernel)
theorem wd_662 : Cond.instanceMethod yX3_ofPlace ∈ bigW := bw 662 (by decide +kernel) (by decide +kernel)
theorem wd_663 : Cond.selects RX3 yX3_ofPlace yX3_ofPlace ∈ bigW := bw 663 (by decide +kernel) (by decide +kernel)
theorem ML_X3_ofPlace : ML yX3_ofPlace cX3_ofPlace 3 (some .int) 2 := ⟨wd_662, wd_663, wd_104, wd_664, ⟨by decide +kernel, by decide +kernel⟩, by decide +kernel⟩
theorem wd_142 : Cond.fieldLink RX11 196 "SecondHelping$Board" "log" "[I" ∈ bigW := bw 142 (by decide +kernel) (by decide +kernel)
theorem FL_X11_196 : FL RX11 196 0 3 := ⟨_, _, _, rfl, in_X0, by decide, wd_142⟩
theorem wd_675 : Cond.methodLink RX11 203 yX3_total ∈ bigW := bw 675 (by decide +kernel) (by decide +kernel)
theorem wd_678 : Cond.code yX3_total cX3_total 1 (some .int) ∈ bigW := bw 678 (by decide +kernel) (by decide +kernel)
theorem wd_676 : Cond.instanceMethod yX3_total ∈ bigW := bw 676 (by decide +kernel) (by decide +kernel)
theorem wd_677 : Cond.selects RX3 yX3_total yX3_total ∈ bigW := bw 677 (by decide +kernel) (by decide +kernel)
theorem ML_X3_total : ML yX3_total cX3_total 1 (some .int) 0 := ⟨wd_676, wd_677, wd_104, wd_678, ⟨by decide +kernel, by decide +kernel⟩, by decide +kernel⟩
theorem wd_691 : Cond.methodLink RX11 207 yX11_isEither ∈ bigW := bw 691 (by decide +kernel) (by decide +kernel)
theorem wd_693 : Cond.code yX11_isEither cX11_isEither 1 (some .boolean) ∈ bigW := bw 693 (by decide +kernel) (by decide +kernel)
theorem wd_692 : Cond.static yX11_isEither ∈ bigW := bw 692 (by decide +kernel) (by decide +kernel)
theorem MS_X11_isEither : MS yX11_isEither cX11_isEither 1 (some .boolean) 1 := ⟨wd_692, wd_98, wd_693, ⟨by decide +kernel, by decide +kernel⟩, by decide +kernel⟩
theorem wd_694 : Cond.methodLink RX11 210 yX8_openBehindLog ∈ bigW := bw 694 (by decide +kernel) (by decide +kernel)
theorem wd_700 : Cond.methodLink RX11 216 yX8_dearestNext ∈ bigW := bw 700 (by decide +kernel) (by decide +kernel)
theorem wd_703 : Cond.code yX8_dearestNext cX8_dearestNext 5 (some .int) ∈ bigW := bw 703 (by decide +kernel) (by decide +kernel)
theorem wd_701 : Cond.instanceMethod yX8_dearestNext ∈ bigW := bw 701 (by decide +kernel) (by decide +kernel)
theorem wd_702 : Cond.selects RX8 yX8_dearestNext yX8_dearestNext ∈ bigW := bw 702 (by decide +kernel) (by decide +kernel)
theorem ML_X8_dearestNext : ML yX8_dearestNext cX8_dearestNext 5 (some .int) 0 := ⟨wd_701, wd_702, wd_103, wd_703, ⟨by decide +kernel, by decide +kernel⟩, by decide +kernel⟩
theorem wd_695 : Cond.methodLink RX11 213 yX8_cheapestNext ∈ bigW := bw 695 (by decide +kernel) (by decide +kernel)
theorem wd_708 : Cond.methodLink RX11 219 yX3_firstAbove ∈ bigW := bw 708 (by decide +kernel) (by decide +kernel)
theorem wd_711 : Cond.code yX3_firstAbove cX3_firstAbove 3 (some .int) ∈ bigW := bw 711 (by decide +kernel) (by decide +kernel)
theorem wd_709 : Cond.instanceMethod yX3_firstAbove ∈ bigW := bw 709 (by decide +kernel) (by decide +kernel)
theorem wd_710 : Cond.selects RX3 yX3_firstAbove yX3_firstAbove ∈ bigW := bw 710 (by decide +kernel) (by decide +kernel)
theorem ML_X3_firstAbove : ML yX3_firstAbove cX3_firstAbove 3 (some .int) 1 := ⟨wd_709, wd_710, wd_104, wd_711, ⟨by decide +kernel, by decide +kernel⟩, by decide +kernel⟩
theorem wd_150 : Cond.fieldLink RX11 222 "SecondHelping$Board" "doings" "I" ∈ bigW := bw 150 (by decide +kernel) (by decide +kernel)
theorem FL_X11_222 : FL RX11 222 0 4 := ⟨_, _, _, rfl, in_X0, by decide, wd_150⟩
theorem wd_716 : Cond.methodLink RX11 225 yJ6_bitCount_0f7a4 ∈ bigW := bw 716 (by decide +kernel) (by decide +kernel)
theorem wd_382 : Cond.fieldLink RX11 74 "SecondHelping" "plans" "LSecondHelping$Plans;" ∈ bigW := bw 382 (by decide +kernel) (by decide +kernel)
theorem FL_X11_74 : FL RX11 74 11 9 := ⟨_, _, _, rfl, in_X11, by decide, wd_382⟩
theorem wd_717 : Cond.methodLink RX11 230 yX6_inOrder ∈ bigW := bw 717 (by decide +kernel) (by decide +kernel)
theorem wd_720 : Cond.code yX6_inOrder cX6_inOrder 3 (some .int) ∈ bigW := bw 720 (by decide +kernel) (by decide +kernel)
theorem wd_718 : Cond.instanceMethod yX6_inOrder ∈ bigW := bw 718 (by decide +kernel) (by decide +kernel)
theorem wd_719 : Cond.selects RX6 yX6_inOrder yX6_inOrder ∈ bigW := bw 719 (by decide +kernel) (by decide +kernel)
theorem ML_X6_inOrder : ML yX6_inOrder cX6_inOrder 3 (some .int) 2 := ⟨wd_718, wd_719, wd_106, wd_720, ⟨by decide +kernel, by decide +kernel⟩, by decide +kernel⟩
theorem wd_383 : Cond.fieldLink RX11 81 "SecondHelping" "likeness" "LSecondHelping$Likeness;" ∈ bigW := bw 383 (by decide +kernel) (by decide +kernel)
theorem FL_X11_81 : FL RX11 81 11 10 := ⟨_, _, _, rfl, in_X11, by decide, wd_383⟩
theorem wd_752 : Cond.methodLink RX11 233 yX2_mostApart ∈ bigW := bw 752 (by decide +kernel) (by decide +kernel)
theorem wd_755 : Cond.code yX2_mostApart cX2_mostApart 3 (some .int) ∈ bigW := bw 755 (by decide +kernel) (by decide +kernel)
theorem wd_753 : Cond.instanceMethod yX2_mostApart ∈ bigW := bw 753 (by decide +kernel) (by decide +kernel)
theorem wd_754 : Cond.selects RX2 yX2_mostApart yX2_mostApart ∈ bigW := bw 754 (by decide +kernel) (by decide +kernel)
theorem ML_X2_mostApart : ML yX2_mostApart cX2_mostApart 3 (some .int) 0 := ⟨wd_753, wd_754, wd_107, wd_755, ⟨by decide +kernel, by decide +kernel⟩, by decide +kernel⟩
theorem wd_770 : Cond.methodLink RX11 236 yX2_fewestPeople ∈ bigW := bw 770 (by decide +kernel) (by decide +kernel)
theorem wd_773 : Cond.code yX2_fewestPeople cX2_fewestPeople 2 (some .int) ∈ bigW := bw 773 (by decide +kernel) (by decide +kernel)
theorem wd_771 : Cond.instanceMethod yX2_fewestPeople ∈ bigW := bw 771 (by decide +kernel) (by decide +kernel)
theorem wd_772 : Cond.selects RX2 yX2_fewestPeople yX2_fewestPeople ∈ bigW := bw 772 (by decide +kernel) (by decide +kernel)
theorem ML_X2_fewestPeople : ML yX2_fewestPeople cX2_fewestPeople 2 (some .int) 0 := ⟨wd_771, wd_772, wd_107, wd_773, ⟨by decide +kernel, by decide +kernel⟩, by decide +kernel⟩
theorem wd_791 : Cond.methodLink RX11 242 yX2_likesOf ∈ bigW := bw 791 (by decide +kernel) (by decide +kernel)
theorem wd_794 : Cond.code yX2_likesOf cX2_likesOf 2 (some .int) ∈ bigW := bw 794 (by decide +kernel) (by decide +kernel)
theorem wd_792 : Cond.instanceMethod yX2_likesOf ∈ bigW := bw 792 (by decide +kernel) (by decide +kernel)
theorem wd_793 : Cond.selects RX2 yX2_likesOf yX2_likesOf ∈ bigW := bw 793 (by decide +kernel) (by decide +kernel)
theorem ML_X2_likesOf : ML yX2_likesOf cX2_likesOf 2 (some .int) 1 := ⟨wd_792, wd_793, wd_107, wd_794, ⟨by decide +kernel, by decide +kernel⟩, by decide +kernel⟩
theorem wd_783 : Cond.methodLink RX11 239 yX2_withMostLikes ∈ bigW := bw 783 (by decide +kernel) (by decide +kernel)
theorem wd_786 : Cond.code yX2_withMostLikes cX2_withMostLikes 5 (some .int) ∈ bigW := bw 786 (by decide +kernel) (by decide +kernel)
theorem wd_784 : Cond.instanceMethod yX2_withMostLikes ∈ bigW := bw 784 (by decide +kernel) (by decide +kernel)
theorem wd_785 : Cond.selects RX2 yX2_withMostLikes yX2_withMostLikes ∈ bigW := bw 785 (by decide +kernel) (by decide +kernel)
theorem ML_X2_withMostLikes : ML yX2_withMostLikes cX2_withMostLikes 5 (some .int) 0 := ⟨wd_784, wd_785, wd_107, wd_786, ⟨by decide +kernel, by decide +kernel⟩, by decide +kernel⟩
theorem wd_381 : Cond.fieldLink RX11 67 "SecondHelping" "readings" "LSecondHelping$Readings;" ∈ bigW := bw 381 (by decide +kernel) (by decide +kernel)
theorem FL_X11_67 : FL RX11 67 11 8 := ⟨_, _, _, rfl, in_X11, by decide, wd_381⟩
theorem wd_799 : Cond.methodLink RX11 245 yX7_mildest ∈ bigW := bw 799 (by decide +kernel) (by decide +kernel)
theorem wd_802 : Cond.code yX7_mildest cX7_mildest 7 (some .int) ∈ bigW := bw 802 (by decide +kernel) (by decide +kernel)
theorem wd_800 : Cond.instanceMethod yX7_mildest ∈ bigW := bw 800 (by decide +kernel) (by decide +kernel)
theorem wd_801 : Cond.selects RX7 yX7_mildest yX7_mildest ∈ bigW := bw 801 (by decide +kernel) (by decide +kernel)
theorem ML_X7_mildest : ML yX7_mildest cX7_mildest 7 (some .int) 1 := ⟨wd_800, wd_801, wd_105, wd_802, ⟨by decide +kernel, by decide +kernel⟩, by decide +kernel⟩
theorem wd_378 : Cond.fieldLink RX11 40 "SecondHelping" "numbers" "LSecondHelping$Row;" ∈ bigW := bw 378 (by decide +kernel) (by decide +kernel)
theorem FL_X11_40 : FL RX11 40 11 5 := ⟨_, _, _, rfl, in_X11, by decide, wd_378⟩
theorem wd_236 : Cond.fieldLink RX11 248 "SecondHelping$Row" "count" "I" ∈ bigW := bw 236 (by decide +kernel) (by decide +kernel)
theorem FL_X11_248 : FL RX11 248 9 1 := ⟨_, _, _, rfl, in_X9, by decide, wd_236⟩
theorem wd_823 : Cond.methodLink RX11 252 yX7_firstFitting ∈ bigW := bw 823 (by decide +kernel) (by decide +kernel)
theorem wd_826 : Cond.code yX7_firstFitting cX7_firstFitting 3 (some .int) ∈ bigW := bw 826 (by decide +kernel) (by decide +kernel)
theorem wd_824 : Cond.instanceMethod yX7_firstFitting ∈ bigW := bw 824 (by decide +kernel) (by decide +kernel)
theorem wd_825 : Cond.selects RX7 yX7_firstFitting yX7_firstFitting ∈ bigW := bw 825 (by decide +kernel) (by decide +kernel)
theorem ML_X7_firstFitting : ML yX7_firstFitting cX7_firstFitting 3 (some .int) 0 := ⟨wd_824, wd_825, wd_105, wd_826, ⟨by decide +kernel, by decide +kernel⟩, by decide +kernel⟩
theorem wd_812 : Cond.methodLink RX11 249 yX7_howManyFit ∈ bigW := bw 812 (by decide +kernel) (by decide +kernel)
theorem wd_815 : Cond.code yX7_howManyFit cX7_howManyFit 4 (some .int) ∈ bigW := bw 815 (by decide +kernel) (by decide +kernel)
theorem wd_813 : Cond.instanceMethod yX7_howManyFit ∈ bigW := bw 813 (by decide +kernel) (by decide +kernel)
theorem wd_814 : Cond.selects RX7 yX7_howManyFit yX7_howManyFit ∈ bigW := bw 814 (by decide +kernel) (by decide +kernel)
theorem ML_X7_howManyFit : ML yX7_howManyFit cX7_howManyFit 4 (some .int) 0 := ⟨wd_813, wd_814, wd_105, wd_815, ⟨by decide +kernel, by decide +kernel⟩, by decide +kernel⟩
theorem wd_831 : Cond.methodLink RX11 255 yX7_mostTelling ∈ bigW := bw 831 (by decide +kernel) (by decide +kernel)
theorem wd_834 : Cond.code yX7_mostTelling cX7_mostTelling 7 (some .int) ∈ bigW := bw 834 (by decide +kernel) (by decide +kernel)
theorem wd_832 : Cond.instanceMethod yX7_mostTelling ∈ bigW := bw 832 (by decide +kernel) (by decide +kernel)
theorem wd_833 : Cond.selects RX7 yX7_mostTelling yX7_mostTelling ∈ bigW := bw 833 (by decide +kernel) (by decide +kernel)
theorem ML_X7_mostTelling : ML yX7_mostTelling cX7_mostTelling 7 (some .int) 1 := ⟨wd_832, wd_833, wd_105, wd_834, ⟨by decide +kernel, by decide +kernel⟩, by decide +kernel⟩
theorem wd_384 : Cond.fieldLink RX11 88 "SecondHelping" "marking" "LSecondHelping$Marking;" ∈ bigW := bw 384 (by decide +kernel) (by decide +kernel)
theorem FL_X11_88 : FL RX11 88 11 11 := ⟨_, _, _, rfl, in_X11, by decide, wd_384⟩
theorem wd_856 : Cond.methodLink RX11 258 yX5_bestFlip ∈ bigW := bw 856 (by decide +kernel) (by decide +kernel)
theorem wd_859 : Cond.code yX5_bestFlip cX5_bestFlip 6 (some .int) ∈ bigW := bw 859 (by decide +kernel) (by decide +kernel)
theorem wd_857 : Cond.instanceMethod yX5_bestFlip ∈ bigW := bw 857 (by decide +kernel) (by decide +kernel)
theorem wd_858 : Cond.selects RX5 yX5_bestFlip yX5_bestFlip ∈ bigW := bw 858 (by decide +kernel) (by decide +kernel)
theorem ML_X5_bestFlip : ML yX5_bestFlip cX5_bestFlip 6 (some .int) 0 := ⟨wd_857, wd_858, wd_108, wd_859, ⟨by decide +kernel, by decide +kernel⟩, by decide +kernel⟩
theorem wd_870 : Cond.methodLink RX11 261 yX3_splitInTwo ∈ bigW := bw 870 (by decide +kernel) (by decide +kernel)
theorem wd_873 : Cond.code yX3_splitInTwo cX3_splitInTwo 6 (some .int) ∈ bigW := bw 873 (by decide +kernel) (by decide +kernel)
theorem wd_871 : Cond.instanceMethod yX3_splitInTwo ∈ bigW := bw 871 (by decide +kernel) (by decide +kernel)
theorem wd_872 : Cond.selects RX3 yX3_splitInTwo yX3_splitInTwo ∈ bigW := bw 872 (by decide +kernel) (by decide +kernel)
theorem ML_X3_splitInTwo : ML yX3_splitInTwo cX3_splitInTwo 6 (some .int) 1 := ⟨wd_871, wd_872, wd_104, wd_873, ⟨by decide +kernel, by decide +kernel⟩, by decide +kernel⟩
theorem wd_904 : Cond.methodLink RX11 267 yX3_savingOf ∈ bigW := bw 904 (by decide +kernel) (by decide +kernel)
theorem wd_907 : Cond.code yX3_savingOf cX3_savingOf 2 (some .int) ∈ bigW := bw 907 (by decide +kernel) (by decide +kernel)
theorem wd_905 : Cond.instanceMethod yX3_savingOf ∈ bigW := bw 905 (by decide +kernel) (by decide +kernel)
theorem wd_906 : Cond.selects RX3 yX3_savingOf yX3_savingOf ∈ bigW := bw 906 (by decide +kernel) (by decide +kernel)
theorem ML_X3_savingOf : ML yX3_savingOf cX3_savingOf 2 (some .int) 1 := ⟨wd_905, wd_906, wd_104, wd_907, ⟨by decide +kernel, by decide +kernel⟩, by decide +kernel⟩
theorem wd_894 : Cond.methodLink RX11 264 yX3_bestSaving ∈ bigW := bw 894 (by decide +kernel) (by decide +kernel)
theorem wd_897 : Cond.code yX3_bestSaving cX3_bestSaving 5 (some .int) ∈ bigW := bw 897 (by decide +kernel) (by decide +kernel)
theorem wd_895 : Cond.instanceMethod yX3_bestSaving ∈ bigW := bw 895 (by decide +kernel) (by decide +kernel)
theorem wd_896 : Cond.selects RX3 yX3_bestSaving yX3_bestSaving ∈ bigW := bw 896 (by decide +kernel) (by decide +kernel)
theorem ML_X3_bestSaving : ML yX3_bestSaving cX3_bestSaving 5 (some .int) 0 := ⟨wd_895, wd_896, wd_104, wd_897, ⟨by decide +kernel, by decide +kernel⟩, by decide +kernel⟩
theorem wd_912 : Cond.methodLink RX11 270 yX3_totalFromBehind ∈ bigW := bw 912 (by decide +kernel) (by decide +kernel)
theorem wd_915 : Cond.code yX3_totalFromBehind cX3_totalFromBehind 3 (some .int) ∈ bigW := bw 915 (by decide +kernel) (by decide +kernel)
theorem wd_913 : Cond.instanceMethod yX3_totalFromBehind ∈ bigW := bw 913 (by decide +kernel) (by decide +kernel)
theorem wd_914 : Cond.selects RX3 yX3_totalFromBehind yX3_totalFromBehind ∈ bigW := bw 914 (by decide +kernel) (by decide +kernel)
theorem ML_X3_totalFromBehind : ML yX3_totalFromBehind cX3_totalFromBehind 3 (some .int) 0 := ⟨wd_913, wd_914, wd_104, wd_915, ⟨by decide +kernel, by decide +kernel⟩, by decide +kernel⟩
theorem wd_920 : Cond.methodLink RX11 273 yX3_bestExchange ∈ bigW := bw 920 (by decide +kernel) (by decide +kernel)
theorem wd_923 : Cond.code yX3_bestExchange cX3_bestExchange 6 (some .int) ∈ bigW := bw 923 (by decide +kernel) (by decide +kernel)
theorem wd_921 : Cond.instanceMethod yX3_bestExchange ∈ bigW := bw 921 (by decide +kernel) (by decide +kernel)
theorem wd_922 : Cond.selects RX3 yX3_bestExchange yX3_bestExchange ∈ bigW := bw 922 (by decide +kernel) (by decide +kernel)
theorem ML_X3_bestExchange : ML yX3_bestExchange cX3_bestExchange 6 (some .int) 0 := ⟨wd_921, wd_922, wd_104, wd_923, ⟨by decide +kernel, by decide +kernel⟩, by decide +kernel⟩
theorem wd_932 : Cond.methodLink RX11 276 yX5_covering ∈ bigW := bw 932 (by decide +kernel) (by decide +kernel)
theorem wd_935 : Cond.code yX5_covering cX5_covering 9 (some .int) ∈ bigW := bw 935 (by decide +kernel) (by decide +kernel)
theorem wd_933 : Cond.instanceMethod yX5_covering ∈ bigW := bw 933 (by decide +kernel) (by decide +kernel)
theorem wd_934 : Cond.selects RX5 yX5_covering yX5_covering ∈ bigW := bw 934 (by decide +kernel) (by decide +kernel)
theorem ML_X5_covering : ML yX5_covering cX5_covering 9 (some .int) 2 := ⟨wd_933, wd_934, wd_108, wd_935, ⟨by decide +kernel, by decide +kernel⟩, by decide +kernel⟩
theorem wd_956 : Cond.constantLong RX11 372 (4000000000000000000 : Int64) ∈ bigW := bw 956 (by decide +kernel) (by decide +kernel)
theorem wd_952 : Cond.methodLink RX11 279 yX11_refuseLong ∈ bigW := bw 952 (by decide +kernel) (by decide +kernel)
theorem wd_955 : Cond.code yX11_refuseLong cX11_refuseLong 2 (some .long) ∈ bigW := bw 955 (by decide +kernel) (by decide +kernel)
theorem wd_954 : Cond.instanceMethod yX11_refuseLong ∈ bigW := bw 954 (by decide +kernel) (by decide +kernel)
theorem wd_34 : Cond.selects RX11 yX11_refuseLong yX11_refuseLong ∈ bigW := bw 34 (by decide +kernel) (by decide +kernel)
theorem ML_X11_refuseLong : ML yX11_refuseLong cX11_refuseLong 2 (some .long) 1 := ⟨wd_954, wd_34, wd_98, wd_955, ⟨by decide +kernel, by decide +kernel⟩, by decide +kernel⟩
theorem wd_957 : Cond.methodLink RX11 283 yX2_songRows ∈ bigW := bw 957 (by decide +kernel) (by decide +kernel)
theorem wd_960 : Cond.code yX2_songRows cX2_songRows 6 (some .long) ∈ bigW := bw 960 (by decide +kernel) (by decide +kernel)
theorem wd_958 : Cond.instanceMethod yX2_songRows ∈ bigW := bw 958 (by decide +kernel) (by decide +kernel)
theorem wd_959 : Cond.selects RX2 yX2_songRows yX2_songRows ∈ bigW := bw 959 (by decide +kernel) (by decide +kernel)
theorem ML_X2_songRows : ML yX2_songRows cX2_songRows 6 (some .long) 2 := ⟨wd_958, wd_959, wd_107, wd_960, ⟨by decide +kernel, by decide +kernel⟩, by decide +kernel⟩
theorem wd_977 : Cond.methodLink RX11 287 yX2_firstCaught ∈ bigW := bw 977 (by decide +kernel) (by decide +kernel)
theorem wd_980 : Cond.code yX2_firstCaught cX2_firstCaught 5 (some .int) ∈ bigW := bw 980 (by decide +kernel) (by decide +kernel)
theorem wd_978 : Cond.instanceMethod yX2_firstCaught ∈ bigW := bw 978 (by decide +kernel) (by decide +kernel)
theorem wd_979 : Cond.selects RX2 yX2_firstCaught yX2_firstCaught ∈ bigW := bw 979 (by decide +kernel) (by decide +kernel)
theorem ML_X2_firstCaught : ML yX2_firstCaught cX2_firstCaught 5 (some .int) 1 := ⟨wd_978, wd_979, wd_107, wd_980, ⟨by decide +kernel, by decide +kernel⟩, by decide +kernel⟩
theorem wd_385 : Cond.fieldLink RX11 95 "SecondHelping" "luck" "LSecondHelping$Luck;" ∈ bigW := bw 385 (by decide +kernel) (by decide +kernel)
theorem FL_X11_95 : FL RX11 95 11 12 := ⟨_, _, _, rfl, in_X11, by decide, wd_385⟩
theorem wd_1005 : Cond.methodLink RX11 293 yX4_meanNext ∈ bigW := bw 1005 (by decide +kernel) (by decide +kernel)
theorem wd_1008 : Cond.code yX4_meanNext cX4_meanNext 5 (some .long) ∈ bigW := bw 1008 (by decide +kernel) (by decide +kernel)
theorem wd_1006 : Cond.instanceMethod yX4_meanNext ∈ bigW := bw 1006 (by decide +kernel) (by decide +kernel)
theorem wd_1007 : Cond.selects RX4 yX4_meanNext yX4_meanNext ∈ bigW := bw 1007 (by decide +kernel) (by decide +kernel)
theorem ML_X4_meanNext : ML yX4_meanNext cX4_meanNext 5 (some .long) 1 := ⟨wd_1006, wd_1007, wd_109, wd_1008, ⟨by decide +kernel, by decide +kernel⟩, by decide +kernel⟩
theorem wd_1014 : Cond.methodLink RX11 296 yX5_closestTwo ∈ bigW := bw 1014 (by decide +kernel) (by decide +kernel)
theorem wd_1017 : Cond.code yX5_closestTwo cX5_closestTwo 7 (some .int) ∈ bigW := bw 1017 (by decide +kernel) (by decide +kernel)
theorem wd_1015 : Cond.instanceMethod yX5_closestTwo ∈ bigW := bw 1015 (by decide +kernel) (by decide +kernel)
theorem wd_1016 : Cond.selects RX5 yX5_closestTwo yX5_closestTwo ∈ bigW := bw 1016 (by decide +kernel) (by decide +kernel)
theorem ML_X5_closestTwo : ML yX5_closestTwo cX5_closestTwo 7 (some .int) 1 := ⟨wd_1015, wd_1016, wd_108, wd_1017, ⟨by decide +kernel, by decide +kernel⟩, by decide +kernel⟩
theorem wd_1022 : Cond.methodLink RX11 299 yX2_shortestChain ∈ bigW := bw 1022 (by decide +kernel) (by decide +kernel)
theorem wd_1025 : Cond.code yX2_shortestChain cX2_shortestChain 5 (some .int) ∈ bigW := bw 1025 (by decide +kernel) (by decide +kernel)
theorem wd_1023 : Cond.instanceMethod yX2_shortestChain ∈ bigW := bw 1023 (by decide +kernel) (by decide +kernel)
theorem wd_1024 : Cond.selects RX2 yX2_shortestChain yX2_shortestChain ∈ bigW := bw 1024 (by decide +kernel) (by decide +kernel)
theorem ML_X2_shortestChain : ML yX2_shortestChain cX2_shortestChain 5 (some .int) 2 := ⟨wd_1023, wd_1024, wd_107, wd_1025, ⟨by decide +kernel, by decide +kernel⟩, by decide +kernel⟩
theorem wd_1034 : Cond.methodLink RX11 302 yX2_allHeaps ∈ bigW := bw 1034 (by decide +kernel) (by decide +kernel)
theorem wd_1037 : Cond.code yX2_allHeaps cX2_allHeaps 7 (some .int) ∈ bigW := bw 1037 (by decide +kernel) (by decide +kernel)
theorem wd_1035 : Cond.instanceMethod yX2_allHeaps ∈ bigW := bw 1035 (by decide +kernel) (by decide +kernel)
theorem wd_1036 : Cond.selects RX2 yX2_allHeaps yX2_allHeaps ∈ bigW := bw 1036 (by decide +kernel) (by decide +kernel)
theorem ML_X2_allHeaps : ML yX2_allHeaps cX2_allHeaps 7 (some .int) 1 := ⟨wd_1035, wd_1036, wd_107, wd_1037, ⟨by decide +kernel, by decide +kernel⟩, by decide +kernel⟩
theorem wd_1047 : Cond.methodLink RX11 305 yX3_longestPure ∈ bigW := bw 1047 (by decide +kernel) (by decide +kernel)
theorem wd_1050 : Cond.code yX3_longestPure cX3_longestPure 6 (some .int) ∈ bigW := bw 1050 (by decide +kernel) (by decide +kernel)
theorem wd_1048 : Cond.instanceMethod yX3_longestPure ∈ bigW := bw 1048 (by decide +kernel) (by decide +kernel)
theorem wd_1049 : Cond.selects RX3 yX3_longestPure yX3_longestPure ∈ bigW := bw 1049 (by decide +kernel) (by decide +kernel)
theorem ML_X3_longestPure : ML yX3_longestPure cX3_longestPure 6 (some .int) 1 := ⟨wd_1048, wd_1049, wd_104, wd_1050, ⟨by decide +kernel, by decide +kernel⟩, by decide +kernel⟩
theorem wd_1059 : Cond.methodLink RX11 308 yX7_mildestT ∈ bigW := bw 1059 (by decide +kernel) (by decide +kernel)
theorem wd_1062 : Cond.code yX7_mildestT cX7_mildestT 5 (some .int) ∈ bigW := bw 1062 (by decide +kernel) (by decide +kernel)
theorem wd_1060 : Cond.instanceMethod yX7_mildestT ∈ bigW := bw 1060 (by decide +kernel) (by decide +kernel)
theorem wd_1061 : Cond.selects RX7 yX7_mildestT yX7_mildestT ∈ bigW := bw 1061 (by decide +kernel) (by decide +kernel)
theorem ML_X7_mildestT : ML yX7_mildestT cX7_mildestT 5 (some .int) 0 := ⟨wd_1060, wd_1061, wd_105, wd_1062, ⟨by decide +kernel, by decide +kernel⟩, by decide +kernel⟩
theorem wd_1067 : Cond.methodLink RX11 311 yX6_timesMore ∈ bigW := bw 1067 (by decide +kernel) (by decide +kernel)
theorem wd_1070 : Cond.code yX6_timesMore cX6_timesMore 5 (some .int) ∈ bigW := bw 1070 (by decide +kernel) (by decide +kernel)
theorem wd_1068 : Cond.instanceMethod yX6_timesMore ∈ bigW := bw 1068 (by decide +kernel) (by decide +kernel)
theorem wd_1069 : Cond.selects RX6 yX6_timesMore yX6_timesMore ∈ bigW := bw 1069 (by decide +kernel) (by decide +kernel)
theorem ML_X6_timesMore : ML yX6_timesMore cX6_timesMore 5 (some .int) 2 := ⟨wd_1068, wd_1069, wd_106, wd_1070, ⟨by decide +kernel, by decide +kernel⟩, by decide +kernel⟩
theorem wd_1076 : Cond.methodLink RX11 314 yX3_withoutRepeats ∈ bigW := bw 1076 (by decide +kernel) (by decide +kernel)
theorem wd_1079 : Cond.code yX3_withoutRepeats cX3_withoutRepeats 3 (some .int) ∈ bigW := bw 1079 (by decide +kernel) (by decide +kernel)
theorem wd_1077 : Cond.instanceMethod yX3_withoutRepeats ∈ bigW := bw 1077 (by decide +kernel) (by decide +kernel)
theorem wd_1078 : Cond.selects RX3 yX3_withoutRepeats yX3_withoutRepeats ∈ bigW := bw 1078 (by decide +kernel) (by decide +kernel)
theorem ML_X3_withoutRepeats : ML yX3_withoutRepeats cX3_withoutRepeats 3 (some .int) 0 := ⟨wd_1077, wd_1078, wd_104, wd_1079, ⟨by decide +kernel, by decide +kernel⟩, by decide +kernel⟩
theorem wd_1084 : Cond.methodLink RX11 317 yX6_cheapestSteps ∈ bigW := bw 1084 (by decide +kernel) (by decide +kernel)
theorem wd_1087 : Cond.code yX6_cheapestSteps cX6_cheapestSteps 6 (some .int) ∈ bigW := bw 1087 (by decide +kernel) (by decide +kernel)
theorem wd_1085 : Cond.instanceMethod yX6_cheapestSteps ∈ bigW := bw 1085 (by decide +kernel) (by decide +kernel)
theorem wd_1086 : Cond.selects RX6 yX6_cheapestSteps yX6_cheapestSteps ∈ bigW := bw 1086 (by decide +kernel) (by decide +kernel)
theorem ML_X6_cheapestSteps : ML yX6_cheapestSteps cX6_cheapestSteps 6 (some .int) 2 := ⟨wd_1085, wd_1086, wd_106, wd_1087, ⟨by decide +kernel, by decide +kernel⟩, by decide +kernel⟩
theorem wd_1093 : Cond.methodLink RX11 320 yX6_cheapestTwo ∈ bigW := bw 1093 (by decide +kernel) (by decide +kernel)
theorem wd_1096 : Cond.code yX6_cheapestTwo cX6_cheapestTwo 8 (some .int) ∈ bigW := bw 1096 (by decide +kernel) (by decide +kernel)
theorem wd_1094 : Cond.instanceMethod yX6_cheapestTwo ∈ bigW := bw 1094 (by decide +kernel) (by decide +kernel)
theorem wd_1095 : Cond.selects RX6 yX6_cheapestTwo yX6_cheapestTwo ∈ bigW := bw 1095 (by decide +kernel) (by decide +kernel)
theorem ML_X6_cheapestTwo : ML yX6_cheapestTwo cX6_cheapestTwo 8 (some .int) 2 := ⟨wd_1094, wd_1095, wd_106, wd_1096, ⟨by decide +kernel, by decide +kernel⟩, by decide +kernel⟩
theorem wd_1107 : Cond.methodLink RX11 323 yX6_stepsWithin ∈ bigW := bw 1107 (by decide +kernel) (by decide +kernel)
theorem wd_1110 : Cond.code yX6_stepsWithin cX6_stepsWithin 4 (some .int) ∈ bigW := bw 1110 (by decide +kernel) (by decide +kernel)
theorem wd_1108 : Cond.instanceMethod yX6_stepsWithin ∈ bigW := bw 1108 (by decide +kernel) (by decide +kernel)
theorem wd_1109 : Cond.selects RX6 yX6_stepsWithin yX6_stepsWithin ∈ bigW := bw 1109 (by decide +kernel) (by decide +kernel)
theorem ML_X6_stepsWithin : ML yX6_stepsWithin cX6_stepsWithin 4 (some .int) 1 := ⟨wd_1108, wd_1109, wd_106, wd_1110, ⟨by decide +kernel, by decide +kernel⟩, by decide +kernel⟩
theorem wd_1124 : Cond.methodLink RX11 329 yX5_centre ∈ bigW := bw 1124 (by decide +kernel) (by decide +kernel)
theorem wd_1127 : Cond.code yX5_centre cX5_centre 5 (some .int) ∈ bigW := bw 1127 (by decide +kernel) (by decide +kernel)
theorem wd_1125 : Cond.instanceMethod yX5_centre ∈ bigW := bw 1125 (by decide +kernel) (by decide +kernel)
theorem wd_1126 : Cond.selects RX5 yX5_centre yX5_centre ∈ bigW := bw 1126 (by decide +kernel) (by decide +kernel)
theorem ML_X5_centre : ML yX5_centre cX5_centre 5 (some .int) 0 := ⟨wd_1125, wd_1126, wd_108, wd_1127, ⟨by decide +kernel, by decide +kernel⟩, by decide +kernel⟩
theorem wd_1115 : Cond.methodLink RX11 326 yX5_farthestTwo ∈ bigW := bw 1115 (by decide +kernel) (by decide +kernel)
theorem wd_1118 : Cond.code yX5_farthestTwo cX5_farthestTwo 4 (some .int) ∈ bigW := bw 1118 (by decide +kernel) (by decide +kernel)
theorem wd_1116 : Cond.instanceMethod yX5_farthestTwo ∈ bigW := bw 1116 (by decide +kernel) (by decide +kernel)
theorem wd_1117 : Cond.selects RX5 yX5_farthestTwo yX5_farthestTwo ∈ bigW := bw 1117 (by decide +kernel) (by decide +kernel)
theorem ML_X5_farthestTwo : ML yX5_farthestTwo cX5_farthestTwo 4 (some .int) 0 := ⟨wd_1116, wd_1117, wd_108, wd_1118, ⟨by decide +kernel, by decide +kernel⟩, by decide +kernel⟩
theorem wd_1136 : Cond.methodLink RX11 332 yX5_mostlyHad ∈ bigW := bw 1136 (by decide +kernel) (by decide +kernel)
theorem wd_1139 : Cond.code yX5_mostlyHad cX5_mostlyHad 5 (some .int) ∈ bigW := bw 1139 (by decide +kernel) (by decide +kernel)
theorem wd_1137 : Cond.instanceMethod yX5_mostlyHad ∈ bigW := bw 1137 (by decide +kernel) (by decide +kernel)
theorem wd_1138 : Cond.selects RX5 yX5_mostlyHad yX5_mostlyHad ∈ bigW := bw 1138 (by decide +kernel) (by decide +kernel)
theorem ML_X5_mostlyHad : ML yX5_mostlyHad cX5_mostlyHad 5 (some .int) 0 := ⟨wd_1137, wd_1138, wd_108, wd_1139, ⟨by decide +kernel, by decide +kernel⟩, by decide +kernel⟩
theorem wd_1152 : Cond.methodLink RX11 338 yX3_totalOfKind ∈ bigW := bw 1152 (by decide +kernel) (by decide +kernel)
theorem wd_1155 : Cond.code yX3_totalOfKind cX3_totalOfKind 2 (some .int) ∈ bigW := bw 1155 (by decide +kernel) (by decide +kernel)
theorem wd_1153 : Cond.instanceMethod yX3_totalOfKind ∈ bigW := bw 1153 (by decide +kernel) (by decide +kernel)
theorem wd_1154 : Cond.selects RX3 yX3_totalOfKind yX3_totalOfKind ∈ bigW := bw 1154 (by decide +kernel) (by decide +kernel)
theorem ML_X3_totalOfKind : ML yX3_totalOfKind cX3_totalOfKind 2 (some .int) 1 := ⟨wd_1153, wd_1154, wd_104, wd_1155, ⟨by decide +kernel, by decide +kernel⟩, by decide +kernel⟩
theorem wd_1144 : Cond.methodLink RX11 335 yX3_dearestKind ∈ bigW := bw 1144 (by decide +kernel) (by decide +kernel)
theorem wd_1147 : Cond.code yX3_dearestKind cX3_dearestKind 5 (some .int) ∈ bigW := bw 1147 (by decide +kernel) (by decide +kernel)
theorem wd_1145 : Cond.instanceMethod yX3_dearestKind ∈ bigW := bw 1145 (by decide +kernel) (by decide +kernel)
theorem wd_1146 : Cond.selects RX3 yX3_dearestKind yX3_dearestKind ∈ bigW := bw 1146 (by decide +kernel) (by decide +kernel)
theorem ML_X3_dearestKind : ML yX3_dearestKind cX3_dearestKind 5 (some .int) 0 := ⟨wd_1145, wd_1146, wd_104, wd_1147, ⟨by decide +kernel, by decide +kernel⟩, by decide +kernel⟩
theorem wd_1160 : Cond.methodLink RX11 341 yX3_bestBan ∈ bigW := bw 1160 (by decide +kernel) (by decide +kernel)
theorem wd_1163 : Cond.code yX3_bestBan cX3_bestBan 6 (some .int) ∈ bigW := bw 1163 (by decide +kernel) (by decide +kernel)
theorem wd_1161 : Cond.instanceMethod yX3_bestBan ∈ bigW := bw 1161 (by decide +kernel) (by decide +kernel)
theorem wd_1162 : Cond.selects RX3 yX3_bestBan yX3_bestBan ∈ bigW := bw 1162 (by decide +kernel) (by decide +kernel)
theorem ML_X3_bestBan : ML yX3_bestBan cX3_bestBan 6 (some .int) 1 := ⟨wd_1161, wd_1162, wd_104, wd_1163, ⟨by decide +kernel, by decide +kernel⟩, by decide +kernel⟩
theorem wd_1184 : Cond.methodLink RX11 347 yX3_totalMoved ∈ bigW := bw 1184 (by decide +kernel) (by decide +kernel)
theorem wd_1187 : Cond.code yX3_totalMoved cX3_totalMoved 2 (some .int) ∈ bigW := bw 1187 (by decide +kernel) (by decide +kernel)
theorem wd_1185 : Cond.instanceMethod yX3_totalMoved ∈ bigW := bw 1185 (by decide +kernel) (by decide +kernel)
theorem wd_1186 : Cond.selects RX3 yX3_totalMoved yX3_totalMoved ∈ bigW := bw 1186 (by decide +kernel) (by decide +kernel)
theorem ML_X3_totalMoved : ML yX3_totalMoved cX3_totalMoved 2 (some .int) 1 := ⟨wd_1185, wd_1186, wd_104, wd_1187, ⟨by decide +kernel, by decide +kernel⟩, by decide +kernel⟩
theorem wd_1176 : Cond.methodLink RX11 344 yX3_bestMove ∈ bigW := bw 1176 (by decide +kernel) (by decide +kernel)
theorem wd_1179 : Cond.code yX3_bestMove cX3_bestMove 5 (some .int) ∈ bigW := bw 1179 (by decide +kernel) (by decide +kernel)
theorem wd_1177 : Cond.instanceMethod yX3_bestMove ∈ bigW := bw 1177 (by decide +kernel) (by decide +kernel)
theorem wd_1178 : Cond.selects RX3 yX3_bestMove yX3_bestMove ∈ bigW := bw 1178 (by decide +kernel) (by decide +kernel)
theorem ML_X3_bestMove : ML yX3_bestMove cX3_bestMove 5 (some .int) 0 := ⟨wd_1177, wd_1178, wd_104, wd_1179, ⟨by decide +kernel, by decide +kernel⟩, by decide +kernel⟩
theorem wd_1192 : Cond.methodLink RX11 350 yX5_unlikeSets ∈ bigW := bw 1192 (by decide +kernel) (by decide +kernel)
theorem wd_1195 : Cond.code yX5_unlikeSets cX5_unlikeSets 3 (some .int) ∈ bigW := bw 1195 (by decide +kernel) (by decide +kernel)
theorem wd_1193 : Cond.instanceMethod yX5_unlikeSets ∈ bigW := bw 1193 (by decide +kernel) (by decide +kernel)
theorem wd_1194 : Cond.selects RX5 yX5_unlikeSets yX5_unlikeSets ∈ bigW := bw 1194 (by decide +kernel) (by decide +kernel)
theorem ML_X5_unlikeSets : ML yX5_unlikeSets cX5_unlikeSets 3 (some .int) 0 := ⟨wd_1193, wd_1194, wd_108, wd_1195, ⟨by decide +kernel, by decide +kernel⟩, by decide +kernel⟩
theorem wd_1204 : Cond.methodLink RX11 353 yX3_longestStreak ∈ bigW := bw 1204 (by decide +kernel) (by decide +kernel)
theorem wd_1207 : Cond.code yX3_longestStreak cX3_longestStreak 5 (some .int) ∈ bigW := bw 1207 (by decide +kernel) (by decide +kernel)
theorem wd_1205 : Cond.instanceMethod yX3_longestStreak ∈ bigW := bw 1205 (by decide +kernel) (by decide +kernel)
theorem wd_1206 : Cond.selects RX3 yX3_longestStreak yX3_longestStreak ∈ bigW := bw 1206 (by decide +kernel) (by decide +kernel)
theorem ML_X3_longestStreak : ML yX3_longestStreak cX3_longestStreak 5 (some .int) 0 := ⟨wd_1205, wd_1206, wd_104, wd_1207, ⟨by decide +kernel, by decide +kernel⟩, by decide +kernel⟩
theorem wd_1212 : Cond.methodLink RX11 356 yX9_add ∈ bigW := bw 1212 (by decide +kernel) (by decide +kernel)
theorem wd_102 : Cond.initialized RX9 ∈ bigW := bw 102 (by decide +kernel) (by decide +kernel)
theorem wd_1215 : Cond.code yX9_add cX9_add 2 (some .int) ∈ bigW := bw 1215 (by decide +kernel) (by decide +kernel)
theorem wd_1213 : Cond.instanceMethod yX9_add ∈ bigW := bw 1213 (by decide +kernel) (by decide +kernel)
theorem wd_1214 : Cond.selects RX9 yX9_add yX9_add ∈ bigW := bw 1214 (by decide +kernel) (by decide +kernel)
theorem ML_X9_add : ML yX9_add cX9_add 2 (some .int) 1 := ⟨wd_1213, wd_1214, wd_102, wd_1215, ⟨by decide +kernel, by decide +kernel⟩, by decide +kernel⟩
theorem wd_1220 : Cond.methodLink RX11 357 yX9_firstNotIn ∈ bigW := bw 1220 (by decide +kernel) (by decide +kernel)
theorem wd_1223 : Cond.code yX9_firstNotIn cX9_firstNotIn 3 (some .int) ∈ bigW := bw 1223 (by decide +kernel) (by decide +kernel)
theorem wd_1221 : Cond.instanceMethod yX9_firstNotIn ∈ bigW := bw 1221 (by decide +kernel) (by decide +kernel)
theorem wd_1222 : Cond.selects RX9 yX9_firstNotIn yX9_firstNotIn ∈ bigW := bw 1222 (by decide +kernel) (by decide +kernel)
theorem ML_X9_firstNotIn : ML yX9_firstNotIn cX9_firstNotIn 3 (some .int) 1 := ⟨wd_1221, wd_1222, wd_102, wd_1223, ⟨by decide +kernel, by decide +kernel⟩, by decide +kernel⟩
theorem wd_1233 : Cond.methodLink RX11 360 yX4_weeks ∈ bigW := bw 1233 (by decide +kernel) (by decide +kernel)
theorem wd_1236 : Cond.code yX4_weeks cX4_weeks 10 (some .int) ∈ bigW := bw 1236 (by decide +kernel) (by decide +kernel)
theorem wd_1234 : Cond.instanceMethod yX4_weeks ∈ bigW := bw 1234 (by decide +kernel) (by decide +kernel)
theorem wd_1235 : Cond.selects RX4 yX4_weeks yX4_weeks ∈ bigW := bw 1235 (by decide +kernel) (by decide +kernel)
theorem ML_X4_weeks : ML yX4_weeks cX4_weeks 10 (some .int) 3 := ⟨wd_1234, wd_1235, wd_109, wd_1236, ⟨by decide +kernel, by decide +kernel⟩, by decide +kernel⟩
theorem wd_374 : Cond.fieldLink RX11 16 "SecondHelping" "taken" "LSecondHelping$Board;" ∈ bigW := bw 374 (by decide +kernel) (by decide +kernel)
theorem FL_X11_16 : FL RX11 16 11 1 := ⟨_, _, _, rfl, in_X11, by decide, wd_374⟩
theorem wd_1246 : Cond.methodLink RX11 363 yX0_become ∈ bigW := bw 1246 (by decide +kernel) (by decide +kernel)
theorem wd_375 : Cond.fieldLink RX11 19 "SecondHelping" "isTaken" "Z" ∈ bigW := bw 375 (by decide +kernel) (by decide +kernel)
theorem FL_X11_19 : FL RX11 19 11 2 := ⟨_, _, _, rfl, in_X11, by decide, wd_375⟩
theorem FW_X11_2 : FW 11 2 .boolean := ⟨_, _, _, tyX11, rfl, tyX11_ok, nmX11, by decide +kernel, by decide +kernel⟩
theorem wd_1255 : Cond.methodLink RX11 366 yX5_allCounted ∈ bigW := bw 1255 (by decide +kernel) (by decide +kernel)
theorem wd_1258 : Cond.code yX5_allCounted cX5_allCounted 3 (some .int) ∈ bigW := bw 1258 (by decide +kernel) (by decide +kernel)
theorem wd_1256 : Cond.instanceMethod yX5_allCounted ∈ bigW := bw 1256 (by decide +kernel) (by decide +kernel)
theorem wd_1257 : Cond.selects RX5 yX5_allCounted yX5_allCounted ∈ bigW := bw 1257 (by decide +kernel) (by decide +kernel)
theorem ML_X5_allCounted : ML yX5_allCounted cX5_allCounted 3 (some .int) 0 := ⟨wd_1256, wd_1257, wd_108, wd_1258, ⟨by decide +kernel, by decide +kernel⟩, by decide +kernel⟩
theorem wd_1259 : Cond.methodLink RX11 369 yX11_countRefused ∈ bigW := bw 1259 (by decide +kernel) (by decide +kernel)
theorem wd_1262 : Cond.code yX11_countRefused cX11_countRefused 2 (some .int) ∈ bigW := bw 1262 (by decide +kernel) (by decide +kernel)
theorem wd_1261 : Cond.instanceMethod yX11_countRefused ∈ bigW := bw 1261 (by decide +kernel) (by decide +kernel)
theorem wd_48 : Cond.selects RX11 yX11_countRefused yX11_countRefused ∈ bigW := bw 48 (by decide +kernel) (by decide +kernel)
theorem ML_X11_countRefused : ML yX11_countRefused cX11_countRefused 2 (some .int) 1 := ⟨wd_1261, wd_48, wd_98, wd_1262, ⟨by decide +kernel, by decide +kernel⟩, by decide +kernel⟩
theorem wd_1269 : Cond.fieldLink RX12 7 "SecondHelpingModel" "refused" "[I" ∈ bigW := bw 1269 (by decide +kernel) (by decide +kernel)
theorem FL_X12_7 : FL RX12 7 12 0 := ⟨_, _, _, rfl, in_X12, by decide, wd_1269⟩
theorem wd_1644 : Cond.constantLong RX12 66 (4000000000000000000 : Int64) ∈ bigW := bw 1644 (by decide +kernel) (by decide +kernel)
theorem wd_1274 : Cond.fieldLink RX12 62 "SecondHelpingModel" "doings" "I" ∈ bigW := bw 1274 (by decide +kernel) (by decide +kernel)
theorem FL_X12_62 : FL RX12 62 12 5 := ⟨_, _, _, rfl, in_X12, by decide, wd_1274⟩
theorem wd_1361 : Cond.methodLink RX12 68 yX12_bound ∈ bigW := bw 1361 (by decide +kernel) (by decide +kernel)
theorem wd_110 : Cond.initialized RX12 ∈ bigW := bw 110 (by decide +kernel) (by decide +kernel)
theorem wd_1363 : Cond.code yX12_bound cX12_bound 3 (some .int) ∈ bigW := bw 1363 (by decide +kernel) (by decide +kernel)
theorem wd_1362 : Cond.static yX12_bound ∈ bigW := bw 1362 (by decide +kernel) (by decide +kernel)
theorem MS_X12_bound : MS yX12_bound cX12_bound 3 (some .int) 3 := ⟨wd_1362, wd_110, wd_1363, ⟨by decide +kernel, by decide +kernel⟩, by decide +kernel⟩
theorem wd_1282 : Cond.fieldLink RX12 72 "SecondHelpingModel" "taped" "I" ∈ bigW := bw 1282 (by decide +kernel) (by decide +kernel)
theorem FL_X12_72 : FL RX12 72 12 13 := ⟨_, _, _, rfl, in_X12, by decide, wd_1282⟩
theorem wd_1278 : Cond.fieldLink RX12 25 "SecondHelpingModel" "tape" "[I" ∈ bigW := bw 1278 (by decide +kernel) (by decide +kernel)
theorem FL_X12_25 : FL RX12 25 12 9 := ⟨_, _, _, rfl, in_X12, by decide, wd_1278⟩
theorem FW_X12_13 : FW 12 13 .int := ⟨_, _, _, tyX12, rfl, tyX12_ok, nmX12, by decide +kernel, by decide +kernel⟩
theorem wd_1364 : Cond.methodLink RX12 75 yX12_no ∈ bigW := bw 1364 (by decide +kernel) (by decide +kernel)
theorem wd_1367 : Cond.code yX12_no cX12_no 2 (some .int) ∈ bigW := bw 1367 (by decide +kernel) (by decide +kernel)
theorem wd_1366 : Cond.instanceMethod yX12_no ∈ bigW := bw 1366 (by decide +kernel) (by decide +kernel)
theorem wd_49 : Cond.selects RX12 yX12_no yX12_no ∈ bigW := bw 49 (by decide +kernel) (by decide +kernel)
theorem ML_X12_no : ML yX12_no cX12_no 2 (some .int) 1 := ⟨wd_1366, wd_49, wd_110, wd_1367, ⟨by decide +kernel, by decide +kernel⟩, by decide +kernel⟩
theorem wd_1283 : Cond.fieldLink RX12 79 "SecondHelpingModel" "at" "I" ∈ bigW := bw 1283 (by decide +kernel) (by decide +kernel)
theorem FL_X12_79 : FL RX12 79 12 14 := ⟨_, _, _, rfl, in_X12, by decide, wd_1283⟩
theorem wd_1281 : Cond.fieldLink RX12 34 "SecondHelpingModel" "told" "[I" ∈ bigW := bw 1281 (by decide +kernel) (by decide +kernel)
theorem FL_X12_34 : FL RX12 34 12 12 := ⟨_, _, _, rfl, in_X12, by decide, wd_1281⟩
theorem wd_1376 : Cond.methodLink RX12 82 yX12_peeked ∈ bigW := bw 1376 (by decide +kernel) (by decide +kernel)
theorem wd_1379 : Cond.code yX12_peeked cX12_peeked 1 (some .int) ∈ bigW := bw 1379 (by decide +kernel) (by decide +kernel)
theorem wd_1378 : Cond.instanceMethod yX12_peeked ∈ bigW := bw 1378 (by decide +kernel) (by decide +kernel)
theorem wd_51 : Cond.selects RX12 yX12_peeked yX12_peeked ∈ bigW := bw 51 (by decide +kernel) (by decide +kernel)
theorem ML_X12_peeked : ML yX12_peeked cX12_peeked 1 (some .int) 0 := ⟨wd_1378, wd_51, wd_110, wd_1379, ⟨by decide +kernel, by decide +kernel⟩, by decide +kernel⟩
theorem wd_1388 : Cond.methodLink RX12 86 yX12_isIn ∈ bigW := bw 1388 (by decide +kernel) (by decide +kernel)
theorem wd_1390 : Cond.code yX12_isIn cX12_isIn 3 (some .boolean) ∈ bigW := bw 1390 (by decide +kernel) (by decide +kernel)
theorem wd_1389 : Cond.static yX12_isIn ∈ bigW := bw 1389 (by decide +kernel) (by decide +kernel)
theorem MS_X12_isIn : MS yX12_isIn cX12_isIn 3 (some .boolean) 3 := ⟨wd_1389, wd_110, wd_1390, ⟨by decide +kernel, by decide +kernel⟩, by decide +kernel⟩
theorem FW_X12_14 : FW 12 14 .int := ⟨_, _, _, tyX12, rfl, tyX12_ok, nmX12, by decide +kernel, by decide +kernel⟩
theorem wd_1384 : Cond.methodLink RX12 90 yX12_readsDigits ∈ bigW := bw 1384 (by decide +kernel) (by decide +kernel)
theorem wd_1387 : Cond.code yX12_readsDigits cX12_readsDigits 5 (some .boolean) ∈ bigW := bw 1387 (by decide +kernel) (by decide +kernel)
theorem wd_1386 : Cond.instanceMethod yX12_readsDigits ∈ bigW := bw 1386 (by decide +kernel) (by decide +kernel)
theorem wd_53 : Cond.selects RX12 yX12_readsDigits yX12_readsDigits ∈ bigW := bw 53 (by decide +kernel) (by decide +kernel)
theorem ML_X12_readsDigits : ML yX12_readsDigits cX12_readsDigits 5 (some .boolean) 2 := ⟨wd_1386, wd_53, wd_110, wd_1387, ⟨by decide +kernel, by decide +kernel⟩, by decide +kernel⟩
theorem wd_1279 : Cond.fieldLink RX12 28 "SecondHelpingModel" "letter" "[I" ∈ bigW := bw 1279 (by decide +kernel) (by decide +kernel)
theorem FL_X12_28 : FL RX12 28 12 10 := ⟨_, _, _, rfl, in_X12, by decide, wd_1279⟩
theorem wd_1284 : Cond.fieldLink RX12 94 "SecondHelpingModel" "statements" "I" ∈ bigW := bw 1284 (by decide +kernel) (by decide +kernel)
theorem FL_X12_94 : FL RX12 94 12 15 := ⟨_, _, _, rfl, in_X12, by decide, wd_1284⟩
theorem wd_1280 : Cond.fieldLink RX12 31 "SecondHelpingModel" "letterAt" "[I" ∈ bigW := bw 1280 (by decide +kernel) (by decide +kernel)
theorem FL_X12_31 : FL RX12 31 12 11 := ⟨_, _, _, rfl, in_X12, by decide, wd_1280⟩
theorem wd_1380 : Cond.methodLink RX12 97 yX12_readsAll ∈ bigW := bw 1380 (by decide +kernel) (by decide +kernel)
theorem wd_1383 : Cond.code yX12_readsAll cX12_readsAll 3 (some .boolean) ∈ bigW := bw 1383 (by decide +kernel) (by decide +kernel)
theorem wd_1382 : Cond.instanceMethod yX12_readsAll ∈ bigW := bw 1382 (by decide +kernel) (by decide +kernel)
theorem wd_52 : Cond.selects RX12 yX12_readsAll yX12_readsAll ∈ bigW := bw 52 (by decide +kernel) (by decide +kernel)
theorem ML_X12_readsAll : ML yX12_readsAll cX12_readsAll 3 (some .boolean) 2 := ⟨wd_1382, wd_52, wd_110, wd_1383, ⟨by decide +kernel, by decide +kernel⟩, by decide +kernel⟩
theorem wd_1270 : Cond.fieldLink RX12 13 "SecondHelpingModel" "kind" "[I" ∈ bigW := bw 1270 (by decide +kernel) (by decide +kernel)
theorem FL_X12_13 : FL RX12 13 12 1 := ⟨_, _, _, rfl, in_X12, by decide, wd_1270⟩
theorem wd_1271 : Cond.fieldLink RX12 16 "SecondHelpingModel" "figure" "[I" ∈ bigW := bw 1271 (by decide +kernel) (by decide +kernel)
theorem FL_X12_16 : FL RX12 16 12 2 := ⟨_, _, _, rfl, in_X12, by decide, wd_1271⟩
theorem wd_1272 : Cond.fieldLink RX12 19 "SecondHelpingModel" "marked" "[I" ∈ bigW := bw 1272 (by decide +kernel) (by decide +kernel)
theorem FL_X12_19 : FL RX12 19 12 3 := ⟨_, _, _, rfl, in_X12, by decide, wd_1272⟩
theorem FW_X12_5 : FW 12 5 .int := ⟨_, _, _, tyX12, rfl, tyX12_ok, nmX12, by decide +kernel, by decide +kernel⟩
theorem wd_1407 : Cond.methodLink RX12 100 yX12_adds ∈ bigW := bw 1407 (by decide +kernel) (by decide +kernel)
theorem wd_1410 : Cond.code yX12_adds cX12_adds 4 none ∈ bigW := bw 1410 (by decide +kernel) (by decide +kernel)
theorem wd_1409 : Cond.instanceMethod yX12_adds ∈ bigW := bw 1409 (by decide +kernel) (by decide +kernel)
theorem wd_58 : Cond.selects RX12 yX12_adds yX12_adds ∈ bigW := bw 58 (by decide +kernel) (by decide +kernel)
theorem ML_X12_adds : ML yX12_adds cX12_adds 4 none 3 := ⟨wd_1409, wd_58, wd_110, wd_1410, ⟨by decide +kernel, by decide +kernel⟩, by decide +kernel⟩
theorem wd_1276 : Cond.fieldLink RX12 111 "SecondHelpingModel" "type" "I" ∈ bigW := bw 1276 (by decide +kernel) (by decide +kernel)
theorem FL_X12_111 : FL RX12 111 12 7 := ⟨_, _, _, rfl, in_X12, by decide, wd_1276⟩
theorem FW_X12_7 : FW 12 7 .int := ⟨_, _, _, tyX12, rfl, tyX12_ok, nmX12, by decide +kernel, by decide +kernel⟩
theorem wd_1277 : Cond.fieldLink RX12 114 "SecondHelpingModel" "tee" "I" ∈ bigW := bw 1277 (by decide +kernel) (by decide +kernel)
theorem FL_X12_114 : FL RX12 114 12 8 := ⟨_, _, _, rfl, in_X12, by decide, wd_1277⟩
theorem FW_X12_8 : FW 12 8 .int := ⟨_, _, _, tyX12, rfl, tyX12_ok, nmX12, by decide +kernel, by decide +kernel⟩
theorem wd_1411 : Cond.methodLink RX12 104 yX12_isDoing ∈ bigW := bw 1411 (by decide +kernel) (by decide +kernel)
theorem wd_1414 : Cond.code yX12_isDoing cX12_isDoing 2 (some .boolean) ∈ bigW := bw 1414 (by decide +kernel) (by decide +kernel)
theorem wd_1413 : Cond.instanceMethod yX12_isDoing ∈ bigW := bw 1413 (by decide +kernel) (by decide +kernel)
theorem wd_59 : Cond.selects RX12 yX12_isDoing yX12_isDoing ∈ bigW := bw 59 (by decide +kernel) (by decide +kernel)
theorem ML_X12_isDoing : ML yX12_isDoing cX12_isDoing 2 (some .boolean) 1 := ⟨wd_1413, wd_59, wd_110, wd_1414, ⟨by decide +kernel, by decide +kernel⟩, by decide +kernel⟩
theorem wd_1415 : Cond.methodLink RX12 117 yX12_isMark ∈ bigW := bw 1415 (by decide +kernel) (by decide +kernel)
theorem wd_1417 : Cond.code yX12_isMark cX12_isMark 1 (some .boolean) ∈ bigW := bw 1417 (by decide +kernel) (by decide +kernel)
theorem wd_1416 : Cond.static yX12_isMark ∈ bigW := bw 1416 (by decide +kernel) (by decide +kernel)
theorem MS_X12_isMark : MS yX12_isMark cX12_isMark 1 (some .boolean) 1 := ⟨wd_1416, wd_110, wd_1417, ⟨by decide +kernel, by decide +kernel⟩, by decide +kernel⟩
theorem wd_1275 : Cond.fieldLink RX12 108 "SecondHelpingModel" "places" "I" ∈ bigW := bw 1275 (by decide +kernel) (by decide +kernel)
theorem FL_X12_108 : FL RX12 108 12 6 := ⟨_, _, _, rfl, in_X12, by decide, wd_1275⟩
theorem wd_1273 : Cond.fieldLink RX12 22 "SecondHelpingModel" "log" "[I" ∈ bigW := bw 1273 (by decide +kernel) (by decide +kernel)
theorem FL_X12_22 : FL RX12 22 12 4 := ⟨_, _, _, rfl, in_X12, by decide, wd_1273⟩
theorem FW_X12_6 : FW 12 6 .int := ⟨_, _, _, tyX12, rfl, tyX12_ok, nmX12, by decide +kernel, by decide +kernel⟩
theorem wd_1287 : Cond.fieldLink RX12 134 "SecondHelpingModel" "isKeeping" "Z" ∈ bigW := bw 1287 (by decide +kernel) (by decide +kernel)
theorem FL_X12_134 : FL RX12 134 12 18 := ⟨_, _, _, rfl, in_X12, by decide, wd_1287⟩
theorem wd_1285 : Cond.fieldLink RX12 37 "SecondHelpingModel" "kept" "[I" ∈ bigW := bw 1285 (by decide +kernel) (by decide +kernel)
theorem FL_X12_37 : FL RX12 37 12 16 := ⟨_, _, _, rfl, in_X12, by decide, wd_1285⟩
theorem wd_1288 : Cond.fieldLink RX12 138 "SecondHelpingModel" "cursor" "I" ∈ bigW := bw 1288 (by decide +kernel) (by decide +kernel)
theorem FL_X12_138 : FL RX12 138 12 19 := ⟨_, _, _, rfl, in_X12, by decide, wd_1288⟩
theorem FW_X12_19 : FW 12 19 .int := ⟨_, _, _, tyX12, rfl, tyX12_ok, nmX12, by decide +kernel, by decide +kernel⟩
theorem FW_X12_18 : FW 12 18 .boolean := ⟨_, _, _, tyX12, rfl, tyX12_ok, nmX12, by decide +kernel, by decide +kernel⟩
theorem wd_1395 : Cond.methodLink RX12 141 yX12_passes ∈ bigW := bw 1395 (by decide +kernel) (by decide +kernel)
theorem wd_1398 : Cond.code yX12_passes cX12_passes 3 none ∈ bigW := bw 1398 (by decide +kernel) (by decide +kernel)
theorem wd_1397 : Cond.instanceMethod yX12_passes ∈ bigW := bw 1397 (by decide +kernel) (by decide +kernel)
theorem wd_55 : Cond.selects RX12 yX12_passes yX12_passes ∈ bigW := bw 55 (by decide +kernel) (by decide +kernel)
theorem ML_X12_passes : ML yX12_passes cX12_passes 3 none 1 := ⟨wd_1397, wd_55, wd_110, wd_1398, ⟨by decide +kernel, by decide +kernel⟩, by decide +kernel⟩
theorem wd_1399 : Cond.methodLink RX12 145 yX12_passOne ∈ bigW := bw 1399 (by decide +kernel) (by decide +kernel)
theorem wd_1402 : Cond.code yX12_passOne cX12_passOne 3 (some .int) ∈ bigW := bw 1402 (by decide +kernel) (by decide +kernel)
theorem wd_1401 : Cond.instanceMethod yX12_passOne ∈ bigW := bw 1401 (by decide +kernel) (by decide +kernel)
theorem wd_56 : Cond.selects RX12 yX12_passOne yX12_passOne ∈ bigW := bw 56 (by decide +kernel) (by decide +kernel)
theorem ML_X12_passOne : ML yX12_passOne cX12_passOne 3 (some .int) 1 := ⟨wd_1401, wd_56, wd_110, wd_1402, ⟨by decide +kernel, by decide +kernel⟩, by decide +kernel⟩
theorem FW_X12_15 : FW 12 15 .int := ⟨_, _, _, tyX12, rfl, tyX12_ok, nmX12, by decide +kernel, by decide +kernel⟩
theorem wd_1372 : Cond.methodLink RX12 120 yX12_statement ∈ bigW := bw 1372 (by decide +kernel) (by decide +kernel)
theorem wd_1375 : Cond.code yX12_statement cX12_statement 2 (some .boolean) ∈ bigW := bw 1375 (by decide +kernel) (by decide +kernel)
theorem wd_1374 : Cond.instanceMethod yX12_statement ∈ bigW := bw 1374 (by decide +kernel) (by decide +kernel)
theorem wd_50 : Cond.selects RX12 yX12_statement yX12_statement ∈ bigW := bw 50 (by decide +kernel) (by decide +kernel)
theorem ML_X12_statement : ML yX12_statement cX12_statement 2 (some .boolean) 0 := ⟨wd_1374, wd_50, wd_110, wd_1375, ⟨by decide +kernel, by decide +kernel⟩, by decide +kernel⟩
theorem wd_1391 : Cond.methodLink RX12 124 yX12_passesAll ∈ bigW := bw 1391 (by decide +kernel) (by decide +kernel)
theorem wd_1394 : Cond.code yX12_passesAll cX12_passesAll 3 none ∈ bigW := bw 1394 (by decide +kernel) (by decide +kernel)
theorem wd_1393 : Cond.instanceMethod yX12_passesAll ∈ bigW := bw 1393 (by decide +kernel) (by decide +kernel)
theorem wd_54 : Cond.selects RX12 yX12_passesAll yX12_passesAll ∈ bigW := bw 54 (by decide +kernel) (by decide +kernel)
theorem ML_X12_passesAll : ML yX12_passesAll cX12_passesAll 3 none 2 := ⟨wd_1393, wd_54, wd_110, wd_1394, ⟨by decide +kernel, by decide +kernel⟩, by decide +kernel⟩
theorem wd_1289 : Cond.fieldLink RX12 131 "SecondHelpingModel" "backs" "I" ∈ bigW := bw 1289 (by decide +kernel) (by decide +kernel)
theorem FL_X12_131 : FL RX12 131 12 20 := ⟨_, _, _, rfl, in_X12, by decide, wd_1289⟩
theorem FW_X12_20 : FW 12 20 .int := ⟨_, _, _, tyX12, rfl, tyX12_ok, nmX12, by decide +kernel, by decide +kernel⟩
theorem wd_1403 : Cond.methodLink RX12 128 yX12_comes ∈ bigW := bw 1403 (by decide +kernel) (by decide +kernel)
theorem wd_1406 : Cond.code yX12_comes cX12_comes 4 (some .boolean) ∈ bigW := bw 1406 (by decide +kernel) (by decide +kernel)
theorem wd_1405 : Cond.instanceMethod yX12_comes ∈ bigW := bw 1405 (by decide +kernel) (by decide +kernel)
theorem wd_57 : Cond.selects RX12 yX12_comes yX12_comes ∈ bigW := bw 57 (by decide +kernel) (by decide +kernel)
theorem ML_X12_comes : ML yX12_comes cX12_comes 4 (some .boolean) 1 := ⟨wd_1405, wd_57, wd_110, wd_1406, ⟨by decide +kernel, by decide +kernel⟩, by decide +kernel⟩
theorem wd_1286 : Cond.fieldLink RX12 148 "SecondHelpingModel" "hasImage" "Z" ∈ bigW := bw 1286 (by decide +kernel) (by decide +kernel)
theorem FL_X12_148 : FL RX12 148 12 17 := ⟨_, _, _, rfl, in_X12, by decide, wd_1286⟩
theorem FW_X12_17 : FW 12 17 .boolean := ⟨_, _, _, tyX12, rfl, tyX12_ok, nmX12, by decide +kernel, by decide +kernel⟩
theorem wd_1458 : Cond.methodLink RX12 151 yX12_bits ∈ bigW := bw 1458 (by decide +kernel) (by decide +kernel)
theorem wd_1460 : Cond.code yX12_bits cX12_bits 3 (some .int) ∈ bigW := bw 1460 (by decide +kernel) (by decide +kernel)
theorem wd_1459 : Cond.static yX12_bits ∈ bigW := bw 1459 (by decide +kernel) (by decide +kernel)
theorem MS_X12_bits : MS yX12_bits cX12_bits 3 (some .int) 1 := ⟨wd_1459, wd_110, wd_1460, ⟨by decide +kernel, by decide +kernel⟩, by decide +kernel⟩
theorem wd_1454 : Cond.methodLink RX12 154 yX12_areSame ∈ bigW := bw 1454 (by decide +kernel) (by decide +kernel)
theorem wd_1457 : Cond.code yX12_areSame cX12_areSame 3 (some .boolean) ∈ bigW := bw 1457 (by decide +kernel) (by decide +kernel)
theorem wd_1456 : Cond.instanceMethod yX12_areSame ∈ bigW := bw 1456 (by decide +kernel) (by decide +kernel)
theorem wd_63 : Cond.selects RX12 yX12_areSame yX12_areSame ∈ bigW := bw 63 (by decide +kernel) (by decide +kernel)
theorem ML_X12_areSame : ML yX12_areSame cX12_areSame 3 (some .boolean) 2 := ⟨wd_1456, wd_63, wd_110, wd_1457, ⟨by decide +kernel, by decide +kernel⟩, by decide +kernel⟩
theorem wd_1450 : Cond.methodLink RX12 157 yX12_repeatsAt ∈ bigW := bw 1450 (by decide +kernel) (by decide +kernel)
theorem wd_1453 : Cond.code yX12_repeatsAt cX12_repeatsAt 5 (some .int) ∈ bigW := bw 1453 (by decide +kernel) (by decide +kernel)
theorem wd_1452 : Cond.instanceMethod yX12_repeatsAt ∈ bigW := bw 1452 (by decide +kernel) (by decide +kernel)
theorem wd_62 : Cond.selects RX12 yX12_repeatsAt yX12_repeatsAt ∈ bigW := bw 62 (by decide +kernel) (by decide +kernel)
theorem ML_X12_repeatsAt : ML yX12_repeatsAt cX12_repeatsAt 5 (some .int) 2 := ⟨wd_1452, wd_62, wd_110, wd_1453, ⟨by decide +kernel, by decide +kernel⟩, by decide +kernel⟩
theorem wd_1461 : Cond.methodLink RX12 161 yX12_dueOf ∈ bigW := bw 1461 (by decide +kernel) (by decide +kernel)
theorem wd_1464 : Cond.code yX12_dueOf cX12_dueOf 4 (some .int) ∈ bigW := bw 1464 (by decide +kernel) (by decide +kernel)
theorem wd_1463 : Cond.instanceMethod yX12_dueOf ∈ bigW := bw 1463 (by decide +kernel) (by decide +kernel)
theorem wd_64 : Cond.selects RX12 yX12_dueOf yX12_dueOf ∈ bigW := bw 64 (by decide +kernel) (by decide +kernel)
theorem ML_X12_dueOf : ML yX12_dueOf cX12_dueOf 4 (some .int) 2 := ⟨wd_1463, wd_64, wd_110, wd_1464, ⟨by decide +kernel, by decide +kernel⟩, by decide +kernel⟩
theorem wd_1446 : Cond.methodLink RX12 164 yX12_dueAt ∈ bigW := bw 1446 (by decide +kernel) (by decide +kernel)
theorem wd_1449 : Cond.code yX12_dueAt cX12_dueAt 2 (some .int) ∈ bigW := bw 1449 (by decide +kernel) (by decide +kernel)
theorem wd_1448 : Cond.instanceMethod yX12_dueAt ∈ bigW := bw 1448 (by decide +kernel) (by decide +kernel)
theorem wd_61 : Cond.selects RX12 yX12_dueAt yX12_dueAt ∈ bigW := bw 61 (by decide +kernel) (by decide +kernel)
theorem ML_X12_dueAt : ML yX12_dueAt cX12_dueAt 2 (some .int) 1 := ⟨wd_1448, wd_61, wd_110, wd_1449, ⟨by decide +kernel, by decide +kernel⟩, by decide +kernel⟩
theorem wd_1442 : Cond.methodLink RX12 167 yX12_keepsBack ∈ bigW := bw 1442 (by decide +kernel) (by decide +kernel)
theorem wd_1445 : Cond.code yX12_keepsBack cX12_keepsBack 2 none ∈ bigW := bw 1445 (by decide +kernel) (by decide +kernel)
theorem wd_1444 : Cond.instanceMethod yX12_keepsBack ∈ bigW := bw 1444 (by decide +kernel) (by decide +kernel)
theorem wd_60 : Cond.selects RX12 yX12_keepsBack yX12_keepsBack ∈ bigW := bw 60 (by decide +kernel) (by decide +kernel)
theorem ML_X12_keepsBack : ML yX12_keepsBack cX12_keepsBack 2 none 0 := ⟨wd_1444, wd_60, wd_110, wd_1445, ⟨by decide +kernel, by decide +kernel⟩, by decide +kernel⟩
theorem wd_1489 : Cond.methodLink RX12 170 yX12_isPlace ∈ bigW := bw 1489 (by decide +kernel) (by decide +kernel)
theorem wd_1492 : Cond.code yX12_isPlace cX12_isPlace 2 (some .boolean) ∈ bigW := bw 1492 (by decide +kernel) (by decide +kernel)
theorem wd_1491 : Cond.instanceMethod yX12_isPlace ∈ bigW := bw 1491 (by decide +kernel) (by decide +kernel)
theorem wd_65 : Cond.selects RX12 yX12_isPlace yX12_isPlace ∈ bigW := bw 65 (by decide +kernel) (by decide +kernel)
theorem ML_X12_isPlace : ML yX12_isPlace cX12_isPlace 2 (some .boolean) 1 := ⟨wd_1491, wd_65, wd_110, wd_1492, ⟨by decide +kernel, by decide +kernel⟩, by decide +kernel⟩
theorem wd_1497 : Cond.methodLink RX12 173 yX12_all ∈ bigW := bw 1497 (by decide +kernel) (by decide +kernel)
theorem wd_1500 : Cond.code yX12_all cX12_all 3 (some .int) ∈ bigW := bw 1500 (by decide +kernel) (by decide +kernel)
theorem wd_1499 : Cond.instanceMethod yX12_all ∈ bigW := bw 1499 (by decide +kernel) (by decide +kernel)
theorem wd_66 : Cond.selects RX12 yX12_all yX12_all ∈ bigW := bw 66 (by decide +kernel) (by decide +kernel)
theorem ML_X12_all : ML yX12_all cX12_all 3 (some .int) 0 := ⟨wd_1499, wd_66, wd_110, wd_1500, ⟨by decide +kernel, by decide +kernel⟩, by decide +kernel⟩
theorem wd_1505 : Cond.methodLink RX12 176 yX12_nextOf ∈ bigW := bw 1505 (by decide +kernel) (by decide +kernel)
theorem wd_1508 : Cond.code yX12_nextOf cX12_nextOf 2 (some .int) ∈ bigW := bw 1508 (by decide +kernel) (by decide +kernel)
theorem wd_1507 : Cond.instanceMethod yX12_nextOf ∈ bigW := bw 1507 (by decide +kernel) (by decide +kernel)
theorem wd_67 : Cond.selects RX12 yX12_nextOf yX12_nextOf ∈ bigW := bw 67 (by decide +kernel) (by decide +kernel)
theorem ML_X12_nextOf : ML yX12_nextOf cX12_nextOf 2 (some .int) 1 := ⟨wd_1507, wd_67, wd_110, wd_1508, ⟨by decide +kernel, by decide +kernel⟩, by decide +kernel⟩
theorem wd_1526 : Cond.methodLink RX12 179 yX12_has ∈ bigW := bw 1526 (by decide +kernel) (by decide +kernel)
theorem wd_1528 : Cond.code yX12_has cX12_has 2 (some .boolean) ∈ bigW := bw 1528 (by decide +kernel) (by decide +kernel)
theorem wd_1527 : Cond.static yX12_has ∈ bigW := bw 1527 (by decide +kernel) (by decide +kernel)
theorem MS_X12_has : MS yX12_has cX12_has 2 (some .boolean) 2 := ⟨wd_1527, wd_110, wd_1528, ⟨by decide +kernel, by decide +kernel⟩, by decide +kernel⟩
theorem wd_1290 : Cond.fieldLink RX12 40 "SecondHelpingModel" "leastDue" "[I" ∈ bigW := bw 1290 (by decide +kernel) (by decide +kernel)
theorem FL_X12_40 : FL RX12 40 12 21 := ⟨_, _, _, rfl, in_X12, by decide, wd_1290⟩
theorem wd_1525 : Cond.constant RX12 182 (1000000 : Int32) ∈ bigW := bw 1525 (by decide +kernel) (by decide +kernel)
theorem wd_1529 : Cond.methodLink RX12 183 yX12_dueBehind ∈ bigW := bw 1529 (by decide +kernel) (by decide +kernel)
theorem wd_1532 : Cond.code yX12_dueBehind cX12_dueBehind 5 (some .int) ∈ bigW := bw 1532 (by decide +kernel) (by decide +kernel)
theorem wd_1531 : Cond.instanceMethod yX12_dueBehind ∈ bigW := bw 1531 (by decide +kernel) (by decide +kernel)
theorem wd_69 : Cond.selects RX12 yX12_dueBehind yX12_dueBehind ∈ bigW := bw 69 (by decide +kernel) (by decide +kernel)
theorem ML_X12_dueBehind : ML yX12_dueBehind cX12_dueBehind 5 (some .int) 2 := ⟨wd_1531, wd_69, wd_110, wd_1532, ⟨by decide +kernel, by decide +kernel⟩, by decide +kernel⟩
theorem wd_1521 : Cond.methodLink RX12 186 yX12_findLeast ∈ bigW := bw 1521 (by decide +kernel) (by decide +kernel)
theorem wd_1524 : Cond.code yX12_findLeast cX12_findLeast 5 none ∈ bigW := bw 1524 (by decide +kernel) (by decide +kernel)
theorem wd_1523 : Cond.instanceMethod yX12_findLeast ∈ bigW := bw 1523 (by decide +kernel) (by decide +kernel)
theorem wd_68 : Cond.selects RX12 yX12_findLeast yX12_findLeast ∈ bigW := bw 68 (by decide +kernel) (by decide +kernel)
theorem ML_X12_findLeast : ML yX12_findLeast cX12_findLeast 5 none 1 := ⟨wd_1523, wd_68, wd_110, wd_1524, ⟨by decide +kernel, by decide +kernel⟩, by decide +kernel⟩
theorem wd_1533 : Cond.methodLink RX12 190 yX12_firstOf ∈ bigW := bw 1533 (by decide +kernel) (by decide +kernel)
theorem wd_1536 : Cond.code yX12_firstOf cX12_firstOf 4 (some .int) ∈ bigW := bw 1536 (by decide +kernel) (by decide +kernel)
theorem wd_1535 : Cond.instanceMethod yX12_firstOf ∈ bigW := bw 1535 (by decide +kernel) (by decide +kernel)
theorem wd_70 : Cond.selects RX12 yX12_firstOf yX12_firstOf ∈ bigW := bw 70 (by decide +kernel) (by decide +kernel)
theorem ML_X12_firstOf : ML yX12_firstOf cX12_firstOf 4 (some .int) 2 := ⟨wd_1535, wd_70, wd_110, wd_1536, ⟨by decide +kernel, by decide +kernel⟩, by decide +kernel⟩
theorem wd_1541 : Cond.methodLink RX12 193 yX12_areUnlike ∈ bigW := bw 1541 (by decide +kernel) (by decide +kernel)
theorem wd_1544 : Cond.code yX12_areUnlike cX12_areUnlike 5 (some .boolean) ∈ bigW := bw 1544 (by decide +kernel) (by decide +kernel)
theorem wd_1543 : Cond.instanceMethod yX12_areUnlike ∈ bigW := bw 1543 (by decide +kernel) (by decide +kernel)
theorem wd_71 : Cond.selects RX12 yX12_areUnlike yX12_areUnlike ∈ bigW := bw 71 (by decide +kernel) (by decide +kernel)
theorem ML_X12_areUnlike : ML yX12_areUnlike cX12_areUnlike 5 (some .boolean) 1 := ⟨wd_1543, wd_71, wd_110, wd_1544, ⟨by decide +kernel, by decide +kernel⟩, by decide +kernel⟩
theorem wd_1291 : Cond.fieldLink RX12 43 "SecondHelpingModel" "peopleFor" "[I" ∈ bigW := bw 1291 (by decide +kernel) (by decide +kernel)
theorem FL_X12_43 : FL RX12 43 12 22 := ⟨_, _, _, rfl, in_X12, by decide, wd_1291⟩
theorem wd_1553 : Cond.methodLink RX12 196 yX12_likesOf ∈ bigW := bw 1553 (by decide +kernel) (by decide +kernel)
theorem wd_1556 : Cond.code yX12_likesOf cX12_likesOf 4 (some .int) ∈ bigW := bw 1556 (by decide +kernel) (by decide +kernel)
theorem wd_1555 : Cond.instanceMethod yX12_likesOf ∈ bigW := bw 1555 (by decide +kernel) (by decide +kernel)
theorem wd_72 : Cond.selects RX12 yX12_likesOf yX12_likesOf ∈ bigW := bw 72 (by decide +kernel) (by decide +kernel)
theorem ML_X12_likesOf : ML yX12_likesOf cX12_likesOf 4 (some .int) 1 := ⟨wd_1555, wd_72, wd_110, wd_1556, ⟨by decide +kernel, by decide +kernel⟩, by decide +kernel⟩
theorem wd_1561 : Cond.methodLink RX12 199 yX12_thinks ∈ bigW := bw 1561 (by decide +kernel) (by decide +kernel)
theorem wd_1564 : Cond.code yX12_thinks cX12_thinks 1 none ∈ bigW := bw 1564 (by decide +kernel) (by decide +kernel)
theorem wd_1563 : Cond.instanceMethod yX12_thinks ∈ bigW := bw 1563 (by decide +kernel) (by decide +kernel)
theorem wd_73 : Cond.selects RX12 yX12_thinks yX12_thinks ∈ bigW := bw 73 (by decide +kernel) (by decide +kernel)
theorem ML_X12_thinks : ML yX12_thinks cX12_thinks 1 none 0 := ⟨wd_1563, wd_73, wd_110, wd_1564, ⟨by decide +kernel, by decide +kernel⟩, by decide +kernel⟩
theorem wd_1565 : Cond.methodLink RX12 202 yX12_lays ∈ bigW := bw 1565 (by decide +kernel) (by decide +kernel)
theorem wd_1568 : Cond.code yX12_lays cX12_lays 2 none ∈ bigW := bw 1568 (by decide +kernel) (by decide +kernel)
theorem wd_1567 : Cond.instanceMethod yX12_lays ∈ bigW := bw 1567 (by decide +kernel) (by decide +kernel)
theorem wd_74 : Cond.selects RX12 yX12_lays yX12_lays ∈ bigW := bw 74 (by decide +kernel) (by decide +kernel)
theorem ML_X12_lays : ML yX12_lays cX12_lays 2 none 1 := ⟨wd_1567, wd_74, wd_110, wd_1568, ⟨by decide +kernel, by decide +kernel⟩, by decide +kernel⟩
theorem wd_1569 : Cond.methodLink RX12 205 yX12_forgets ∈ bigW := bw 1569 (by decide +kernel) (by decide +kernel)
theorem wd_1572 : Cond.code yX12_forgets cX12_forgets 1 none ∈ bigW := bw 1572 (by decide +kernel) (by decide +kernel)
theorem wd_1571 : Cond.instanceMethod yX12_forgets ∈ bigW := bw 1571 (by decide +kernel) (by decide +kernel)
theorem wd_75 : Cond.selects RX12 yX12_forgets yX12_forgets ∈ bigW := bw 75 (by decide +kernel) (by decide +kernel)
theorem ML_X12_forgets : ML yX12_forgets cX12_forgets 1 none 0 := ⟨wd_1571, wd_75, wd_110, wd_1572, ⟨by decide +kernel, by decide +kernel⟩, by decide +kernel⟩
theorem wd_1573 : Cond.methodLink RX12 208 yX12_codeOf ∈ bigW := bw 1573 (by decide +kernel) (by decide +kernel)
theorem wd_1575 : Cond.code yX12_codeOf cX12_codeOf 1 (some .int) ∈ bigW := bw 1575 (by decide +kernel) (by decide +kernel)
theorem wd_1574 : Cond.static yX12_codeOf ∈ bigW := bw 1574 (by decide +kernel) (by decide +kernel)
theorem MS_X12_codeOf : MS yX12_codeOf cX12_codeOf 1 (some .int) 1 := ⟨wd_1574, wd_110, wd_1575, ⟨by decide +kernel, by decide +kernel⟩, by decide +kernel⟩
theorem wd_1293 : Cond.fieldLink RX12 211 "SecondHelpingModel" "rowMany" "I" ∈ bigW := bw 1293 (by decide +kernel) (by decide +kernel)
theorem FL_X12_211 : FL RX12 211 12 24 := ⟨_, _, _, rfl, in_X12, by decide, wd_1293⟩
theorem wd_1292 : Cond.fieldLink RX12 46 "SecondHelpingModel" "row" "[I" ∈ bigW := bw 1292 (by decide +kernel) (by decide +kernel)
theorem FL_X12_46 : FL RX12 46 12 23 := ⟨_, _, _, rfl, in_X12, by decide, wd_1292⟩
theorem wd_1580 : Cond.methodLink RX12 214 yX12_isSo ∈ bigW := bw 1580 (by decide +kernel) (by decide +kernel)
theorem wd_1583 : Cond.code yX12_isSo cX12_isSo 3 (some .boolean) ∈ bigW := bw 1583 (by decide +kernel) (by decide +kernel)
theorem wd_1582 : Cond.instanceMethod yX12_isSo ∈ bigW := bw 1582 (by decide +kernel) (by decide +kernel)
theorem wd_76 : Cond.selects RX12 yX12_isSo yX12_isSo ∈ bigW := bw 76 (by decide +kernel) (by decide +kernel)
theorem ML_X12_isSo : ML yX12_isSo cX12_isSo 3 (some .boolean) 0 := ⟨wd_1582, wd_76, wd_110, wd_1583, ⟨by decide +kernel, by decide +kernel⟩, by decide +kernel⟩
theorem wd_1294 : Cond.fieldLink RX12 49 "SecondHelpingModel" "nexts" "[I" ∈ bigW := bw 1294 (by decide +kernel) (by decide +kernel)
theorem FL_X12_49 : FL RX12 49 12 25 := ⟨_, _, _, rfl, in_X12, by decide, wd_1294⟩
theorem wd_1588 : Cond.methodLink RX12 217 yX12_unlikeDues ∈ bigW := bw 1588 (by decide +kernel) (by decide +kernel)
theorem wd_1591 : Cond.code yX12_unlikeDues cX12_unlikeDues 7 (some .int) ∈ bigW := bw 1591 (by decide +kernel) (by decide +kernel)
theorem wd_1590 : Cond.instanceMethod yX12_unlikeDues ∈ bigW := bw 1590 (by decide +kernel) (by decide +kernel)
theorem wd_77 : Cond.selects RX12 yX12_unlikeDues yX12_unlikeDues ∈ bigW := bw 77 (by decide +kernel) (by decide +kernel)
theorem ML_X12_unlikeDues : ML yX12_unlikeDues cX12_unlikeDues 7 (some .int) 1 := ⟨wd_1590, wd_77, wd_110, wd_1591, ⟨by decide +kernel, by decide +kernel⟩, by decide +kernel⟩
theorem wd_1600 : Cond.methodLink RX12 220 yX12_dueOfTwo ∈ bigW := bw 1600 (by decide +kernel) (by decide +kernel)
theorem wd_1603 : Cond.code yX12_dueOfTwo cX12_dueOfTwo 6 (some .int) ∈ bigW := bw 1603 (by decide +kernel) (by decide +kernel)
theorem wd_1602 : Cond.instanceMethod yX12_dueOfTwo ∈ bigW := bw 1602 (by decide +kernel) (by decide +kernel)
theorem wd_78 : Cond.selects RX12 yX12_dueOfTwo yX12_dueOfTwo ∈ bigW := bw 78 (by decide +kernel) (by decide +kernel)
theorem ML_X12_dueOfTwo : ML yX12_dueOfTwo cX12_dueOfTwo 6 (some .int) 1 := ⟨wd_1602, wd_78, wd_110, wd_1603, ⟨by decide +kernel, by decide +kernel⟩, by decide +kernel⟩
theorem wd_1608 : Cond.methodLink RX12 223 yX12_savesAt ∈ bigW := bw 1608 (by decide +kernel) (by decide +kernel)
theorem wd_1611 : Cond.code yX12_savesAt cX12_savesAt 4 (some .int) ∈ bigW := bw 1611 (by decide +kernel) (by decide +kernel)
theorem wd_1610 : Cond.instanceMethod yX12_savesAt ∈ bigW := bw 1610 (by decide +kernel) (by decide +kernel)
theorem wd_79 : Cond.selects RX12 yX12_savesAt yX12_savesAt ∈ bigW := bw 79 (by decide +kernel) (by decide +kernel)
theorem ML_X12_savesAt : ML yX12_savesAt cX12_savesAt 4 (some .int) 1 := ⟨wd_1610, wd_79, wd_110, wd_1611, ⟨by decide +kernel, by decide +kernel⟩, by decide +kernel⟩
theorem wd_1616 : Cond.methodLink RX12 226 yX12_exchanges ∈ bigW := bw 1616 (by decide +kernel) (by decide +kernel)
theorem wd_1619 : Cond.code yX12_exchanges cX12_exchanges 4 none ∈ bigW := bw 1619 (by decide +kernel) (by decide +kernel)
theorem wd_1618 : Cond.instanceMethod yX12_exchanges ∈ bigW := bw 1618 (by decide +kernel) (by decide +kernel)
theorem wd_80 : Cond.selects RX12 yX12_exchanges yX12_exchanges ∈ bigW := bw 80 (by decide +kernel) (by decide +kernel)
theorem ML_X12_exchanges : ML yX12_exchanges cX12_exchanges 4 none 2 := ⟨wd_1618, wd_80, wd_110, wd_1619, ⟨by decide +kernel, by decide +kernel⟩, by decide +kernel⟩
theorem wd_1628 : Cond.methodLink RX12 230 yX12_marksOf ∈ bigW := bw 1628 (by decide +kernel) (by decide +kernel)
theorem wd_1631 : Cond.code yX12_marksOf cX12_marksOf 4 (some .int) ∈ bigW := bw 1631 (by decide +kernel) (by decide +kernel)
theorem wd_1630 : Cond.instanceMethod yX12_marksOf ∈ bigW := bw 1630 (by decide +kernel) (by decide +kernel)
theorem wd_81 : Cond.selects RX12 yX12_marksOf yX12_marksOf ∈ bigW := bw 81 (by decide +kernel) (by decide +kernel)
theorem ML_X12_marksOf : ML yX12_marksOf cX12_marksOf 4 (some .int) 1 := ⟨wd_1630, wd_81, wd_110, wd_1631, ⟨by decide +kernel, by decide +kernel⟩, by decide +kernel⟩
theorem wd_1632 : Cond.methodLink RX12 233 yX12_nextsOf ∈ bigW := bw 1632 (by decide +kernel) (by decide +kernel)
theorem wd_1635 : Cond.code yX12_nextsOf cX12_nextsOf 4 (some .int) ∈ bigW := bw 1635 (by decide +kernel) (by decide +kernel)
theorem wd_1634 : Cond.instanceMethod yX12_nextsOf ∈ bigW := bw 1634 (by decide +kernel) (by decide +kernel)
theorem wd_82 : Cond.selects RX12 yX12_nextsOf yX12_nextsOf ∈ bigW := bw 82 (by decide +kernel) (by decide +kernel)
theorem ML_X12_nextsOf : ML yX12_nextsOf cX12_nextsOf 4 (some .int) 1 := ⟨wd_1634, wd_82, wd_110, wd_1635, ⟨by decide +kernel, by decide +kernel⟩, by decide +kernel⟩
theorem wd_1295 : Cond.fieldLink RX12 52 "SecondHelpingModel" "songsBy" "[J" ∈ bigW := bw 1295 (by decide +kernel) (by decide +kernel)
theorem FL_X12_52 : FL RX12 52 12 26 := ⟨_, _, _, rfl, in_X12, by decide, wd_1295⟩
theorem wd_1296 : Cond.fieldLink RX12 56 "SecondHelpingModel" "songsThen" "[J" ∈ bigW := bw 1296 (by decide +kernel) (by decide +kernel)
theorem FL_X12_56 : FL RX12 56 12 27 := ⟨_, _, _, rfl, in_X12, by decide, wd_1296⟩
theorem wd_1645 : Cond.methodLink RX12 240 yX12_mayFollow ∈ bigW := bw 1645 (by decide +kernel) (by decide +kernel)
theorem wd_1648 : Cond.code yX12_mayFollow cX12_mayFollow 5 (some .boolean) ∈ bigW := bw 1648 (by decide +kernel) (by decide +kernel)
theorem wd_1647 : Cond.instanceMethod yX12_mayFollow ∈ bigW := bw 1647 (by decide +kernel) (by decide +kernel)
theorem wd_84 : Cond.selects RX12 yX12_mayFollow yX12_mayFollow ∈ bigW := bw 84 (by decide +kernel) (by decide +kernel)
theorem ML_X12_mayFollow : ML yX12_mayFollow cX12_mayFollow 5 (some .boolean) 4 := ⟨wd_1647, wd_84, wd_110, wd_1648, ⟨by decide +kernel, by decide +kernel⟩, by decide +kernel⟩
theorem wd_1640 : Cond.methodLink RX12 236 yX12_lowest ∈ bigW := bw 1640 (by decide +kernel) (by decide +kernel)
theorem wd_1643 : Cond.code yX12_lowest cX12_lowest 2 (some .long) ∈ bigW := bw 1643 (by decide +kernel) (by decide +kernel)
theorem wd_1642 : Cond.instanceMethod yX12_lowest ∈ bigW := bw 1642 (by decide +kernel) (by decide +kernel)
theorem wd_83 : Cond.selects RX12 yX12_lowest yX12_lowest ∈ bigW := bw 83 (by decide +kernel) (by decide +kernel)
theorem ML_X12_lowest : ML yX12_lowest cX12_lowest 2 (some .long) 1 := ⟨wd_1642, wd_83, wd_110, wd_1643, ⟨by decide +kernel, by decide +kernel⟩, by decide +kernel⟩
theorem wd_1660 : Cond.methodLink RX12 244 yX12_divisor ∈ bigW := bw 1660 (by decide +kernel) (by decide +kernel)
theorem wd_1662 : Cond.code yX12_divisor cX12_divisor 10 (some .long) ∈ bigW := bw 1662 (by decide +kernel) (by decide +kernel)
theorem wd_1661 : Cond.static yX12_divisor ∈ bigW := bw 1661 (by decide +kernel) (by decide +kernel)
theorem MS_X12_divisor : MS yX12_divisor cX12_divisor 10 (some .long) 2 := ⟨wd_1661, wd_110, wd_1662, ⟨by decide +kernel, by decide +kernel⟩, by decide +kernel⟩
theorem wd_1657 : Cond.methodLink RX12 248 yX12_partOf ∈ bigW := bw 1657 (by decide +kernel) (by decide +kernel)
theorem wd_1659 : Cond.code yX12_partOf cX12_partOf 5 (some .long) ∈ bigW := bw 1659 (by decide +kernel) (by decide +kernel)
theorem wd_1658 : Cond.static yX12_partOf ∈ bigW := bw 1658 (by decide +kernel) (by decide +kernel)
theorem MS_X12_partOf : MS yX12_partOf cX12_partOf 5 (some .long) 3 := ⟨wd_1658, wd_110, wd_1659, ⟨by decide +kernel, by decide +kernel⟩, by decide +kernel⟩
theorem wd_1675 : Cond.methodLink RX12 252 yX12_sameAs ∈ bigW := bw 1675 (by decide +kernel) (by decide +kernel)
theorem wd_1678 : Cond.code yX12_sameAs cX12_sameAs 4 (some .int) ∈ bigW := bw 1678 (by decide +kernel) (by decide +kernel)
theorem wd_1677 : Cond.instanceMethod yX12_sameAs ∈ bigW := bw 1677 (by decide +kernel) (by decide +kernel)
theorem wd_85 : Cond.selects RX12 yX12_sameAs yX12_sameAs ∈ bigW := bw 85 (by decide +kernel) (by decide +kernel)
theorem ML_X12_sameAs : ML yX12_sameAs cX12_sameAs 4 (some .int) 1 := ⟨wd_1677, wd_85, wd_110, wd_1678, ⟨by decide +kernel, by decide +kernel⟩, by decide +kernel⟩
theorem wd_1683 : Cond.methodLink RX12 255 yX12_heapOf ∈ bigW := bw 1683 (by decide +kernel) (by decide +kernel)
theorem wd_1686 : Cond.code yX12_heapOf cX12_heapOf 4 (some .int) ∈ bigW := bw 1686 (by decide +kernel) (by decide +kernel)
theorem wd_1685 : Cond.instanceMethod yX12_heapOf ∈ bigW := bw 1685 (by decide +kernel) (by decide +kernel)
theorem wd_86 : Cond.selects RX12 yX12_heapOf yX12_heapOf ∈ bigW := bw 86 (by decide +kernel) (by decide +kernel)
theorem ML_X12_heapOf : ML yX12_heapOf cX12_heapOf 4 (some .int) 1 := ⟨wd_1685, wd_86, wd_110, wd_1686, ⟨by decide +kernel, by decide +kernel⟩, by decide +kernel⟩
theorem wd_1691 : Cond.methodLink RX12 258 yX12_isPure ∈ bigW := bw 1691 (by decide +kernel) (by decide +kernel)
theorem wd_1694 : Cond.code yX12_isPure cX12_isPure 5 (some .boolean) ∈ bigW := bw 1694 (by decide +kernel) (by decide +kernel)
theorem wd_1693 : Cond.instanceMethod yX12_isPure ∈ bigW := bw 1693 (by decide +kernel) (by decide +kernel)
theorem wd_87 : Cond.selects RX12 yX12_isPure yX12_isPure ∈ bigW := bw 87 (by decide +kernel) (by decide +kernel)
theorem ML_X12_isPure : ML yX12_isPure cX12_isPure 5 (some .boolean) 2 := ⟨wd_1693, wd_87, wd_110, wd_1694, ⟨by decide +kernel, by decide +kernel⟩, by decide +kernel⟩
theorem wd_1297 : Cond.fieldLink RX12 59 "SecondHelpingModel" "more" "[I" ∈ bigW := bw 1297 (by decide +kernel) (by decide +kernel)
theorem FL_X12_59 : FL RX12 59 12 28 := ⟨_, _, _, rfl, in_X12, by decide, wd_1297⟩
theorem wd_1719 : Cond.methodLink RX12 261 yX12_dueWithMore ∈ bigW := bw 1719 (by decide +kernel) (by decide +kernel)
theorem wd_1722 : Cond.code yX12_dueWithMore cX12_dueWithMore 4 (some .int) ∈ bigW := bw 1722 (by decide +kernel) (by decide +kernel)
theorem wd_1721 : Cond.instanceMethod yX12_dueWithMore ∈ bigW := bw 1721 (by decide +kernel) (by decide +kernel)
theorem wd_90 : Cond.selects RX12 yX12_dueWithMore yX12_dueWithMore ∈ bigW := bw 90 (by decide +kernel) (by decide +kernel)
theorem ML_X12_dueWithMore : ML yX12_dueWithMore cX12_dueWithMore 4 (some .int) 1 := ⟨wd_1721, wd_90, wd_110, wd_1722, ⟨by decide +kernel, by decide +kernel⟩, by decide +kernel⟩
theorem wd_1711 : Cond.methodLink RX12 264 yX12_noMore ∈ bigW := bw 1711 (by decide +kernel) (by decide +kernel)
theorem wd_1714 : Cond.code yX12_noMore cX12_noMore 2 none ∈ bigW := bw 1714 (by decide +kernel) (by decide +kernel)
theorem wd_1713 : Cond.instanceMethod yX12_noMore ∈ bigW := bw 1713 (by decide +kernel) (by decide +kernel)
theorem wd_88 : Cond.selects RX12 yX12_noMore yX12_noMore ∈ bigW := bw 88 (by decide +kernel) (by decide +kernel)
theorem ML_X12_noMore : ML yX12_noMore cX12_noMore 2 none 0 := ⟨wd_1713, wd_88, wd_110, wd_1714, ⟨by decide +kernel, by decide +kernel⟩, by decide +kernel⟩
theorem wd_1715 : Cond.methodLink RX12 267 yX12_leastWithMore ∈ bigW := bw 1715 (by decide +kernel) (by decide +kernel)
theorem wd_1718 : Cond.code yX12_leastWithMore cX12_leastWithMore 3 (some .int) ∈ bigW := bw 1718 (by decide +kernel) (by decide +kernel)
theorem wd_1717 : Cond.instanceMethod yX12_leastWithMore ∈ bigW := bw 1717 (by decide +kernel) (by decide +kernel)
theorem wd_89 : Cond.selects RX12 yX12_leastWithMore yX12_leastWithMore ∈ bigW := bw 89 (by decide +kernel) (by decide +kernel)
theorem ML_X12_leastWithMore : ML yX12_leastWithMore cX12_leastWithMore 3 (some .int) 0 := ⟨wd_1717, wd_89, wd_110, wd_1718, ⟨by decide +kernel, by decide +kernel⟩, by decide +kernel⟩
theorem wd_1731 : Cond.methodLink RX12 270 yX12_dueOfPair ∈ bigW := bw 1731 (by decide +kernel) (by decide +kernel)
theorem wd_1734 : Cond.code yX12_dueOfPair cX12_dueOfPair 7 (some .int) ∈ bigW := bw 1734 (by decide +kernel) (by decide +kernel)
theorem wd_1733 : Cond.instanceMethod yX12_dueOfPair ∈ bigW := bw 1733 (by decide +kernel) (by decide +kernel)
theorem wd_91 : Cond.selects RX12 yX12_dueOfPair yX12_dueOfPair ∈ bigW := bw 91 (by decide +kernel) (by decide +kernel)
theorem ML_X12_dueOfPair : ML yX12_dueOfPair cX12_dueOfPair 7 (some .int) 3 := ⟨wd_1733, wd_91, wd_110, wd_1734, ⟨by decide +kernel, by decide +kernel⟩, by decide +kernel⟩
theorem wd_1739 : Cond.methodLink RX12 273 yX12_apartOf ∈ bigW := bw 1739 (by decide +kernel) (by decide +kernel)
theorem wd_1742 : Cond.code yX12_apartOf cX12_apartOf 4 (some .int) ∈ bigW := bw 1742 (by decide +kernel) (by decide +kernel)
theorem wd_1741 : Cond.instanceMethod yX12_apartOf ∈ bigW := bw 1741 (by decide +kernel) (by decide +kernel)
theorem wd_92 : Cond.selects RX12 yX12_apartOf yX12_apartOf ∈ bigW := bw 92 (by decide +kernel) (by decide +kernel)
theorem ML_X12_apartOf : ML yX12_apartOf cX12_apartOf 4 (some .int) 1 := ⟨wd_1741, wd_92, wd_110, wd_1742, ⟨by decide +kernel, by decide +kernel⟩, by decide +kernel⟩
theorem wd_1751 : Cond.methodLink RX12 276 yX12_dueOfKind ∈ bigW := bw 1751 (by decide +kernel) (by decide +kernel)
theorem wd_1754 : Cond.code yX12_dueOfKind cX12_dueOfKind 4 (some .int) ∈ bigW := bw 1754 (by decide +kernel) (by decide +kernel)
theorem wd_1753 : Cond.instanceMethod yX12_dueOfKind ∈ bigW := bw 1753 (by decide +kernel) (by decide +kernel)
theorem wd_93 : Cond.selects RX12 yX12_dueOfKind yX12_dueOfKind ∈ bigW := bw 93 (by decide +kernel) (by decide +kernel)
theorem ML_X12_dueOfKind : ML yX12_dueOfKind cX12_dueOfKind 4 (some .int) 1 := ⟨wd_1753, wd_93, wd_110, wd_1754, ⟨by decide +kernel, by decide +kernel⟩, by decide +kernel⟩
theorem wd_1759 : Cond.methodLink RX12 279 yX12_isDone ∈ bigW := bw 1759 (by decide +kernel) (by decide +kernel)
theorem wd_1762 : Cond.code yX12_isDone cX12_isDone 3 (some .boolean) ∈ bigW := bw 1762 (by decide +kernel) (by decide +kernel)
theorem wd_1761 : Cond.instanceMethod yX12_isDone ∈ bigW := bw 1761 (by decide +kernel) (by decide +kernel)
theorem wd_94 : Cond.selects RX12 yX12_isDone yX12_isDone ∈ bigW := bw 94 (by decide +kernel) (by decide +kernel)
theorem ML_X12_isDone : ML yX12_isDone cX12_isDone 3 (some .boolean) 1 := ⟨wd_1761, wd_94, wd_110, wd_1762, ⟨by decide +kernel, by decide +kernel⟩, by decide +kernel⟩
theorem wd_1763 : Cond.methodLink RX12 282 yX12_dueWithout ∈ bigW := bw 1763 (by decide +kernel) (by decide +kernel)
theorem wd_1766 : Cond.code yX12_dueWithout cX12_dueWithout 4 (some .int) ∈ bigW := bw 1766 (by decide +kernel) (by decide +kernel)
theorem wd_1765 : Cond.instanceMethod yX12_dueWithout ∈ bigW := bw 1765 (by decide +kernel) (by decide +kernel)
theorem wd_95 : Cond.selects RX12 yX12_dueWithout yX12_dueWithout ∈ bigW := bw 95 (by decide +kernel) (by decide +kernel)
theorem ML_X12_dueWithout : ML yX12_dueWithout cX12_dueWithout 4 (some .int) 1 := ⟨wd_1765, wd_95, wd_110, wd_1766, ⟨by decide +kernel, by decide +kernel⟩, by decide +kernel⟩
theorem wd_1771 : Cond.methodLink RX12 285 yX12_dueMoved ∈ bigW := bw 1771 (by decide +kernel) (by decide +kernel)
theorem wd_1774 : Cond.code yX12_dueMoved cX12_dueMoved 4 (some .int) ∈ bigW := bw 1774 (by decide +kernel) (by decide +kernel)
theorem wd_1773 : Cond.instanceMethod yX12_dueMoved ∈ bigW := bw 1773 (by decide +kernel) (by decide +kernel)
theorem wd_96 : Cond.selects RX12 yX12_dueMoved yX12_dueMoved ∈ bigW := bw 96 (by decide +kernel) (by decide +kernel)
theorem ML_X12_dueMoved : ML yX12_dueMoved cX12_dueMoved 4 (some .int) 1 := ⟨wd_1773, wd_96, wd_110, wd_1774, ⟨by decide +kernel, by decide +kernel⟩, by decide +kernel⟩
theorem FW_X12_24 : FW 12 24 .int := ⟨_, _, _, tyX12, rfl, tyX12_ok, nmX12, by decide +kernel, by decide +kernel⟩
theorem wd_1799 : Cond.constant RX12 288 (1103515245 : Int32) ∈ bigW := bw 1799 (by decide +kernel) (by decide +kernel)
theorem wd_1800 : Cond.constant RX12 289 (2147483647 : Int32) ∈ bigW := bw 1800 (by decide +kernel) (by decide +kernel)
theorem wd_1801 : Cond.constant RX12 290 (65536 : Int32) ∈ bigW := bw 1801 (by decide +kernel) (by decide +kernel)
end
section
theorem ite_g {P : Prop} [Decidable P] {α : Type} {a b r : α} (h : (if P then a else b) = r) : (P ∧ a = r) ∨ (¬ P ∧ b = r) := by
  by_cases hP : P
  · rw [if_pos hP] at h; exact Or.inl ⟨hP, h⟩
  · rw [if_neg hP] at h; exact Or.inr ⟨hP, h⟩
theorem prf {α β : Type} {a : α} {b : β} {r : α × β} (h : some (a, b) = some r) : a = r.1 := by cases h; rfl
theorem prs {α β : Type} {a : α} {b : β} {r : α × β} (h : some (a, b) = some r) : b = r.2 := by cases h; rfl
end
section
/-! walks, printed by a program of mine: each method meets its function -/
theorem dX0_setLaw_0 : decode cX0_setLaw 0 = .ok (.aload_n 0, 1) := by decide +kernel
theorem dX0_setLaw_1 : decode cX0_setLaw 1 = .ok (.iload_n 1, 1) := by decide +kernel
theorem dX0_setLaw_2 : decode cX0_setLaw 2 = .ok (.putfield 31, 3) := by decide +kernel
theorem dX0_setLaw_5 : decode cX0_setLaw 5 = .ok (.aload_n 0, 1) := by decide +kernel
theorem dX0_setLaw_6 : decode cX0_setLaw 6 = .ok (.iload_n 2, 1) := by decide +kernel
theorem dX0_setLaw_7 : decode cX0_setLaw 7 = .ok (.putfield 34, 3) := by decide +kernel
theorem dX0_setLaw_10 : decode cX0_setLaw 10 = .ok (.return_, 1) := by decide +kernel
set_option maxRecDepth 100000 in
set_option maxHeartbeats 4000000 in
theorem c_X0_setLaw {l : Launch} {G : Gx} (hap : k_ap G shC.length) (b : Nat) (hb : BD b) (v1 : Int32) (v2 : Int32) (M0 : Mem) (r : Mem) (hf : f_X0_setLaw b v1 v2 M0 = some r) : k_Met l yX0_setLaw cX0_setLaw 3 none 0 0 G shC [.ref (G.2.1 b), .int v1, .int v2] M0 (k_Qv G shC r) := by
  refine k_Met_of (by decide) hap (Nat.le_of_ble_eq_true rfl) ?_
  intro p e s m args below meth c C hr hlk
  have C : Cx p s m args c cX0_setLaw RX0 3 G shC := C
  unfold f_X0_setLaw at hf
  refine k_lv (lv' := [(0, .ref (G.2.1 b)), (1, .int v1), (2, .int v2)]) [0, 1, 2] rfl ?_
  refine k_aload_n C dX0_setLaw_0 0 rfl ?_
  refine k_iload_n C dX0_setLaw_1 1 rfl ?_
  refine k_put C hb.1 (j := 6) rfl FL_X0_31 FW_X0_6 dX0_setLaw_2 ?_
  refine k_aload_n C dX0_setLaw_5 0 rfl ?_
  refine k_iload_n C dX0_setLaw_6 2 rfl ?_
  refine k_put C hb.1 (j := 7) rfl FL_X0_34 FW_X0_7 dX0_setLaw_7 ?_
  exact k_vret C hr hlk (Option.some.inj hf) dX0_setLaw_10
theorem dX0_become_0 : decode cX0_become 0 = .ok (.aload_n 1, 1) := by decide +kernel
theorem dX0_become_1 : decode cX0_become 1 = .ok (.getfield 9, 3) := by decide +kernel
theorem dX0_become_4 : decode cX0_become 4 = .ok (.iconst 0, 1) := by decide +kernel
theorem dX0_become_5 : decode cX0_become 5 = .ok (.aload_n 0, 1) := by decide +kernel
theorem dX0_become_6 : decode cX0_become 6 = .ok (.getfield 9, 3) := by decide +kernel
theorem dX0_become_9 : decode cX0_become 9 = .ok (.iconst 0, 1) := by decide +kernel
theorem dX0_become_10 : decode cX0_become 10 = .ok (.bipush 8, 2) := by decide +kernel
theorem dX0_become_12 : decode cX0_become 12 = .ok (.invokestatic 37, 3) := by decide +kernel
theorem dX0_become_15 : decode cX0_become 15 = .ok (.aload_n 1, 1) := by decide +kernel
theorem dX0_become_16 : decode cX0_become 16 = .ok (.getfield 15, 3) := by decide +kernel
theorem dX0_become_19 : decode cX0_become 19 = .ok (.iconst 0, 1) := by decide +kernel
theorem dX0_become_20 : decode cX0_become 20 = .ok (.aload_n 0, 1) := by decide +kernel
theorem dX0_become_21 : decode cX0_become 21 = .ok (.getfield 15, 3) := by decide +kernel
theorem dX0_become_24 : decode cX0_become 24 = .ok (.iconst 0, 1) := by decide +kernel
theorem dX0_become_25 : decode cX0_become 25 = .ok (.bipush 8, 2) := by decide +kernel
theorem dX0_become_27 : decode cX0_become 27 = .ok (.invokestatic 37, 3) := by decide +kernel
theorem dX0_become_30 : decode cX0_become 30 = .ok (.aload_n 1, 1) := by decide +kernel
theorem dX0_become_31 : decode cX0_become 31 = .ok (.getfield 18, 3) := by decide +kernel
theorem dX0_become_34 : decode cX0_become 34 = .ok (.iconst 0, 1) := by decide +kernel
theorem dX0_become_35 : decode cX0_become 35 = .ok (.aload_n 0, 1) := by decide +kernel
theorem dX0_become_36 : decode cX0_become 36 = .ok (.getfield 18, 3) := by decide +kernel
theorem dX0_become_39 : decode cX0_become 39 = .ok (.iconst 0, 1) := by decide +kernel
theorem dX0_become_40 : decode cX0_become 40 = .ok (.bipush 8, 2) := by decide +kernel
theorem dX0_become_42 : decode cX0_become 42 = .ok (.invokestatic 37, 3) := by decide +kernel
theorem dX0_become_45 : decode cX0_become 45 = .ok (.aload_n 1, 1) := by decide +kernel
theorem dX0_become_46 : decode cX0_become 46 = .ok (.getfield 21, 3) := by decide +kernel
theorem dX0_become_49 : decode cX0_become 49 = .ok (.iconst 0, 1) := by decide +kernel
theorem dX0_become_50 : decode cX0_become 50 = .ok (.aload_n 0, 1) := by decide +kernel
theorem dX0_become_51 : decode cX0_become 51 = .ok (.getfield 21, 3) := by decide +kernel
theorem dX0_become_54 : decode cX0_become 54 = .ok (.iconst 0, 1) := by decide +kernel
theorem dX0_become_55 : decode cX0_become 55 = .ok (.bipush 12, 2) := by decide +kernel
theorem dX0_become_57 : decode cX0_become 57 = .ok (.invokestatic 37, 3) := by decide +kernel
theorem dX0_become_60 : decode cX0_become 60 = .ok (.aload_n 0, 1) := by decide +kernel
theorem dX0_become_61 : decode cX0_become 61 = .ok (.aload_n 1, 1) := by decide +kernel
theorem dX0_become_62 : decode cX0_become 62 = .ok (.getfield 24, 3) := by decide +kernel
theorem dX0_become_65 : decode cX0_become 65 = .ok (.putfield 24, 3) := by decide +kernel
theorem dX0_become_68 : decode cX0_become 68 = .ok (.aload_n 0, 1) := by decide +kernel
theorem dX0_become_69 : decode cX0_become 69 = .ok (.aload_n 1, 1) := by decide +kernel
theorem dX0_become_70 : decode cX0_become 70 = .ok (.getfield 28, 3) := by decide +kernel
theorem dX0_become_73 : decode cX0_become 73 = .ok (.putfield 28, 3) := by decide +kernel
theorem dX0_become_76 : decode cX0_become 76 = .ok (.aload_n 0, 1) := by decide +kernel
theorem dX0_become_77 : decode cX0_become 77 = .ok (.aload_n 1, 1) := by decide +kernel
theorem dX0_become_78 : decode cX0_become 78 = .ok (.getfield 31, 3) := by decide +kernel
theorem dX0_become_81 : decode cX0_become 81 = .ok (.aload_n 1, 1) := by decide +kernel
theorem dX0_become_82 : decode cX0_become 82 = .ok (.getfield 34, 3) := by decide +kernel
theorem dX0_become_85 : decode cX0_become 85 = .ok (.invokevirtual 43, 3) := by decide +kernel
theorem dX0_become_88 : decode cX0_become 88 = .ok (.return_, 1) := by decide +kernel
set_option maxRecDepth 100000 in
set_option maxHeartbeats 4000000 in
theorem c_X0_become {l : Launch} {G : Gx} (hap : k_ap G shC.length) (b : Nat) (b2 : Nat) (hb : BD b) (hb2 : BD b2) (M0 : Mem) (r : Mem) (hf : f_X0_become b b2 M0 = some r) : k_Met l yX0_become cX0_become 2 none 1 40 G shC [.ref (G.2.1 b), .ref (G.2.1 b2)] M0 (k_Qv G shC r) := by
  refine k_Met_of (by decide) hap (Nat.le_of_ble_eq_true rfl) ?_
  intro p e s m args below meth c C hr hlk
  have C : Cx p s m args c cX0_become RX0 2 G shC := C
  unfold f_X0_become at hf
  refine k_lv (lv' := [(0, .ref (G.2.1 b)), (1, .ref (G.2.1 b2))]) [0, 1] rfl ?_
  refine k_aload_n C dX0_become_0 1 rfl ?_
  refine k_getr C hb2.1 (j := 0) rfl FL_X0_9 dX0_become_1 ?_
  refine k_iconst C dX0_become_4 (v := (0 : Int32)) rfl ?_
  refine k_aload_n C dX0_become_5 0 rfl ?_
  refine k_getr C hb.1 (j := 0) rfl FL_X0_9 dX0_become_6 ?_
  refine k_iconst C dX0_become_9 (v := (0 : Int32)) rfl ?_
  refine k_bipush C dX0_become_10 (v := (8 : Int32)) rfl ?_
  obtain ⟨M1, hM1, hf⟩ := bnd hf
  refine k_cpy C W_cpy wd_458 ⟨Nat.le_of_ble_eq_true rfl, Nat.le_of_ble_eq_true rfl⟩ hb2.2.1 hb.2.1 hM1 dX0_become_12 ?_
  refine k_aload_n C dX0_become_15 1 rfl ?_
  refine k_getr C hb2.1 (j := 1) rfl FL_X0_15 dX0_become_16 ?_
  refine k_iconst C dX0_become_19 (v := (0 : Int32)) rfl ?_
  refine k_aload_n C dX0_become_20 0 rfl ?_
  refine k_getr C hb.1 (j := 1) rfl FL_X0_15 dX0_become_21 ?_
  refine k_iconst C dX0_become_24 (v := (0 : Int32)) rfl ?_
  refine k_bipush C dX0_become_25 (v := (8 : Int32)) rfl ?_
  obtain ⟨M2, hM2, hf⟩ := bnd hf
  refine k_cpy C W_cpy wd_458 ⟨Nat.le_of_ble_eq_true rfl, Nat.le_of_ble_eq_true rfl⟩ hb2.2.2.1 hb.2.2.1 hM2 dX0_become_27 ?_
  refine k_aload_n C dX0_become_30 1 rfl ?_
  refine k_getr C hb2.1 (j := 2) rfl FL_X0_18 dX0_become_31 ?_
  refine k_iconst C dX0_become_34 (v := (0 : Int32)) rfl ?_
  refine k_aload_n C dX0_become_35 0 rfl ?_
  refine k_getr C hb.1 (j := 2) rfl FL_X0_18 dX0_become_36 ?_
  refine k_iconst C dX0_become_39 (v := (0 : Int32)) rfl ?_
  refine k_bipush C dX0_become_40 (v := (8 : Int32)) rfl ?_
  obtain ⟨M3, hM3, hf⟩ := bnd hf
  refine k_cpy C W_cpy wd_458 ⟨Nat.le_of_ble_eq_true rfl, Nat.le_of_ble_eq_true rfl⟩ hb2.2.2.2.1 hb.2.2.2.1 hM3 dX0_become_42 ?_
  refine k_aload_n C dX0_become_45 1 rfl ?_
  refine k_getr C hb2.1 (j := 3) rfl FL_X0_21 dX0_become_46 ?_
  refine k_iconst C dX0_become_49 (v := (0 : Int32)) rfl ?_
  refine k_aload_n C dX0_become_50 0 rfl ?_
  refine k_getr C hb.1 (j := 3) rfl FL_X0_21 dX0_become_51 ?_
  refine k_iconst C dX0_become_54 (v := (0 : Int32)) rfl ?_
  refine k_bipush C dX0_become_55 (v := (12 : Int32)) rfl ?_
  obtain ⟨M4, hM4, hf⟩ := bnd hf
  refine k_cpy C W_cpy wd_458 ⟨Nat.le_of_ble_eq_true rfl, Nat.le_of_ble_eq_true rfl⟩ hb2.2.2.2.2 hb.2.2.2.2 hM4 dX0_become_57 ?_
  refine k_aload_n C dX0_become_60 0 rfl ?_
  refine k_aload_n C dX0_become_61 1 rfl ?_
  refine k_geti C hb2.1 (j := 4) rfl FL_X0_24 dX0_become_62 ?_
  refine k_put C hb.1 (j := 4) rfl FL_X0_24 FW_X0_4 dX0_become_65 ?_
  refine k_aload_n C dX0_become_68 0 rfl ?_
  refine k_aload_n C dX0_become_69 1 rfl ?_
  refine k_geti C hb2.1 (j := 5) rfl FL_X0_28 dX0_become_70 ?_
  refine k_put C hb.1 (j := 5) rfl FL_X0_28 FW_X0_5 dX0_become_73 ?_
  refine k_aload_n C dX0_become_76 0 rfl ?_
  refine k_aload_n C dX0_become_77 1 rfl ?_
  refine k_geti C hb2.1 (j := 6) rfl FL_X0_31 dX0_become_78 ?_
  refine k_aload_n C dX0_become_81 1 rfl ?_
  refine k_geti C hb2.1 (j := 7) rfl FL_X0_34 dX0_become_82 ?_
  obtain ⟨M5, hM5, hf⟩ := bnd hf
  refine k_callVv C (As := [.int ((wI (wI M4 b 4 (M4.1 b2 4)) b 5 ((wI M4 b 4 (M4.1 b2 4)).1 b2 5)).1 b2 6), .int ((wI (wI M4 b 4 (M4.1 b2 4)) b 5 ((wI M4 b 4 (M4.1 b2 4)).1 b2 5)).1 b2 7)]) (c_X0_setLaw hap b hb ((wI (wI M4 b 4 (M4.1 b2 4)) b 5 ((wI M4 b 4 (M4.1 b2 4)).1 b2 5)).1 b2 6) ((wI (wI M4 b 4 (M4.1 b2 4)) b 5 ((wI M4 b 4 (M4.1 b2 4)).1 b2 5)).1 b2 7) (wI (wI M4 b 4 (M4.1 b2 4)) b 5 ((wI M4 b 4 (M4.1 b2 4)).1 b2 5)) M5 hM5) ML_X0_setLaw wd_461 hb.1 rfl rfl rfl ⟨Nat.le_of_ble_eq_true rfl, Nat.le_of_ble_eq_true rfl⟩ (Nat.le_of_ble_eq_true rfl) dX0_become_85 ?_
  exact k_vret C hr hlk (Option.some.inj hf) dX0_become_88
theorem dX0_hasDoing_0 : decode cX0_hasDoing 0 = .ok (.iload_n 1, 1) := by decide +kernel
theorem dX0_hasDoing_1 : decode cX0_hasDoing 1 = .ok (.ifCond .lt 15, 3) := by decide +kernel
theorem dX0_hasDoing_4 : decode cX0_hasDoing 4 = .ok (.iload_n 1, 1) := by decide +kernel
theorem dX0_hasDoing_5 : decode cX0_hasDoing 5 = .ok (.aload_n 0, 1) := by decide +kernel
theorem dX0_hasDoing_6 : decode cX0_hasDoing 6 = .ok (.getfield 24, 3) := by decide +kernel
theorem dX0_hasDoing_9 : decode cX0_hasDoing 9 = .ok (.if_icmp .ge 7, 3) := by decide +kernel
theorem dX0_hasDoing_12 : decode cX0_hasDoing 12 = .ok (.iconst 1, 1) := by decide +kernel
theorem dX0_hasDoing_13 : decode cX0_hasDoing 13 = .ok (.goto 4, 3) := by decide +kernel
theorem dX0_hasDoing_16 : decode cX0_hasDoing 16 = .ok (.iconst 0, 1) := by decide +kernel
theorem dX0_hasDoing_17 : decode cX0_hasDoing 17 = .ok (.ireturn, 1) := by decide +kernel
set_option maxRecDepth 100000 in
set_option maxHeartbeats 4000000 in
theorem c_X0_hasDoing {l : Launch} {G : Gx} (hap : k_ap G shC.length) (b : Nat) (hb : BD b) (v1 : Int32) (M0 : Mem) (r : Int32) (hf : f_X0_hasDoing b v1 M0 = r) : k_Met l yX0_hasDoing cX0_hasDoing 2 (some .boolean) 0 0 G shC [.ref (G.2.1 b), .int v1] M0 (k_Qi G shC r M0) := by
  refine k_Met_of (by decide) hap (Nat.le_of_ble_eq_true rfl) ?_
  intro p e s m args below meth c C hr hlk
  have C : Cx p s m args c cX0_hasDoing RX0 2 G shC := C
  unfold f_X0_hasDoing at hf
  refine k_lv (lv' := [(0, .ref (G.2.1 b)), (1, .int v1)]) [0, 1] rfl ?_
  refine k_iload_n C dX0_hasDoing_0 1 rfl ?_
  rcases ite_g hf with ⟨c1, hf⟩ | ⟨c1, hf⟩
  · refine k_if_lt_t C dX0_hasDoing_1 (tgt := 16) (by decide) c1 ?_
    refine k_iconst C dX0_hasDoing_16 (v := (0 : Int32)) rfl ?_
    exact k_zret C hr hlk (gZ0.trans (congrArg some hf)) rfl dX0_hasDoing_17
  · refine k_if_lt_f C dX0_hasDoing_1 (tgt := 16) (by decide) c1 ?_
    refine k_iload_n C dX0_hasDoing_4 1 rfl ?_
    refine k_aload_n C dX0_hasDoing_5 0 rfl ?_
    refine k_geti C hb.1 (j := 4) rfl FL_X0_24 dX0_hasDoing_6 ?_
    rcases ite_g hf with ⟨c2, hf⟩ | ⟨c2, hf⟩
    · refine k_icmp_ge_t C dX0_hasDoing_9 (tgt := 16) (by decide) c2 ?_
      refine k_iconst C dX0_hasDoing_16 (v := (0 : Int32)) rfl ?_
      exact k_zret C hr hlk (gZ0.trans (congrArg some hf)) rfl dX0_hasDoing_17
    · refine k_icmp_ge_f C dX0_hasDoing_9 (tgt := 16) (by decide) c2 ?_
      refine k_iconst C dX0_hasDoing_12 (v := (1 : Int32)) rfl ?_
      refine k_goto C dX0_hasDoing_13 (tgt := 17) (by decide) ?_
      exact k_zret C hr hlk (gZ1.trans (congrArg some hf)) rfl dX0_hasDoing_17
theorem dX0_hasPlace_0 : decode cX0_hasPlace 0 = .ok (.iload_n 1, 1) := by decide +kernel
theorem dX0_hasPlace_1 : decode cX0_hasPlace 1 = .ok (.ifCond .lt 15, 3) := by decide +kernel
theorem dX0_hasPlace_4 : decode cX0_hasPlace 4 = .ok (.iload_n 1, 1) := by decide +kernel
theorem dX0_hasPlace_5 : decode cX0_hasPlace 5 = .ok (.aload_n 0, 1) := by decide +kernel
theorem dX0_hasPlace_6 : decode cX0_hasPlace 6 = .ok (.getfield 28, 3) := by decide +kernel
theorem dX0_hasPlace_9 : decode cX0_hasPlace 9 = .ok (.if_icmp .ge 7, 3) := by decide +kernel
theorem dX0_hasPlace_12 : decode cX0_hasPlace 12 = .ok (.iconst 1, 1) := by decide +kernel
theorem dX0_hasPlace_13 : decode cX0_hasPlace 13 = .ok (.goto 4, 3) := by decide +kernel
theorem dX0_hasPlace_16 : decode cX0_hasPlace 16 = .ok (.iconst 0, 1) := by decide +kernel
theorem dX0_hasPlace_17 : decode cX0_hasPlace 17 = .ok (.ireturn, 1) := by decide +kernel
set_option maxRecDepth 100000 in
set_option maxHeartbeats 4000000 in
theorem c_X0_hasPlace {l : Launch} {G : Gx} (hap : k_ap G shC.length) (b : Nat) (hb : BD b) (v1 : Int32) (M0 : Mem) (r : Int32) (hf : f_X0_hasPlace b v1 M0 = r) : k_Met l yX0_hasPlace cX0_hasPlace 2 (some .boolean) 0 0 G shC [.ref (G.2.1 b), .int v1] M0 (k_Qi G shC r M0) := by
  refine k_Met_of (by decide) hap (Nat.le_of_ble_eq_true rfl) ?_
  intro p e s m args below meth c C hr hlk
  have C : Cx p s m args c cX0_hasPlace RX0 2 G shC := C
  unfold f_X0_hasPlace at hf
  refine k_lv (lv' := [(0, .ref (G.2.1 b)), (1, .int v1)]) [0, 1] rfl ?_
  refine k_iload_n C dX0_hasPlace_0 1 rfl ?_
  rcases ite_g hf with ⟨c1, hf⟩ | ⟨c1, hf⟩
  · refine k_if_lt_t C dX0_hasPlace_1 (tgt := 16) (by decide) c1 ?_
    refine k_iconst C dX0_hasPlace_16 (v := (0 : Int32)) rfl ?_
    exact k_zret C hr hlk (gZ0.trans (congrArg some hf)) rfl dX0_hasPlace_17
  · refine k_if_lt_f C dX0_hasPlace_1 (tgt := 16) (by decide) c1 ?_
    refine k_iload_n C dX0_hasPlace_4 1 rfl ?_
    refine k_aload_n C dX0_hasPlace_5 0 rfl ?_
    refine k_geti C hb.1 (j := 5) rfl FL_X0_28 dX0_hasPlace_6 ?_
    rcases ite_g hf with ⟨c2, hf⟩ | ⟨c2, hf⟩
    · refine k_icmp_ge_t C dX0_hasPlace_9 (tgt := 16) (by decide) c2 ?_
      refine k_iconst C dX0_hasPlace_16 (v := (0 : Int32)) rfl ?_
      exact k_zret C hr hlk (gZ0.trans (congrArg some hf)) rfl dX0_hasPlace_17
    · refine k_icmp_ge_f C dX0_hasPlace_9 (tgt := 16) (by decide) c2 ?_
      refine k_iconst C dX0_hasPlace_12 (v := (1 : Int32)) rfl ?_
      refine k_goto C dX0_hasPlace_13 (tgt := 17) (by decide) ?_
      exact k_zret C hr hlk (gZ1.trans (congrArg some hf)) rfl dX0_hasPlace_17
theorem dX0_hasRoomForDoing_0 : decode cX0_hasRoomForDoing 0 = .ok (.aload_n 0, 1) := by decide +kernel
theorem dX0_hasRoomForDoing_1 : decode cX0_hasRoomForDoing 1 = .ok (.getfield 24, 3) := by decide +kernel
theorem dX0_hasRoomForDoing_4 : decode cX0_hasRoomForDoing 4 = .ok (.bipush 8, 2) := by decide +kernel
theorem dX0_hasRoomForDoing_6 : decode cX0_hasRoomForDoing 6 = .ok (.if_icmp .ge 7, 3) := by decide +kernel
theorem dX0_hasRoomForDoing_9 : decode cX0_hasRoomForDoing 9 = .ok (.iconst 1, 1) := by decide +kernel
theorem dX0_hasRoomForDoing_10 : decode cX0_hasRoomForDoing 10 = .ok (.goto 4, 3) := by decide +kernel
theorem dX0_hasRoomForDoing_13 : decode cX0_hasRoomForDoing 13 = .ok (.iconst 0, 1) := by decide +kernel
theorem dX0_hasRoomForDoing_14 : decode cX0_hasRoomForDoing 14 = .ok (.ireturn, 1) := by decide +kernel
set_option maxRecDepth 100000 in
set_option maxHeartbeats 4000000 in
theorem c_X0_hasRoomForDoing {l : Launch} {G : Gx} (hap : k_ap G shC.length) (b : Nat) (hb : BD b) (M0 : Mem) (r : Int32) (hf : f_X0_hasRoomForDoing b M0 = r) : k_Met l yX0_hasRoomForDoing cX0_hasRoomForDoing 1 (some .boolean) 0 0 G shC [.ref (G.2.1 b)] M0 (k_Qi G shC r M0) := by
  refine k_Met_of (by decide) hap (Nat.le_of_ble_eq_true rfl) ?_
  intro p e s m args below meth c C hr hlk
  have C : Cx p s m args c cX0_hasRoomForDoing RX0 1 G shC := C
  unfold f_X0_hasRoomForDoing at hf
  refine k_lv (lv' := [(0, .ref (G.2.1 b))]) [0] rfl ?_
  refine k_aload_n C dX0_hasRoomForDoing_0 0 rfl ?_
  refine k_geti C hb.1 (j := 4) rfl FL_X0_24 dX0_hasRoomForDoing_1 ?_
  refine k_bipush C dX0_hasRoomForDoing_4 (v := (8 : Int32)) rfl ?_
  rcases ite_g hf with ⟨c1, hf⟩ | ⟨c1, hf⟩
  · refine k_icmp_ge_t C dX0_hasRoomForDoing_6 (tgt := 13) (by decide) c1 ?_
    refine k_iconst C dX0_hasRoomForDoing_13 (v := (0 : Int32)) rfl ?_
    exact k_zret C hr hlk (gZ0.trans (congrArg some hf)) rfl dX0_hasRoomForDoing_14
  · refine k_icmp_ge_f C dX0_hasRoomForDoing_6 (tgt := 13) (by decide) c1 ?_
    refine k_iconst C dX0_hasRoomForDoing_9 (v := (1 : Int32)) rfl ?_
    refine k_goto C dX0_hasRoomForDoing_10 (tgt := 14) (by decide) ?_
    exact k_zret C hr hlk (gZ1.trans (congrArg some hf)) rfl dX0_hasRoomForDoing_14
theorem dX0_hasRoomForPlace_0 : decode cX0_hasRoomForPlace 0 = .ok (.aload_n 0, 1) := by decide +kernel
theorem dX0_hasRoomForPlace_1 : decode cX0_hasRoomForPlace 1 = .ok (.getfield 28, 3) := by decide +kernel
theorem dX0_hasRoomForPlace_4 : decode cX0_hasRoomForPlace 4 = .ok (.bipush 12, 2) := by decide +kernel
theorem dX0_hasRoomForPlace_6 : decode cX0_hasRoomForPlace 6 = .ok (.if_icmp .ge 7, 3) := by decide +kernel
theorem dX0_hasRoomForPlace_9 : decode cX0_hasRoomForPlace 9 = .ok (.iconst 1, 1) := by decide +kernel
theorem dX0_hasRoomForPlace_10 : decode cX0_hasRoomForPlace 10 = .ok (.goto 4, 3) := by decide +kernel
theorem dX0_hasRoomForPlace_13 : decode cX0_hasRoomForPlace 13 = .ok (.iconst 0, 1) := by decide +kernel
theorem dX0_hasRoomForPlace_14 : decode cX0_hasRoomForPlace 14 = .ok (.ireturn, 1) := by decide +kernel
set_option maxRecDepth 100000 in
set_option maxHeartbeats 4000000 in
theorem c_X0_hasRoomForPlace {l : Launch} {G : Gx} (hap : k_ap G shC.length) (b : Nat) (hb : BD b) (M0 : Mem) (r : Int32) (hf : f_X0_hasRoomForPlace b M0 = r) : k_Met l yX0_hasRoomForPlace cX0_hasRoomForPlace 1 (some .boolean) 0 0 G shC [.ref (G.2.1 b)] M0 (k_Qi G shC r M0) := by
  refine k_Met_of (by decide) hap (Nat.le_of_ble_eq_true rfl) ?_
  intro p e s m args below meth c C hr hlk
  have C : Cx p s m args c cX0_hasRoomForPlace RX0 1 G shC := C
  unfold f_X0_hasRoomForPlace at hf
  refine k_lv (lv' := [(0, .ref (G.2.1 b))]) [0] rfl ?_
  refine k_aload_n C dX0_hasRoomForPlace_0 0 rfl ?_
  refine k_geti C hb.1 (j := 5) rfl FL_X0_28 dX0_hasRoomForPlace_1 ?_
  refine k_bipush C dX0_hasRoomForPlace_4 (v := (12 : Int32)) rfl ?_
  rcases ite_g hf with ⟨c1, hf⟩ | ⟨c1, hf⟩
  · refine k_icmp_ge_t C dX0_hasRoomForPlace_6 (tgt := 13) (by decide) c1 ?_
    refine k_iconst C dX0_hasRoomForPlace_13 (v := (0 : Int32)) rfl ?_
    exact k_zret C hr hlk (gZ0.trans (congrArg some hf)) rfl dX0_hasRoomForPlace_14
  · refine k_icmp_ge_f C dX0_hasRoomForPlace_6 (tgt := 13) (by decide) c1 ?_
    refine k_iconst C dX0_hasRoomForPlace_9 (v := (1 : Int32)) rfl ?_
    refine k_goto C dX0_hasRoomForPlace_10 (tgt := 14) (by decide) ?_
    exact k_zret C hr hlk (gZ1.trans (congrArg some hf)) rfl dX0_hasRoomForPlace_14
theorem dX0_setKind_0 : decode cX0_setKind 0 = .ok (.aload_n 0, 1) := by decide +kernel
theorem dX0_setKind_1 : decode cX0_setKind 1 = .ok (.getfield 9, 3) := by decide +kernel
theorem dX0_setKind_4 : decode cX0_setKind 4 = .ok (.iload_n 1, 1) := by decide +kernel
theorem dX0_setKind_5 : decode cX0_setKind 5 = .ok (.iload_n 2, 1) := by decide +kernel
theorem dX0_setKind_6 : decode cX0_setKind 6 = .ok (.iastore, 1) := by decide +kernel
theorem dX0_setKind_7 : decode cX0_setKind 7 = .ok (.aload_n 0, 1) := by decide +kernel
theorem dX0_setKind_8 : decode cX0_setKind 8 = .ok (.getfield 15, 3) := by decide +kernel
theorem dX0_setKind_11 : decode cX0_setKind 11 = .ok (.iload_n 1, 1) := by decide +kernel
theorem dX0_setKind_12 : decode cX0_setKind 12 = .ok (.iload_n 3, 1) := by decide +kernel
theorem dX0_setKind_13 : decode cX0_setKind 13 = .ok (.iastore, 1) := by decide +kernel
theorem dX0_setKind_14 : decode cX0_setKind 14 = .ok (.return_, 1) := by decide +kernel
set_option maxRecDepth 100000 in
set_option maxHeartbeats 4000000 in
theorem c_X0_setKind {l : Launch} {G : Gx} (hap : k_ap G shC.length) (b : Nat) (hb : BD b) (v1 : Int32) (v2 : Int32) (v3 : Int32) (M0 : Mem) (r : Mem) (hf : f_X0_setKind b v1 v2 v3 M0 = some r) : k_Met l yX0_setKind cX0_setKind 4 none 0 0 G shC [.ref (G.2.1 b), .int v1, .int v2, .int v3] M0 (k_Qv G shC r) := by
  refine k_Met_of (by decide) hap (Nat.le_of_ble_eq_true rfl) ?_
  intro p e s m args below meth c C hr hlk
  have C : Cx p s m args c cX0_setKind RX0 4 G shC := C
  unfold f_X0_setKind at hf
  refine k_lv (lv' := [(0, .ref (G.2.1 b)), (1, .int v1), (2, .int v2), (3, .int v3)]) [0, 1, 2, 3] rfl ?_
  refine k_aload_n C dX0_setKind_0 0 rfl ?_
  refine k_getr C hb.1 (j := 0) rfl FL_X0_9 dX0_setKind_1 ?_
  refine k_iload_n C dX0_setKind_4 1 rfl ?_
  refine k_iload_n C dX0_setKind_5 2 rfl ?_
  obtain ⟨M1, hM1, hf⟩ := bnd hf
  refine k_iast C hb.2.1 hM1 dX0_setKind_6 ?_
  refine k_aload_n C dX0_setKind_7 0 rfl ?_
  refine k_getr C hb.1 (j := 1) rfl FL_X0_15 dX0_setKind_8 ?_
  refine k_iload_n C dX0_setKind_11 1 rfl ?_
  refine k_iload_n C dX0_setKind_12 3 rfl ?_
  obtain ⟨M2, hM2, hf⟩ := bnd hf
  refine k_iast C hb.2.2.1 hM2 dX0_setKind_13 ?_
  exact k_vret C hr hlk (Option.some.inj hf) dX0_setKind_14
theorem dX0_addDoing_0 : decode cX0_addDoing 0 = .ok (.aload_n 0, 1) := by decide +kernel
theorem dX0_addDoing_1 : decode cX0_addDoing 1 = .ok (.invokevirtual 47, 3) := by decide +kernel
theorem dX0_addDoing_4 : decode cX0_addDoing 4 = .ok (.ifCond .ne 6, 3) := by decide +kernel
theorem dX0_addDoing_7 : decode cX0_addDoing 7 = .ok (.bipush (-6), 2) := by decide +kernel
theorem dX0_addDoing_9 : decode cX0_addDoing 9 = .ok (.ireturn, 1) := by decide +kernel
theorem dX0_addDoing_10 : decode cX0_addDoing 10 = .ok (.aload_n 0, 1) := by decide +kernel
theorem dX0_addDoing_11 : decode cX0_addDoing 11 = .ok (.dup, 1) := by decide +kernel
theorem dX0_addDoing_12 : decode cX0_addDoing 12 = .ok (.getfield 24, 3) := by decide +kernel
theorem dX0_addDoing_15 : decode cX0_addDoing 15 = .ok (.dup_x1, 1) := by decide +kernel
theorem dX0_addDoing_16 : decode cX0_addDoing 16 = .ok (.iconst 1, 1) := by decide +kernel
theorem dX0_addDoing_17 : decode cX0_addDoing 17 = .ok (.iadd, 1) := by decide +kernel
theorem dX0_addDoing_18 : decode cX0_addDoing 18 = .ok (.putfield 24, 3) := by decide +kernel
theorem dX0_addDoing_21 : decode cX0_addDoing 21 = .ok (.istore 4, 2) := by decide +kernel
theorem dX0_addDoing_23 : decode cX0_addDoing 23 = .ok (.aload_n 0, 1) := by decide +kernel
theorem dX0_addDoing_24 : decode cX0_addDoing 24 = .ok (.iload 4, 2) := by decide +kernel
theorem dX0_addDoing_26 : decode cX0_addDoing 26 = .ok (.iload_n 1, 1) := by decide +kernel
theorem dX0_addDoing_27 : decode cX0_addDoing 27 = .ok (.iload_n 2, 1) := by decide +kernel
theorem dX0_addDoing_28 : decode cX0_addDoing 28 = .ok (.invokevirtual 51, 3) := by decide +kernel
theorem dX0_addDoing_31 : decode cX0_addDoing 31 = .ok (.aload_n 0, 1) := by decide +kernel
theorem dX0_addDoing_32 : decode cX0_addDoing 32 = .ok (.getfield 18, 3) := by decide +kernel
theorem dX0_addDoing_35 : decode cX0_addDoing 35 = .ok (.iload 4, 2) := by decide +kernel
theorem dX0_addDoing_37 : decode cX0_addDoing 37 = .ok (.iload_n 3, 1) := by decide +kernel
theorem dX0_addDoing_38 : decode cX0_addDoing 38 = .ok (.iastore, 1) := by decide +kernel
theorem dX0_addDoing_39 : decode cX0_addDoing 39 = .ok (.iload 4, 2) := by decide +kernel
theorem dX0_addDoing_41 : decode cX0_addDoing 41 = .ok (.ireturn, 1) := by decide +kernel
set_option maxRecDepth 100000 in
set_option maxHeartbeats 4000000 in
theorem c_X0_addDoing {l : Launch} {G : Gx} (hap : k_ap G shC.length) (b : Nat) (hb : BD b) (v1 : Int32) (v2 : Int32) (v3 : Int32) (M0 : Mem) (r : Int32 × Mem) (hf : f_X0_addDoing b v1 v2 v3 M0 = some r) : k_Met l yX0_addDoing cX0_addDoing 5 (some .int) 1 23 G shC [.ref (G.2.1 b), .int v1, .int v2, .int v3] M0 (k_Qi G shC r.1 r.2) := by
  refine k_Met_of (by decide) hap (Nat.le_of_ble_eq_true rfl) ?_
  intro p e s m args below meth c C hr hlk
  have C : Cx p s m args c cX0_addDoing RX0 5 G shC := C
  unfold f_X0_addDoing at hf
  refine k_lv (lv' := [(0, .ref (G.2.1 b)), (1, .int v1), (2, .int v2), (3, .int v3)]) [0, 1, 2, 3] rfl ?_
  refine k_aload_n C dX0_addDoing_0 0 rfl ?_
  refine k_callVi C (As := []) (c_X0_hasRoomForDoing hap b hb M0 _ rfl) ML_X0_hasRoomForDoing wd_488 hb.1 rfl rfl rfl ⟨Nat.le_of_ble_eq_true rfl, Nat.le_of_ble_eq_true rfl⟩ (Nat.le_of_ble_eq_true rfl) dX0_addDoing_1 ?_
  rcases ite_g hf with ⟨c1, hf⟩ | ⟨c1, hf⟩
  · refine k_if_ne_f C dX0_addDoing_4 (tgt := 10) (by decide) c1 ?_
    refine k_bipush C dX0_addDoing_7 (v := (-6 : Int32)) rfl ?_
    exact k_iret C hr hlk (prf hf) (prs hf) dX0_addDoing_9
  · refine k_if_ne_t C dX0_addDoing_4 (tgt := 10) (by decide) c1 ?_
    refine k_aload_n C dX0_addDoing_10 0 rfl ?_
    refine k_dup C dX0_addDoing_11 rfl ?_
    refine k_geti C hb.1 (j := 4) rfl FL_X0_24 dX0_addDoing_12 ?_
    refine k_dup_x1 C dX0_addDoing_15 rfl rfl ?_
    refine k_iconst C dX0_addDoing_16 (v := (1 : Int32)) rfl ?_
    refine k_iadd C dX0_addDoing_17 ?_
    refine k_put C hb.1 (j := 4) rfl FL_X0_24 FW_X0_4 dX0_addDoing_18 ?_
    refine k_istore C dX0_addDoing_21 (by decide) [1, 2, 3, 4, 0] (lv' := [(0, .ref (G.2.1 b)), (1, .int v1), (2, .int v2), (3, .int v3), (4, .int (M0.1 b 4))]) rfl ?_
    refine k_aload_n C dX0_addDoing_23 0 rfl ?_
    refine k_iload C dX0_addDoing_24 4 rfl ?_
    refine k_iload_n C dX0_addDoing_26 1 rfl ?_
    refine k_iload_n C dX0_addDoing_27 2 rfl ?_
    obtain ⟨M2, hM2, hf⟩ := bnd hf
    refine k_callVv C (As := [.int (M0.1 b 4), .int v1, .int v2]) (c_X0_setKind hap b hb (M0.1 b 4) v1 v2 (wI M0 b 4 ((M0.1 b 4) + (1 : Int32))) M2 hM2) ML_X0_setKind wd_489 hb.1 rfl rfl rfl ⟨Nat.le_of_ble_eq_true rfl, Nat.le_of_ble_eq_true rfl⟩ (Nat.le_of_ble_eq_true rfl) dX0_addDoing_28 ?_
    refine k_aload_n C dX0_addDoing_31 0 rfl ?_
    refine k_getr C hb.1 (j := 2) rfl FL_X0_18 dX0_addDoing_32 ?_
    refine k_iload C dX0_addDoing_35 4 rfl ?_
    refine k_iload_n C dX0_addDoing_37 3 rfl ?_
    obtain ⟨M3, hM3, hf⟩ := bnd hf
    refine k_iast C hb.2.2.2.1 hM3 dX0_addDoing_38 ?_
    refine k_iload C dX0_addDoing_39 4 rfl ?_
    exact k_iret C hr hlk (prf hf) (prs hf) dX0_addDoing_41
theorem dX0_addPlace_0 : decode cX0_addPlace 0 = .ok (.aload_n 0, 1) := by decide +kernel
theorem dX0_addPlace_1 : decode cX0_addPlace 1 = .ok (.invokevirtual 55, 3) := by decide +kernel
theorem dX0_addPlace_4 : decode cX0_addPlace 4 = .ok (.ifCond .eq 20, 3) := by decide +kernel
theorem dX0_addPlace_7 : decode cX0_addPlace 7 = .ok (.aload_n 0, 1) := by decide +kernel
theorem dX0_addPlace_8 : decode cX0_addPlace 8 = .ok (.getfield 21, 3) := by decide +kernel
theorem dX0_addPlace_11 : decode cX0_addPlace 11 = .ok (.aload_n 0, 1) := by decide +kernel
theorem dX0_addPlace_12 : decode cX0_addPlace 12 = .ok (.dup, 1) := by decide +kernel
theorem dX0_addPlace_13 : decode cX0_addPlace 13 = .ok (.getfield 28, 3) := by decide +kernel
theorem dX0_addPlace_16 : decode cX0_addPlace 16 = .ok (.dup_x1, 1) := by decide +kernel
theorem dX0_addPlace_17 : decode cX0_addPlace 17 = .ok (.iconst 1, 1) := by decide +kernel
theorem dX0_addPlace_18 : decode cX0_addPlace 18 = .ok (.iadd, 1) := by decide +kernel
theorem dX0_addPlace_19 : decode cX0_addPlace 19 = .ok (.putfield 28, 3) := by decide +kernel
theorem dX0_addPlace_22 : decode cX0_addPlace 22 = .ok (.iload_n 1, 1) := by decide +kernel
theorem dX0_addPlace_23 : decode cX0_addPlace 23 = .ok (.iastore, 1) := by decide +kernel
theorem dX0_addPlace_24 : decode cX0_addPlace 24 = .ok (.return_, 1) := by decide +kernel
set_option maxRecDepth 100000 in
set_option maxHeartbeats 4000000 in
theorem c_X0_addPlace {l : Launch} {G : Gx} (hap : k_ap G shC.length) (b : Nat) (hb : BD b) (v1 : Int32) (M0 : Mem) (r : Mem) (hf : f_X0_addPlace b v1 M0 = some r) : k_Met l yX0_addPlace cX0_addPlace 2 none 1 20 G shC [.ref (G.2.1 b), .int v1] M0 (k_Qv G shC r) := by
  refine k_Met_of (by decide) hap (Nat.le_of_ble_eq_true rfl) ?_
  intro p e s m args below meth c C hr hlk
  have C : Cx p s m args c cX0_addPlace RX0 2 G shC := C
  unfold f_X0_addPlace at hf
  refine k_lv (lv' := [(0, .ref (G.2.1 b)), (1, .int v1)]) [0, 1] rfl ?_
  refine k_aload_n C dX0_addPlace_0 0 rfl ?_
  refine k_callVi C (As := []) (c_X0_hasRoomForPlace hap b hb M0 _ rfl) ML_X0_hasRoomForPlace wd_509 hb.1 rfl rfl rfl ⟨Nat.le_of_ble_eq_true rfl, Nat.le_of_ble_eq_true rfl⟩ (Nat.le_of_ble_eq_true rfl) dX0_addPlace_1 ?_
  rcases ite_g hf with ⟨c1, hf⟩ | ⟨c1, hf⟩
  · refine k_if_eq_t C dX0_addPlace_4 (tgt := 24) (by decide) c1 ?_
    exact k_vret C hr hlk (Option.some.inj hf) dX0_addPlace_24
  · refine k_if_eq_f C dX0_addPlace_4 (tgt := 24) (by decide) c1 ?_
    refine k_aload_n C dX0_addPlace_7 0 rfl ?_
    refine k_getr C hb.1 (j := 3) rfl FL_X0_21 dX0_addPlace_8 ?_
    refine k_aload_n C dX0_addPlace_11 0 rfl ?_
    refine k_dup C dX0_addPlace_12 rfl ?_
    refine k_geti C hb.1 (j := 5) rfl FL_X0_28 dX0_addPlace_13 ?_
    refine k_dup_x1 C dX0_addPlace_16 rfl rfl ?_
    refine k_iconst C dX0_addPlace_17 (v := (1 : Int32)) rfl ?_
    refine k_iadd C dX0_addPlace_18 ?_
    refine k_put C hb.1 (j := 5) rfl FL_X0_28 FW_X0_5 dX0_addPlace_19 ?_
    refine k_iload_n C dX0_addPlace_22 1 rfl ?_
    obtain ⟨M2, hM2, hf⟩ := bnd hf
    refine k_iast C hb.2.2.2.2 hM2 dX0_addPlace_23 ?_
    exact k_vret C hr hlk (Option.some.inj hf) dX0_addPlace_24
theorem dX0_flipMark_0 : decode cX0_flipMark 0 = .ok (.aload_n 0, 1) := by decide +kernel
theorem dX0_flipMark_1 : decode cX0_flipMark 1 = .ok (.getfield 18, 3) := by decide +kernel
theorem dX0_flipMark_4 : decode cX0_flipMark 4 = .ok (.iload_n 1, 1) := by decide +kernel
theorem dX0_flipMark_5 : decode cX0_flipMark 5 = .ok (.dup2, 1) := by decide +kernel
theorem dX0_flipMark_6 : decode cX0_flipMark 6 = .ok (.iaload, 1) := by decide +kernel
theorem dX0_flipMark_7 : decode cX0_flipMark 7 = .ok (.iconst 1, 1) := by decide +kernel
theorem dX0_flipMark_8 : decode cX0_flipMark 8 = .ok (.iload_n 2, 1) := by decide +kernel
theorem dX0_flipMark_9 : decode cX0_flipMark 9 = .ok (.ishl, 1) := by decide +kernel
theorem dX0_flipMark_10 : decode cX0_flipMark 10 = .ok (.ixor, 1) := by decide +kernel
theorem dX0_flipMark_11 : decode cX0_flipMark 11 = .ok (.iastore, 1) := by decide +kernel
theorem dX0_flipMark_12 : decode cX0_flipMark 12 = .ok (.return_, 1) := by decide +kernel
set_option maxRecDepth 100000 in
set_option maxHeartbeats 4000000 in
theorem c_X0_flipMark {l : Launch} {G : Gx} (hap : k_ap G shC.length) (b : Nat) (hb : BD b) (v1 : Int32) (v2 : Int32) (M0 : Mem) (r : Mem) (hf : f_X0_flipMark b v1 v2 M0 = some r) : k_Met l yX0_flipMark cX0_flipMark 3 none 0 0 G shC [.ref (G.2.1 b), .int v1, .int v2] M0 (k_Qv G shC r) := by
  refine k_Met_of (by decide) hap (Nat.le_of_ble_eq_true rfl) ?_
  intro p e s m args below meth c C hr hlk
  have C : Cx p s m args c cX0_flipMark RX0 3 G shC := C
  unfold f_X0_flipMark at hf
  refine k_lv (lv' := [(0, .ref (G.2.1 b)), (1, .int v1), (2, .int v2)]) [0, 1, 2] rfl ?_
  refine k_aload_n C dX0_flipMark_0 0 rfl ?_
  refine k_getr C hb.1 (j := 2) rfl FL_X0_18 dX0_flipMark_1 ?_
  refine k_iload_n C dX0_flipMark_4 1 rfl ?_
  refine k_dup2 C dX0_flipMark_5 rfl rfl ?_
  obtain ⟨t1, ht1, hf⟩ := bnd hf
  refine k_iald C hb.2.2.2.1 ht1 dX0_flipMark_6 ?_
  refine k_iconst C dX0_flipMark_7 (v := (1 : Int32)) rfl ?_
  refine k_iload_n C dX0_flipMark_8 2 rfl ?_
  refine k_ishlJ C dX0_flipMark_9 ?_
  refine k_ixor C dX0_flipMark_10 ?_
  obtain ⟨M2, hM2, hf⟩ := bnd hf
  refine k_iast C hb.2.2.2.1 hM2 dX0_flipMark_11 ?_
  exact k_vret C hr hlk (Option.some.inj hf) dX0_flipMark_12
theorem dJ6_bitCount_0f7a4_0 : decode cJ6_bitCount_0f7a4 0 = .ok (.iload_n 0, 1) := by decide +kernel
theorem dJ6_bitCount_0f7a4_1 : decode cJ6_bitCount_0f7a4 1 = .ok (.iload_n 0, 1) := by decide +kernel
theorem dJ6_bitCount_0f7a4_2 : decode cJ6_bitCount_0f7a4 2 = .ok (.iconst 1, 1) := by decide +kernel
theorem dJ6_bitCount_0f7a4_3 : decode cJ6_bitCount_0f7a4 3 = .ok (.iushr, 1) := by decide +kernel
theorem dJ6_bitCount_0f7a4_4 : decode cJ6_bitCount_0f7a4 4 = .ok (.ldc_w 265, 3) := by decide +kernel
theorem dJ6_bitCount_0f7a4_7 : decode cJ6_bitCount_0f7a4 7 = .ok (.iand, 1) := by decide +kernel
theorem dJ6_bitCount_0f7a4_8 : decode cJ6_bitCount_0f7a4 8 = .ok (.isub, 1) := by decide +kernel
theorem dJ6_bitCount_0f7a4_9 : decode cJ6_bitCount_0f7a4 9 = .ok (.istore_n 0, 1) := by decide +kernel
theorem dJ6_bitCount_0f7a4_10 : decode cJ6_bitCount_0f7a4 10 = .ok (.iload_n 0, 1) := by decide +kernel
theorem dJ6_bitCount_0f7a4_11 : decode cJ6_bitCount_0f7a4 11 = .ok (.ldc_w 266, 3) := by decide +kernel
theorem dJ6_bitCount_0f7a4_14 : decode cJ6_bitCount_0f7a4 14 = .ok (.iand, 1) := by decide +kernel
theorem dJ6_bitCount_0f7a4_15 : decode cJ6_bitCount_0f7a4 15 = .ok (.iload_n 0, 1) := by decide +kernel
theorem dJ6_bitCount_0f7a4_16 : decode cJ6_bitCount_0f7a4 16 = .ok (.iconst 2, 1) := by decide +kernel
theorem dJ6_bitCount_0f7a4_17 : decode cJ6_bitCount_0f7a4 17 = .ok (.iushr, 1) := by decide +kernel
theorem dJ6_bitCount_0f7a4_18 : decode cJ6_bitCount_0f7a4 18 = .ok (.ldc_w 266, 3) := by decide +kernel
theorem dJ6_bitCount_0f7a4_21 : decode cJ6_bitCount_0f7a4 21 = .ok (.iand, 1) := by decide +kernel
theorem dJ6_bitCount_0f7a4_22 : decode cJ6_bitCount_0f7a4 22 = .ok (.iadd, 1) := by decide +kernel
theorem dJ6_bitCount_0f7a4_23 : decode cJ6_bitCount_0f7a4 23 = .ok (.istore_n 0, 1) := by decide +kernel
theorem dJ6_bitCount_0f7a4_24 : decode cJ6_bitCount_0f7a4 24 = .ok (.iload_n 0, 1) := by decide +kernel
theorem dJ6_bitCount_0f7a4_25 : decode cJ6_bitCount_0f7a4 25 = .ok (.iload_n 0, 1) := by decide +kernel
theorem dJ6_bitCount_0f7a4_26 : decode cJ6_bitCount_0f7a4 26 = .ok (.iconst 4, 1) := by decide +kernel
theorem dJ6_bitCount_0f7a4_27 : decode cJ6_bitCount_0f7a4 27 = .ok (.iushr, 1) := by decide +kernel
theorem dJ6_bitCount_0f7a4_28 : decode cJ6_bitCount_0f7a4 28 = .ok (.iadd, 1) := by decide +kernel
theorem dJ6_bitCount_0f7a4_29 : decode cJ6_bitCount_0f7a4 29 = .ok (.ldc_w 267, 3) := by decide +kernel
theorem dJ6_bitCount_0f7a4_32 : decode cJ6_bitCount_0f7a4 32 = .ok (.iand, 1) := by decide +kernel
theorem dJ6_bitCount_0f7a4_33 : decode cJ6_bitCount_0f7a4 33 = .ok (.istore_n 0, 1) := by decide +kernel
theorem dJ6_bitCount_0f7a4_34 : decode cJ6_bitCount_0f7a4 34 = .ok (.iload_n 0, 1) := by decide +kernel
theorem dJ6_bitCount_0f7a4_35 : decode cJ6_bitCount_0f7a4 35 = .ok (.iload_n 0, 1) := by decide +kernel
theorem dJ6_bitCount_0f7a4_36 : decode cJ6_bitCount_0f7a4 36 = .ok (.bipush 8, 2) := by decide +kernel
theorem dJ6_bitCount_0f7a4_38 : decode cJ6_bitCount_0f7a4 38 = .ok (.iushr, 1) := by decide +kernel
theorem dJ6_bitCount_0f7a4_39 : decode cJ6_bitCount_0f7a4 39 = .ok (.iadd, 1) := by decide +kernel
theorem dJ6_bitCount_0f7a4_40 : decode cJ6_bitCount_0f7a4 40 = .ok (.istore_n 0, 1) := by decide +kernel
theorem dJ6_bitCount_0f7a4_41 : decode cJ6_bitCount_0f7a4 41 = .ok (.iload_n 0, 1) := by decide +kernel
theorem dJ6_bitCount_0f7a4_42 : decode cJ6_bitCount_0f7a4 42 = .ok (.iload_n 0, 1) := by decide +kernel
theorem dJ6_bitCount_0f7a4_43 : decode cJ6_bitCount_0f7a4 43 = .ok (.bipush 16, 2) := by decide +kernel
theorem dJ6_bitCount_0f7a4_45 : decode cJ6_bitCount_0f7a4 45 = .ok (.iushr, 1) := by decide +kernel
theorem dJ6_bitCount_0f7a4_46 : decode cJ6_bitCount_0f7a4 46 = .ok (.iadd, 1) := by decide +kernel
theorem dJ6_bitCount_0f7a4_47 : decode cJ6_bitCount_0f7a4 47 = .ok (.istore_n 0, 1) := by decide +kernel
theorem dJ6_bitCount_0f7a4_48 : decode cJ6_bitCount_0f7a4 48 = .ok (.iload_n 0, 1) := by decide +kernel
theorem dJ6_bitCount_0f7a4_49 : decode cJ6_bitCount_0f7a4 49 = .ok (.bipush 63, 2) := by decide +kernel
theorem dJ6_bitCount_0f7a4_51 : decode cJ6_bitCount_0f7a4 51 = .ok (.iand, 1) := by decide +kernel
theorem dJ6_bitCount_0f7a4_52 : decode cJ6_bitCount_0f7a4 52 = .ok (.ireturn, 1) := by decide +kernel
set_option maxRecDepth 100000 in
set_option maxHeartbeats 4000000 in
theorem c_J6_bitCount_0f7a4 {l : Launch} {G : Gx} (hap : k_ap G shC.length) (v0 : Int32) (M0 : Mem) (r : Int32) (hf : f_J6_bitCount_0f7a4 v0 = r) : k_Met l yJ6_bitCount_0f7a4 cJ6_bitCount_0f7a4 1 (some .int) 0 0 G shC [.int v0] M0 (k_Qi G shC r M0) := by
  refine k_Met_of (by decide) hap (Nat.le_of_ble_eq_true rfl) ?_
  intro p e s m args below meth c C hr hlk
  have C : Cx p s m args c cJ6_bitCount_0f7a4 RJ6 1 G shC := C
  unfold f_J6_bitCount_0f7a4 at hf
  refine k_lv (lv' := [(0, .int v0)]) [0] rfl ?_
  refine k_iload_n C dJ6_bitCount_0f7a4_0 0 rfl ?_
  refine k_iload_n C dJ6_bitCount_0f7a4_1 0 rfl ?_
  refine k_iconst C dJ6_bitCount_0f7a4_2 (v := (1 : Int32)) rfl ?_
  refine k_iushrJ C dJ6_bitCount_0f7a4_3 ?_
  refine k_ldcw C dJ6_bitCount_0f7a4_4 wd_573 ?_
  refine k_iand C dJ6_bitCount_0f7a4_7 ?_
  refine k_isub C dJ6_bitCount_0f7a4_8 ?_
  refine k_istore_n C dJ6_bitCount_0f7a4_9 (by decide) [0] (lv' := [(0, .int (v0 - ((jushr v0 (1 : Int32)) &&& (1431655765 : Int32))))]) rfl ?_
  refine k_iload_n C dJ6_bitCount_0f7a4_10 0 rfl ?_
  refine k_ldcw C dJ6_bitCount_0f7a4_11 wd_574 ?_
  refine k_iand C dJ6_bitCount_0f7a4_14 ?_
  refine k_iload_n C dJ6_bitCount_0f7a4_15 0 rfl ?_
  refine k_iconst C dJ6_bitCount_0f7a4_16 (v := (2 : Int32)) rfl ?_
  refine k_iushrJ C dJ6_bitCount_0f7a4_17 ?_
  refine k_ldcw C dJ6_bitCount_0f7a4_18 wd_574 ?_
  refine k_iand C dJ6_bitCount_0f7a4_21 ?_
  refine k_iadd C dJ6_bitCount_0f7a4_22 ?_
  refine k_istore_n C dJ6_bitCount_0f7a4_23 (by decide) [0] (lv' := [(0, .int (((v0 - ((jushr v0 (1 : Int32)) &&& (1431655765 : Int32))) &&& (858993459 : Int32)) + ((jushr (v0 - ((jushr v0 (1 : Int32)) &&& (1431655765 : Int32))) (2 : Int32)) &&& (858993459 : Int32))))]) rfl ?_
  refine k_iload_n C dJ6_bitCount_0f7a4_24 0 rfl ?_
  refine k_iload_n C dJ6_bitCount_0f7a4_25 0 rfl ?_
  refine k_iconst C dJ6_bitCount_0f7a4_26 (v := (4 : Int32)) rfl ?_
  refine k_iushrJ C dJ6_bitCount_0f7a4_27 ?_
  refine k_iadd C dJ6_bitCount_0f7a4_28 ?_
  refine k_ldcw C dJ6_bitCount_0f7a4_29 wd_575 ?_
  refine k_iand C dJ6_bitCount_0f7a4_32 ?_
  refine k_istore_n C dJ6_bitCount_0f7a4_33 (by decide) [0] (lv' := [(0, .int (((((v0 - ((jushr v0 (1 : Int32)) &&& (1431655765 : Int32))) &&& (858993459 : Int32)) + ((jushr (v0 - ((jushr v0 (1 : Int32)) &&& (1431655765 : Int32))) (2 : Int32)) &&& (858993459 : Int32))) + (jushr (((v0 - ((jushr v0 (1 : Int32)) &&& (1431655765 : Int32))) &&& (858993459 : Int32)) + ((jushr (v0 - ((jushr v0 (1 : Int32)) &&& (1431655765 : Int32))) (2 : Int32)) &&& (858993459 : Int32))) (4 : Int32))) &&& (252645135 : Int32)))]) rfl ?_
  refine k_iload_n C dJ6_bitCount_0f7a4_34 0 rfl ?_
  refine k_iload_n C dJ6_bitCount_0f7a4_35 0 rfl ?_
  refine k_bipush C dJ6_bitCount_0f7a4_36 (v := (8 : Int32)) rfl ?_
  refine k_iushrJ C dJ6_bitCount_0f7a4_38 ?_
  refine k_iadd C dJ6_bitCount_0f7a4_39 ?_
  refine k_istore_n C dJ6_bitCount_0f7a4_40 (by decide) [0] (lv' := [(0, .int ((((((v0 - ((jushr v0 (1 : Int32)) &&& (1431655765 : Int32))) &&& (858993459 : Int32)) + ((jushr (v0 - ((jushr v0 (1 : Int32)) &&& (1431655765 : Int32))) (2 : Int32)) &&& (858993459 : Int32))) + (jushr (((v0 - ((jushr v0 (1 : Int32)) &&& (1431655765 : Int32))) &&& (858993459 : Int32)) + ((jushr (v0 - ((jushr v0 (1 : Int32)) &&& (1431655765 : Int32))) (2 : Int32)) &&& (858993459 : Int32))) (4 : Int32))) &&& (252645135 : Int32)) + (jushr (((((v0 - ((jushr v0 (1 : Int32)) &&& (1431655765 : Int32))) &&& (858993459 : Int32)) + ((jushr (v0 - ((jushr v0 (1 : Int32)) &&& (1431655765 : Int32))) (2 : Int32)) &&& (858993459 : Int32))) + (jushr (((v0 - ((jushr v0 (1 : Int32)) &&& (1431655765 : Int32))) &&& (858993459 : Int32)) + ((jushr (v0 - ((jushr v0 (1 : Int32)) &&& (1431655765 : Int32))) (2 : Int32)) &&& (858993459 : Int32))) (4 : Int32))) &&& (252645135 : Int32)) (8 : Int32))))]) rfl ?_
  refine k_iload_n C dJ6_bitCount_0f7a4_41 0 rfl ?_
  refine k_iload_n C dJ6_bitCount_0f7a4_42 0 rfl ?_
  refine k_bipush C dJ6_bitCount_0f7a4_43 (v := (16 : Int32)) rfl ?_
  refine k_iushrJ C dJ6_bitCount_0f7a4_45 ?_
  refine k_iadd C dJ6_bitCount_0f7a4_46 ?_
  refine k_istore_n C dJ6_bitCount_0f7a4_47 (by decide) [0] (lv' := [(0, .int (((((((v0 - ((jushr v0 (1 : Int32)) &&& (1431655765 : Int32))) &&& (858993459 : Int32)) + ((jushr (v0 - ((jushr v0 (1 : Int32)) &&& (1431655765 : Int32))) (2 : Int32)) &&& (858993459 : Int32))) + (jushr (((v0 - ((jushr v0 (1 : Int32)) &&& (1431655765 : Int32))) &&& (858993459 : Int32)) + ((jushr (v0 - ((jushr v0 (1 : Int32)) &&& (1431655765 : Int32))) (2 : Int32)) &&& (858993459 : Int32))) (4 : Int32))) &&& (252645135 : Int32)) + (jushr (((((v0 - ((jushr v0 (1 : Int32)) &&& (1431655765 : Int32))) &&& (858993459 : Int32)) + ((jushr (v0 - ((jushr v0 (1 : Int32)) &&& (1431655765 : Int32))) (2 : Int32)) &&& (858993459 : Int32))) + (jushr (((v0 - ((jushr v0 (1 : Int32)) &&& (1431655765 : Int32))) &&& (858993459 : Int32)) + ((jushr (v0 - ((jushr v0 (1 : Int32)) &&& (1431655765 : Int32))) (2 : Int32)) &&& (858993459 : Int32))) (4 : Int32))) &&& (252645135 : Int32)) (8 : Int32))) + (jushr ((((((v0 - ((jushr v0 (1 : Int32)) &&& (1431655765 : Int32))) &&& (858993459 : Int32)) + ((jushr (v0 - ((jushr v0 (1 : Int32)) &&& (1431655765 : Int32))) (2 : Int32)) &&& (858993459 : Int32))) + (jushr (((v0 - ((jushr v0 (1 : Int32)) &&& (1431655765 : Int32))) &&& (858993459 : Int32)) + ((jushr (v0 - ((jushr v0 (1 : Int32)) &&& (1431655765 : Int32))) (2 : Int32)) &&& (858993459 : Int32))) (4 : Int32))) &&& (252645135 : Int32)) + (jushr (((((v0 - ((jushr v0 (1 : Int32)) &&& (1431655765 : Int32))) &&& (858993459 : Int32)) + ((jushr (v0 - ((jushr v0 (1 : Int32)) &&& (1431655765 : Int32))) (2 : Int32)) &&& (858993459 : Int32))) + (jushr (((v0 - ((jushr v0 (1 : Int32)) &&& (1431655765 : Int32))) &&& (858993459 : Int32)) + ((jushr (v0 - ((jushr v0 (1 : Int32)) &&& (1431655765 : Int32))) (2 : Int32)) &&& (858993459 : Int32))) (4 : Int32))) &&& (252645135 : Int32)) (8 : Int32))) (16 : Int32))))]) rfl ?_
  refine k_iload_n C dJ6_bitCount_0f7a4_48 0 rfl ?_
  refine k_bipush C dJ6_bitCount_0f7a4_49 (v := (63 : Int32)) rfl ?_
  refine k_iand C dJ6_bitCount_0f7a4_51 ?_
  exact k_iret C hr hlk hf rfl dJ6_bitCount_0f7a4_52
theorem dX0_areAlike_0 : decode cX0_areAlike 0 = .ok (.iload_n 1, 1) := by decide +kernel
theorem dX0_areAlike_1 : decode cX0_areAlike 1 = .ok (.iload_n 2, 1) := by decide +kernel
theorem dX0_areAlike_2 : decode cX0_areAlike 2 = .ok (.if_icmp .ne 5, 3) := by decide +kernel
theorem dX0_areAlike_5 : decode cX0_areAlike 5 = .ok (.iconst 1, 1) := by decide +kernel
theorem dX0_areAlike_6 : decode cX0_areAlike 6 = .ok (.ireturn, 1) := by decide +kernel
theorem dX0_areAlike_7 : decode cX0_areAlike 7 = .ok (.iload_n 3, 1) := by decide +kernel
theorem dX0_areAlike_8 : decode cX0_areAlike 8 = .ok (.tableswitch 97 0 2 #[28, 49, 70], 28) := by decide +kernel
theorem dX0_areAlike_36 : decode cX0_areAlike 36 = .ok (.aload_n 0, 1) := by decide +kernel
theorem dX0_areAlike_37 : decode cX0_areAlike 37 = .ok (.getfield 18, 3) := by decide +kernel
theorem dX0_areAlike_40 : decode cX0_areAlike 40 = .ok (.iload_n 1, 1) := by decide +kernel
theorem dX0_areAlike_41 : decode cX0_areAlike 41 = .ok (.iaload, 1) := by decide +kernel
theorem dX0_areAlike_42 : decode cX0_areAlike 42 = .ok (.aload_n 0, 1) := by decide +kernel
theorem dX0_areAlike_43 : decode cX0_areAlike 43 = .ok (.getfield 18, 3) := by decide +kernel
theorem dX0_areAlike_46 : decode cX0_areAlike 46 = .ok (.iload_n 2, 1) := by decide +kernel
theorem dX0_areAlike_47 : decode cX0_areAlike 47 = .ok (.iaload, 1) := by decide +kernel
theorem dX0_areAlike_48 : decode cX0_areAlike 48 = .ok (.if_icmp .ne 7, 3) := by decide +kernel
theorem dX0_areAlike_51 : decode cX0_areAlike 51 = .ok (.iconst 1, 1) := by decide +kernel
theorem dX0_areAlike_52 : decode cX0_areAlike 52 = .ok (.goto 4, 3) := by decide +kernel
theorem dX0_areAlike_55 : decode cX0_areAlike 55 = .ok (.iconst 0, 1) := by decide +kernel
theorem dX0_areAlike_56 : decode cX0_areAlike 56 = .ok (.ireturn, 1) := by decide +kernel
theorem dX0_areAlike_57 : decode cX0_areAlike 57 = .ok (.aload_n 0, 1) := by decide +kernel
theorem dX0_areAlike_58 : decode cX0_areAlike 58 = .ok (.getfield 9, 3) := by decide +kernel
theorem dX0_areAlike_61 : decode cX0_areAlike 61 = .ok (.iload_n 1, 1) := by decide +kernel
theorem dX0_areAlike_62 : decode cX0_areAlike 62 = .ok (.iaload, 1) := by decide +kernel
theorem dX0_areAlike_63 : decode cX0_areAlike 63 = .ok (.aload_n 0, 1) := by decide +kernel
theorem dX0_areAlike_64 : decode cX0_areAlike 64 = .ok (.getfield 9, 3) := by decide +kernel
theorem dX0_areAlike_67 : decode cX0_areAlike 67 = .ok (.iload_n 2, 1) := by decide +kernel
theorem dX0_areAlike_68 : decode cX0_areAlike 68 = .ok (.iaload, 1) := by decide +kernel
theorem dX0_areAlike_69 : decode cX0_areAlike 69 = .ok (.if_icmp .ne 7, 3) := by decide +kernel
theorem dX0_areAlike_72 : decode cX0_areAlike 72 = .ok (.iconst 1, 1) := by decide +kernel
theorem dX0_areAlike_73 : decode cX0_areAlike 73 = .ok (.goto 4, 3) := by decide +kernel
theorem dX0_areAlike_76 : decode cX0_areAlike 76 = .ok (.iconst 0, 1) := by decide +kernel
theorem dX0_areAlike_77 : decode cX0_areAlike 77 = .ok (.ireturn, 1) := by decide +kernel
theorem dX0_areAlike_78 : decode cX0_areAlike 78 = .ok (.aload_n 0, 1) := by decide +kernel
theorem dX0_areAlike_79 : decode cX0_areAlike 79 = .ok (.getfield 18, 3) := by decide +kernel
theorem dX0_areAlike_82 : decode cX0_areAlike 82 = .ok (.iload_n 1, 1) := by decide +kernel
theorem dX0_areAlike_83 : decode cX0_areAlike 83 = .ok (.iaload, 1) := by decide +kernel
theorem dX0_areAlike_84 : decode cX0_areAlike 84 = .ok (.aload_n 0, 1) := by decide +kernel
theorem dX0_areAlike_85 : decode cX0_areAlike 85 = .ok (.getfield 18, 3) := by decide +kernel
theorem dX0_areAlike_88 : decode cX0_areAlike 88 = .ok (.iload_n 2, 1) := by decide +kernel
theorem dX0_areAlike_89 : decode cX0_areAlike 89 = .ok (.iaload, 1) := by decide +kernel
theorem dX0_areAlike_90 : decode cX0_areAlike 90 = .ok (.iand, 1) := by decide +kernel
theorem dX0_areAlike_91 : decode cX0_areAlike 91 = .ok (.invokestatic 58, 3) := by decide +kernel
theorem dX0_areAlike_94 : decode cX0_areAlike 94 = .ok (.iload 4, 2) := by decide +kernel
theorem dX0_areAlike_96 : decode cX0_areAlike 96 = .ok (.if_icmp .lt 7, 3) := by decide +kernel
theorem dX0_areAlike_99 : decode cX0_areAlike 99 = .ok (.iconst 1, 1) := by decide +kernel
theorem dX0_areAlike_100 : decode cX0_areAlike 100 = .ok (.goto 4, 3) := by decide +kernel
theorem dX0_areAlike_103 : decode cX0_areAlike 103 = .ok (.iconst 0, 1) := by decide +kernel
theorem dX0_areAlike_104 : decode cX0_areAlike 104 = .ok (.ireturn, 1) := by decide +kernel
theorem dX0_areAlike_105 : decode cX0_areAlike 105 = .ok (.aload_n 0, 1) := by decide +kernel
theorem dX0_areAlike_106 : decode cX0_areAlike 106 = .ok (.getfield 18, 3) := by decide +kernel
theorem dX0_areAlike_109 : decode cX0_areAlike 109 = .ok (.iload_n 1, 1) := by decide +kernel
theorem dX0_areAlike_110 : decode cX0_areAlike 110 = .ok (.iaload, 1) := by decide +kernel
theorem dX0_areAlike_111 : decode cX0_areAlike 111 = .ok (.aload_n 0, 1) := by decide +kernel
theorem dX0_areAlike_112 : decode cX0_areAlike 112 = .ok (.getfield 18, 3) := by decide +kernel
theorem dX0_areAlike_115 : decode cX0_areAlike 115 = .ok (.iload_n 2, 1) := by decide +kernel
theorem dX0_areAlike_116 : decode cX0_areAlike 116 = .ok (.iaload, 1) := by decide +kernel
theorem dX0_areAlike_117 : decode cX0_areAlike 117 = .ok (.ixor, 1) := by decide +kernel
theorem dX0_areAlike_118 : decode cX0_areAlike 118 = .ok (.invokestatic 58, 3) := by decide +kernel
theorem dX0_areAlike_121 : decode cX0_areAlike 121 = .ok (.iload 4, 2) := by decide +kernel
theorem dX0_areAlike_123 : decode cX0_areAlike 123 = .ok (.if_icmp .gt 7, 3) := by decide +kernel
theorem dX0_areAlike_126 : decode cX0_areAlike 126 = .ok (.iconst 1, 1) := by decide +kernel
theorem dX0_areAlike_127 : decode cX0_areAlike 127 = .ok (.goto 4, 3) := by decide +kernel
theorem dX0_areAlike_130 : decode cX0_areAlike 130 = .ok (.iconst 0, 1) := by decide +kernel
theorem dX0_areAlike_131 : decode cX0_areAlike 131 = .ok (.ireturn, 1) := by decide +kernel
set_option maxRecDepth 100000 in
set_option maxHeartbeats 4000000 in
theorem c_X0_areAlike {l : Launch} {G : Gx} (hap : k_ap G shC.length) (b : Nat) (hb : BD b) (v1 : Int32) (v2 : Int32) (v3 : Int32) (v4 : Int32) (M0 : Mem) (r : Int32) (hf : f_X0_areAlike b v1 v2 v3 v4 M0 = some r) : k_Met l yX0_areAlike cX0_areAlike 5 (some .boolean) 1 20 G shC [.ref (G.2.1 b), .int v1, .int v2, .int v3, .int v4] M0 (k_Qi G shC r M0) := by
  refine k_Met_of (by decide) hap (Nat.le_of_ble_eq_true rfl) ?_
  intro p e s m args below meth c C hr hlk
  have C : Cx p s m args c cX0_areAlike RX0 5 G shC := C
  unfold f_X0_areAlike at hf
  refine k_lv (lv' := [(0, .ref (G.2.1 b)), (1, .int v1), (2, .int v2), (3, .int v3), (4, .int v4)]) [0, 1, 2, 3, 4] rfl ?_
  refine k_iload_n C dX0_areAlike_0 1 rfl ?_
  refine k_iload_n C dX0_areAlike_1 2 rfl ?_
  rcases ite_g hf with ⟨c1, hf⟩ | ⟨c1, hf⟩
  · refine k_icmp_ne_f C dX0_areAlike_2 (tgt := 7) (by decide) c1 ?_
    refine k_iconst C dX0_areAlike_5 (v := (1 : Int32)) rfl ?_
    exact k_zret C hr hlk (gZ1.trans (congrArg some (Option.some.inj hf))) rfl dX0_areAlike_6
  · refine k_icmp_ne_t C dX0_areAlike_2 (tgt := 7) (by decide) c1 ?_
    refine k_iload_n C dX0_areAlike_7 3 rfl ?_
    rcases ite_g hf with ⟨c2, hf⟩ | ⟨c2, hf⟩
    · refine k_tableIn C (0 : Int32) c2 dX0_areAlike_8 (off := 28) (tgt := 36) (by decide) (by decide) (by decide) (by decide) ?_
      refine k_aload_n C dX0_areAlike_36 0 rfl ?_
      refine k_getr C hb.1 (j := 2) rfl FL_X0_18 dX0_areAlike_37 ?_
      refine k_iload_n C dX0_areAlike_40 1 rfl ?_
      obtain ⟨t3, ht3, hf⟩ := bnd hf
      refine k_iald C hb.2.2.2.1 ht3 dX0_areAlike_41 ?_
      refine k_aload_n C dX0_areAlike_42 0 rfl ?_
      refine k_getr C hb.1 (j := 2) rfl FL_X0_18 dX0_areAlike_43 ?_
      refine k_iload_n C dX0_areAlike_46 2 rfl ?_
      obtain ⟨t4, ht4, hf⟩ := bnd hf
      refine k_iald C hb.2.2.2.1 ht4 dX0_areAlike_47 ?_
      rcases ite_g hf with ⟨c5, hf⟩ | ⟨c5, hf⟩
      · refine k_icmp_ne_f C dX0_areAlike_48 (tgt := 55) (by decide) c5 ?_
        refine k_iconst C dX0_areAlike_51 (v := (1 : Int32)) rfl ?_
        refine k_goto C dX0_areAlike_52 (tgt := 56) (by decide) ?_
        exact k_zret C hr hlk (gZ1.trans (congrArg some (Option.some.inj hf))) rfl dX0_areAlike_56
      · refine k_icmp_ne_t C dX0_areAlike_48 (tgt := 55) (by decide) c5 ?_
        refine k_iconst C dX0_areAlike_55 (v := (0 : Int32)) rfl ?_
        exact k_zret C hr hlk (gZ0.trans (congrArg some (Option.some.inj hf))) rfl dX0_areAlike_56
    · rcases ite_g hf with ⟨c6, hf⟩ | ⟨c6, hf⟩
      · refine k_tableIn C (1 : Int32) c6 dX0_areAlike_8 (off := 49) (tgt := 57) (by decide) (by decide) (by decide) (by decide) ?_
        refine k_aload_n C dX0_areAlike_57 0 rfl ?_
        refine k_getr C hb.1 (j := 0) rfl FL_X0_9 dX0_areAlike_58 ?_
        refine k_iload_n C dX0_areAlike_61 1 rfl ?_
        obtain ⟨t7, ht7, hf⟩ := bnd hf
        refine k_iald C hb.2.1 ht7 dX0_areAlike_62 ?_
        refine k_aload_n C dX0_areAlike_63 0 rfl ?_
        refine k_getr C hb.1 (j := 0) rfl FL_X0_9 dX0_areAlike_64 ?_
        refine k_iload_n C dX0_areAlike_67 2 rfl ?_
        obtain ⟨t8, ht8, hf⟩ := bnd hf
        refine k_iald C hb.2.1 ht8 dX0_areAlike_68 ?_
        rcases ite_g hf with ⟨c9, hf⟩ | ⟨c9, hf⟩
        · refine k_icmp_ne_f C dX0_areAlike_69 (tgt := 76) (by decide) c9 ?_
          refine k_iconst C dX0_areAlike_72 (v := (1 : Int32)) rfl ?_
          refine k_goto C dX0_areAlike_73 (tgt := 77) (by decide) ?_
          exact k_zret C hr hlk (gZ1.trans (congrArg some (Option.some.inj hf))) rfl dX0_areAlike_77
        · refine k_icmp_ne_t C dX0_areAlike_69 (tgt := 76) (by decide) c9 ?_
          refine k_iconst C dX0_areAlike_76 (v := (0 : Int32)) rfl ?_
          exact k_zret C hr hlk (gZ0.trans (congrArg some (Option.some.inj hf))) rfl dX0_areAlike_77
      · rcases ite_g hf with ⟨c10, hf⟩ | ⟨c10, hf⟩
        · refine k_tableIn C (2 : Int32) c10 dX0_areAlike_8 (off := 70) (tgt := 78) (by decide) (by decide) (by decide) (by decide) ?_
          refine k_aload_n C dX0_areAlike_78 0 rfl ?_
          refine k_getr C hb.1 (j := 2) rfl FL_X0_18 dX0_areAlike_79 ?_
          refine k_iload_n C dX0_areAlike_82 1 rfl ?_
          obtain ⟨t11, ht11, hf⟩ := bnd hf
          refine k_iald C hb.2.2.2.1 ht11 dX0_areAlike_83 ?_
          refine k_aload_n C dX0_areAlike_84 0 rfl ?_
          refine k_getr C hb.1 (j := 2) rfl FL_X0_18 dX0_areAlike_85 ?_
          refine k_iload_n C dX0_areAlike_88 2 rfl ?_
          obtain ⟨t12, ht12, hf⟩ := bnd hf
          refine k_iald C hb.2.2.2.1 ht12 dX0_areAlike_89 ?_
          refine k_iand C dX0_areAlike_90 ?_
          refine k_callSi C (As := [.int (t11 &&& t12)]) (c_J6_bitCount_0f7a4 hap (t11 &&& t12) M0 _ rfl) MS_J6_bitCount_0f7a4 wd_570 rfl rfl ⟨Nat.le_of_ble_eq_true rfl, Nat.le_of_ble_eq_true rfl⟩ (Nat.le_of_ble_eq_true rfl) dX0_areAlike_91 ?_
          refine k_iload C dX0_areAlike_94 4 rfl ?_
          rcases ite_g hf with ⟨c13, hf⟩ | ⟨c13, hf⟩
          · refine k_icmp_lt_t C dX0_areAlike_96 (tgt := 103) (by decide) c13 ?_
            refine k_iconst C dX0_areAlike_103 (v := (0 : Int32)) rfl ?_
            exact k_zret C hr hlk (gZ0.trans (congrArg some (Option.some.inj hf))) rfl dX0_areAlike_104
          · refine k_icmp_lt_f C dX0_areAlike_96 (tgt := 103) (by decide) c13 ?_
            refine k_iconst C dX0_areAlike_99 (v := (1 : Int32)) rfl ?_
            refine k_goto C dX0_areAlike_100 (tgt := 104) (by decide) ?_
            exact k_zret C hr hlk (gZ1.trans (congrArg some (Option.some.inj hf))) rfl dX0_areAlike_104
        · have hqc2 : (v3 : Int32).toInt ≠ 0 := i_ne2 c2 (by decide)
          have hqc6 : (v3 : Int32).toInt ≠ 1 := i_ne2 c6 (by decide)
          have hqc10 : (v3 : Int32).toInt ≠ 2 := i_ne2 c10 (by decide)
          refine k_tableOut C dX0_areAlike_8 (tgt := 105) (by omega) (by decide) ?_
          refine k_aload_n C dX0_areAlike_105 0 rfl ?_
          refine k_getr C hb.1 (j := 2) rfl FL_X0_18 dX0_areAlike_106 ?_
          refine k_iload_n C dX0_areAlike_109 1 rfl ?_
          obtain ⟨t14, ht14, hf⟩ := bnd hf
          refine k_iald C hb.2.2.2.1 ht14 dX0_areAlike_110 ?_
          refine k_aload_n C dX0_areAlike_111 0 rfl ?_
          refine k_getr C hb.1 (j := 2) rfl FL_X0_18 dX0_areAlike_112 ?_
          refine k_iload_n C dX0_areAlike_115 2 rfl ?_
          obtain ⟨t15, ht15, hf⟩ := bnd hf
          refine k_iald C hb.2.2.2.1 ht15 dX0_areAlike_116 ?_
          refine k_ixor C dX0_areAlike_117 ?_
          refine k_callSi C (As := [.int (t14 ^^^ t15)]) (c_J6_bitCount_0f7a4 hap (t14 ^^^ t15) M0 _ rfl) MS_J6_bitCount_0f7a4 wd_570 rfl rfl ⟨Nat.le_of_ble_eq_true rfl, Nat.le_of_ble_eq_true rfl⟩ (Nat.le_of_ble_eq_true rfl) dX0_areAlike_118 ?_
          refine k_iload C dX0_areAlike_121 4 rfl ?_
          rcases ite_g hf with ⟨c16, hf⟩ | ⟨c16, hf⟩
          · refine k_icmp_gt_t C dX0_areAlike_123 (tgt := 130) (by decide) c16 ?_
            refine k_iconst C dX0_areAlike_130 (v := (0 : Int32)) rfl ?_
            exact k_zret C hr hlk (gZ0.trans (congrArg some (Option.some.inj hf))) rfl dX0_areAlike_131
          · refine k_icmp_gt_f C dX0_areAlike_123 (tgt := 130) (by decide) c16 ?_
            refine k_iconst C dX0_areAlike_126 (v := (1 : Int32)) rfl ?_
            refine k_goto C dX0_areAlike_127 (tgt := 131) (by decide) ?_
            exact k_zret C hr hlk (gZ1.trans (congrArg some (Option.some.inj hf))) rfl dX0_areAlike_131
theorem dX0_dueFor_0 : decode cX0_dueFor 0 = .ok (.aload_n 0, 1) := by decide +kernel
theorem dX0_dueFor_1 : decode cX0_dueFor 1 = .ok (.getfield 15, 3) := by decide +kernel
theorem dX0_dueFor_4 : decode cX0_dueFor 4 = .ok (.iload_n 1, 1) := by decide +kernel
theorem dX0_dueFor_5 : decode cX0_dueFor 5 = .ok (.iaload, 1) := by decide +kernel
theorem dX0_dueFor_6 : decode cX0_dueFor 6 = .ok (.iconst 1, 1) := by decide +kernel
theorem dX0_dueFor_7 : decode cX0_dueFor 7 = .ok (.iadd, 1) := by decide +kernel
theorem dX0_dueFor_8 : decode cX0_dueFor 8 = .ok (.iload_n 2, 1) := by decide +kernel
theorem dX0_dueFor_9 : decode cX0_dueFor 9 = .ok (.imul, 1) := by decide +kernel
theorem dX0_dueFor_10 : decode cX0_dueFor 10 = .ok (.istore_n 3, 1) := by decide +kernel
theorem dX0_dueFor_11 : decode cX0_dueFor 11 = .ok (.aload_n 0, 1) := by decide +kernel
theorem dX0_dueFor_12 : decode cX0_dueFor 12 = .ok (.getfield 9, 3) := by decide +kernel
theorem dX0_dueFor_15 : decode cX0_dueFor 15 = .ok (.iload_n 1, 1) := by decide +kernel
theorem dX0_dueFor_16 : decode cX0_dueFor 16 = .ok (.iaload, 1) := by decide +kernel
theorem dX0_dueFor_17 : decode cX0_dueFor 17 = .ok (.tableswitch 82 1 5 #[35, 39, 43, 45, 68], 35) := by decide +kernel
theorem dX0_dueFor_52 : decode cX0_dueFor 52 = .ok (.iload_n 3, 1) := by decide +kernel
theorem dX0_dueFor_53 : decode cX0_dueFor 53 = .ok (.iconst 2, 1) := by decide +kernel
theorem dX0_dueFor_54 : decode cX0_dueFor 54 = .ok (.idiv, 1) := by decide +kernel
theorem dX0_dueFor_55 : decode cX0_dueFor 55 = .ok (.ireturn, 1) := by decide +kernel
theorem dX0_dueFor_56 : decode cX0_dueFor 56 = .ok (.iconst 2, 1) := by decide +kernel
theorem dX0_dueFor_57 : decode cX0_dueFor 57 = .ok (.iload_n 3, 1) := by decide +kernel
theorem dX0_dueFor_58 : decode cX0_dueFor 58 = .ok (.imul, 1) := by decide +kernel
theorem dX0_dueFor_59 : decode cX0_dueFor 59 = .ok (.ireturn, 1) := by decide +kernel
theorem dX0_dueFor_60 : decode cX0_dueFor 60 = .ok (.iconst 0, 1) := by decide +kernel
theorem dX0_dueFor_61 : decode cX0_dueFor 61 = .ok (.ireturn, 1) := by decide +kernel
theorem dX0_dueFor_62 : decode cX0_dueFor 62 = .ok (.iload_n 2, 1) := by decide +kernel
theorem dX0_dueFor_63 : decode cX0_dueFor 63 = .ok (.ifCond .le 20, 3) := by decide +kernel
theorem dX0_dueFor_66 : decode cX0_dueFor 66 = .ok (.iconst 2, 1) := by decide +kernel
theorem dX0_dueFor_67 : decode cX0_dueFor 67 = .ok (.aload_n 0, 1) := by decide +kernel
theorem dX0_dueFor_68 : decode cX0_dueFor 68 = .ok (.getfield 15, 3) := by decide +kernel
theorem dX0_dueFor_71 : decode cX0_dueFor 71 = .ok (.iload_n 1, 1) := by decide +kernel
theorem dX0_dueFor_72 : decode cX0_dueFor 72 = .ok (.iaload, 1) := by decide +kernel
theorem dX0_dueFor_73 : decode cX0_dueFor 73 = .ok (.iconst 1, 1) := by decide +kernel
theorem dX0_dueFor_74 : decode cX0_dueFor 74 = .ok (.iadd, 1) := by decide +kernel
theorem dX0_dueFor_75 : decode cX0_dueFor 75 = .ok (.imul, 1) := by decide +kernel
theorem dX0_dueFor_76 : decode cX0_dueFor 76 = .ok (.iload_n 2, 1) := by decide +kernel
theorem dX0_dueFor_77 : decode cX0_dueFor 77 = .ok (.iconst 1, 1) := by decide +kernel
theorem dX0_dueFor_78 : decode cX0_dueFor 78 = .ok (.isub, 1) := by decide +kernel
theorem dX0_dueFor_79 : decode cX0_dueFor 79 = .ok (.imul, 1) := by decide +kernel
theorem dX0_dueFor_80 : decode cX0_dueFor 80 = .ok (.goto 4, 3) := by decide +kernel
theorem dX0_dueFor_83 : decode cX0_dueFor 83 = .ok (.iconst 0, 1) := by decide +kernel
theorem dX0_dueFor_84 : decode cX0_dueFor 84 = .ok (.ireturn, 1) := by decide +kernel
theorem dX0_dueFor_85 : decode cX0_dueFor 85 = .ok (.iload_n 2, 1) := by decide +kernel
theorem dX0_dueFor_86 : decode cX0_dueFor 86 = .ok (.ifCond .le 11, 3) := by decide +kernel
theorem dX0_dueFor_89 : decode cX0_dueFor 89 = .ok (.iload_n 3, 1) := by decide +kernel
theorem dX0_dueFor_90 : decode cX0_dueFor 90 = .ok (.iconst 2, 1) := by decide +kernel
theorem dX0_dueFor_91 : decode cX0_dueFor 91 = .ok (.idiv, 1) := by decide +kernel
theorem dX0_dueFor_92 : decode cX0_dueFor 92 = .ok (.iconst 3, 1) := by decide +kernel
theorem dX0_dueFor_93 : decode cX0_dueFor 93 = .ok (.iadd, 1) := by decide +kernel
theorem dX0_dueFor_94 : decode cX0_dueFor 94 = .ok (.goto 4, 3) := by decide +kernel
theorem dX0_dueFor_97 : decode cX0_dueFor 97 = .ok (.iconst 0, 1) := by decide +kernel
theorem dX0_dueFor_98 : decode cX0_dueFor 98 = .ok (.ireturn, 1) := by decide +kernel
theorem dX0_dueFor_99 : decode cX0_dueFor 99 = .ok (.iload_n 3, 1) := by decide +kernel
theorem dX0_dueFor_100 : decode cX0_dueFor 100 = .ok (.ireturn, 1) := by decide +kernel
set_option maxRecDepth 100000 in
set_option maxHeartbeats 4000000 in
theorem c_X0_dueFor {l : Launch} {G : Gx} (hap : k_ap G shC.length) (b : Nat) (hb : BD b) (v1 : Int32) (v2 : Int32) (M0 : Mem) (r : Int32) (hf : f_X0_dueFor b v1 v2 M0 = some r) : k_Met l yX0_dueFor cX0_dueFor 4 (some .int) 0 0 G shC [.ref (G.2.1 b), .int v1, .int v2] M0 (k_Qi G shC r M0) := by
  refine k_Met_of (by decide) hap (Nat.le_of_ble_eq_true rfl) ?_
  intro p e s m args below meth c C hr hlk
  have C : Cx p s m args c cX0_dueFor RX0 4 G shC := C
  unfold f_X0_dueFor at hf
  refine k_lv (lv' := [(0, .ref (G.2.1 b)), (1, .int v1), (2, .int v2)]) [0, 1, 2] rfl ?_
  refine k_aload_n C dX0_dueFor_0 0 rfl ?_
  refine k_getr C hb.1 (j := 1) rfl FL_X0_15 dX0_dueFor_1 ?_
  refine k_iload_n C dX0_dueFor_4 1 rfl ?_
  obtain ⟨t1, ht1, hf⟩ := bnd hf
  refine k_iald C hb.2.2.1 ht1 dX0_dueFor_5 ?_
  refine k_iconst C dX0_dueFor_6 (v := (1 : Int32)) rfl ?_
  refine k_iadd C dX0_dueFor_7 ?_
  refine k_iload_n C dX0_dueFor_8 2 rfl ?_
  refine k_imul C dX0_dueFor_9 ?_
  refine k_istore_n C dX0_dueFor_10 (by decide) [1, 2, 3, 0] (lv' := [(0, .ref (G.2.1 b)), (1, .int v1), (2, .int v2), (3, .int ((t1 + (1 : Int32)) * v2))]) rfl ?_
  refine k_aload_n C dX0_dueFor_11 0 rfl ?_
  refine k_getr C hb.1 (j := 0) rfl FL_X0_9 dX0_dueFor_12 ?_
  refine k_iload_n C dX0_dueFor_15 1 rfl ?_
  obtain ⟨t2, ht2, hf⟩ := bnd hf
  refine k_iald C hb.2.1 ht2 dX0_dueFor_16 ?_
  rcases ite_g hf with ⟨c3, hf⟩ | ⟨c3, hf⟩
  · refine k_tableIn C (1 : Int32) c3 dX0_dueFor_17 (off := 35) (tgt := 52) (by decide) (by decide) (by decide) (by decide) ?_
    refine k_iload_n C dX0_dueFor_52 3 rfl ?_
    refine k_iconst C dX0_dueFor_53 (v := (2 : Int32)) rfl ?_
    refine k_idiv C dX0_dueFor_54 (by decide) ?_
    exact k_iret C hr hlk (Option.some.inj hf) rfl dX0_dueFor_55
  · rcases ite_g hf with ⟨c4, hf⟩ | ⟨c4, hf⟩
    · refine k_tableIn C (2 : Int32) c4 dX0_dueFor_17 (off := 39) (tgt := 56) (by decide) (by decide) (by decide) (by decide) ?_
      refine k_iconst C dX0_dueFor_56 (v := (2 : Int32)) rfl ?_
      refine k_iload_n C dX0_dueFor_57 3 rfl ?_
      refine k_imul C dX0_dueFor_58 ?_
      exact k_iret C hr hlk (Option.some.inj hf) rfl dX0_dueFor_59
    · rcases ite_g hf with ⟨c5, hf⟩ | ⟨c5, hf⟩
      · refine k_tableIn C (3 : Int32) c5 dX0_dueFor_17 (off := 43) (tgt := 60) (by decide) (by decide) (by decide) (by decide) ?_
        refine k_iconst C dX0_dueFor_60 (v := (0 : Int32)) rfl ?_
        exact k_iret C hr hlk (Option.some.inj hf) rfl dX0_dueFor_61
      · rcases ite_g hf with ⟨c6, hf⟩ | ⟨c6, hf⟩
        · refine k_tableIn C (4 : Int32) c6 dX0_dueFor_17 (off := 45) (tgt := 62) (by decide) (by decide) (by decide) (by decide) ?_
          refine k_iload_n C dX0_dueFor_62 2 rfl ?_
          rcases ite_g hf with ⟨c7, hf⟩ | ⟨c7, hf⟩
          · refine k_if_le_t C dX0_dueFor_63 (tgt := 83) (by decide) c7 ?_
            refine k_iconst C dX0_dueFor_83 (v := (0 : Int32)) rfl ?_
            exact k_iret C hr hlk (Option.some.inj hf) rfl dX0_dueFor_84
          · refine k_if_le_f C dX0_dueFor_63 (tgt := 83) (by decide) c7 ?_
            refine k_iconst C dX0_dueFor_66 (v := (2 : Int32)) rfl ?_
            refine k_aload_n C dX0_dueFor_67 0 rfl ?_
            refine k_getr C hb.1 (j := 1) rfl FL_X0_15 dX0_dueFor_68 ?_
            refine k_iload_n C dX0_dueFor_71 1 rfl ?_
            obtain ⟨t8, ht8, hf⟩ := bnd hf
            refine k_iald C hb.2.2.1 ht8 dX0_dueFor_72 ?_
            refine k_iconst C dX0_dueFor_73 (v := (1 : Int32)) rfl ?_
            refine k_iadd C dX0_dueFor_74 ?_
            refine k_imul C dX0_dueFor_75 ?_
            refine k_iload_n C dX0_dueFor_76 2 rfl ?_
            refine k_iconst C dX0_dueFor_77 (v := (1 : Int32)) rfl ?_
            refine k_isub C dX0_dueFor_78 ?_
            refine k_imul C dX0_dueFor_79 ?_
            refine k_goto C dX0_dueFor_80 (tgt := 84) (by decide) ?_
            exact k_iret C hr hlk (Option.some.inj hf) rfl dX0_dueFor_84
        · rcases ite_g hf with ⟨c9, hf⟩ | ⟨c9, hf⟩
          · refine k_tableIn C (5 : Int32) c9 dX0_dueFor_17 (off := 68) (tgt := 85) (by decide) (by decide) (by decide) (by decide) ?_
            refine k_iload_n C dX0_dueFor_85 2 rfl ?_
            rcases ite_g hf with ⟨c10, hf⟩ | ⟨c10, hf⟩
            · refine k_if_le_t C dX0_dueFor_86 (tgt := 97) (by decide) c10 ?_
              refine k_iconst C dX0_dueFor_97 (v := (0 : Int32)) rfl ?_
              exact k_iret C hr hlk (Option.some.inj hf) rfl dX0_dueFor_98
            · refine k_if_le_f C dX0_dueFor_86 (tgt := 97) (by decide) c10 ?_
              refine k_iload_n C dX0_dueFor_89 3 rfl ?_
              refine k_iconst C dX0_dueFor_90 (v := (2 : Int32)) rfl ?_
              refine k_idiv C dX0_dueFor_91 (by decide) ?_
              refine k_iconst C dX0_dueFor_92 (v := (3 : Int32)) rfl ?_
              refine k_iadd C dX0_dueFor_93 ?_
              refine k_goto C dX0_dueFor_94 (tgt := 98) (by decide) ?_
              exact k_iret C hr hlk (Option.some.inj hf) rfl dX0_dueFor_98
          · have hqc3 : (t2 : Int32).toInt ≠ 1 := i_ne2 c3 (by decide)
            have hqc4 : (t2 : Int32).toInt ≠ 2 := i_ne2 c4 (by decide)
            have hqc5 : (t2 : Int32).toInt ≠ 3 := i_ne2 c5 (by decide)
            have hqc6 : (t2 : Int32).toInt ≠ 4 := i_ne2 c6 (by decide)
            have hqc9 : (t2 : Int32).toInt ≠ 5 := i_ne2 c9 (by decide)
            refine k_tableOut C dX0_dueFor_17 (tgt := 99) (by omega) (by decide) ?_
            refine k_iload_n C dX0_dueFor_99 3 rfl ?_
            exact k_iret C hr hlk (Option.some.inj hf) rfl dX0_dueFor_100
theorem dX1_add_0 : decode cX1_add 0 = .ok (.aload_n 0, 1) := by decide +kernel
theorem dX1_add_1 : decode cX1_add 1 = .ok (.getfield 22, 3) := by decide +kernel
theorem dX1_add_4 : decode cX1_add 4 = .ok (.bipush 96, 2) := by decide +kernel
theorem dX1_add_6 : decode cX1_add 6 = .ok (.if_icmp .ge 20, 3) := by decide +kernel
theorem dX1_add_9 : decode cX1_add 9 = .ok (.aload_n 0, 1) := by decide +kernel
theorem dX1_add_10 : decode cX1_add 10 = .ok (.getfield 9, 3) := by decide +kernel
theorem dX1_add_13 : decode cX1_add 13 = .ok (.aload_n 0, 1) := by decide +kernel
theorem dX1_add_14 : decode cX1_add 14 = .ok (.dup, 1) := by decide +kernel
theorem dX1_add_15 : decode cX1_add 15 = .ok (.getfield 22, 3) := by decide +kernel
theorem dX1_add_18 : decode cX1_add 18 = .ok (.dup_x1, 1) := by decide +kernel
theorem dX1_add_19 : decode cX1_add 19 = .ok (.iconst 1, 1) := by decide +kernel
theorem dX1_add_20 : decode cX1_add 20 = .ok (.iadd, 1) := by decide +kernel
theorem dX1_add_21 : decode cX1_add 21 = .ok (.putfield 22, 3) := by decide +kernel
theorem dX1_add_24 : decode cX1_add 24 = .ok (.iload_n 1, 1) := by decide +kernel
theorem dX1_add_25 : decode cX1_add 25 = .ok (.iastore, 1) := by decide +kernel
theorem dX1_add_26 : decode cX1_add 26 = .ok (.aload_n 0, 1) := by decide +kernel
theorem dX1_add_27 : decode cX1_add 27 = .ok (.getfield 22, 3) := by decide +kernel
theorem dX1_add_30 : decode cX1_add 30 = .ok (.ireturn, 1) := by decide +kernel
set_option maxRecDepth 100000 in
set_option maxHeartbeats 4000000 in
theorem c_X1_add {l : Launch} {G : Gx} (hap : k_ap G shC.length) (v1 : Int32) (M0 : Mem) (r : Int32 × Mem) (hf : f_X1_add v1 M0 = some r) : k_Met l yX1_add cX1_add 2 (some .int) 0 0 G shC [.ref (G.2.1 16), .int v1] M0 (k_Qi G shC r.1 r.2) := by
  refine k_Met_of (by decide) hap (Nat.le_of_ble_eq_true rfl) ?_
  intro p e s m args below meth c C hr hlk
  have C : Cx p s m args c cX1_add RX1 2 G shC := C
  unfold f_X1_add at hf
  refine k_lv (lv' := [(0, .ref (G.2.1 16)), (1, .int v1)]) [0, 1] rfl ?_
  refine k_aload_n C dX1_add_0 0 rfl ?_
  refine k_geti C shC_16 (j := 2) rfl FL_X1_22 dX1_add_1 ?_
  refine k_bipush C dX1_add_4 (v := (96 : Int32)) rfl ?_
  rcases ite_g hf with ⟨c1, hf⟩ | ⟨c1, hf⟩
  · refine k_icmp_ge_t C dX1_add_6 (tgt := 26) (by decide) c1 ?_
    refine k_aload_n C dX1_add_26 0 rfl ?_
    refine k_geti C shC_16 (j := 2) rfl FL_X1_22 dX1_add_27 ?_
    exact k_iret C hr hlk (prf hf) (prs hf) dX1_add_30
  · refine k_icmp_ge_f C dX1_add_6 (tgt := 26) (by decide) c1 ?_
    refine k_aload_n C dX1_add_9 0 rfl ?_
    refine k_getr C shC_16 (j := 0) rfl FL_X1_9 dX1_add_10 ?_
    refine k_aload_n C dX1_add_13 0 rfl ?_
    refine k_dup C dX1_add_14 rfl ?_
    refine k_geti C shC_16 (j := 2) rfl FL_X1_22 dX1_add_15 ?_
    refine k_dup_x1 C dX1_add_18 rfl rfl ?_
    refine k_iconst C dX1_add_19 (v := (1 : Int32)) rfl ?_
    refine k_iadd C dX1_add_20 ?_
    refine k_put C shC_16 (j := 2) rfl FL_X1_22 FW_X1_2 dX1_add_21 ?_
    refine k_iload_n C dX1_add_24 1 rfl ?_
    obtain ⟨M2, hM2, hf⟩ := bnd hf
    refine k_iast C shC_17 hM2 dX1_add_25 ?_
    refine k_aload_n C dX1_add_26 0 rfl ?_
    refine k_geti C shC_16 (j := 2) rfl FL_X1_22 dX1_add_27 ?_
    exact k_iret C hr hlk (prf hf) (prs hf) dX1_add_30
theorem dX1_letterAt_0 : decode cX1_letterAt 0 = .ok (.iload_n 1, 1) := by decide +kernel
theorem dX1_letterAt_1 : decode cX1_letterAt 1 = .ok (.ifCond .lt 20, 3) := by decide +kernel
theorem dX1_letterAt_4 : decode cX1_letterAt 4 = .ok (.iload_n 1, 1) := by decide +kernel
theorem dX1_letterAt_5 : decode cX1_letterAt 5 = .ok (.aload_n 0, 1) := by decide +kernel
theorem dX1_letterAt_6 : decode cX1_letterAt 6 = .ok (.getfield 22, 3) := by decide +kernel
theorem dX1_letterAt_9 : decode cX1_letterAt 9 = .ok (.if_icmp .ge 12, 3) := by decide +kernel
theorem dX1_letterAt_12 : decode cX1_letterAt 12 = .ok (.aload_n 0, 1) := by decide +kernel
theorem dX1_letterAt_13 : decode cX1_letterAt 13 = .ok (.getfield 9, 3) := by decide +kernel
theorem dX1_letterAt_16 : decode cX1_letterAt 16 = .ok (.iload_n 1, 1) := by decide +kernel
theorem dX1_letterAt_17 : decode cX1_letterAt 17 = .ok (.iaload, 1) := by decide +kernel
theorem dX1_letterAt_18 : decode cX1_letterAt 18 = .ok (.goto 4, 3) := by decide +kernel
theorem dX1_letterAt_21 : decode cX1_letterAt 21 = .ok (.iconst (-1), 1) := by decide +kernel
theorem dX1_letterAt_22 : decode cX1_letterAt 22 = .ok (.ireturn, 1) := by decide +kernel
set_option maxRecDepth 100000 in
set_option maxHeartbeats 4000000 in
theorem c_X1_letterAt {l : Launch} {G : Gx} (hap : k_ap G shC.length) (v1 : Int32) (M0 : Mem) (r : Int32) (hf : f_X1_letterAt v1 M0 = some r) : k_Met l yX1_letterAt cX1_letterAt 2 (some .int) 0 0 G shC [.ref (G.2.1 16), .int v1] M0 (k_Qi G shC r M0) := by
  refine k_Met_of (by decide) hap (Nat.le_of_ble_eq_true rfl) ?_
  intro p e s m args below meth c C hr hlk
  have C : Cx p s m args c cX1_letterAt RX1 2 G shC := C
  unfold f_X1_letterAt at hf
  refine k_lv (lv' := [(0, .ref (G.2.1 16)), (1, .int v1)]) [0, 1] rfl ?_
  refine k_iload_n C dX1_letterAt_0 1 rfl ?_
  rcases ite_g hf with ⟨c1, hf⟩ | ⟨c1, hf⟩
  · refine k_if_lt_t C dX1_letterAt_1 (tgt := 21) (by decide) c1 ?_
    refine k_iconst C dX1_letterAt_21 (v := (-1 : Int32)) rfl ?_
    exact k_iret C hr hlk (Option.some.inj hf) rfl dX1_letterAt_22
  · refine k_if_lt_f C dX1_letterAt_1 (tgt := 21) (by decide) c1 ?_
    refine k_iload_n C dX1_letterAt_4 1 rfl ?_
    refine k_aload_n C dX1_letterAt_5 0 rfl ?_
    refine k_geti C shC_16 (j := 2) rfl FL_X1_22 dX1_letterAt_6 ?_
    rcases ite_g hf with ⟨c2, hf⟩ | ⟨c2, hf⟩
    · refine k_icmp_ge_t C dX1_letterAt_9 (tgt := 21) (by decide) c2 ?_
      refine k_iconst C dX1_letterAt_21 (v := (-1 : Int32)) rfl ?_
      exact k_iret C hr hlk (Option.some.inj hf) rfl dX1_letterAt_22
    · refine k_icmp_ge_f C dX1_letterAt_9 (tgt := 21) (by decide) c2 ?_
      refine k_aload_n C dX1_letterAt_12 0 rfl ?_
      refine k_getr C shC_16 (j := 0) rfl FL_X1_9 dX1_letterAt_13 ?_
      refine k_iload_n C dX1_letterAt_16 1 rfl ?_
      obtain ⟨t3, ht3, hf⟩ := bnd hf
      refine k_iald C shC_17 ht3 dX1_letterAt_17 ?_
      refine k_goto C dX1_letterAt_18 (tgt := 22) (by decide) ?_
      exact k_iret C hr hlk (Option.some.inj hf) rfl dX1_letterAt_22
theorem dX1_digitsBehind_0 : decode cX1_digitsBehind 0 = .ok (.iload_n 0, 1) := by decide +kernel
theorem dX1_digitsBehind_1 : decode cX1_digitsBehind 1 = .ok (.lookupswitch 59 #[(100, 51), (108, 55), (109, 55), (111, 53), (120, 57)], 51) := by decide +kernel
theorem dX1_digitsBehind_52 : decode cX1_digitsBehind 52 = .ok (.iconst 5, 1) := by decide +kernel
theorem dX1_digitsBehind_53 : decode cX1_digitsBehind 53 = .ok (.ireturn, 1) := by decide +kernel
theorem dX1_digitsBehind_54 : decode cX1_digitsBehind 54 = .ok (.iconst 1, 1) := by decide +kernel
theorem dX1_digitsBehind_55 : decode cX1_digitsBehind 55 = .ok (.ireturn, 1) := by decide +kernel
theorem dX1_digitsBehind_56 : decode cX1_digitsBehind 56 = .ok (.iconst 2, 1) := by decide +kernel
theorem dX1_digitsBehind_57 : decode cX1_digitsBehind 57 = .ok (.ireturn, 1) := by decide +kernel
theorem dX1_digitsBehind_58 : decode cX1_digitsBehind 58 = .ok (.iconst 0, 1) := by decide +kernel
theorem dX1_digitsBehind_59 : decode cX1_digitsBehind 59 = .ok (.ireturn, 1) := by decide +kernel
theorem dX1_digitsBehind_60 : decode cX1_digitsBehind 60 = .ok (.iconst (-1), 1) := by decide +kernel
theorem dX1_digitsBehind_61 : decode cX1_digitsBehind 61 = .ok (.ireturn, 1) := by decide +kernel
set_option maxRecDepth 100000 in
set_option maxHeartbeats 4000000 in
theorem c_X1_digitsBehind {l : Launch} {G : Gx} (hap : k_ap G shC.length) (v0 : Int32) (M0 : Mem) (r : Int32) (hf : f_X1_digitsBehind v0 = r) : k_Met l yX1_digitsBehind cX1_digitsBehind 1 (some .int) 0 0 G shC [.int v0] M0 (k_Qi G shC r M0) := by
  refine k_Met_of (by decide) hap (Nat.le_of_ble_eq_true rfl) ?_
  intro p e s m args below meth c C hr hlk
  have C : Cx p s m args c cX1_digitsBehind RX1 1 G shC := C
  unfold f_X1_digitsBehind at hf
  refine k_lv (lv' := [(0, .int v0)]) [0] rfl ?_
  refine k_iload_n C dX1_digitsBehind_0 0 rfl ?_
  rcases ite_g hf with ⟨c1, hf⟩ | ⟨c1, hf⟩
  · refine k_lookup C dX1_digitsBehind_1 (tgt := 52) (off := 51) (by decide) (by first | (rw [c1]; done) | (rw [c1]; decide)) (by decide) ?_
    refine k_iconst C dX1_digitsBehind_52 (v := (5 : Int32)) rfl ?_
    exact k_iret C hr hlk hf rfl dX1_digitsBehind_53
  · rcases ite_g hf with ⟨c2, hf⟩ | ⟨c2, hf⟩
    · refine k_lookup C dX1_digitsBehind_1 (tgt := 56) (off := 55) (by decide) (by first | (rw [c2]; done) | (rw [c2]; decide)) (by decide) ?_
      refine k_iconst C dX1_digitsBehind_56 (v := (2 : Int32)) rfl ?_
      exact k_iret C hr hlk hf rfl dX1_digitsBehind_57
    · rcases ite_g hf with ⟨c3, hf⟩ | ⟨c3, hf⟩
      · refine k_lookup C dX1_digitsBehind_1 (tgt := 56) (off := 55) (by decide) (by first | (rw [c3]; done) | (rw [c3]; decide)) (by decide) ?_
        refine k_iconst C dX1_digitsBehind_56 (v := (2 : Int32)) rfl ?_
        exact k_iret C hr hlk hf rfl dX1_digitsBehind_57
      · rcases ite_g hf with ⟨c4, hf⟩ | ⟨c4, hf⟩
        · refine k_lookup C dX1_digitsBehind_1 (tgt := 54) (off := 53) (by decide) (by first | (rw [c4]; done) | (rw [c4]; decide)) (by decide) ?_
          refine k_iconst C dX1_digitsBehind_54 (v := (1 : Int32)) rfl ?_
          exact k_iret C hr hlk hf rfl dX1_digitsBehind_55
        · rcases ite_g hf with ⟨c5, hf⟩ | ⟨c5, hf⟩
          · refine k_lookup C dX1_digitsBehind_1 (tgt := 58) (off := 57) (by decide) (by first | (rw [c5]; done) | (rw [c5]; decide)) (by decide) ?_
            refine k_iconst C dX1_digitsBehind_58 (v := (0 : Int32)) rfl ?_
            exact k_iret C hr hlk hf rfl dX1_digitsBehind_59
          · have hqc1 : (v0 : Int32).toInt ≠ 100 := i_ne2 c1 (by decide)
            have hqc2 : (v0 : Int32).toInt ≠ 108 := i_ne2 c2 (by decide)
            have hqc3 : (v0 : Int32).toInt ≠ 109 := i_ne2 c3 (by decide)
            have hqc4 : (v0 : Int32).toInt ≠ 111 := i_ne2 c4 (by decide)
            have hqc5 : (v0 : Int32).toInt ≠ 120 := i_ne2 c5 (by decide)
            refine k_lookup C dX1_digitsBehind_1 (tgt := 60) (off := 59) (by decide) (by simp only [Op.lookupswitch.offset]; rw [if_neg (Ne.symm hqc1), if_neg (Ne.symm hqc2), if_neg (Ne.symm hqc3), if_neg (Ne.symm hqc4), if_neg (Ne.symm hqc5)]) (by decide) ?_
            refine k_iconst C dX1_digitsBehind_60 (v := (-1 : Int32)) rfl ?_
            exact k_iret C hr hlk hf rfl dX1_digitsBehind_61
theorem dX1_isDigit_0 : decode cX1_isDigit 0 = .ok (.iload_n 0, 1) := by decide +kernel
theorem dX1_isDigit_1 : decode cX1_isDigit 1 = .ok (.bipush 48, 2) := by decide +kernel
theorem dX1_isDigit_3 : decode cX1_isDigit 3 = .ok (.if_icmp .lt 13, 3) := by decide +kernel
theorem dX1_isDigit_6 : decode cX1_isDigit 6 = .ok (.iload_n 0, 1) := by decide +kernel
theorem dX1_isDigit_7 : decode cX1_isDigit 7 = .ok (.bipush 57, 2) := by decide +kernel
theorem dX1_isDigit_9 : decode cX1_isDigit 9 = .ok (.if_icmp .gt 7, 3) := by decide +kernel
theorem dX1_isDigit_12 : decode cX1_isDigit 12 = .ok (.iconst 1, 1) := by decide +kernel
theorem dX1_isDigit_13 : decode cX1_isDigit 13 = .ok (.goto 4, 3) := by decide +kernel
theorem dX1_isDigit_16 : decode cX1_isDigit 16 = .ok (.iconst 0, 1) := by decide +kernel
theorem dX1_isDigit_17 : decode cX1_isDigit 17 = .ok (.ireturn, 1) := by decide +kernel
set_option maxRecDepth 100000 in
set_option maxHeartbeats 4000000 in
theorem c_X1_isDigit {l : Launch} {G : Gx} (hap : k_ap G shC.length) (v0 : Int32) (M0 : Mem) (r : Int32) (hf : f_X1_isDigit v0 = r) : k_Met l yX1_isDigit cX1_isDigit 1 (some .boolean) 0 0 G shC [.int v0] M0 (k_Qi G shC r M0) := by
  refine k_Met_of (by decide) hap (Nat.le_of_ble_eq_true rfl) ?_
  intro p e s m args below meth c C hr hlk
  have C : Cx p s m args c cX1_isDigit RX1 1 G shC := C
  unfold f_X1_isDigit at hf
  refine k_lv (lv' := [(0, .int v0)]) [0] rfl ?_
  refine k_iload_n C dX1_isDigit_0 0 rfl ?_
  refine k_bipush C dX1_isDigit_1 (v := (48 : Int32)) rfl ?_
  rcases ite_g hf with ⟨c1, hf⟩ | ⟨c1, hf⟩
  · refine k_icmp_lt_t C dX1_isDigit_3 (tgt := 16) (by decide) c1 ?_
    refine k_iconst C dX1_isDigit_16 (v := (0 : Int32)) rfl ?_
    exact k_zret C hr hlk (gZ0.trans (congrArg some hf)) rfl dX1_isDigit_17
  · refine k_icmp_lt_f C dX1_isDigit_3 (tgt := 16) (by decide) c1 ?_
    refine k_iload_n C dX1_isDigit_6 0 rfl ?_
    refine k_bipush C dX1_isDigit_7 (v := (57 : Int32)) rfl ?_
    rcases ite_g hf with ⟨c2, hf⟩ | ⟨c2, hf⟩
    · refine k_icmp_gt_t C dX1_isDigit_9 (tgt := 16) (by decide) c2 ?_
      refine k_iconst C dX1_isDigit_16 (v := (0 : Int32)) rfl ?_
      exact k_zret C hr hlk (gZ0.trans (congrArg some hf)) rfl dX1_isDigit_17
    · refine k_icmp_gt_f C dX1_isDigit_9 (tgt := 16) (by decide) c2 ?_
      refine k_iconst C dX1_isDigit_12 (v := (1 : Int32)) rfl ?_
      refine k_goto C dX1_isDigit_13 (tgt := 17) (by decide) ?_
      exact k_zret C hr hlk (gZ1.trans (congrArg some hf)) rfl dX1_isDigit_17
theorem dX1_firstWithoutForm_0 : decode cX1_firstWithoutForm 0 = .ok (.iconst 0, 1) := by decide +kernel
theorem dX1_firstWithoutForm_1 : decode cX1_firstWithoutForm 1 = .ok (.istore_n 1, 1) := by decide +kernel
theorem dX1_firstWithoutForm_2 : decode cX1_firstWithoutForm 2 = .ok (.aload_n 0, 1) := by decide +kernel
theorem dX1_firstWithoutForm_3 : decode cX1_firstWithoutForm 3 = .ok (.iload_n 1, 1) := by decide +kernel
theorem dX1_firstWithoutForm_4 : decode cX1_firstWithoutForm 4 = .ok (.invokevirtual 46, 3) := by decide +kernel
theorem dX1_firstWithoutForm_7 : decode cX1_firstWithoutForm 7 = .ok (.invokestatic 42, 3) := by decide +kernel
theorem dX1_firstWithoutForm_10 : decode cX1_firstWithoutForm 10 = .ok (.istore_n 2, 1) := by decide +kernel
theorem dX1_firstWithoutForm_11 : decode cX1_firstWithoutForm 11 = .ok (.iload_n 2, 1) := by decide +kernel
theorem dX1_firstWithoutForm_12 : decode cX1_firstWithoutForm 12 = .ok (.ifCond .ge 5, 3) := by decide +kernel
theorem dX1_firstWithoutForm_15 : decode cX1_firstWithoutForm 15 = .ok (.iload_n 1, 1) := by decide +kernel
theorem dX1_firstWithoutForm_16 : decode cX1_firstWithoutForm 16 = .ok (.ireturn, 1) := by decide +kernel
theorem dX1_firstWithoutForm_17 : decode cX1_firstWithoutForm 17 = .ok (.iload_n 1, 1) := by decide +kernel
theorem dX1_firstWithoutForm_18 : decode cX1_firstWithoutForm 18 = .ok (.iconst 1, 1) := by decide +kernel
theorem dX1_firstWithoutForm_19 : decode cX1_firstWithoutForm 19 = .ok (.iadd, 1) := by decide +kernel
theorem dX1_firstWithoutForm_20 : decode cX1_firstWithoutForm 20 = .ok (.iload_n 2, 1) := by decide +kernel
theorem dX1_firstWithoutForm_21 : decode cX1_firstWithoutForm 21 = .ok (.iadd, 1) := by decide +kernel
theorem dX1_firstWithoutForm_22 : decode cX1_firstWithoutForm 22 = .ok (.istore_n 3, 1) := by decide +kernel
theorem dX1_firstWithoutForm_23 : decode cX1_firstWithoutForm 23 = .ok (.iinc 1 1, 3) := by decide +kernel
theorem dX1_firstWithoutForm_26 : decode cX1_firstWithoutForm 26 = .ok (.iload_n 1, 1) := by decide +kernel
theorem dX1_firstWithoutForm_27 : decode cX1_firstWithoutForm 27 = .ok (.iload_n 3, 1) := by decide +kernel
theorem dX1_firstWithoutForm_28 : decode cX1_firstWithoutForm 28 = .ok (.if_icmp .ge 22, 3) := by decide +kernel
theorem dX1_firstWithoutForm_31 : decode cX1_firstWithoutForm 31 = .ok (.aload_n 0, 1) := by decide +kernel
theorem dX1_firstWithoutForm_32 : decode cX1_firstWithoutForm 32 = .ok (.iload_n 1, 1) := by decide +kernel
theorem dX1_firstWithoutForm_33 : decode cX1_firstWithoutForm 33 = .ok (.invokevirtual 46, 3) := by decide +kernel
theorem dX1_firstWithoutForm_36 : decode cX1_firstWithoutForm 36 = .ok (.invokestatic 49, 3) := by decide +kernel
theorem dX1_firstWithoutForm_39 : decode cX1_firstWithoutForm 39 = .ok (.ifCond .ne 5, 3) := by decide +kernel
theorem dX1_firstWithoutForm_42 : decode cX1_firstWithoutForm 42 = .ok (.iload_n 1, 1) := by decide +kernel
theorem dX1_firstWithoutForm_43 : decode cX1_firstWithoutForm 43 = .ok (.ireturn, 1) := by decide +kernel
theorem dX1_firstWithoutForm_44 : decode cX1_firstWithoutForm 44 = .ok (.iinc 1 1, 3) := by decide +kernel
theorem dX1_firstWithoutForm_47 : decode cX1_firstWithoutForm 47 = .ok (.goto (-21), 3) := by decide +kernel
theorem dX1_firstWithoutForm_50 : decode cX1_firstWithoutForm 50 = .ok (.aload_n 0, 1) := by decide +kernel
theorem dX1_firstWithoutForm_51 : decode cX1_firstWithoutForm 51 = .ok (.iload_n 1, 1) := by decide +kernel
theorem dX1_firstWithoutForm_52 : decode cX1_firstWithoutForm 52 = .ok (.invokevirtual 46, 3) := by decide +kernel
theorem dX1_firstWithoutForm_55 : decode cX1_firstWithoutForm 55 = .ok (.bipush 59, 2) := by decide +kernel
theorem dX1_firstWithoutForm_57 : decode cX1_firstWithoutForm 57 = .ok (.if_icmp .eq 5, 3) := by decide +kernel
theorem dX1_firstWithoutForm_60 : decode cX1_firstWithoutForm 60 = .ok (.iload_n 1, 1) := by decide +kernel
theorem dX1_firstWithoutForm_61 : decode cX1_firstWithoutForm 61 = .ok (.ireturn, 1) := by decide +kernel
theorem dX1_firstWithoutForm_62 : decode cX1_firstWithoutForm 62 = .ok (.iinc 1 1, 3) := by decide +kernel
theorem dX1_firstWithoutForm_65 : decode cX1_firstWithoutForm 65 = .ok (.iload_n 1, 1) := by decide +kernel
theorem dX1_firstWithoutForm_66 : decode cX1_firstWithoutForm 66 = .ok (.aload_n 0, 1) := by decide +kernel
theorem dX1_firstWithoutForm_67 : decode cX1_firstWithoutForm 67 = .ok (.getfield 22, 3) := by decide +kernel
theorem dX1_firstWithoutForm_70 : decode cX1_firstWithoutForm 70 = .ok (.if_icmp .lt (-68), 3) := by decide +kernel
theorem dX1_firstWithoutForm_73 : decode cX1_firstWithoutForm 73 = .ok (.iconst (-1), 1) := by decide +kernel
theorem dX1_firstWithoutForm_74 : decode cX1_firstWithoutForm 74 = .ok (.ireturn, 1) := by decide +kernel
set_option maxRecDepth 100000 in
set_option maxHeartbeats 4000000 in
theorem c_X1_firstWithoutForm {l : Launch} {G : Gx} (hap : k_ap G shC.length) (M0 : Mem) (r : Int32) (hf : f_X1_firstWithoutForm M0 = some r) : k_Met l yX1_firstWithoutForm cX1_firstWithoutForm 4 (some .int) 1 21 G shC [.ref (G.2.1 16)] M0 (k_Qi G shC r M0) := by
  refine k_Met_of (by decide) hap (Nat.le_of_ble_eq_true rfl) ?_
  intro p e s m args below meth c C hr hlk
  have C : Cx p s m args c cX1_firstWithoutForm RX1 4 G shC := C
  have k_b2 : ∀ (n2 : Nat) (v1 : Int32), f_X1_firstWithoutForm_b2 M0 n2 v1 = some r → K p l e (k_rm 1 21) s m args below meth c 4 G shC (MQ below (k_Qi G shC r M0) args s 0 0 (k_A G shC.length)) 2 [(0, .ref (G.2.1 16)), (1, .int v1)] [] M0 := by
    intro n2
    induction n2 with
    | zero => intro v1 hf; simp [f_X1_firstWithoutForm_b2] at hf
    | succ n2 ih2 =>
      have k_b26 : ∀ (n26 : Nat) (v1 : Int32) (v3 : Int32), f_X1_firstWithoutForm_b26 M0 (f_X1_firstWithoutForm_b2 M0 n2) n26 v1 v3 = some r → K p l e (k_rm 1 21) s m args below meth c 4 G shC (MQ below (k_Qi G shC r M0) args s 0 0 (k_A G shC.length)) 26 [(0, .ref (G.2.1 16)), (1, .int v1), (3, .int v3)] [] M0 := by
        intro n26
        induction n26 with
        | zero => intro v1 v3 hf; simp [f_X1_firstWithoutForm_b26] at hf
        | succ n26 ih26 =>
          intro v1 v3 hf
          unfold f_X1_firstWithoutForm_b26 at hf
          refine k_iload_n C dX1_firstWithoutForm_26 1 rfl ?_
          refine k_iload_n C dX1_firstWithoutForm_27 2 rfl ?_
          rcases ite_g hf with ⟨c3, hf⟩ | ⟨c3, hf⟩
          · refine k_icmp_ge_t C dX1_firstWithoutForm_28 (tgt := 50) (by decide) c3 ?_
            refine k_aload_n C dX1_firstWithoutForm_50 0 rfl ?_
            refine k_iload_n C dX1_firstWithoutForm_51 1 rfl ?_
            obtain ⟨t4, ht4, hf⟩ := bnd hf
            refine k_callVi C (As := [.int v1]) (c_X1_letterAt hap v1 M0 t4 ht4) ML_X1_letterAt wd_444 shC_16 rfl rfl rfl ⟨Nat.le_of_ble_eq_true rfl, Nat.le_of_ble_eq_true rfl⟩ (Nat.le_of_ble_eq_true rfl) dX1_firstWithoutForm_52 ?_
            refine k_bipush C dX1_firstWithoutForm_55 (v := (59 : Int32)) rfl ?_
            rcases ite_g hf with ⟨c5, hf⟩ | ⟨c5, hf⟩
            · refine k_icmp_eq_t C dX1_firstWithoutForm_57 (tgt := 62) (by decide) c5 ?_
              refine k_iinc C dX1_firstWithoutForm_62 1 rfl (v := (v1 + (1 : Int32))) rfl (by decide) [1, 0] (lv' := [(0, .ref (G.2.1 16)), (1, .int (v1 + (1 : Int32)))]) rfl ?_
              refine k_iload_n C dX1_firstWithoutForm_65 1 rfl ?_
              refine k_aload_n C dX1_firstWithoutForm_66 0 rfl ?_
              refine k_geti C shC_16 (j := 2) rfl FL_X1_22 dX1_firstWithoutForm_67 ?_
              rcases ite_g hf with ⟨c6, hf⟩ | ⟨c6, hf⟩
              · refine k_icmp_lt_t C dX1_firstWithoutForm_70 (tgt := 2) (by decide) c6 ?_
                exact ih2 (v1 + (1 : Int32)) hf
              · refine k_icmp_lt_f C dX1_firstWithoutForm_70 (tgt := 2) (by decide) c6 ?_
                refine k_iconst C dX1_firstWithoutForm_73 (v := (-1 : Int32)) rfl ?_
                exact k_iret C hr hlk (Option.some.inj hf) rfl dX1_firstWithoutForm_74
            · refine k_icmp_eq_f C dX1_firstWithoutForm_57 (tgt := 62) (by decide) c5 ?_
              refine k_iload_n C dX1_firstWithoutForm_60 1 rfl ?_
              exact k_iret C hr hlk (Option.some.inj hf) rfl dX1_firstWithoutForm_61
          · refine k_icmp_ge_f C dX1_firstWithoutForm_28 (tgt := 50) (by decide) c3 ?_
            refine k_aload_n C dX1_firstWithoutForm_31 0 rfl ?_
            refine k_iload_n C dX1_firstWithoutForm_32 1 rfl ?_
            obtain ⟨t7, ht7, hf⟩ := bnd hf
            refine k_callVi C (As := [.int v1]) (c_X1_letterAt hap v1 M0 t7 ht7) ML_X1_letterAt wd_444 shC_16 rfl rfl rfl ⟨Nat.le_of_ble_eq_true rfl, Nat.le_of_ble_eq_true rfl⟩ (Nat.le_of_ble_eq_true rfl) dX1_firstWithoutForm_33 ?_
            refine k_callSi C (As := [.int t7]) (c_X1_isDigit hap t7 M0 _ rfl) MS_X1_isDigit wd_451 rfl rfl ⟨Nat.le_of_ble_eq_true rfl, Nat.le_of_ble_eq_true rfl⟩ (Nat.le_of_ble_eq_true rfl) dX1_firstWithoutForm_36 ?_
            rcases ite_g hf with ⟨c8, hf⟩ | ⟨c8, hf⟩
            · refine k_if_ne_f C dX1_firstWithoutForm_39 (tgt := 44) (by decide) c8 ?_
              refine k_iload_n C dX1_firstWithoutForm_42 1 rfl ?_
              exact k_iret C hr hlk (Option.some.inj hf) rfl dX1_firstWithoutForm_43
            · refine k_if_ne_t C dX1_firstWithoutForm_39 (tgt := 44) (by decide) c8 ?_
              refine k_iinc C dX1_firstWithoutForm_44 1 rfl (v := (v1 + (1 : Int32))) rfl (by decide) [1, 0, 2] (lv' := [(0, .ref (G.2.1 16)), (1, .int (v1 + (1 : Int32))), (3, .int v3)]) rfl ?_
              refine k_goto C dX1_firstWithoutForm_47 (tgt := 26) (by decide) ?_
              exact ih26 (v1 + (1 : Int32)) v3 hf
      intro v1 hf
      unfold f_X1_firstWithoutForm_b2 at hf
      refine k_aload_n C dX1_firstWithoutForm_2 0 rfl ?_
      refine k_iload_n C dX1_firstWithoutForm_3 1 rfl ?_
      obtain ⟨t1, ht1, hf⟩ := bnd hf
      refine k_callVi C (As := [.int v1]) (c_X1_letterAt hap v1 M0 t1 ht1) ML_X1_letterAt wd_444 shC_16 rfl rfl rfl ⟨Nat.le_of_ble_eq_true rfl, Nat.le_of_ble_eq_true rfl⟩ (Nat.le_of_ble_eq_true rfl) dX1_firstWithoutForm_4 ?_
      refine k_callSi C (As := [.int t1]) (c_X1_digitsBehind hap t1 M0 _ rfl) MS_X1_digitsBehind wd_448 rfl rfl ⟨Nat.le_of_ble_eq_true rfl, Nat.le_of_ble_eq_true rfl⟩ (Nat.le_of_ble_eq_true rfl) dX1_firstWithoutForm_7 ?_
      refine k_istore_n C dX1_firstWithoutForm_10 (by decide) [1, 2, 0] (lv' := [(0, .ref (G.2.1 16)), (1, .int v1), (2, .int (f_X1_digitsBehind t1))]) rfl ?_
      refine k_iload_n C dX1_firstWithoutForm_11 2 rfl ?_
      rcases ite_g hf with ⟨c2, hf⟩ | ⟨c2, hf⟩
      · refine k_if_ge_t C dX1_firstWithoutForm_12 (tgt := 17) (by decide) c2 ?_
        refine k_iload_n C dX1_firstWithoutForm_17 1 rfl ?_
        refine k_iconst C dX1_firstWithoutForm_18 (v := (1 : Int32)) rfl ?_
        refine k_iadd C dX1_firstWithoutForm_19 ?_
        refine k_iload_n C dX1_firstWithoutForm_20 2 rfl ?_
        refine k_iadd C dX1_firstWithoutForm_21 ?_
        refine k_istore_n C dX1_firstWithoutForm_22 (by decide) [1, 2, 0] (lv' := [(0, .ref (G.2.1 16)), (1, .int v1), (3, .int ((v1 + (1 : Int32)) + (f_X1_digitsBehind t1)))]) rfl ?_
        refine k_iinc C dX1_firstWithoutForm_23 1 rfl (v := (v1 + (1 : Int32))) rfl (by decide) [1, 0, 2] (lv' := [(0, .ref (G.2.1 16)), (1, .int (v1 + (1 : Int32))), (3, .int ((v1 + (1 : Int32)) + (f_X1_digitsBehind t1)))]) rfl ?_
        exact k_b26 FU (v1 + (1 : Int32)) ((v1 + (1 : Int32)) + (f_X1_digitsBehind t1)) hf
      · refine k_if_ge_f C dX1_firstWithoutForm_12 (tgt := 17) (by decide) c2 ?_
        refine k_iload_n C dX1_firstWithoutForm_15 1 rfl ?_
        exact k_iret C hr hlk (Option.some.inj hf) rfl dX1_firstWithoutForm_16
  unfold f_X1_firstWithoutForm at hf
  refine k_lv (lv' := [(0, .ref (G.2.1 16))]) [0] rfl ?_
  refine k_iconst C dX1_firstWithoutForm_0 (v := (0 : Int32)) rfl ?_
  refine k_istore_n C dX1_firstWithoutForm_1 (by decide) [1, 0] (lv' := [(0, .ref (G.2.1 16)), (1, .int (0 : Int32))]) rfl ?_
  exact k_b2 FU (0 : Int32) hf
theorem dX1_digitAt_0 : decode cX1_digitAt 0 = .ok (.aload_n 0, 1) := by decide +kernel
theorem dX1_digitAt_1 : decode cX1_digitAt 1 = .ok (.iload_n 1, 1) := by decide +kernel
theorem dX1_digitAt_2 : decode cX1_digitAt 2 = .ok (.invokevirtual 46, 3) := by decide +kernel
theorem dX1_digitAt_5 : decode cX1_digitAt 5 = .ok (.istore_n 2, 1) := by decide +kernel
theorem dX1_digitAt_6 : decode cX1_digitAt 6 = .ok (.iload_n 2, 1) := by decide +kernel
theorem dX1_digitAt_7 : decode cX1_digitAt 7 = .ok (.invokestatic 49, 3) := by decide +kernel
theorem dX1_digitAt_10 : decode cX1_digitAt 10 = .ok (.ifCond .eq 10, 3) := by decide +kernel
theorem dX1_digitAt_13 : decode cX1_digitAt 13 = .ok (.iload_n 2, 1) := by decide +kernel
theorem dX1_digitAt_14 : decode cX1_digitAt 14 = .ok (.bipush 48, 2) := by decide +kernel
theorem dX1_digitAt_16 : decode cX1_digitAt 16 = .ok (.isub, 1) := by decide +kernel
theorem dX1_digitAt_17 : decode cX1_digitAt 17 = .ok (.goto 4, 3) := by decide +kernel
theorem dX1_digitAt_20 : decode cX1_digitAt 20 = .ok (.iconst 0, 1) := by decide +kernel
theorem dX1_digitAt_21 : decode cX1_digitAt 21 = .ok (.ireturn, 1) := by decide +kernel
set_option maxRecDepth 100000 in
set_option maxHeartbeats 4000000 in
theorem c_X1_digitAt {l : Launch} {G : Gx} (hap : k_ap G shC.length) (v1 : Int32) (M0 : Mem) (r : Int32) (hf : f_X1_digitAt v1 M0 = some r) : k_Met l yX1_digitAt cX1_digitAt 3 (some .int) 1 21 G shC [.ref (G.2.1 16), .int v1] M0 (k_Qi G shC r M0) := by
  refine k_Met_of (by decide) hap (Nat.le_of_ble_eq_true rfl) ?_
  intro p e s m args below meth c C hr hlk
  have C : Cx p s m args c cX1_digitAt RX1 3 G shC := C
  unfold f_X1_digitAt at hf
  refine k_lv (lv' := [(0, .ref (G.2.1 16)), (1, .int v1)]) [0, 1] rfl ?_
  refine k_aload_n C dX1_digitAt_0 0 rfl ?_
  refine k_iload_n C dX1_digitAt_1 1 rfl ?_
  obtain ⟨t1, ht1, hf⟩ := bnd hf
  refine k_callVi C (As := [.int v1]) (c_X1_letterAt hap v1 M0 t1 ht1) ML_X1_letterAt wd_444 shC_16 rfl rfl rfl ⟨Nat.le_of_ble_eq_true rfl, Nat.le_of_ble_eq_true rfl⟩ (Nat.le_of_ble_eq_true rfl) dX1_digitAt_2 ?_
  refine k_istore_n C dX1_digitAt_5 (by decide) [0] (lv' := [(2, .int t1)]) rfl ?_
  refine k_iload_n C dX1_digitAt_6 0 rfl ?_
  refine k_callSi C (As := [.int t1]) (c_X1_isDigit hap t1 M0 _ rfl) MS_X1_isDigit wd_451 rfl rfl ⟨Nat.le_of_ble_eq_true rfl, Nat.le_of_ble_eq_true rfl⟩ (Nat.le_of_ble_eq_true rfl) dX1_digitAt_7 ?_
  rcases ite_g hf with ⟨c2, hf⟩ | ⟨c2, hf⟩
  · refine k_if_eq_t C dX1_digitAt_10 (tgt := 20) (by decide) c2 ?_
    refine k_iconst C dX1_digitAt_20 (v := (0 : Int32)) rfl ?_
    exact k_iret C hr hlk (Option.some.inj hf) rfl dX1_digitAt_21
  · refine k_if_eq_f C dX1_digitAt_10 (tgt := 20) (by decide) c2 ?_
    refine k_iload_n C dX1_digitAt_13 0 rfl ?_
    refine k_bipush C dX1_digitAt_14 (v := (48 : Int32)) rfl ?_
    refine k_isub C dX1_digitAt_16 ?_
    refine k_goto C dX1_digitAt_17 (tgt := 21) (by decide) ?_
    exact k_iret C hr hlk (Option.some.inj hf) rfl dX1_digitAt_21
theorem dX11_isKind_0 : decode cX11_isKind 0 = .ok (.iload_n 0, 1) := by decide +kernel
theorem dX11_isKind_1 : decode cX11_isKind 1 = .ok (.ifCond .lt 13, 3) := by decide +kernel
theorem dX11_isKind_4 : decode cX11_isKind 4 = .ok (.iload_n 0, 1) := by decide +kernel
theorem dX11_isKind_5 : decode cX11_isKind 5 = .ok (.bipush 6, 2) := by decide +kernel
theorem dX11_isKind_7 : decode cX11_isKind 7 = .ok (.if_icmp .ge 7, 3) := by decide +kernel
theorem dX11_isKind_10 : decode cX11_isKind 10 = .ok (.iconst 1, 1) := by decide +kernel
theorem dX11_isKind_11 : decode cX11_isKind 11 = .ok (.goto 4, 3) := by decide +kernel
theorem dX11_isKind_14 : decode cX11_isKind 14 = .ok (.iconst 0, 1) := by decide +kernel
theorem dX11_isKind_15 : decode cX11_isKind 15 = .ok (.ireturn, 1) := by decide +kernel
set_option maxRecDepth 100000 in
set_option maxHeartbeats 4000000 in
theorem c_X11_isKind {l : Launch} {G : Gx} (hap : k_ap G shC.length) (v0 : Int32) (M0 : Mem) (r : Int32) (hf : f_X11_isKind v0 = r) : k_Met l yX11_isKind cX11_isKind 1 (some .boolean) 0 0 G shC [.int v0] M0 (k_Qi G shC r M0) := by
  refine k_Met_of (by decide) hap (Nat.le_of_ble_eq_true rfl) ?_
  intro p e s m args below meth c C hr hlk
  have C : Cx p s m args c cX11_isKind RX11 1 G shC := C
  unfold f_X11_isKind at hf
  refine k_lv (lv' := [(0, .int v0)]) [0] rfl ?_
  refine k_iload_n C dX11_isKind_0 0 rfl ?_
  rcases ite_g hf with ⟨c1, hf⟩ | ⟨c1, hf⟩
  · refine k_if_lt_t C dX11_isKind_1 (tgt := 14) (by decide) c1 ?_
    refine k_iconst C dX11_isKind_14 (v := (0 : Int32)) rfl ?_
    exact k_zret C hr hlk (gZ0.trans (congrArg some hf)) rfl dX11_isKind_15
  · refine k_if_lt_f C dX11_isKind_1 (tgt := 14) (by decide) c1 ?_
    refine k_iload_n C dX11_isKind_4 0 rfl ?_
    refine k_bipush C dX11_isKind_5 (v := (6 : Int32)) rfl ?_
    rcases ite_g hf with ⟨c2, hf⟩ | ⟨c2, hf⟩
    · refine k_icmp_ge_t C dX11_isKind_7 (tgt := 14) (by decide) c2 ?_
      refine k_iconst C dX11_isKind_14 (v := (0 : Int32)) rfl ?_
      exact k_zret C hr hlk (gZ0.trans (congrArg some hf)) rfl dX11_isKind_15
    · refine k_icmp_ge_f C dX11_isKind_7 (tgt := 14) (by decide) c2 ?_
      refine k_iconst C dX11_isKind_10 (v := (1 : Int32)) rfl ?_
      refine k_goto C dX11_isKind_11 (tgt := 15) (by decide) ?_
      exact k_zret C hr hlk (gZ1.trans (congrArg some hf)) rfl dX11_isKind_15
theorem dX1_comesDoing_0 : decode cX1_comesDoing 0 = .ok (.iload_n 1, 1) := by decide +kernel
theorem dX1_comesDoing_1 : decode cX1_comesDoing 1 = .ok (.invokestatic 72, 3) := by decide +kernel
theorem dX1_comesDoing_4 : decode cX1_comesDoing 4 = .ok (.ifCond .eq 20, 3) := by decide +kernel
theorem dX1_comesDoing_7 : decode cX1_comesDoing 7 = .ok (.iload_n 3, 1) := by decide +kernel
theorem dX1_comesDoing_8 : decode cX1_comesDoing 8 = .ok (.sipush 255, 3) := by decide +kernel
theorem dX1_comesDoing_11 : decode cX1_comesDoing 11 = .ok (.if_icmp .gt 13, 3) := by decide +kernel
theorem dX1_comesDoing_14 : decode cX1_comesDoing 14 = .ok (.aload_n 0, 1) := by decide +kernel
theorem dX1_comesDoing_15 : decode cX1_comesDoing 15 = .ok (.getfield 18, 3) := by decide +kernel
theorem dX1_comesDoing_18 : decode cX1_comesDoing 18 = .ok (.invokevirtual 75, 3) := by decide +kernel
theorem dX1_comesDoing_21 : decode cX1_comesDoing 21 = .ok (.ifCond .ne 5, 3) := by decide +kernel
theorem dX1_comesDoing_24 : decode cX1_comesDoing 24 = .ok (.iconst 0, 1) := by decide +kernel
theorem dX1_comesDoing_25 : decode cX1_comesDoing 25 = .ok (.ireturn, 1) := by decide +kernel
theorem dX1_comesDoing_26 : decode cX1_comesDoing 26 = .ok (.aload_n 0, 1) := by decide +kernel
theorem dX1_comesDoing_27 : decode cX1_comesDoing 27 = .ok (.getfield 18, 3) := by decide +kernel
theorem dX1_comesDoing_30 : decode cX1_comesDoing 30 = .ok (.iload_n 1, 1) := by decide +kernel
theorem dX1_comesDoing_31 : decode cX1_comesDoing 31 = .ok (.iload_n 2, 1) := by decide +kernel
theorem dX1_comesDoing_32 : decode cX1_comesDoing 32 = .ok (.iload_n 3, 1) := by decide +kernel
theorem dX1_comesDoing_33 : decode cX1_comesDoing 33 = .ok (.invokevirtual 79, 3) := by decide +kernel
theorem dX1_comesDoing_36 : decode cX1_comesDoing 36 = .ok (.pop, 1) := by decide +kernel
theorem dX1_comesDoing_37 : decode cX1_comesDoing 37 = .ok (.iconst 1, 1) := by decide +kernel
theorem dX1_comesDoing_38 : decode cX1_comesDoing 38 = .ok (.ireturn, 1) := by decide +kernel
set_option maxRecDepth 100000 in
set_option maxHeartbeats 4000000 in
theorem c_X1_comesDoing {l : Launch} {G : Gx} (hap : k_ap G shC.length) (v1 : Int32) (v2 : Int32) (v3 : Int32) (M0 : Mem) (r : Int32 × Mem) (hf : f_X1_comesDoing v1 v2 v3 M0 = some r) : k_Met l yX1_comesDoing cX1_comesDoing 4 (some .boolean) 2 47 G shC [.ref (G.2.1 16), .int v1, .int v2, .int v3] M0 (k_Qi G shC r.1 r.2) := by
  refine k_Met_of (by decide) hap (Nat.le_of_ble_eq_true rfl) ?_
  intro p e s m args below meth c C hr hlk
  have C : Cx p s m args c cX1_comesDoing RX1 4 G shC := C
  unfold f_X1_comesDoing at hf
  refine k_lv (lv' := [(0, .ref (G.2.1 16)), (1, .int v1), (2, .int v2), (3, .int v3)]) [0, 1, 2, 3] rfl ?_
  refine k_iload_n C dX1_comesDoing_0 1 rfl ?_
  refine k_callNi C (As := [.int v1]) (c_X11_isKind hap v1 M0 _ rfl) MS_X11_isKind (by decide) rfl rfl rfl ⟨Nat.le_of_ble_eq_true rfl, Nat.le_of_ble_eq_true rfl⟩ (Nat.le_of_ble_eq_true rfl) dX1_comesDoing_1 ?_
  rcases ite_g hf with ⟨c1, hf⟩ | ⟨c1, hf⟩
  · refine k_if_eq_t C dX1_comesDoing_4 (tgt := 24) (by decide) c1 ?_
    refine k_iconst C dX1_comesDoing_24 (v := (0 : Int32)) rfl ?_
    exact k_zret C hr hlk (gZ0.trans (congrArg some (prf hf))) (prs hf) dX1_comesDoing_25
  · refine k_if_eq_f C dX1_comesDoing_4 (tgt := 24) (by decide) c1 ?_
    refine k_iload_n C dX1_comesDoing_7 3 rfl ?_
    refine k_sipush C dX1_comesDoing_8 (v := (255 : Int32)) rfl ?_
    rcases ite_g hf with ⟨c2, hf⟩ | ⟨c2, hf⟩
    · refine k_icmp_gt_t C dX1_comesDoing_11 (tgt := 24) (by decide) c2 ?_
      refine k_iconst C dX1_comesDoing_24 (v := (0 : Int32)) rfl ?_
      exact k_zret C hr hlk (gZ0.trans (congrArg some (prf hf))) (prs hf) dX1_comesDoing_25
    · refine k_icmp_gt_f C dX1_comesDoing_11 (tgt := 24) (by decide) c2 ?_
      refine k_aload_n C dX1_comesDoing_14 0 rfl ?_
      refine k_getr C shC_16 (j := 1) rfl FL_X1_18 dX1_comesDoing_15 ?_
      refine k_callVi C (As := []) (c_X0_hasRoomForDoing hap 18 BD_18 M0 _ rfl) ML_X0_hasRoomForDoing wd_480 shC_18 rfl rfl rfl ⟨Nat.le_of_ble_eq_true rfl, Nat.le_of_ble_eq_true rfl⟩ (Nat.le_of_ble_eq_true rfl) dX1_comesDoing_18 ?_
      rcases ite_g hf with ⟨c3, hf⟩ | ⟨c3, hf⟩
      · refine k_if_ne_f C dX1_comesDoing_21 (tgt := 26) (by decide) c3 ?_
        refine k_iconst C dX1_comesDoing_24 (v := (0 : Int32)) rfl ?_
        exact k_zret C hr hlk (gZ0.trans (congrArg some (prf hf))) (prs hf) dX1_comesDoing_25
      · refine k_if_ne_t C dX1_comesDoing_21 (tgt := 26) (by decide) c3 ?_
        refine k_aload_n C dX1_comesDoing_26 0 rfl ?_
        refine k_getr C shC_16 (j := 1) rfl FL_X1_18 dX1_comesDoing_27 ?_
        refine k_iload_n C dX1_comesDoing_30 1 rfl ?_
        refine k_iload_n C dX1_comesDoing_31 2 rfl ?_
        refine k_iload_n C dX1_comesDoing_32 3 rfl ?_
        obtain ⟨⟨t4, M4⟩, ht4, hf⟩ := bnd hf
        replace hf := bp_s hf
        refine k_callVi C (As := [.int v1, .int v2, .int v3]) (c_X0_addDoing hap 18 BD_18 v1 v2 v3 M0 (t4, M4) ht4) ML_X0_addDoing wd_484 shC_18 rfl rfl rfl ⟨Nat.le_of_ble_eq_true rfl, Nat.le_of_ble_eq_true rfl⟩ (Nat.le_of_ble_eq_true rfl) dX1_comesDoing_33 ?_
        refine k_pop C dX1_comesDoing_36 rfl ?_
        refine k_iconst C dX1_comesDoing_37 (v := (1 : Int32)) rfl ?_
        exact k_zret C hr hlk (gZ1.trans (congrArg some (prf hf))) (prs hf) dX1_comesDoing_38
theorem dX1_comesDone_0 : decode cX1_comesDone 0 = .ok (.aload_n 0, 1) := by decide +kernel
theorem dX1_comesDone_1 : decode cX1_comesDone 1 = .ok (.getfield 18, 3) := by decide +kernel
theorem dX1_comesDone_4 : decode cX1_comesDone 4 = .ok (.iload_n 1, 1) := by decide +kernel
theorem dX1_comesDone_5 : decode cX1_comesDone 5 = .ok (.invokevirtual 83, 3) := by decide +kernel
theorem dX1_comesDone_8 : decode cX1_comesDone 8 = .ok (.ifCond .eq 13, 3) := by decide +kernel
theorem dX1_comesDone_11 : decode cX1_comesDone 11 = .ok (.aload_n 0, 1) := by decide +kernel
theorem dX1_comesDone_12 : decode cX1_comesDone 12 = .ok (.getfield 18, 3) := by decide +kernel
theorem dX1_comesDone_15 : decode cX1_comesDone 15 = .ok (.invokevirtual 86, 3) := by decide +kernel
theorem dX1_comesDone_18 : decode cX1_comesDone 18 = .ok (.ifCond .ne 5, 3) := by decide +kernel
theorem dX1_comesDone_21 : decode cX1_comesDone 21 = .ok (.iconst 0, 1) := by decide +kernel
theorem dX1_comesDone_22 : decode cX1_comesDone 22 = .ok (.ireturn, 1) := by decide +kernel
theorem dX1_comesDone_23 : decode cX1_comesDone 23 = .ok (.aload_n 0, 1) := by decide +kernel
theorem dX1_comesDone_24 : decode cX1_comesDone 24 = .ok (.getfield 18, 3) := by decide +kernel
theorem dX1_comesDone_27 : decode cX1_comesDone 27 = .ok (.iload_n 1, 1) := by decide +kernel
theorem dX1_comesDone_28 : decode cX1_comesDone 28 = .ok (.invokevirtual 89, 3) := by decide +kernel
theorem dX1_comesDone_31 : decode cX1_comesDone 31 = .ok (.iconst 1, 1) := by decide +kernel
theorem dX1_comesDone_32 : decode cX1_comesDone 32 = .ok (.ireturn, 1) := by decide +kernel
set_option maxRecDepth 100000 in
set_option maxHeartbeats 4000000 in
theorem c_X1_comesDone {l : Launch} {G : Gx} (hap : k_ap G shC.length) (v1 : Int32) (M0 : Mem) (r : Int32 × Mem) (hf : f_X1_comesDone v1 M0 = some r) : k_Met l yX1_comesDone cX1_comesDone 2 (some .boolean) 2 41 G shC [.ref (G.2.1 16), .int v1] M0 (k_Qi G shC r.1 r.2) := by
  refine k_Met_of (by decide) hap (Nat.le_of_ble_eq_true rfl) ?_
  intro p e s m args below meth c C hr hlk
  have C : Cx p s m args c cX1_comesDone RX1 2 G shC := C
  unfold f_X1_comesDone at hf
  refine k_lv (lv' := [(0, .ref (G.2.1 16)), (1, .int v1)]) [0, 1] rfl ?_
  refine k_aload_n C dX1_comesDone_0 0 rfl ?_
  refine k_getr C shC_16 (j := 1) rfl FL_X1_18 dX1_comesDone_1 ?_
  refine k_iload_n C dX1_comesDone_4 1 rfl ?_
  refine k_callVi C (As := [.int v1]) (c_X0_hasDoing hap 18 BD_18 v1 M0 _ rfl) ML_X0_hasDoing wd_497 shC_18 rfl rfl rfl ⟨Nat.le_of_ble_eq_true rfl, Nat.le_of_ble_eq_true rfl⟩ (Nat.le_of_ble_eq_true rfl) dX1_comesDone_5 ?_
  rcases ite_g hf with ⟨c1, hf⟩ | ⟨c1, hf⟩
  · refine k_if_eq_t C dX1_comesDone_8 (tgt := 21) (by decide) c1 ?_
    refine k_iconst C dX1_comesDone_21 (v := (0 : Int32)) rfl ?_
    exact k_zret C hr hlk (gZ0.trans (congrArg some (prf hf))) (prs hf) dX1_comesDone_22
  · refine k_if_eq_f C dX1_comesDone_8 (tgt := 21) (by decide) c1 ?_
    refine k_aload_n C dX1_comesDone_11 0 rfl ?_
    refine k_getr C shC_16 (j := 1) rfl FL_X1_18 dX1_comesDone_12 ?_
    refine k_callVi C (As := []) (c_X0_hasRoomForPlace hap 18 BD_18 M0 _ rfl) ML_X0_hasRoomForPlace wd_501 shC_18 rfl rfl rfl ⟨Nat.le_of_ble_eq_true rfl, Nat.le_of_ble_eq_true rfl⟩ (Nat.le_of_ble_eq_true rfl) dX1_comesDone_15 ?_
    rcases ite_g hf with ⟨c2, hf⟩ | ⟨c2, hf⟩
    · refine k_if_ne_f C dX1_comesDone_18 (tgt := 23) (by decide) c2 ?_
      refine k_iconst C dX1_comesDone_21 (v := (0 : Int32)) rfl ?_
      exact k_zret C hr hlk (gZ0.trans (congrArg some (prf hf))) (prs hf) dX1_comesDone_22
    · refine k_if_ne_t C dX1_comesDone_18 (tgt := 23) (by decide) c2 ?_
      refine k_aload_n C dX1_comesDone_23 0 rfl ?_
      refine k_getr C shC_16 (j := 1) rfl FL_X1_18 dX1_comesDone_24 ?_
      refine k_iload_n C dX1_comesDone_27 1 rfl ?_
      obtain ⟨M3, hM3, hf⟩ := bnd hf
      refine k_callVv C (As := [.int v1]) (c_X0_addPlace hap 18 BD_18 v1 M0 M3 hM3) ML_X0_addPlace wd_505 shC_18 rfl rfl rfl ⟨Nat.le_of_ble_eq_true rfl, Nat.le_of_ble_eq_true rfl⟩ (Nat.le_of_ble_eq_true rfl) dX1_comesDone_28 ?_
      refine k_iconst C dX1_comesDone_31 (v := (1 : Int32)) rfl ?_
      exact k_zret C hr hlk (gZ1.trans (congrArg some (prf hf))) (prs hf) dX1_comesDone_32
theorem dX11_isType_0 : decode cX11_isType 0 = .ok (.iload_n 0, 1) := by decide +kernel
theorem dX11_isType_1 : decode cX11_isType 1 = .ok (.ifCond .lt 12, 3) := by decide +kernel
theorem dX11_isType_4 : decode cX11_isType 4 = .ok (.iload_n 0, 1) := by decide +kernel
theorem dX11_isType_5 : decode cX11_isType 5 = .ok (.iconst 4, 1) := by decide +kernel
theorem dX11_isType_6 : decode cX11_isType 6 = .ok (.if_icmp .ge 7, 3) := by decide +kernel
theorem dX11_isType_9 : decode cX11_isType 9 = .ok (.iconst 1, 1) := by decide +kernel
theorem dX11_isType_10 : decode cX11_isType 10 = .ok (.goto 4, 3) := by decide +kernel
theorem dX11_isType_13 : decode cX11_isType 13 = .ok (.iconst 0, 1) := by decide +kernel
theorem dX11_isType_14 : decode cX11_isType 14 = .ok (.ireturn, 1) := by decide +kernel
set_option maxRecDepth 100000 in
set_option maxHeartbeats 4000000 in
theorem c_X11_isType {l : Launch} {G : Gx} (hap : k_ap G shC.length) (v0 : Int32) (M0 : Mem) (r : Int32) (hf : f_X11_isType v0 = r) : k_Met l yX11_isType cX11_isType 1 (some .boolean) 0 0 G shC [.int v0] M0 (k_Qi G shC r M0) := by
  refine k_Met_of (by decide) hap (Nat.le_of_ble_eq_true rfl) ?_
  intro p e s m args below meth c C hr hlk
  have C : Cx p s m args c cX11_isType RX11 1 G shC := C
  unfold f_X11_isType at hf
  refine k_lv (lv' := [(0, .int v0)]) [0] rfl ?_
  refine k_iload_n C dX11_isType_0 0 rfl ?_
  rcases ite_g hf with ⟨c1, hf⟩ | ⟨c1, hf⟩
  · refine k_if_lt_t C dX11_isType_1 (tgt := 13) (by decide) c1 ?_
    refine k_iconst C dX11_isType_13 (v := (0 : Int32)) rfl ?_
    exact k_zret C hr hlk (gZ0.trans (congrArg some hf)) rfl dX11_isType_14
  · refine k_if_lt_f C dX11_isType_1 (tgt := 13) (by decide) c1 ?_
    refine k_iload_n C dX11_isType_4 0 rfl ?_
    refine k_iconst C dX11_isType_5 (v := (4 : Int32)) rfl ?_
    rcases ite_g hf with ⟨c2, hf⟩ | ⟨c2, hf⟩
    · refine k_icmp_ge_t C dX11_isType_6 (tgt := 13) (by decide) c2 ?_
      refine k_iconst C dX11_isType_13 (v := (0 : Int32)) rfl ?_
      exact k_zret C hr hlk (gZ0.trans (congrArg some hf)) rfl dX11_isType_14
    · refine k_icmp_ge_f C dX11_isType_6 (tgt := 13) (by decide) c2 ?_
      refine k_iconst C dX11_isType_9 (v := (1 : Int32)) rfl ?_
      refine k_goto C dX11_isType_10 (tgt := 14) (by decide) ?_
      exact k_zret C hr hlk (gZ1.trans (congrArg some hf)) rfl dX11_isType_14
theorem dX1_comesLaw_0 : decode cX1_comesLaw 0 = .ok (.iload_n 1, 1) := by decide +kernel
theorem dX1_comesLaw_1 : decode cX1_comesLaw 1 = .ok (.invokestatic 93, 3) := by decide +kernel
theorem dX1_comesLaw_4 : decode cX1_comesLaw 4 = .ok (.ifCond .eq 9, 3) := by decide +kernel
theorem dX1_comesLaw_7 : decode cX1_comesLaw 7 = .ok (.iload_n 2, 1) := by decide +kernel
theorem dX1_comesLaw_8 : decode cX1_comesLaw 8 = .ok (.bipush 8, 2) := by decide +kernel
theorem dX1_comesLaw_10 : decode cX1_comesLaw 10 = .ok (.if_icmp .le 5, 3) := by decide +kernel
theorem dX1_comesLaw_13 : decode cX1_comesLaw 13 = .ok (.iconst 0, 1) := by decide +kernel
theorem dX1_comesLaw_14 : decode cX1_comesLaw 14 = .ok (.ireturn, 1) := by decide +kernel
theorem dX1_comesLaw_15 : decode cX1_comesLaw 15 = .ok (.aload_n 0, 1) := by decide +kernel
theorem dX1_comesLaw_16 : decode cX1_comesLaw 16 = .ok (.getfield 18, 3) := by decide +kernel
theorem dX1_comesLaw_19 : decode cX1_comesLaw 19 = .ok (.iload_n 1, 1) := by decide +kernel
theorem dX1_comesLaw_20 : decode cX1_comesLaw 20 = .ok (.iload_n 2, 1) := by decide +kernel
theorem dX1_comesLaw_21 : decode cX1_comesLaw 21 = .ok (.invokevirtual 96, 3) := by decide +kernel
theorem dX1_comesLaw_24 : decode cX1_comesLaw 24 = .ok (.iconst 1, 1) := by decide +kernel
theorem dX1_comesLaw_25 : decode cX1_comesLaw 25 = .ok (.ireturn, 1) := by decide +kernel
set_option maxRecDepth 100000 in
set_option maxHeartbeats 4000000 in
theorem c_X1_comesLaw {l : Launch} {G : Gx} (hap : k_ap G shC.length) (v1 : Int32) (v2 : Int32) (M0 : Mem) (r : Int32 × Mem) (hf : f_X1_comesLaw v1 v2 M0 = some r) : k_Met l yX1_comesLaw cX1_comesLaw 3 (some .boolean) 1 22 G shC [.ref (G.2.1 16), .int v1, .int v2] M0 (k_Qi G shC r.1 r.2) := by
  refine k_Met_of (by decide) hap (Nat.le_of_ble_eq_true rfl) ?_
  intro p e s m args below meth c C hr hlk
  have C : Cx p s m args c cX1_comesLaw RX1 3 G shC := C
  unfold f_X1_comesLaw at hf
  refine k_lv (lv' := [(0, .ref (G.2.1 16)), (1, .int v1), (2, .int v2)]) [0, 1, 2] rfl ?_
  refine k_iload_n C dX1_comesLaw_0 1 rfl ?_
  refine k_callNi C (As := [.int v1]) (c_X11_isType hap v1 M0 _ rfl) MS_X11_isType (by decide) rfl rfl rfl ⟨Nat.le_of_ble_eq_true rfl, Nat.le_of_ble_eq_true rfl⟩ (Nat.le_of_ble_eq_true rfl) dX1_comesLaw_1 ?_
  rcases ite_g hf with ⟨c1, hf⟩ | ⟨c1, hf⟩
  · refine k_if_eq_t C dX1_comesLaw_4 (tgt := 13) (by decide) c1 ?_
    refine k_iconst C dX1_comesLaw_13 (v := (0 : Int32)) rfl ?_
    exact k_zret C hr hlk (gZ0.trans (congrArg some (prf hf))) (prs hf) dX1_comesLaw_14
  · refine k_if_eq_f C dX1_comesLaw_4 (tgt := 13) (by decide) c1 ?_
    refine k_iload_n C dX1_comesLaw_7 2 rfl ?_
    refine k_bipush C dX1_comesLaw_8 (v := (8 : Int32)) rfl ?_
    rcases ite_g hf with ⟨c2, hf⟩ | ⟨c2, hf⟩
    · refine k_icmp_le_t C dX1_comesLaw_10 (tgt := 15) (by decide) c2 ?_
      refine k_aload_n C dX1_comesLaw_15 0 rfl ?_
      refine k_getr C shC_16 (j := 1) rfl FL_X1_18 dX1_comesLaw_16 ?_
      refine k_iload_n C dX1_comesLaw_19 1 rfl ?_
      refine k_iload_n C dX1_comesLaw_20 2 rfl ?_
      obtain ⟨M3, hM3, hf⟩ := bnd hf
      refine k_callVv C (As := [.int v1, .int v2]) (c_X0_setLaw hap 18 BD_18 v1 v2 M0 M3 hM3) ML_X0_setLaw wd_517 shC_18 rfl rfl rfl ⟨Nat.le_of_ble_eq_true rfl, Nat.le_of_ble_eq_true rfl⟩ (Nat.le_of_ble_eq_true rfl) dX1_comesLaw_21 ?_
      refine k_iconst C dX1_comesLaw_24 (v := (1 : Int32)) rfl ?_
      exact k_zret C hr hlk (gZ1.trans (congrArg some (prf hf))) (prs hf) dX1_comesLaw_25
    · refine k_icmp_le_f C dX1_comesLaw_10 (tgt := 15) (by decide) c2 ?_
      refine k_iconst C dX1_comesLaw_13 (v := (0 : Int32)) rfl ?_
      exact k_zret C hr hlk (gZ0.trans (congrArg some (prf hf))) (prs hf) dX1_comesLaw_14
theorem dX11_isMark_0 : decode cX11_isMark 0 = .ok (.iload_n 0, 1) := by decide +kernel
theorem dX11_isMark_1 : decode cX11_isMark 1 = .ok (.ifCond .lt 13, 3) := by decide +kernel
theorem dX11_isMark_4 : decode cX11_isMark 4 = .ok (.iload_n 0, 1) := by decide +kernel
theorem dX11_isMark_5 : decode cX11_isMark 5 = .ok (.bipush 8, 2) := by decide +kernel
theorem dX11_isMark_7 : decode cX11_isMark 7 = .ok (.if_icmp .ge 7, 3) := by decide +kernel
theorem dX11_isMark_10 : decode cX11_isMark 10 = .ok (.iconst 1, 1) := by decide +kernel
theorem dX11_isMark_11 : decode cX11_isMark 11 = .ok (.goto 4, 3) := by decide +kernel
theorem dX11_isMark_14 : decode cX11_isMark 14 = .ok (.iconst 0, 1) := by decide +kernel
theorem dX11_isMark_15 : decode cX11_isMark 15 = .ok (.ireturn, 1) := by decide +kernel
set_option maxRecDepth 100000 in
set_option maxHeartbeats 4000000 in
theorem c_X11_isMark {l : Launch} {G : Gx} (hap : k_ap G shC.length) (v0 : Int32) (M0 : Mem) (r : Int32) (hf : f_X11_isMark v0 = r) : k_Met l yX11_isMark cX11_isMark 1 (some .boolean) 0 0 G shC [.int v0] M0 (k_Qi G shC r M0) := by
  refine k_Met_of (by decide) hap (Nat.le_of_ble_eq_true rfl) ?_
  intro p e s m args below meth c C hr hlk
  have C : Cx p s m args c cX11_isMark RX11 1 G shC := C
  unfold f_X11_isMark at hf
  refine k_lv (lv' := [(0, .int v0)]) [0] rfl ?_
  refine k_iload_n C dX11_isMark_0 0 rfl ?_
  rcases ite_g hf with ⟨c1, hf⟩ | ⟨c1, hf⟩
  · refine k_if_lt_t C dX11_isMark_1 (tgt := 14) (by decide) c1 ?_
    refine k_iconst C dX11_isMark_14 (v := (0 : Int32)) rfl ?_
    exact k_zret C hr hlk (gZ0.trans (congrArg some hf)) rfl dX11_isMark_15
  · refine k_if_lt_f C dX11_isMark_1 (tgt := 14) (by decide) c1 ?_
    refine k_iload_n C dX11_isMark_4 0 rfl ?_
    refine k_bipush C dX11_isMark_5 (v := (8 : Int32)) rfl ?_
    rcases ite_g hf with ⟨c2, hf⟩ | ⟨c2, hf⟩
    · refine k_icmp_ge_t C dX11_isMark_7 (tgt := 14) (by decide) c2 ?_
      refine k_iconst C dX11_isMark_14 (v := (0 : Int32)) rfl ?_
      exact k_zret C hr hlk (gZ0.trans (congrArg some hf)) rfl dX11_isMark_15
    · refine k_icmp_ge_f C dX11_isMark_7 (tgt := 14) (by decide) c2 ?_
      refine k_iconst C dX11_isMark_10 (v := (1 : Int32)) rfl ?_
      refine k_goto C dX11_isMark_11 (tgt := 15) (by decide) ?_
      exact k_zret C hr hlk (gZ1.trans (congrArg some hf)) rfl dX11_isMark_15
theorem dX1_comesMark_0 : decode cX1_comesMark 0 = .ok (.aload_n 0, 1) := by decide +kernel
theorem dX1_comesMark_1 : decode cX1_comesMark 1 = .ok (.getfield 18, 3) := by decide +kernel
theorem dX1_comesMark_4 : decode cX1_comesMark 4 = .ok (.iload_n 1, 1) := by decide +kernel
theorem dX1_comesMark_5 : decode cX1_comesMark 5 = .ok (.invokevirtual 83, 3) := by decide +kernel
theorem dX1_comesMark_8 : decode cX1_comesMark 8 = .ok (.ifCond .eq 10, 3) := by decide +kernel
theorem dX1_comesMark_11 : decode cX1_comesMark 11 = .ok (.iload_n 2, 1) := by decide +kernel
theorem dX1_comesMark_12 : decode cX1_comesMark 12 = .ok (.invokestatic 100, 3) := by decide +kernel
theorem dX1_comesMark_15 : decode cX1_comesMark 15 = .ok (.ifCond .ne 5, 3) := by decide +kernel
theorem dX1_comesMark_18 : decode cX1_comesMark 18 = .ok (.iconst 0, 1) := by decide +kernel
theorem dX1_comesMark_19 : decode cX1_comesMark 19 = .ok (.ireturn, 1) := by decide +kernel
theorem dX1_comesMark_20 : decode cX1_comesMark 20 = .ok (.aload_n 0, 1) := by decide +kernel
theorem dX1_comesMark_21 : decode cX1_comesMark 21 = .ok (.getfield 18, 3) := by decide +kernel
theorem dX1_comesMark_24 : decode cX1_comesMark 24 = .ok (.iload_n 1, 1) := by decide +kernel
theorem dX1_comesMark_25 : decode cX1_comesMark 25 = .ok (.iload_n 2, 1) := by decide +kernel
theorem dX1_comesMark_26 : decode cX1_comesMark 26 = .ok (.invokevirtual 103, 3) := by decide +kernel
theorem dX1_comesMark_29 : decode cX1_comesMark 29 = .ok (.iconst 1, 1) := by decide +kernel
theorem dX1_comesMark_30 : decode cX1_comesMark 30 = .ok (.ireturn, 1) := by decide +kernel
set_option maxRecDepth 100000 in
set_option maxHeartbeats 4000000 in
theorem c_X1_comesMark {l : Launch} {G : Gx} (hap : k_ap G shC.length) (v1 : Int32) (v2 : Int32) (M0 : Mem) (r : Int32 × Mem) (hf : f_X1_comesMark v1 v2 M0 = some r) : k_Met l yX1_comesMark cX1_comesMark 3 (some .boolean) 1 22 G shC [.ref (G.2.1 16), .int v1, .int v2] M0 (k_Qi G shC r.1 r.2) := by
  refine k_Met_of (by decide) hap (Nat.le_of_ble_eq_true rfl) ?_
  intro p e s m args below meth c C hr hlk
  have C : Cx p s m args c cX1_comesMark RX1 3 G shC := C
  unfold f_X1_comesMark at hf
  refine k_lv (lv' := [(0, .ref (G.2.1 16)), (1, .int v1), (2, .int v2)]) [0, 1, 2] rfl ?_
  refine k_aload_n C dX1_comesMark_0 0 rfl ?_
  refine k_getr C shC_16 (j := 1) rfl FL_X1_18 dX1_comesMark_1 ?_
  refine k_iload_n C dX1_comesMark_4 1 rfl ?_
  refine k_callVi C (As := [.int v1]) (c_X0_hasDoing hap 18 BD_18 v1 M0 _ rfl) ML_X0_hasDoing wd_497 shC_18 rfl rfl rfl ⟨Nat.le_of_ble_eq_true rfl, Nat.le_of_ble_eq_true rfl⟩ (Nat.le_of_ble_eq_true rfl) dX1_comesMark_5 ?_
  rcases ite_g hf with ⟨c1, hf⟩ | ⟨c1, hf⟩
  · refine k_if_eq_t C dX1_comesMark_8 (tgt := 18) (by decide) c1 ?_
    refine k_iconst C dX1_comesMark_18 (v := (0 : Int32)) rfl ?_
    exact k_zret C hr hlk (gZ0.trans (congrArg some (prf hf))) (prs hf) dX1_comesMark_19
  · refine k_if_eq_f C dX1_comesMark_8 (tgt := 18) (by decide) c1 ?_
    refine k_iload_n C dX1_comesMark_11 2 rfl ?_
    refine k_callNi C (As := [.int v2]) (c_X11_isMark hap v2 M0 _ rfl) MS_X11_isMark (by decide) rfl rfl rfl ⟨Nat.le_of_ble_eq_true rfl, Nat.le_of_ble_eq_true rfl⟩ (Nat.le_of_ble_eq_true rfl) dX1_comesMark_12 ?_
    rcases ite_g hf with ⟨c2, hf⟩ | ⟨c2, hf⟩
    · refine k_if_ne_f C dX1_comesMark_15 (tgt := 20) (by decide) c2 ?_
      refine k_iconst C dX1_comesMark_18 (v := (0 : Int32)) rfl ?_
      exact k_zret C hr hlk (gZ0.trans (congrArg some (prf hf))) (prs hf) dX1_comesMark_19
    · refine k_if_ne_t C dX1_comesMark_15 (tgt := 20) (by decide) c2 ?_
      refine k_aload_n C dX1_comesMark_20 0 rfl ?_
      refine k_getr C shC_16 (j := 1) rfl FL_X1_18 dX1_comesMark_21 ?_
      refine k_iload_n C dX1_comesMark_24 1 rfl ?_
      refine k_iload_n C dX1_comesMark_25 2 rfl ?_
      obtain ⟨M3, hM3, hf⟩ := bnd hf
      refine k_callVv C (As := [.int v1, .int v2]) (c_X0_flipMark hap 18 BD_18 v1 v2 M0 M3 hM3) ML_X0_flipMark wd_525 shC_18 rfl rfl rfl ⟨Nat.le_of_ble_eq_true rfl, Nat.le_of_ble_eq_true rfl⟩ (Nat.le_of_ble_eq_true rfl) dX1_comesMark_26 ?_
      refine k_iconst C dX1_comesMark_29 (v := (1 : Int32)) rfl ?_
      exact k_zret C hr hlk (gZ1.trans (congrArg some (prf hf))) (prs hf) dX1_comesMark_30
theorem dX1_comes_0 : decode cX1_comes 0 = .ok (.aload_n 0, 1) := by decide +kernel
theorem dX1_comes_1 : decode cX1_comes 1 = .ok (.iload_n 1, 1) := by decide +kernel
theorem dX1_comes_2 : decode cX1_comes 2 = .ok (.iconst 1, 1) := by decide +kernel
theorem dX1_comes_3 : decode cX1_comes 3 = .ok (.iadd, 1) := by decide +kernel
theorem dX1_comes_4 : decode cX1_comes 4 = .ok (.invokevirtual 52, 3) := by decide +kernel
theorem dX1_comes_7 : decode cX1_comes 7 = .ok (.istore_n 2, 1) := by decide +kernel
theorem dX1_comes_8 : decode cX1_comes 8 = .ok (.aload_n 0, 1) := by decide +kernel
theorem dX1_comes_9 : decode cX1_comes 9 = .ok (.iload_n 1, 1) := by decide +kernel
theorem dX1_comes_10 : decode cX1_comes 10 = .ok (.iconst 2, 1) := by decide +kernel
theorem dX1_comes_11 : decode cX1_comes 11 = .ok (.iadd, 1) := by decide +kernel
theorem dX1_comes_12 : decode cX1_comes 12 = .ok (.invokevirtual 52, 3) := by decide +kernel
theorem dX1_comes_15 : decode cX1_comes 15 = .ok (.istore_n 3, 1) := by decide +kernel
theorem dX1_comes_16 : decode cX1_comes 16 = .ok (.aload_n 0, 1) := by decide +kernel
theorem dX1_comes_17 : decode cX1_comes 17 = .ok (.iload_n 1, 1) := by decide +kernel
theorem dX1_comes_18 : decode cX1_comes 18 = .ok (.invokevirtual 46, 3) := by decide +kernel
theorem dX1_comes_21 : decode cX1_comes 21 = .ok (.lookupswitch 103 #[(100, 43), (108, 89), (109, 96), (111, 83)], 43) := by decide +kernel
theorem dX1_comes_64 : decode cX1_comes 64 = .ok (.bipush 100, 2) := by decide +kernel
theorem dX1_comes_66 : decode cX1_comes 66 = .ok (.aload_n 0, 1) := by decide +kernel
theorem dX1_comes_67 : decode cX1_comes 67 = .ok (.iload_n 1, 1) := by decide +kernel
theorem dX1_comes_68 : decode cX1_comes 68 = .ok (.iconst 3, 1) := by decide +kernel
theorem dX1_comes_69 : decode cX1_comes 69 = .ok (.iadd, 1) := by decide +kernel
theorem dX1_comes_70 : decode cX1_comes 70 = .ok (.invokevirtual 52, 3) := by decide +kernel
theorem dX1_comes_73 : decode cX1_comes 73 = .ok (.imul, 1) := by decide +kernel
theorem dX1_comes_74 : decode cX1_comes 74 = .ok (.bipush 10, 2) := by decide +kernel
theorem dX1_comes_76 : decode cX1_comes 76 = .ok (.aload_n 0, 1) := by decide +kernel
theorem dX1_comes_77 : decode cX1_comes 77 = .ok (.iload_n 1, 1) := by decide +kernel
theorem dX1_comes_78 : decode cX1_comes 78 = .ok (.iconst 4, 1) := by decide +kernel
theorem dX1_comes_79 : decode cX1_comes 79 = .ok (.iadd, 1) := by decide +kernel
theorem dX1_comes_80 : decode cX1_comes 80 = .ok (.invokevirtual 52, 3) := by decide +kernel
theorem dX1_comes_83 : decode cX1_comes 83 = .ok (.imul, 1) := by decide +kernel
theorem dX1_comes_84 : decode cX1_comes 84 = .ok (.iadd, 1) := by decide +kernel
theorem dX1_comes_85 : decode cX1_comes 85 = .ok (.aload_n 0, 1) := by decide +kernel
theorem dX1_comes_86 : decode cX1_comes 86 = .ok (.iload_n 1, 1) := by decide +kernel
theorem dX1_comes_87 : decode cX1_comes 87 = .ok (.iconst 5, 1) := by decide +kernel
theorem dX1_comes_88 : decode cX1_comes 88 = .ok (.iadd, 1) := by decide +kernel
theorem dX1_comes_89 : decode cX1_comes 89 = .ok (.invokevirtual 52, 3) := by decide +kernel
theorem dX1_comes_92 : decode cX1_comes 92 = .ok (.iadd, 1) := by decide +kernel
theorem dX1_comes_93 : decode cX1_comes 93 = .ok (.istore 4, 2) := by decide +kernel
theorem dX1_comes_95 : decode cX1_comes 95 = .ok (.aload_n 0, 1) := by decide +kernel
theorem dX1_comes_96 : decode cX1_comes 96 = .ok (.iload_n 2, 1) := by decide +kernel
theorem dX1_comes_97 : decode cX1_comes 97 = .ok (.iload_n 3, 1) := by decide +kernel
theorem dX1_comes_98 : decode cX1_comes 98 = .ok (.iload 4, 2) := by decide +kernel
theorem dX1_comes_100 : decode cX1_comes 100 = .ok (.invokevirtual 55, 3) := by decide +kernel
theorem dX1_comes_103 : decode cX1_comes 103 = .ok (.ireturn, 1) := by decide +kernel
theorem dX1_comes_104 : decode cX1_comes 104 = .ok (.aload_n 0, 1) := by decide +kernel
theorem dX1_comes_105 : decode cX1_comes 105 = .ok (.iload_n 2, 1) := by decide +kernel
theorem dX1_comes_106 : decode cX1_comes 106 = .ok (.invokevirtual 59, 3) := by decide +kernel
theorem dX1_comes_109 : decode cX1_comes 109 = .ok (.ireturn, 1) := by decide +kernel
theorem dX1_comes_110 : decode cX1_comes 110 = .ok (.aload_n 0, 1) := by decide +kernel
theorem dX1_comes_111 : decode cX1_comes 111 = .ok (.iload_n 2, 1) := by decide +kernel
theorem dX1_comes_112 : decode cX1_comes 112 = .ok (.iload_n 3, 1) := by decide +kernel
theorem dX1_comes_113 : decode cX1_comes 113 = .ok (.invokevirtual 62, 3) := by decide +kernel
theorem dX1_comes_116 : decode cX1_comes 116 = .ok (.ireturn, 1) := by decide +kernel
theorem dX1_comes_117 : decode cX1_comes 117 = .ok (.aload_n 0, 1) := by decide +kernel
theorem dX1_comes_118 : decode cX1_comes 118 = .ok (.iload_n 2, 1) := by decide +kernel
theorem dX1_comes_119 : decode cX1_comes 119 = .ok (.iload_n 3, 1) := by decide +kernel
theorem dX1_comes_120 : decode cX1_comes 120 = .ok (.invokevirtual 66, 3) := by decide +kernel
theorem dX1_comes_123 : decode cX1_comes 123 = .ok (.ireturn, 1) := by decide +kernel
theorem dX1_comes_124 : decode cX1_comes 124 = .ok (.aload_n 0, 1) := by decide +kernel
theorem dX1_comes_125 : decode cX1_comes 125 = .ok (.getfield 18, 3) := by decide +kernel
theorem dX1_comes_128 : decode cX1_comes 128 = .ok (.iconst 0, 1) := by decide +kernel
theorem dX1_comes_129 : decode cX1_comes 129 = .ok (.putfield 69, 3) := by decide +kernel
theorem dX1_comes_132 : decode cX1_comes 132 = .ok (.iconst 1, 1) := by decide +kernel
theorem dX1_comes_133 : decode cX1_comes 133 = .ok (.ireturn, 1) := by decide +kernel
set_option maxRecDepth 100000 in
set_option maxHeartbeats 4000000 in
theorem c_X1_comes {l : Launch} {G : Gx} (hap : k_ap G shC.length) (v1 : Int32) (M0 : Mem) (r : Int32 × Mem) (hf : f_X1_comes v1 M0 = some r) : k_Met l yX1_comes cX1_comes 5 (some .boolean) 3 70 G shC [.ref (G.2.1 16), .int v1] M0 (k_Qi G shC r.1 r.2) := by
  refine k_Met_of (by decide) hap (Nat.le_of_ble_eq_true rfl) ?_
  intro p e s m args below meth c C hr hlk
  have C : Cx p s m args c cX1_comes RX1 5 G shC := C
  unfold f_X1_comes at hf
  refine k_lv (lv' := [(0, .ref (G.2.1 16)), (1, .int v1)]) [0, 1] rfl ?_
  refine k_aload_n C dX1_comes_0 0 rfl ?_
  refine k_iload_n C dX1_comes_1 1 rfl ?_
  refine k_iconst C dX1_comes_2 (v := (1 : Int32)) rfl ?_
  refine k_iadd C dX1_comes_3 ?_
  obtain ⟨t1, ht1, hf⟩ := bnd hf
  refine k_callVi C (As := [.int (v1 + (1 : Int32))]) (c_X1_digitAt hap (v1 + (1 : Int32)) M0 t1 ht1) ML_X1_digitAt wd_469 shC_16 rfl rfl rfl ⟨Nat.le_of_ble_eq_true rfl, Nat.le_of_ble_eq_true rfl⟩ (Nat.le_of_ble_eq_true rfl) dX1_comes_4 ?_
  refine k_istore_n C dX1_comes_7 (by decide) [1, 2, 0] (lv' := [(0, .ref (G.2.1 16)), (1, .int v1), (2, .int t1)]) rfl ?_
  refine k_aload_n C dX1_comes_8 0 rfl ?_
  refine k_iload_n C dX1_comes_9 1 rfl ?_
  refine k_iconst C dX1_comes_10 (v := (2 : Int32)) rfl ?_
  refine k_iadd C dX1_comes_11 ?_
  obtain ⟨t2, ht2, hf⟩ := bnd hf
  refine k_callVi C (As := [.int (v1 + (2 : Int32))]) (c_X1_digitAt hap (v1 + (2 : Int32)) M0 t2 ht2) ML_X1_digitAt wd_469 shC_16 rfl rfl rfl ⟨Nat.le_of_ble_eq_true rfl, Nat.le_of_ble_eq_true rfl⟩ (Nat.le_of_ble_eq_true rfl) dX1_comes_12 ?_
  refine k_istore_n C dX1_comes_15 (by decide) [1, 2, 3, 0] (lv' := [(0, .ref (G.2.1 16)), (1, .int v1), (2, .int t1), (3, .int t2)]) rfl ?_
  refine k_aload_n C dX1_comes_16 0 rfl ?_
  refine k_iload_n C dX1_comes_17 1 rfl ?_
  obtain ⟨t3, ht3, hf⟩ := bnd hf
  refine k_callVi C (As := [.int v1]) (c_X1_letterAt hap v1 M0 t3 ht3) ML_X1_letterAt wd_444 shC_16 rfl rfl rfl ⟨Nat.le_of_ble_eq_true rfl, Nat.le_of_ble_eq_true rfl⟩ (Nat.le_of_ble_eq_true rfl) dX1_comes_18 ?_
  rcases ite_g hf with ⟨c4, hf⟩ | ⟨c4, hf⟩
  · refine k_lookup C dX1_comes_21 (tgt := 64) (off := 43) (by decide) (by first | (rw [c4]; done) | (rw [c4]; decide)) (by decide) ?_
    refine k_bipush C dX1_comes_64 (v := (100 : Int32)) rfl ?_
    refine k_aload_n C dX1_comes_66 0 rfl ?_
    refine k_iload_n C dX1_comes_67 1 rfl ?_
    refine k_iconst C dX1_comes_68 (v := (3 : Int32)) rfl ?_
    refine k_iadd C dX1_comes_69 ?_
    obtain ⟨t5, ht5, hf⟩ := bnd hf
    refine k_callVi C (As := [.int (v1 + (3 : Int32))]) (c_X1_digitAt hap (v1 + (3 : Int32)) M0 t5 ht5) ML_X1_digitAt wd_469 shC_16 rfl rfl rfl ⟨Nat.le_of_ble_eq_true rfl, Nat.le_of_ble_eq_true rfl⟩ (Nat.le_of_ble_eq_true rfl) dX1_comes_70 ?_
    refine k_imul C dX1_comes_73 ?_
    refine k_bipush C dX1_comes_74 (v := (10 : Int32)) rfl ?_
    refine k_aload_n C dX1_comes_76 0 rfl ?_
    refine k_iload_n C dX1_comes_77 1 rfl ?_
    refine k_iconst C dX1_comes_78 (v := (4 : Int32)) rfl ?_
    refine k_iadd C dX1_comes_79 ?_
    obtain ⟨t6, ht6, hf⟩ := bnd hf
    refine k_callVi C (As := [.int (v1 + (4 : Int32))]) (c_X1_digitAt hap (v1 + (4 : Int32)) M0 t6 ht6) ML_X1_digitAt wd_469 shC_16 rfl rfl rfl ⟨Nat.le_of_ble_eq_true rfl, Nat.le_of_ble_eq_true rfl⟩ (Nat.le_of_ble_eq_true rfl) dX1_comes_80 ?_
    refine k_imul C dX1_comes_83 ?_
    refine k_iadd C dX1_comes_84 ?_
    refine k_aload_n C dX1_comes_85 0 rfl ?_
    refine k_iload_n C dX1_comes_86 1 rfl ?_
    refine k_iconst C dX1_comes_87 (v := (5 : Int32)) rfl ?_
    refine k_iadd C dX1_comes_88 ?_
    obtain ⟨t7, ht7, hf⟩ := bnd hf
    refine k_callVi C (As := [.int (v1 + (5 : Int32))]) (c_X1_digitAt hap (v1 + (5 : Int32)) M0 t7 ht7) ML_X1_digitAt wd_469 shC_16 rfl rfl rfl ⟨Nat.le_of_ble_eq_true rfl, Nat.le_of_ble_eq_true rfl⟩ (Nat.le_of_ble_eq_true rfl) dX1_comes_89 ?_
    refine k_iadd C dX1_comes_92 ?_
    refine k_istore C dX1_comes_93 (by decide) [1, 3, 4, 0] (lv' := [(0, .ref (G.2.1 16)), (2, .int t1), (3, .int t2), (4, .int ((((100 : Int32) * t5) + ((10 : Int32) * t6)) + t7))]) rfl ?_
    refine k_aload_n C dX1_comes_95 0 rfl ?_
    refine k_iload_n C dX1_comes_96 1 rfl ?_
    refine k_iload_n C dX1_comes_97 2 rfl ?_
    refine k_iload C dX1_comes_98 3 rfl ?_
    obtain ⟨⟨t8, M8⟩, ht8, hf⟩ := bnd hf
    replace hf := bp_s hf
    refine k_callVi C (As := [.int t1, .int t2, .int ((((100 : Int32) * t5) + ((10 : Int32) * t6)) + t7)]) (c_X1_comesDoing hap t1 t2 ((((100 : Int32) * t5) + ((10 : Int32) * t6)) + t7) M0 (t8, M8) ht8) ML_X1_comesDoing wd_473 shC_16 rfl rfl rfl ⟨Nat.le_of_ble_eq_true rfl, Nat.le_of_ble_eq_true rfl⟩ (Nat.le_of_ble_eq_true rfl) dX1_comes_100 ?_
    obtain ⟨t9, ht9, hf⟩ := bnd hf
    exact k_zret C hr hlk (ht9.trans (congrArg some (prf hf))) (prs hf) dX1_comes_103
  · rcases ite_g hf with ⟨c10, hf⟩ | ⟨c10, hf⟩
    · refine k_lookup C dX1_comes_21 (tgt := 110) (off := 89) (by decide) (by first | (rw [c10]; done) | (rw [c10]; decide)) (by decide) ?_
      refine k_aload_n C dX1_comes_110 0 rfl ?_
      refine k_iload_n C dX1_comes_111 2 rfl ?_
      refine k_iload_n C dX1_comes_112 3 rfl ?_
      obtain ⟨⟨t11, M11⟩, ht11, hf⟩ := bnd hf
      replace hf := bp_s hf
      refine k_callVi C (As := [.int t1, .int t2]) (c_X1_comesLaw hap t1 t2 M0 (t11, M11) ht11) ML_X1_comesLaw wd_510 shC_16 rfl rfl rfl ⟨Nat.le_of_ble_eq_true rfl, Nat.le_of_ble_eq_true rfl⟩ (Nat.le_of_ble_eq_true rfl) dX1_comes_113 ?_
      obtain ⟨t12, ht12, hf⟩ := bnd hf
      exact k_zret C hr hlk (ht12.trans (congrArg some (prf hf))) (prs hf) dX1_comes_116
    · rcases ite_g hf with ⟨c13, hf⟩ | ⟨c13, hf⟩
      · refine k_lookup C dX1_comes_21 (tgt := 117) (off := 96) (by decide) (by first | (rw [c13]; done) | (rw [c13]; decide)) (by decide) ?_
        refine k_aload_n C dX1_comes_117 0 rfl ?_
        refine k_iload_n C dX1_comes_118 2 rfl ?_
        refine k_iload_n C dX1_comes_119 3 rfl ?_
        obtain ⟨⟨t14, M14⟩, ht14, hf⟩ := bnd hf
        replace hf := bp_s hf
        refine k_callVi C (As := [.int t1, .int t2]) (c_X1_comesMark hap t1 t2 M0 (t14, M14) ht14) ML_X1_comesMark wd_518 shC_16 rfl rfl rfl ⟨Nat.le_of_ble_eq_true rfl, Nat.le_of_ble_eq_true rfl⟩ (Nat.le_of_ble_eq_true rfl) dX1_comes_120 ?_
        obtain ⟨t15, ht15, hf⟩ := bnd hf
        exact k_zret C hr hlk (ht15.trans (congrArg some (prf hf))) (prs hf) dX1_comes_123
      · rcases ite_g hf with ⟨c16, hf⟩ | ⟨c16, hf⟩
        · refine k_lookup C dX1_comes_21 (tgt := 104) (off := 83) (by decide) (by first | (rw [c16]; done) | (rw [c16]; decide)) (by decide) ?_
          refine k_aload_n C dX1_comes_104 0 rfl ?_
          refine k_iload_n C dX1_comes_105 2 rfl ?_
          obtain ⟨⟨t17, M17⟩, ht17, hf⟩ := bnd hf
          replace hf := bp_s hf
          refine k_callVi C (As := [.int t1]) (c_X1_comesDone hap t1 M0 (t17, M17) ht17) ML_X1_comesDone wd_493 shC_16 rfl rfl rfl ⟨Nat.le_of_ble_eq_true rfl, Nat.le_of_ble_eq_true rfl⟩ (Nat.le_of_ble_eq_true rfl) dX1_comes_106 ?_
          obtain ⟨t18, ht18, hf⟩ := bnd hf
          exact k_zret C hr hlk (ht18.trans (congrArg some (prf hf))) (prs hf) dX1_comes_109
        · have hqc4 : (t3 : Int32).toInt ≠ 100 := i_ne2 c4 (by decide)
          have hqc10 : (t3 : Int32).toInt ≠ 108 := i_ne2 c10 (by decide)
          have hqc13 : (t3 : Int32).toInt ≠ 109 := i_ne2 c13 (by decide)
          have hqc16 : (t3 : Int32).toInt ≠ 111 := i_ne2 c16 (by decide)
          refine k_lookup C dX1_comes_21 (tgt := 124) (off := 103) (by decide) (by simp only [Op.lookupswitch.offset]; rw [if_neg (Ne.symm hqc4), if_neg (Ne.symm hqc10), if_neg (Ne.symm hqc13), if_neg (Ne.symm hqc16)]) (by decide) ?_
          refine k_aload_n C dX1_comes_124 0 rfl ?_
          refine k_getr C shC_16 (j := 1) rfl FL_X1_18 dX1_comes_125 ?_
          refine k_iconst C dX1_comes_128 (v := (0 : Int32)) rfl ?_
          refine k_put C shC_18 (j := 5) rfl FL_X1_69 FW_X0_5 dX1_comes_129 ?_
          refine k_iconst C dX1_comes_132 (v := (1 : Int32)) rfl ?_
          exact k_zret C hr hlk (gZ1.trans (congrArg some (prf hf))) (prs hf) dX1_comes_133
theorem dX1_hear_0 : decode cX1_hear 0 = .ok (.aload_n 0, 1) := by decide +kernel
theorem dX1_hear_1 : decode cX1_hear 1 = .ok (.invokevirtual 30, 3) := by decide +kernel
theorem dX1_hear_4 : decode cX1_hear 4 = .ok (.istore_n 2, 1) := by decide +kernel
theorem dX1_hear_5 : decode cX1_hear 5 = .ok (.iload_n 2, 1) := by decide +kernel
theorem dX1_hear_6 : decode cX1_hear 6 = .ok (.ifCond .lt 9, 3) := by decide +kernel
theorem dX1_hear_9 : decode cX1_hear 9 = .ok (.sipush (-1000), 3) := by decide +kernel
theorem dX1_hear_12 : decode cX1_hear 12 = .ok (.iload_n 2, 1) := by decide +kernel
theorem dX1_hear_13 : decode cX1_hear 13 = .ok (.isub, 1) := by decide +kernel
theorem dX1_hear_14 : decode cX1_hear 14 = .ok (.ireturn, 1) := by decide +kernel
theorem dX1_hear_15 : decode cX1_hear 15 = .ok (.aload_n 0, 1) := by decide +kernel
theorem dX1_hear_16 : decode cX1_hear 16 = .ok (.getfield 18, 3) := by decide +kernel
theorem dX1_hear_19 : decode cX1_hear 19 = .ok (.aload_n 1, 1) := by decide +kernel
theorem dX1_hear_20 : decode cX1_hear 20 = .ok (.invokevirtual 34, 3) := by decide +kernel
theorem dX1_hear_23 : decode cX1_hear 23 = .ok (.iconst 0, 1) := by decide +kernel
theorem dX1_hear_24 : decode cX1_hear 24 = .ok (.istore_n 3, 1) := by decide +kernel
theorem dX1_hear_25 : decode cX1_hear 25 = .ok (.iconst 0, 1) := by decide +kernel
theorem dX1_hear_26 : decode cX1_hear 26 = .ok (.istore 4, 2) := by decide +kernel
theorem dX1_hear_28 : decode cX1_hear 28 = .ok (.iload 4, 2) := by decide +kernel
theorem dX1_hear_30 : decode cX1_hear 30 = .ok (.aload_n 0, 1) := by decide +kernel
theorem dX1_hear_31 : decode cX1_hear 31 = .ok (.getfield 22, 3) := by decide +kernel
theorem dX1_hear_34 : decode cX1_hear 34 = .ok (.if_icmp .ge 42, 3) := by decide +kernel
theorem dX1_hear_37 : decode cX1_hear 37 = .ok (.aload_n 0, 1) := by decide +kernel
theorem dX1_hear_38 : decode cX1_hear 38 = .ok (.iload 4, 2) := by decide +kernel
theorem dX1_hear_40 : decode cX1_hear 40 = .ok (.invokevirtual 38, 3) := by decide +kernel
theorem dX1_hear_43 : decode cX1_hear 43 = .ok (.ifCond .ne 10, 3) := by decide +kernel
theorem dX1_hear_46 : decode cX1_hear 46 = .ok (.sipush (-2000), 3) := by decide +kernel
theorem dX1_hear_49 : decode cX1_hear 49 = .ok (.iload 4, 2) := by decide +kernel
theorem dX1_hear_51 : decode cX1_hear 51 = .ok (.isub, 1) := by decide +kernel
theorem dX1_hear_52 : decode cX1_hear 52 = .ok (.ireturn, 1) := by decide +kernel
theorem dX1_hear_53 : decode cX1_hear 53 = .ok (.iinc 3 1, 3) := by decide +kernel
theorem dX1_hear_56 : decode cX1_hear 56 = .ok (.iload 4, 2) := by decide +kernel
theorem dX1_hear_58 : decode cX1_hear 58 = .ok (.iconst 2, 1) := by decide +kernel
theorem dX1_hear_59 : decode cX1_hear 59 = .ok (.aload_n 0, 1) := by decide +kernel
theorem dX1_hear_60 : decode cX1_hear 60 = .ok (.getfield 9, 3) := by decide +kernel
theorem dX1_hear_63 : decode cX1_hear 63 = .ok (.iload 4, 2) := by decide +kernel
theorem dX1_hear_65 : decode cX1_hear 65 = .ok (.iaload, 1) := by decide +kernel
theorem dX1_hear_66 : decode cX1_hear 66 = .ok (.invokestatic 42, 3) := by decide +kernel
theorem dX1_hear_69 : decode cX1_hear 69 = .ok (.iadd, 1) := by decide +kernel
theorem dX1_hear_70 : decode cX1_hear 70 = .ok (.iadd, 1) := by decide +kernel
theorem dX1_hear_71 : decode cX1_hear 71 = .ok (.istore 4, 2) := by decide +kernel
theorem dX1_hear_73 : decode cX1_hear 73 = .ok (.goto (-45), 3) := by decide +kernel
theorem dX1_hear_76 : decode cX1_hear 76 = .ok (.aload_n 1, 1) := by decide +kernel
theorem dX1_hear_77 : decode cX1_hear 77 = .ok (.aload_n 0, 1) := by decide +kernel
theorem dX1_hear_78 : decode cX1_hear 78 = .ok (.getfield 18, 3) := by decide +kernel
theorem dX1_hear_81 : decode cX1_hear 81 = .ok (.invokevirtual 34, 3) := by decide +kernel
theorem dX1_hear_84 : decode cX1_hear 84 = .ok (.iload_n 3, 1) := by decide +kernel
theorem dX1_hear_85 : decode cX1_hear 85 = .ok (.ireturn, 1) := by decide +kernel
set_option maxRecDepth 100000 in
set_option maxHeartbeats 4000000 in
theorem c_X1_hear {l : Launch} {G : Gx} (hap : k_ap G shC.length) (M0 : Mem) (r : Int32 × Mem) (hf : f_X1_hear M0 = some r) : k_Met l yX1_hear cX1_hear 5 (some .int) 4 94 G shC [.ref (G.2.1 16), .ref (G.2.1 1)] M0 (k_Qi G shC r.1 r.2) := by
  refine k_Met_of (by decide) hap (Nat.le_of_ble_eq_true rfl) ?_
  intro p e s m args below meth c C hr hlk
  have C : Cx p s m args c cX1_hear RX1 5 G shC := C
  have k_b28 : ∀ (n28 : Nat) (v3 : Int32) (v4 : Int32) (M : Mem), f_X1_hear_b28 n28 v3 v4 M = some r → K p l e (k_rm 4 94) s m args below meth c 5 G shC (MQ below (k_Qi G shC r.1 r.2) args s 0 0 (k_A G shC.length)) 28 [(0, .ref (G.2.1 16)), (1, .ref (G.2.1 1)), (3, .int v3), (4, .int v4)] [] M := by
    intro n28
    induction n28 with
    | zero => intro v3 v4 M hf; simp [f_X1_hear_b28] at hf
    | succ n28 ih28 =>
      intro v3 v4 M hf
      unfold f_X1_hear_b28 at hf
      refine k_iload C dX1_hear_28 3 rfl ?_
      refine k_aload_n C dX1_hear_30 0 rfl ?_
      refine k_geti C shC_16 (j := 2) rfl FL_X1_22 dX1_hear_31 ?_
      rcases ite_g hf with ⟨c4, hf⟩ | ⟨c4, hf⟩
      · refine k_icmp_ge_t C dX1_hear_34 (tgt := 76) (by decide) c4 ?_
        refine k_aload_n C dX1_hear_76 1 rfl ?_
        refine k_aload_n C dX1_hear_77 0 rfl ?_
        refine k_getr C shC_16 (j := 1) rfl FL_X1_18 dX1_hear_78 ?_
        obtain ⟨M5, hM5, hf⟩ := bnd hf
        refine k_callVv C (As := [.ref (G.2.1 18)]) (c_X0_become hap 1 18 BD_1 BD_18 M M5 hM5) ML_X0_become wd_454 shC_1 rfl rfl rfl ⟨Nat.le_of_ble_eq_true rfl, Nat.le_of_ble_eq_true rfl⟩ (Nat.le_of_ble_eq_true rfl) dX1_hear_81 ?_
        refine k_iload_n C dX1_hear_84 2 rfl ?_
        exact k_iret C hr hlk (prf hf) (prs hf) dX1_hear_85
      · refine k_icmp_ge_f C dX1_hear_34 (tgt := 76) (by decide) c4 ?_
        refine k_aload_n C dX1_hear_37 0 rfl ?_
        refine k_iload C dX1_hear_38 3 rfl ?_
        obtain ⟨⟨t6, M6⟩, ht6, hf⟩ := bnd hf
        replace hf := bp_s hf
        refine k_callVi C (As := [.int v4]) (c_X1_comes hap v4 M (t6, M6) ht6) ML_X1_comes wd_465 shC_16 rfl rfl rfl ⟨Nat.le_of_ble_eq_true rfl, Nat.le_of_ble_eq_true rfl⟩ (Nat.le_of_ble_eq_true rfl) dX1_hear_40 ?_
        rcases ite_g hf with ⟨c7, hf⟩ | ⟨c7, hf⟩
        · refine k_if_ne_f C dX1_hear_43 (tgt := 53) (by decide) c7 ?_
          refine k_sipush C dX1_hear_46 (v := (-2000 : Int32)) rfl ?_
          refine k_iload C dX1_hear_49 3 rfl ?_
          refine k_isub C dX1_hear_51 ?_
          exact k_iret C hr hlk (prf hf) (prs hf) dX1_hear_52
        · refine k_if_ne_t C dX1_hear_43 (tgt := 53) (by decide) c7 ?_
          refine k_iinc C dX1_hear_53 2 rfl (v := (v3 + (1 : Int32))) rfl (by decide) [1, 2, 0, 3] (lv' := [(0, .ref (G.2.1 16)), (1, .ref (G.2.1 1)), (3, .int (v3 + (1 : Int32))), (4, .int v4)]) rfl ?_
          refine k_iload C dX1_hear_56 3 rfl ?_
          refine k_iconst C dX1_hear_58 (v := (2 : Int32)) rfl ?_
          refine k_aload_n C dX1_hear_59 0 rfl ?_
          refine k_getr C shC_16 (j := 0) rfl FL_X1_9 dX1_hear_60 ?_
          refine k_iload C dX1_hear_63 3 rfl ?_
          obtain ⟨t8, ht8, hf⟩ := bnd hf
          refine k_iald C shC_17 ht8 dX1_hear_65 ?_
          refine k_callSi C (As := [.int t8]) (c_X1_digitsBehind hap t8 M6 _ rfl) MS_X1_digitsBehind wd_448 rfl rfl ⟨Nat.le_of_ble_eq_true rfl, Nat.le_of_ble_eq_true rfl⟩ (Nat.le_of_ble_eq_true rfl) dX1_hear_66 ?_
          refine k_iadd C dX1_hear_69 ?_
          refine k_iadd C dX1_hear_70 ?_
          refine k_istore C dX1_hear_71 (by decide) [1, 2, 3, 0] (lv' := [(0, .ref (G.2.1 16)), (1, .ref (G.2.1 1)), (3, .int (v3 + (1 : Int32))), (4, .int (v4 + ((2 : Int32) + (f_X1_digitsBehind t8))))]) rfl ?_
          refine k_goto C dX1_hear_73 (tgt := 28) (by decide) ?_
          exact ih28 (v3 + (1 : Int32)) (v4 + ((2 : Int32) + (f_X1_digitsBehind t8))) M6 hf
  unfold f_X1_hear at hf
  refine k_lv (lv' := [(0, .ref (G.2.1 16)), (1, .ref (G.2.1 1))]) [0, 1] rfl ?_
  refine k_aload_n C dX1_hear_0 0 rfl ?_
  obtain ⟨t1, ht1, hf⟩ := bnd hf
  refine k_callVi C (As := []) (c_X1_firstWithoutForm hap M0 t1 ht1) ML_X1_firstWithoutForm wd_440 shC_16 rfl rfl rfl ⟨Nat.le_of_ble_eq_true rfl, Nat.le_of_ble_eq_true rfl⟩ (Nat.le_of_ble_eq_true rfl) dX1_hear_1 ?_
  refine k_istore_n C dX1_hear_4 (by decide) [1, 2, 0] (lv' := [(0, .ref (G.2.1 16)), (1, .ref (G.2.1 1)), (2, .int t1)]) rfl ?_
  refine k_iload_n C dX1_hear_5 2 rfl ?_
  rcases ite_g hf with ⟨c2, hf⟩ | ⟨c2, hf⟩
  · refine k_if_lt_t C dX1_hear_6 (tgt := 15) (by decide) c2 ?_
    refine k_aload_n C dX1_hear_15 0 rfl ?_
    refine k_getr C shC_16 (j := 1) rfl FL_X1_18 dX1_hear_16 ?_
    refine k_aload_n C dX1_hear_19 1 rfl ?_
    obtain ⟨M3, hM3, hf⟩ := bnd hf
    refine k_callVv C (As := [.ref (G.2.1 1)]) (c_X0_become hap 18 1 BD_18 BD_1 M0 M3 hM3) ML_X0_become wd_454 shC_18 rfl rfl rfl ⟨Nat.le_of_ble_eq_true rfl, Nat.le_of_ble_eq_true rfl⟩ (Nat.le_of_ble_eq_true rfl) dX1_hear_20 ?_
    refine k_iconst C dX1_hear_23 (v := (0 : Int32)) rfl ?_
    refine k_istore_n C dX1_hear_24 (by decide) [1, 2, 0] (lv' := [(0, .ref (G.2.1 16)), (1, .ref (G.2.1 1)), (3, .int (0 : Int32))]) rfl ?_
    refine k_iconst C dX1_hear_25 (v := (0 : Int32)) rfl ?_
    refine k_istore C dX1_hear_26 (by decide) [1, 2, 3, 0] (lv' := [(0, .ref (G.2.1 16)), (1, .ref (G.2.1 1)), (3, .int (0 : Int32)), (4, .int (0 : Int32))]) rfl ?_
    exact k_b28 FU (0 : Int32) (0 : Int32) M3 hf
  · refine k_if_lt_f C dX1_hear_6 (tgt := 15) (by decide) c2 ?_
    refine k_sipush C dX1_hear_9 (v := (-1000 : Int32)) rfl ?_
    refine k_iload_n C dX1_hear_12 2 rfl ?_
    refine k_isub C dX1_hear_13 ?_
    exact k_iret C hr hlk (prf hf) (prs hf) dX1_hear_14
theorem dX1_tell_0 : decode cX1_tell 0 = .ok (.aload_n 0, 1) := by decide +kernel
theorem dX1_tell_1 : decode cX1_tell 1 = .ok (.aload_n 1, 1) := by decide +kernel
theorem dX1_tell_2 : decode cX1_tell 2 = .ok (.invokevirtual 26, 3) := by decide +kernel
theorem dX1_tell_5 : decode cX1_tell 5 = .ok (.istore_n 2, 1) := by decide +kernel
theorem dX1_tell_6 : decode cX1_tell 6 = .ok (.aload_n 0, 1) := by decide +kernel
theorem dX1_tell_7 : decode cX1_tell 7 = .ok (.iconst 0, 1) := by decide +kernel
theorem dX1_tell_8 : decode cX1_tell 8 = .ok (.putfield 22, 3) := by decide +kernel
theorem dX1_tell_11 : decode cX1_tell 11 = .ok (.iload_n 2, 1) := by decide +kernel
theorem dX1_tell_12 : decode cX1_tell 12 = .ok (.ireturn, 1) := by decide +kernel
set_option maxRecDepth 100000 in
set_option maxHeartbeats 4000000 in
theorem c_X1_tell {l : Launch} {G : Gx} (hap : k_ap G shC.length) (M0 : Mem) (r : Int32 × Mem) (hf : f_X1_tell M0 = some r) : k_Met l yX1_tell cX1_tell 3 (some .int) 5 118 G shC [.ref (G.2.1 16), .ref (G.2.1 1)] M0 (k_Qi G shC r.1 r.2) := by
  refine k_Met_of (by decide) hap (Nat.le_of_ble_eq_true rfl) ?_
  intro p e s m args below meth c C hr hlk
  have C : Cx p s m args c cX1_tell RX1 3 G shC := C
  unfold f_X1_tell at hf
  refine k_lv (lv' := [(0, .ref (G.2.1 16)), (1, .ref (G.2.1 1))]) [0, 1] rfl ?_
  refine k_aload_n C dX1_tell_0 0 rfl ?_
  refine k_aload_n C dX1_tell_1 1 rfl ?_
  obtain ⟨⟨t1, M1⟩, ht1, hf⟩ := bnd hf
  replace hf := bp_s hf
  refine k_callVi C (As := [.ref (G.2.1 1)]) (c_X1_hear hap M0 (t1, M1) ht1) ML_X1_hear wd_436 shC_16 rfl rfl rfl ⟨Nat.le_of_ble_eq_true rfl, Nat.le_of_ble_eq_true rfl⟩ (Nat.le_of_ble_eq_true rfl) dX1_tell_2 ?_
  refine k_istore_n C dX1_tell_5 (by decide) [1, 0] (lv' := [(0, .ref (G.2.1 16)), (2, .int t1)]) rfl ?_
  refine k_aload_n C dX1_tell_6 0 rfl ?_
  refine k_iconst C dX1_tell_7 (v := (0 : Int32)) rfl ?_
  refine k_put C shC_16 (j := 2) rfl FL_X1_22 FW_X1_2 dX1_tell_8 ?_
  refine k_iload_n C dX1_tell_11 1 rfl ?_
  exact k_iret C hr hlk (prf hf) (prs hf) dX1_tell_12
theorem dX2_sets_0 : decode cX2_sets 0 = .ok (.iconst 1, 1) := by decide +kernel
theorem dX2_sets_1 : decode cX2_sets 1 = .ok (.aload_n 0, 1) := by decide +kernel
theorem dX2_sets_2 : decode cX2_sets 2 = .ok (.getfield 26, 3) := by decide +kernel
theorem dX2_sets_5 : decode cX2_sets 5 = .ok (.getfield 34, 3) := by decide +kernel
theorem dX2_sets_8 : decode cX2_sets 8 = .ok (.ishl, 1) := by decide +kernel
theorem dX2_sets_9 : decode cX2_sets 9 = .ok (.ireturn, 1) := by decide +kernel
set_option maxRecDepth 100000 in
set_option maxHeartbeats 4000000 in
theorem c_X2_sets {l : Launch} {G : Gx} (hap : k_ap G shC.length) (M0 : Mem) (r : Int32) (hf : f_X2_sets M0 = r) : k_Met l yX2_sets cX2_sets 1 (some .int) 0 0 G shC [.ref (G.2.1 36)] M0 (k_Qi G shC r M0) := by
  refine k_Met_of (by decide) hap (Nat.le_of_ble_eq_true rfl) ?_
  intro p e s m args below meth c C hr hlk
  have C : Cx p s m args c cX2_sets RX2 1 G shC := C
  unfold f_X2_sets at hf
  refine k_lv (lv' := [(0, .ref (G.2.1 36))]) [0] rfl ?_
  refine k_iconst C dX2_sets_0 (v := (1 : Int32)) rfl ?_
  refine k_aload_n C dX2_sets_1 0 rfl ?_
  refine k_getr C shC_36 (j := 0) rfl FL_X2_26 dX2_sets_2 ?_
  refine k_geti C shC_1 (j := 4) rfl FL_X2_34 dX2_sets_5 ?_
  refine k_ishlJ C dX2_sets_8 ?_
  exact k_iret C hr hlk hf rfl dX2_sets_9
theorem dX2_areApart_0 : decode cX2_areApart 0 = .ok (.iconst 0, 1) := by decide +kernel
theorem dX2_areApart_1 : decode cX2_areApart 1 = .ok (.istore_n 2, 1) := by decide +kernel
theorem dX2_areApart_2 : decode cX2_areApart 2 = .ok (.iload_n 2, 1) := by decide +kernel
theorem dX2_areApart_3 : decode cX2_areApart 3 = .ok (.aload_n 0, 1) := by decide +kernel
theorem dX2_areApart_4 : decode cX2_areApart 4 = .ok (.getfield 26, 3) := by decide +kernel
theorem dX2_areApart_7 : decode cX2_areApart 7 = .ok (.getfield 34, 3) := by decide +kernel
theorem dX2_areApart_10 : decode cX2_areApart 10 = .ok (.if_icmp .ge 36, 3) := by decide +kernel
theorem dX2_areApart_13 : decode cX2_areApart 13 = .ok (.iload_n 1, 1) := by decide +kernel
theorem dX2_areApart_14 : decode cX2_areApart 14 = .ok (.iload_n 2, 1) := by decide +kernel
theorem dX2_areApart_15 : decode cX2_areApart 15 = .ok (.ishr, 1) := by decide +kernel
theorem dX2_areApart_16 : decode cX2_areApart 16 = .ok (.iconst 1, 1) := by decide +kernel
theorem dX2_areApart_17 : decode cX2_areApart 17 = .ok (.iand, 1) := by decide +kernel
theorem dX2_areApart_18 : decode cX2_areApart 18 = .ok (.ifCond .eq 22, 3) := by decide +kernel
theorem dX2_areApart_21 : decode cX2_areApart 21 = .ok (.aload_n 0, 1) := by decide +kernel
theorem dX2_areApart_22 : decode cX2_areApart 22 = .ok (.getfield 30, 3) := by decide +kernel
theorem dX2_areApart_25 : decode cX2_areApart 25 = .ok (.getfield 40, 3) := by decide +kernel
theorem dX2_areApart_28 : decode cX2_areApart 28 = .ok (.iload_n 2, 1) := by decide +kernel
theorem dX2_areApart_29 : decode cX2_areApart 29 = .ok (.iaload, 1) := by decide +kernel
theorem dX2_areApart_30 : decode cX2_areApart 30 = .ok (.iload_n 1, 1) := by decide +kernel
theorem dX2_areApart_31 : decode cX2_areApart 31 = .ok (.iand, 1) := by decide +kernel
theorem dX2_areApart_32 : decode cX2_areApart 32 = .ok (.iconst 1, 1) := by decide +kernel
theorem dX2_areApart_33 : decode cX2_areApart 33 = .ok (.iload_n 2, 1) := by decide +kernel
theorem dX2_areApart_34 : decode cX2_areApart 34 = .ok (.ishl, 1) := by decide +kernel
theorem dX2_areApart_35 : decode cX2_areApart 35 = .ok (.if_icmp .eq 5, 3) := by decide +kernel
theorem dX2_areApart_38 : decode cX2_areApart 38 = .ok (.iconst 0, 1) := by decide +kernel
theorem dX2_areApart_39 : decode cX2_areApart 39 = .ok (.ireturn, 1) := by decide +kernel
theorem dX2_areApart_40 : decode cX2_areApart 40 = .ok (.iinc 2 1, 3) := by decide +kernel
theorem dX2_areApart_43 : decode cX2_areApart 43 = .ok (.goto (-41), 3) := by decide +kernel
theorem dX2_areApart_46 : decode cX2_areApart 46 = .ok (.iconst 1, 1) := by decide +kernel
theorem dX2_areApart_47 : decode cX2_areApart 47 = .ok (.ireturn, 1) := by decide +kernel
set_option maxRecDepth 100000 in
set_option maxHeartbeats 4000000 in
theorem c_X2_areApart {l : Launch} {G : Gx} (hap : k_ap G shC.length) (v1 : Int32) (M0 : Mem) (r : Int32) (hf : f_X2_areApart v1 M0 = some r) : k_Met l yX2_areApart cX2_areApart 3 (some .boolean) 0 0 G shC [.ref (G.2.1 36), .int v1] M0 (k_Qi G shC r M0) := by
  refine k_Met_of (by decide) hap (Nat.le_of_ble_eq_true rfl) ?_
  intro p e s m args below meth c C hr hlk
  have C : Cx p s m args c cX2_areApart RX2 3 G shC := C
  have k_b2 : ∀ (n2 : Nat) (v1 : Int32) (v2 : Int32), f_X2_areApart_b2 M0 n2 v1 v2 = some r → K p l e (k_rm 0 0) s m args below meth c 3 G shC (MQ below (k_Qi G shC r M0) args s 0 0 (k_A G shC.length)) 2 [(0, .ref (G.2.1 36)), (1, .int v1), (2, .int v2)] [] M0 := by
    intro n2
    induction n2 with
    | zero => intro v1 v2 hf; simp [f_X2_areApart_b2] at hf
    | succ n2 ih2 =>
      intro v1 v2 hf
      unfold f_X2_areApart_b2 at hf
      refine k_iload_n C dX2_areApart_2 2 rfl ?_
      refine k_aload_n C dX2_areApart_3 0 rfl ?_
      refine k_getr C shC_36 (j := 0) rfl FL_X2_26 dX2_areApart_4 ?_
      refine k_geti C shC_1 (j := 4) rfl FL_X2_34 dX2_areApart_7 ?_
      rcases ite_g hf with ⟨c1, hf⟩ | ⟨c1, hf⟩
      · refine k_icmp_ge_t C dX2_areApart_10 (tgt := 46) (by decide) c1 ?_
        refine k_iconst C dX2_areApart_46 (v := (1 : Int32)) rfl ?_
        exact k_zret C hr hlk (gZ1.trans (congrArg some (Option.some.inj hf))) rfl dX2_areApart_47
      · refine k_icmp_ge_f C dX2_areApart_10 (tgt := 46) (by decide) c1 ?_
        refine k_iload_n C dX2_areApart_13 1 rfl ?_
        refine k_iload_n C dX2_areApart_14 2 rfl ?_
        refine k_ishrJ C dX2_areApart_15 ?_
        refine k_iconst C dX2_areApart_16 (v := (1 : Int32)) rfl ?_
        refine k_iand C dX2_areApart_17 ?_
        rcases ite_g hf with ⟨c2, hf⟩ | ⟨c2, hf⟩
        · refine k_if_eq_t C dX2_areApart_18 (tgt := 40) (by decide) c2 ?_
          refine k_iinc C dX2_areApart_40 2 rfl (v := (v2 + (1 : Int32))) rfl (by decide) [1, 2, 0] (lv' := [(0, .ref (G.2.1 36)), (1, .int v1), (2, .int (v2 + (1 : Int32)))]) rfl ?_
          refine k_goto C dX2_areApart_43 (tgt := 2) (by decide) ?_
          exact ih2 v1 (v2 + (1 : Int32)) hf
        · refine k_if_eq_f C dX2_areApart_18 (tgt := 40) (by decide) c2 ?_
          refine k_aload_n C dX2_areApart_21 0 rfl ?_
          refine k_getr C shC_36 (j := 1) rfl FL_X2_30 dX2_areApart_22 ?_
          refine k_getr C shC_25 (j := 1) rfl FL_X2_40 dX2_areApart_25 ?_
          refine k_iload_n C dX2_areApart_28 2 rfl ?_
          obtain ⟨t3, ht3, hf⟩ := bnd hf
          refine k_iald C shC_26 ht3 dX2_areApart_29 ?_
          refine k_iload_n C dX2_areApart_30 1 rfl ?_
          refine k_iand C dX2_areApart_31 ?_
          refine k_iconst C dX2_areApart_32 (v := (1 : Int32)) rfl ?_
          refine k_iload_n C dX2_areApart_33 2 rfl ?_
          refine k_ishlJ C dX2_areApart_34 ?_
          rcases ite_g hf with ⟨c4, hf⟩ | ⟨c4, hf⟩
          · refine k_icmp_eq_t C dX2_areApart_35 (tgt := 40) (by decide) c4 ?_
            refine k_iinc C dX2_areApart_40 2 rfl (v := (v2 + (1 : Int32))) rfl (by decide) [1, 2, 0] (lv' := [(0, .ref (G.2.1 36)), (1, .int v1), (2, .int (v2 + (1 : Int32)))]) rfl ?_
            refine k_goto C dX2_areApart_43 (tgt := 2) (by decide) ?_
            exact ih2 v1 (v2 + (1 : Int32)) hf
          · refine k_icmp_eq_f C dX2_areApart_35 (tgt := 40) (by decide) c4 ?_
            refine k_iconst C dX2_areApart_38 (v := (0 : Int32)) rfl ?_
            exact k_zret C hr hlk (gZ0.trans (congrArg some (Option.some.inj hf))) rfl dX2_areApart_39
  unfold f_X2_areApart at hf
  refine k_lv (lv' := [(0, .ref (G.2.1 36)), (1, .int v1)]) [0, 1] rfl ?_
  refine k_iconst C dX2_areApart_0 (v := (0 : Int32)) rfl ?_
  refine k_istore_n C dX2_areApart_1 (by decide) [1, 2, 0] (lv' := [(0, .ref (G.2.1 36)), (1, .int v1), (2, .int (0 : Int32))]) rfl ?_
  exact k_b2 FU v1 (0 : Int32) hf
theorem dJ7_fill_53178_0 : decode cJ7_fill_53178 0 = .ok (.iconst 0, 1) := by decide +kernel
theorem dJ7_fill_53178_1 : decode cJ7_fill_53178 1 = .ok (.istore_n 2, 1) := by decide +kernel
theorem dJ7_fill_53178_2 : decode cJ7_fill_53178 2 = .ok (.aload_n 0, 1) := by decide +kernel
theorem dJ7_fill_53178_3 : decode cJ7_fill_53178 3 = .ok (.arraylength, 1) := by decide +kernel
theorem dJ7_fill_53178_4 : decode cJ7_fill_53178 4 = .ok (.istore_n 3, 1) := by decide +kernel
theorem dJ7_fill_53178_5 : decode cJ7_fill_53178 5 = .ok (.iload_n 2, 1) := by decide +kernel
theorem dJ7_fill_53178_6 : decode cJ7_fill_53178 6 = .ok (.iload_n 3, 1) := by decide +kernel
theorem dJ7_fill_53178_7 : decode cJ7_fill_53178 7 = .ok (.if_icmp .ge 13, 3) := by decide +kernel
theorem dJ7_fill_53178_10 : decode cJ7_fill_53178 10 = .ok (.aload_n 0, 1) := by decide +kernel
theorem dJ7_fill_53178_11 : decode cJ7_fill_53178 11 = .ok (.iload_n 2, 1) := by decide +kernel
theorem dJ7_fill_53178_12 : decode cJ7_fill_53178 12 = .ok (.iload_n 1, 1) := by decide +kernel
theorem dJ7_fill_53178_13 : decode cJ7_fill_53178 13 = .ok (.iastore, 1) := by decide +kernel
theorem dJ7_fill_53178_14 : decode cJ7_fill_53178 14 = .ok (.iinc 2 1, 3) := by decide +kernel
theorem dJ7_fill_53178_17 : decode cJ7_fill_53178 17 = .ok (.goto (-12), 3) := by decide +kernel
theorem dJ7_fill_53178_20 : decode cJ7_fill_53178 20 = .ok (.return_, 1) := by decide +kernel
set_option maxRecDepth 100000 in
set_option maxHeartbeats 4000000 in
theorem c_J7_fill_53178 {l : Launch} {G : Gx} (hap : k_ap G shC.length) (q : Nat) (n : Nat) (hq : shC[q]? = some (.inl (0, n))) (v1 : Int32) (M0 : Mem) (r : Mem) (hf : f_J7_fill_53178 q n v1 M0 = some r) : k_Met l yJ7_fill_53178 cJ7_fill_53178 4 none 0 0 G shC [.ref (G.2.1 q), .int v1] M0 (k_Qv G shC r) := by
  refine k_Met_of (by decide) hap (Nat.le_of_ble_eq_true rfl) ?_
  intro p e s m args below meth c C hr hlk
  have C : Cx p s m args c cJ7_fill_53178 RJ7 4 G shC := C
  have k_b5 : ∀ (n5 : Nat) (v1 : Int32) (v2 : Int32) (v3 : Int32) (M : Mem), f_J7_fill_53178_b5 q n n5 v1 v2 v3 M = some r → K p l e (k_rm 0 0) s m args below meth c 4 G shC (MQ below (k_Qv G shC r) args s 0 0 (k_A G shC.length)) 5 [(0, .ref (G.2.1 q)), (1, .int v1), (2, .int v2), (3, .int v3)] [] M := by
    intro n5
    induction n5 with
    | zero => intro v1 v2 v3 M hf; simp [f_J7_fill_53178_b5] at hf
    | succ n5 ih5 =>
      intro v1 v2 v3 M hf
      unfold f_J7_fill_53178_b5 at hf
      refine k_iload_n C dJ7_fill_53178_5 2 rfl ?_
      refine k_iload_n C dJ7_fill_53178_6 3 rfl ?_
      rcases ite_g hf with ⟨c1, hf⟩ | ⟨c1, hf⟩
      · refine k_icmp_ge_t C dJ7_fill_53178_7 (tgt := 20) (by decide) c1 ?_
        exact k_vret C hr hlk (Option.some.inj hf) dJ7_fill_53178_20
      · refine k_icmp_ge_f C dJ7_fill_53178_7 (tgt := 20) (by decide) c1 ?_
        refine k_aload_n C dJ7_fill_53178_10 0 rfl ?_
        refine k_iload_n C dJ7_fill_53178_11 2 rfl ?_
        refine k_iload_n C dJ7_fill_53178_12 1 rfl ?_
        obtain ⟨M2, hM2, hf⟩ := bnd hf
        refine k_iast C hq hM2 dJ7_fill_53178_13 ?_
        refine k_iinc C dJ7_fill_53178_14 2 rfl (v := (v2 + (1 : Int32))) rfl (by decide) [1, 2, 0, 3] (lv' := [(0, .ref (G.2.1 q)), (1, .int v1), (2, .int (v2 + (1 : Int32))), (3, .int v3)]) rfl ?_
        refine k_goto C dJ7_fill_53178_17 (tgt := 5) (by decide) ?_
        exact ih5 v1 (v2 + (1 : Int32)) v3 M2 hf
  unfold f_J7_fill_53178 at hf
  refine k_lv (lv' := [(0, .ref (G.2.1 q)), (1, .int v1)]) [0, 1] rfl ?_
  refine k_iconst C dJ7_fill_53178_0 (v := (0 : Int32)) rfl ?_
  refine k_istore_n C dJ7_fill_53178_1 (by decide) [1, 2, 0] (lv' := [(0, .ref (G.2.1 q)), (1, .int v1), (2, .int (0 : Int32))]) rfl ?_
  refine k_aload_n C dJ7_fill_53178_2 0 rfl ?_
  refine k_alen C hq dJ7_fill_53178_3 ?_
  refine k_istore_n C dJ7_fill_53178_4 (by decide) [1, 2, 3, 0] (lv' := [(0, .ref (G.2.1 q)), (1, .int v1), (2, .int (0 : Int32)), (3, .int (nI n))]) rfl ?_
  exact k_b5 FU v1 (0 : Int32) (nI n) M0 hf
theorem dX8_forgetSteps_0 : decode cX8_forgetSteps 0 = .ok (.aload_n 0, 1) := by decide +kernel
theorem dX8_forgetSteps_1 : decode cX8_forgetSteps 1 = .ok (.getfield 15, 3) := by decide +kernel
theorem dX8_forgetSteps_4 : decode cX8_forgetSteps 4 = .ok (.iconst 0, 1) := by decide +kernel
theorem dX8_forgetSteps_5 : decode cX8_forgetSteps 5 = .ok (.invokestatic 52, 3) := by decide +kernel
theorem dX8_forgetSteps_8 : decode cX8_forgetSteps 8 = .ok (.return_, 1) := by decide +kernel
set_option maxRecDepth 100000 in
set_option maxHeartbeats 4000000 in
theorem c_X8_forgetSteps {l : Launch} {G : Gx} (hap : k_ap G shC.length) (M0 : Mem) (r : Mem) (hf : f_X8_forgetSteps M0 = some r) : k_Met l yX8_forgetSteps cX8_forgetSteps 1 none 1 23 G shC [.ref (G.2.1 25)] M0 (k_Qv G shC r) := by
  refine k_Met_of (by decide) hap (Nat.le_of_ble_eq_true rfl) ?_
  intro p e s m args below meth c C hr hlk
  have C : Cx p s m args c cX8_forgetSteps RX8 1 G shC := C
  unfold f_X8_forgetSteps at hf
  refine k_lv (lv' := [(0, .ref (G.2.1 25))]) [0] rfl ?_
  refine k_aload_n C dX8_forgetSteps_0 0 rfl ?_
  refine k_getr C shC_25 (j := 2) rfl FL_X8_15 dX8_forgetSteps_1 ?_
  refine k_iconst C dX8_forgetSteps_4 (v := (0 : Int32)) rfl ?_
  obtain ⟨M1, hM1, hf⟩ := bnd hf
  refine k_callSv C (As := [.ref (G.2.1 27), .int (0 : Int32)]) (c_J7_fill_53178 hap 27 8 shC_27 (0 : Int32) M0 M1 hM1) MS_J7_fill_53178 wd_580 rfl rfl ⟨Nat.le_of_ble_eq_true rfl, Nat.le_of_ble_eq_true rfl⟩ (Nat.le_of_ble_eq_true rfl) dX8_forgetSteps_5 ?_
  exact k_vret C hr hlk (Option.some.inj hf) dX8_forgetSteps_8
theorem dX8_openBy_0 : decode cX8_openBy 0 = .ok (.iconst 0, 1) := by decide +kernel
theorem dX8_openBy_1 : decode cX8_openBy 1 = .ok (.istore_n 3, 1) := by decide +kernel
theorem dX8_openBy_2 : decode cX8_openBy 2 = .ok (.iload_n 3, 1) := by decide +kernel
theorem dX8_openBy_3 : decode cX8_openBy 3 = .ok (.aload_n 0, 1) := by decide +kernel
theorem dX8_openBy_4 : decode cX8_openBy 4 = .ok (.getfield 18, 3) := by decide +kernel
theorem dX8_openBy_7 : decode cX8_openBy 7 = .ok (.getfield 35, 3) := by decide +kernel
theorem dX8_openBy_10 : decode cX8_openBy 10 = .ok (.if_icmp .ge 74, 3) := by decide +kernel
theorem dX8_openBy_13 : decode cX8_openBy 13 = .ok (.aload_n 0, 1) := by decide +kernel
theorem dX8_openBy_14 : decode cX8_openBy 14 = .ok (.getfield 9, 3) := by decide +kernel
theorem dX8_openBy_17 : decode cX8_openBy 17 = .ok (.iload_n 3, 1) := by decide +kernel
theorem dX8_openBy_18 : decode cX8_openBy 18 = .ok (.iconst 1, 1) := by decide +kernel
theorem dX8_openBy_19 : decode cX8_openBy 19 = .ok (.iload_n 3, 1) := by decide +kernel
theorem dX8_openBy_20 : decode cX8_openBy 20 = .ok (.ishl, 1) := by decide +kernel
theorem dX8_openBy_21 : decode cX8_openBy 21 = .ok (.iastore, 1) := by decide +kernel
theorem dX8_openBy_22 : decode cX8_openBy 22 = .ok (.iconst 0, 1) := by decide +kernel
theorem dX8_openBy_23 : decode cX8_openBy 23 = .ok (.istore 4, 2) := by decide +kernel
theorem dX8_openBy_25 : decode cX8_openBy 25 = .ok (.iload 4, 2) := by decide +kernel
theorem dX8_openBy_27 : decode cX8_openBy 27 = .ok (.iload_n 3, 1) := by decide +kernel
theorem dX8_openBy_28 : decode cX8_openBy 28 = .ok (.if_icmp .ge 50, 3) := by decide +kernel
theorem dX8_openBy_31 : decode cX8_openBy 31 = .ok (.aload_n 0, 1) := by decide +kernel
theorem dX8_openBy_32 : decode cX8_openBy 32 = .ok (.getfield 18, 3) := by decide +kernel
theorem dX8_openBy_35 : decode cX8_openBy 35 = .ok (.iload_n 3, 1) := by decide +kernel
theorem dX8_openBy_36 : decode cX8_openBy 36 = .ok (.iload 4, 2) := by decide +kernel
theorem dX8_openBy_38 : decode cX8_openBy 38 = .ok (.iload_n 1, 1) := by decide +kernel
theorem dX8_openBy_39 : decode cX8_openBy 39 = .ok (.iload_n 2, 1) := by decide +kernel
theorem dX8_openBy_40 : decode cX8_openBy 40 = .ok (.invokevirtual 38, 3) := by decide +kernel
theorem dX8_openBy_43 : decode cX8_openBy 43 = .ok (.ifCond .eq 29, 3) := by decide +kernel
theorem dX8_openBy_46 : decode cX8_openBy 46 = .ok (.aload_n 0, 1) := by decide +kernel
theorem dX8_openBy_47 : decode cX8_openBy 47 = .ok (.getfield 9, 3) := by decide +kernel
theorem dX8_openBy_50 : decode cX8_openBy 50 = .ok (.iload_n 3, 1) := by decide +kernel
theorem dX8_openBy_51 : decode cX8_openBy 51 = .ok (.dup2, 1) := by decide +kernel
theorem dX8_openBy_52 : decode cX8_openBy 52 = .ok (.iaload, 1) := by decide +kernel
theorem dX8_openBy_53 : decode cX8_openBy 53 = .ok (.iconst 1, 1) := by decide +kernel
theorem dX8_openBy_54 : decode cX8_openBy 54 = .ok (.iload 4, 2) := by decide +kernel
theorem dX8_openBy_56 : decode cX8_openBy 56 = .ok (.ishl, 1) := by decide +kernel
theorem dX8_openBy_57 : decode cX8_openBy 57 = .ok (.ior, 1) := by decide +kernel
theorem dX8_openBy_58 : decode cX8_openBy 58 = .ok (.iastore, 1) := by decide +kernel
theorem dX8_openBy_59 : decode cX8_openBy 59 = .ok (.aload_n 0, 1) := by decide +kernel
theorem dX8_openBy_60 : decode cX8_openBy 60 = .ok (.getfield 9, 3) := by decide +kernel
theorem dX8_openBy_63 : decode cX8_openBy 63 = .ok (.iload 4, 2) := by decide +kernel
theorem dX8_openBy_65 : decode cX8_openBy 65 = .ok (.dup2, 1) := by decide +kernel
theorem dX8_openBy_66 : decode cX8_openBy 66 = .ok (.iaload, 1) := by decide +kernel
theorem dX8_openBy_67 : decode cX8_openBy 67 = .ok (.iconst 1, 1) := by decide +kernel
theorem dX8_openBy_68 : decode cX8_openBy 68 = .ok (.iload_n 3, 1) := by decide +kernel
theorem dX8_openBy_69 : decode cX8_openBy 69 = .ok (.ishl, 1) := by decide +kernel
theorem dX8_openBy_70 : decode cX8_openBy 70 = .ok (.ior, 1) := by decide +kernel
theorem dX8_openBy_71 : decode cX8_openBy 71 = .ok (.iastore, 1) := by decide +kernel
theorem dX8_openBy_72 : decode cX8_openBy 72 = .ok (.iinc 4 1, 3) := by decide +kernel
theorem dX8_openBy_75 : decode cX8_openBy 75 = .ok (.goto (-50), 3) := by decide +kernel
theorem dX8_openBy_78 : decode cX8_openBy 78 = .ok (.iinc 3 1, 3) := by decide +kernel
theorem dX8_openBy_81 : decode cX8_openBy 81 = .ok (.goto (-79), 3) := by decide +kernel
theorem dX8_openBy_84 : decode cX8_openBy 84 = .ok (.aload_n 0, 1) := by decide +kernel
theorem dX8_openBy_85 : decode cX8_openBy 85 = .ok (.invokevirtual 42, 3) := by decide +kernel
theorem dX8_openBy_88 : decode cX8_openBy 88 = .ok (.return_, 1) := by decide +kernel
set_option maxRecDepth 100000 in
set_option maxHeartbeats 4000000 in
theorem c_X8_openBy {l : Launch} {G : Gx} (hap : k_ap G shC.length) (v1 : Int32) (v2 : Int32) (M0 : Mem) (r : Mem) (hf : f_X8_openBy v1 v2 M0 = some r) : k_Met l yX8_openBy cX8_openBy 5 none 2 44 G shC [.ref (G.2.1 25), .int v1, .int v2] M0 (k_Qv G shC r) := by
  refine k_Met_of (by decide) hap (Nat.le_of_ble_eq_true rfl) ?_
  intro p e s m args below meth c C hr hlk
  have C : Cx p s m args c cX8_openBy RX8 5 G shC := C
  have k_b2 : ∀ (n2 : Nat) (v1 : Int32) (v2 : Int32) (v3 : Int32) (M : Mem), f_X8_openBy_b2 n2 v1 v2 v3 M = some r → K p l e (k_rm 2 44) s m args below meth c 5 G shC (MQ below (k_Qv G shC r) args s 0 0 (k_A G shC.length)) 2 [(0, .ref (G.2.1 25)), (1, .int v1), (2, .int v2), (3, .int v3)] [] M := by
    intro n2
    induction n2 with
    | zero => intro v1 v2 v3 M hf; simp [f_X8_openBy_b2] at hf
    | succ n2 ih2 =>
      have k_b25 : ∀ (n25 : Nat) (v1 : Int32) (v2 : Int32) (v3 : Int32) (v4 : Int32) (M : Mem), f_X8_openBy_b25 (f_X8_openBy_b2 n2) n25 v1 v2 v3 v4 M = some r → K p l e (k_rm 2 44) s m args below meth c 5 G shC (MQ below (k_Qv G shC r) args s 0 0 (k_A G shC.length)) 25 [(0, .ref (G.2.1 25)), (1, .int v1), (2, .int v2), (3, .int v3), (4, .int v4)] [] M := by
        intro n25
        induction n25 with
        | zero => intro v1 v2 v3 v4 M hf; simp [f_X8_openBy_b25] at hf
        | succ n25 ih25 =>
          intro v1 v2 v3 v4 M hf
          unfold f_X8_openBy_b25 at hf
          refine k_iload C dX8_openBy_25 4 rfl ?_
          refine k_iload_n C dX8_openBy_27 3 rfl ?_
          rcases ite_g hf with ⟨c5, hf⟩ | ⟨c5, hf⟩
          · refine k_icmp_ge_t C dX8_openBy_28 (tgt := 78) (by decide) c5 ?_
            refine k_iinc C dX8_openBy_78 3 rfl (v := (v3 + (1 : Int32))) rfl (by decide) [1, 2, 3, 0] (lv' := [(0, .ref (G.2.1 25)), (1, .int v1), (2, .int v2), (3, .int (v3 + (1 : Int32)))]) rfl ?_
            refine k_goto C dX8_openBy_81 (tgt := 2) (by decide) ?_
            exact ih2 v1 v2 (v3 + (1 : Int32)) M hf
          · refine k_icmp_ge_f C dX8_openBy_28 (tgt := 78) (by decide) c5 ?_
            refine k_aload_n C dX8_openBy_31 0 rfl ?_
            refine k_getr C shC_25 (j := 0) rfl FL_X8_18 dX8_openBy_32 ?_
            refine k_iload_n C dX8_openBy_35 3 rfl ?_
            refine k_iload C dX8_openBy_36 4 rfl ?_
            refine k_iload_n C dX8_openBy_38 1 rfl ?_
            refine k_iload_n C dX8_openBy_39 2 rfl ?_
            obtain ⟨t6, ht6, hf⟩ := bnd hf
            refine k_callVi C (As := [.int v3, .int v4, .int v1, .int v2]) (c_X0_areAlike hap 1 BD_1 v3 v4 v1 v2 M t6 ht6) ML_X0_areAlike wd_566 shC_1 rfl rfl rfl ⟨Nat.le_of_ble_eq_true rfl, Nat.le_of_ble_eq_true rfl⟩ (Nat.le_of_ble_eq_true rfl) dX8_openBy_40 ?_
            rcases ite_g hf with ⟨c7, hf⟩ | ⟨c7, hf⟩
            · refine k_if_eq_t C dX8_openBy_43 (tgt := 72) (by decide) c7 ?_
              refine k_iinc C dX8_openBy_72 4 rfl (v := (v4 + (1 : Int32))) rfl (by decide) [1, 2, 3, 4, 0] (lv' := [(0, .ref (G.2.1 25)), (1, .int v1), (2, .int v2), (3, .int v3), (4, .int (v4 + (1 : Int32)))]) rfl ?_
              refine k_goto C dX8_openBy_75 (tgt := 25) (by decide) ?_
              exact ih25 v1 v2 v3 (v4 + (1 : Int32)) M hf
            · refine k_if_eq_f C dX8_openBy_43 (tgt := 72) (by decide) c7 ?_
              refine k_aload_n C dX8_openBy_46 0 rfl ?_
              refine k_getr C shC_25 (j := 1) rfl FL_X8_9 dX8_openBy_47 ?_
              refine k_iload_n C dX8_openBy_50 3 rfl ?_
              refine k_dup2 C dX8_openBy_51 rfl rfl ?_
              obtain ⟨t8, ht8, hf⟩ := bnd hf
              refine k_iald C shC_26 ht8 dX8_openBy_52 ?_
              refine k_iconst C dX8_openBy_53 (v := (1 : Int32)) rfl ?_
              refine k_iload C dX8_openBy_54 4 rfl ?_
              refine k_ishlJ C dX8_openBy_56 ?_
              refine k_ior C dX8_openBy_57 ?_
              obtain ⟨M9, hM9, hf⟩ := bnd hf
              refine k_iast C shC_26 hM9 dX8_openBy_58 ?_
              refine k_aload_n C dX8_openBy_59 0 rfl ?_
              refine k_getr C shC_25 (j := 1) rfl FL_X8_9 dX8_openBy_60 ?_
              refine k_iload C dX8_openBy_63 4 rfl ?_
              refine k_dup2 C dX8_openBy_65 rfl rfl ?_
              obtain ⟨t10, ht10, hf⟩ := bnd hf
              refine k_iald C shC_26 ht10 dX8_openBy_66 ?_
              refine k_iconst C dX8_openBy_67 (v := (1 : Int32)) rfl ?_
              refine k_iload_n C dX8_openBy_68 3 rfl ?_
              refine k_ishlJ C dX8_openBy_69 ?_
              refine k_ior C dX8_openBy_70 ?_
              obtain ⟨M11, hM11, hf⟩ := bnd hf
              refine k_iast C shC_26 hM11 dX8_openBy_71 ?_
              refine k_iinc C dX8_openBy_72 4 rfl (v := (v4 + (1 : Int32))) rfl (by decide) [1, 2, 3, 4, 0] (lv' := [(0, .ref (G.2.1 25)), (1, .int v1), (2, .int v2), (3, .int v3), (4, .int (v4 + (1 : Int32)))]) rfl ?_
              refine k_goto C dX8_openBy_75 (tgt := 25) (by decide) ?_
              exact ih25 v1 v2 v3 (v4 + (1 : Int32)) M11 hf
      intro v1 v2 v3 M hf
      unfold f_X8_openBy_b2 at hf
      refine k_iload_n C dX8_openBy_2 3 rfl ?_
      refine k_aload_n C dX8_openBy_3 0 rfl ?_
      refine k_getr C shC_25 (j := 0) rfl FL_X8_18 dX8_openBy_4 ?_
      refine k_geti C shC_1 (j := 4) rfl FL_X8_35 dX8_openBy_7 ?_
      rcases ite_g hf with ⟨c1, hf⟩ | ⟨c1, hf⟩
      · refine k_icmp_ge_t C dX8_openBy_10 (tgt := 84) (by decide) c1 ?_
        refine k_aload_n C dX8_openBy_84 0 rfl ?_
        obtain ⟨M2, hM2, hf⟩ := bnd hf
        refine k_callVv C (As := []) (c_X8_forgetSteps hap M M2 hM2) ML_X8_forgetSteps wd_576 shC_25 rfl rfl rfl ⟨Nat.le_of_ble_eq_true rfl, Nat.le_of_ble_eq_true rfl⟩ (Nat.le_of_ble_eq_true rfl) dX8_openBy_85 ?_
        exact k_vret C hr hlk (Option.some.inj hf) dX8_openBy_88
      · refine k_icmp_ge_f C dX8_openBy_10 (tgt := 84) (by decide) c1 ?_
        refine k_aload_n C dX8_openBy_13 0 rfl ?_
        refine k_getr C shC_25 (j := 1) rfl FL_X8_9 dX8_openBy_14 ?_
        refine k_iload_n C dX8_openBy_17 3 rfl ?_
        refine k_iconst C dX8_openBy_18 (v := (1 : Int32)) rfl ?_
        refine k_iload_n C dX8_openBy_19 3 rfl ?_
        refine k_ishlJ C dX8_openBy_20 ?_
        obtain ⟨M3, hM3, hf⟩ := bnd hf
        refine k_iast C shC_26 hM3 dX8_openBy_21 ?_
        refine k_iconst C dX8_openBy_22 (v := (0 : Int32)) rfl ?_
        refine k_istore C dX8_openBy_23 (by decide) [1, 2, 3, 4, 0] (lv' := [(0, .ref (G.2.1 25)), (1, .int v1), (2, .int v2), (3, .int v3), (4, .int (0 : Int32))]) rfl ?_
        exact k_b25 FU v1 v2 v3 (0 : Int32) M3 hf
  unfold f_X8_openBy at hf
  refine k_lv (lv' := [(0, .ref (G.2.1 25)), (1, .int v1), (2, .int v2)]) [0, 1, 2] rfl ?_
  refine k_iconst C dX8_openBy_0 (v := (0 : Int32)) rfl ?_
  refine k_istore_n C dX8_openBy_1 (by decide) [1, 2, 3, 0] (lv' := [(0, .ref (G.2.1 25)), (1, .int v1), (2, .int v2), (3, .int (0 : Int32))]) rfl ?_
  exact k_b2 FU v1 v2 (0 : Int32) M0 hf
end
